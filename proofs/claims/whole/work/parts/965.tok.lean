/-! PURE: the reference's tokens -/
def TPm (σ : SM) (b : Nat → Nat) (n : Nat) : Prop := σ 5 0 = nI n ∧ ∀ j, j < n → b j < 256 ∧ σ 4 j = nI (b j)
def TM (σ : SM) (t : TK) : Prop := σ 6 0 = nI t.1 ∧ σ 7 0 = nI t.2.2.1 ∧ σ 8 0 = nI t.2.2.2.1 ∧ (t.2.1 = 19 → σ 9 0 = nI t.2.2.2.2)
def FT (σ σ' : SM) : Prop := ∀ i, i ≠ 6 → i ≠ 7 → i ≠ 8 → i ≠ 9 → σ' i = σ i
theorem FT.rf {σ : SM} : FT σ σ := fun _ _ _ _ _ => rfl
theorem FT.tr {a b c : SM} (h1 : FT a b) (h2 : FT b c) : FT a c := fun i a1 a2 a3 a4 => (h2 i a1 a2 a3 a4).trans (h1 i a1 a2 a3 a4)
theorem FT_sf {σ : SM} {k : Nat} {f : Nat → Int32} (h : k = 6 ∨ k = 7 ∨ k = 8 ∨ k = 9) : FT σ (sf σ k f) := fun i a1 a2 a3 a4 => sg_ne (by omega)
theorem TPm.ft {σ σ' : SM} {b : Nat → Nat} {n : Nat} (h : TPm σ b n) (hf : FT σ σ') : TPm σ' b n := by
  have e5 := hf 5 (by decide) (by decide) (by decide) (by decide)
  have e4 := hf 4 (by decide) (by decide) (by decide) (by decide)
  unfold TPm
  rw [e5, e4]
  exact h
theorem al_fin : ∀ c, c < 256 → fm_isAlpha (nI c) = some (bI (isL c)) ∧ fm_isDigit (nI c) = some (bI (isD c)) := by decide +kernel
theorem al_m1 : fm_isAlpha (-1 : Int32) = some (bI false) ∧ fm_isDigit (-1 : Int32) = some (bI false) := by decide +kernel
theorem bI_z {b : Bool} : (bI b = 0) = (b = false) := by cases b <;> decide
theorem dv_s (b : Nat → Nat) : ∀ m p a, dv b (m + 1) p a = 10 * dv b m p a + (b (p + m) - 48) := by
  intro m
  induction m with
  | zero => intro p a; rfl
  | succ m ih =>
    intro p a
    show dv b (m + 1) (p + 1) (10 * a + (b p - 48)) = 10 * dv b m (p + 1) (10 * a + (b p - 48)) + (b (p + (m + 1)) - 48)
    rw [ih, show p + 1 + m = p + (m + 1) by omega]
theorem dv_lt {b : Nat → Nat} {q : Nat} : ∀ m, (∀ i, q ≤ i → i < q + m → isD (b i) = true) → dv b m q 0 < 10 ^ m := by
  intro m
  induction m with
  | zero => intro _; exact Nat.one_pos
  | succ m ih =>
    intro h
    have h1 := ih (fun i a1 a2 => h i a1 (by omega))
    have h2 := of_decide_eq_true (h (q + m) (by omega) (by omega))
    rw [dv_s, Nat.pow_succ]
    omega
section RT
variable {σ : SM} {b : Nat → Nat} {n : Nat}
theorem by_at (h : TPm σ b n) (hn : n ≤ 200) {p : Nat} (hp : p < 2147483648) : fm_byteAt σ (nI p) = some (if p < n then nI (b p) else (-1 : Int32)) := by
  unfold fm_byteAt
  rw [h.1]
  by_cases c : p < n
  · rw [if_neg (show ¬ nI n ≤ nI p by rw [pb_le (by omega) hp]; omega), if_pos c, pb_in hp (by omega), pb_oc, pb_cl hp, (h.2 p c).2]
  · rw [if_pos (show nI n ≤ nI p by rw [pb_le (by omega) hp]; omega), if_neg c]
theorem nt_l8 (hn : n ≤ 200) (K : SM → Option SM) : ∀ (m p fu : Nat) (σ : SM), n - p ≤ m → m < fu → p ≤ n → TPm σ b n → σ 7 0 = nI p → ∃ σ', fm_nextToken_l8 K fu σ = K σ' ∧ FT σ σ' ∧ σ' 7 0 = nI (skp b n p) := by
  intro m
  induction m with
  | zero =>
    intro p fu σ h1 h2 h3 h4 h5
    obtain ⟨n', rfl⟩ : ∃ q, fu = q + 1 := ⟨fu - 1, by omega⟩
    have e : p = n := by omega
    unfold fm_nextToken_l8
    rw [h5, by_at h4 hn (by omega), qbs, if_neg (show ¬ p < n by omega), if_pos (show ¬ (-1 : Int32) = 32 by decide)]
    exact ⟨σ, rfl, FT.rf, by rw [e, skp_z, h5, e]⟩
  | succ m ih =>
    intro p fu σ h1 h2 h3 h4 h5
    obtain ⟨n', rfl⟩ : ∃ q, fu = q + 1 := ⟨fu - 1, by omega⟩
    rw [fm_nextToken_l8, h5, by_at h4 hn (by omega), qbs]
    by_cases c : p < n
    · rw [if_pos c]
      have hb := (h4.2 p c).1
      by_cases c2 : b p = 32
      · rw [if_neg (show ¬ ¬ nI (b p) = 32 by rw [c2]; exact fun z => z rfl), qhl, nI_a1, skp_s c c2]
        obtain ⟨σ', r1, r2, r3⟩ := ih (p + 1) n' (sf σ 7 fun _ => nI (p + 1)) (by omega) (by omega) (by omega) (h4.ft (FT_sf (by omega))) rfl
        exact ⟨σ', r1, (FT_sf (by omega)).tr r2, r3⟩
      · rw [if_pos (show ¬ nI (b p) = 32 by rw [show (32 : Int32) = nI 32 from rfl, pb_eq (by omega) (by omega)]; exact c2), skp_n c c2]
        exact ⟨σ, rfl, FT.rf, h5⟩
    · rw [if_neg c, if_pos (show ¬ (-1 : Int32) = 32 by decide), show p = n by omega, skp_z]
      exact ⟨σ, rfl, FT.rf, by rw [h5, show p = n by omega]⟩
theorem nt_l91n (K : SM → Option SM) (h : ¬ σ 6 0 = 1) : fm_nextToken_l91 K hFU σ = K σ := by
  show fm_nextToken_l91 K (999 + 1) σ = K σ
  unfold fm_nextToken_l91
  rw [if_pos h]
theorem nt_l126n (K : SM → Option SM) (h : ¬ σ 6 0 = 2) : fm_nextToken_l126 K hFU σ = K σ := by
  show fm_nextToken_l126 K (999 + 1) σ = K σ
  unfold fm_nextToken_l126
  rw [if_pos h]
theorem nt_l91 (hn : n ≤ 200) (K : SM → Option SM) : ∀ (m p fu : Nat) (σ : SM), n - p ≤ m → m < fu → p ≤ n → TPm σ b n → σ 6 0 = 1 → σ 8 0 = nI p → ∃ σ', fm_nextToken_l91 K fu σ = K σ' ∧ FT σ σ' ∧ σ' 6 = σ 6 ∧ σ' 7 = σ 7 ∧ σ' 8 0 = nI (run (fun i => isL (b i)) (n - p) p) := by
  intro m
  induction m with
  | zero =>
    intro p fu σ h1 h2 h3 h4 h6 h5
    obtain ⟨n', rfl⟩ : ∃ q, fu = q + 1 := ⟨fu - 1, by omega⟩
    have e : p = n := by omega
    unfold fm_nextToken_l91
    rw [if_neg (fun z => z h6), h5, by_at h4 hn (by omega), qbs, if_neg (show ¬ p < n by omega), al_m1.1, qbs, if_pos (show bI false = 0 from rfl)]
    refine ⟨σ, rfl, FT.rf, rfl, rfl, ?_⟩
    rw [h5, e, Nat.sub_self]
    rfl
  | succ m ih =>
    intro p fu σ h1 h2 h3 h4 h6 h5
    obtain ⟨n', rfl⟩ : ∃ q, fu = q + 1 := ⟨fu - 1, by omega⟩
    rw [fm_nextToken_l91, if_neg (fun z => z h6), h5, by_at h4 hn (by omega), qbs]
    by_cases c : p < n
    · rw [if_pos c]
      have hb := (h4.2 p c).1
      rw [(al_fin _ hb).1, qbs]
      by_cases c2 : isL (b p) = true
      · rw [c2, if_neg (show ¬ bI true = 0 by decide), qhl, nI_a1, run_s (P := fun i => isL (b i)) c c2]
        obtain ⟨σ', r1, r2, r3, r4, r5⟩ := ih (p + 1) n' (sf σ 8 fun _ => nI (p + 1)) (by omega) (by omega) (by omega) (h4.ft (FT_sf (by omega))) h6 rfl
        exact ⟨σ', r1, (FT_sf (by omega)).tr r2, r3, r4, r5⟩
      · have c3 : isL (b p) = false := by simpa using c2
        rw [c3, if_pos (show bI false = 0 from rfl)]
        refine ⟨σ, rfl, FT.rf, rfl, rfl, ?_⟩
        rw [h5, show n - p = (n - (p + 1)) + 1 by omega]
        show _ = nI (if isL (b p) = true then _ else p)
        rw [if_neg c2]
    · rw [if_neg c, al_m1.1, qbs, if_pos (show bI false = 0 from rfl)]
      refine ⟨σ, rfl, FT.rf, rfl, rfl, ?_⟩
      rw [h5, show p = n by omega, Nat.sub_self]
      rfl
theorem nt_l126 (hn : n ≤ 200) {q : Nat} (K : SM → Option SM) : ∀ (m p fu : Nat) (σ : SM), n - p ≤ m → m < fu → p ≤ n → q ≤ p → TPm σ b n → σ 6 0 = 2 → σ 8 0 = nI p → (∀ i, q ≤ i → i < p → isD (b i) = true) → (p - q ≤ 4 → σ 9 0 = nI (dv b (p - q) q 0)) → ∃ σ', fm_nextToken_l126 K fu σ = K σ' ∧ FT σ σ' ∧ σ' 6 = σ 6 ∧ σ' 7 = σ 7 ∧ σ' 8 0 = nI (run (fun i => isD (b i)) (n - p) p) ∧ (run (fun i => isD (b i)) (n - p) p - q ≤ 4 → σ' 9 0 = nI (dv b (run (fun i => isD (b i)) (n - p) p - q) q 0)) := by
  intro m
  induction m with
  | zero =>
    intro p fu σ h1 h2 h3 hq h4 h6 h5 hd hv
    obtain ⟨n', rfl⟩ : ∃ q, fu = q + 1 := ⟨fu - 1, by omega⟩
    have e : p = n := by omega
    unfold fm_nextToken_l126
    rw [if_neg (fun z => z h6), h5, by_at h4 hn (by omega), qbs, if_neg (show ¬ p < n by omega), al_m1.2, qbs, if_pos (show bI false = 0 from rfl)]
    have er : run (fun i => isD (b i)) (n - p) p = p := by rw [show n - p = 0 by omega]; rfl
    rw [er]
    exact ⟨σ, rfl, FT.rf, rfl, rfl, h5, hv⟩
  | succ m ih =>
    intro p fu σ h1 h2 h3 hq h4 h6 h5 hd hv
    obtain ⟨n', rfl⟩ : ∃ q, fu = q + 1 := ⟨fu - 1, by omega⟩
    have IH := fun σ => ih (p + 1) n' σ (by omega) (by omega)
    rw [fm_nextToken_l126]
    generalize fm_nextToken_l126 K n' = R at IH ⊢
    rw [if_neg (fun z => z h6), h5, by_at h4 hn (by omega), qbs]
    by_cases c : p < n
    · rw [if_pos c]
      have hb := (h4.2 p c).1
      rw [(al_fin _ hb).2, qbs]
      by_cases c2 : isD (b p) = true
      · have hc := of_decide_eq_true c2
        rw [c2, if_neg (show ¬ bI true = 0 by decide), run_s (P := fun i => isD (b i)) c c2]
        unfold fm_nextToken_b185
        simp only [qhl, qbs]
        have GO : ∀ y, (p + 1 - q ≤ 4 → y = nI (dv b (p + 1 - q) q 0)) → ∃ σ', R (sf (sf σ 9 fun _ => y) 8 fun _ => (sf σ 9 fun _ => y) 8 0 + 1) = K σ' ∧ FT σ σ' ∧ σ' 6 = σ 6 ∧ σ' 7 = σ 7 ∧ σ' 8 0 = nI (run (fun i => isD (b i)) (n - (p + 1)) (p + 1)) ∧ (run (fun i => isD (b i)) (n - (p + 1)) (p + 1) - q ≤ 4 → σ' 9 0 = nI (dv b (run (fun i => isD (b i)) (n - (p + 1)) (p + 1) - q) q 0)) := by
          intro y hy
          obtain ⟨σ', r1, r2, r3, r4, r5, r6⟩ := IH (sf (sf σ 9 fun _ => y) 8 fun _ => (sf σ 9 fun _ => y) 8 0 + 1) (by omega) (by omega) (h4.ft ((FT_sf (by omega)).tr (FT_sf (by omega)))) h6 (by
            show σ 8 0 + 1 = _
            rw [h5, nI_a1]) (fun i a1 a2 => by
            by_cases e : i = p
            · rw [e]; exact c2
            · exact hd i a1 (by omega)) hy
          exact ⟨σ', r1, ((FT_sf (by omega)).tr (FT_sf (by omega))).tr r2, r3, r4, r5, r6⟩
        by_cases c4 : p - q < 4
        · have e9 := hv (by omega)
          have hl := dv_lt (b := b) (q := q) (p - q) (fun i a1 a2 => hd i a1 (by omega))
          have hl2 : 10 ^ (p - q) ≤ 10 ^ 3 := Nat.pow_le_pow_right (by decide) (by omega)
          rw [e9, if_pos (show nI (dv b (p - q) q 0) ≤ 9999 by rw [show (9999 : Int32) = nI 9999 from rfl, pb_le (by omega) (by omega)]; omega), show (10 : Int32) = nI 10 from rfl, show (48 : Int32) = nI 48 from rfl, pb_mul, pb_add, pb_sub (by omega)]
          refine GO _ (fun _ => ?_)
          rw [show p + 1 - q = (p - q) + 1 by omega, dv_s, show q + (p - q) = p by omega]
          congr 1
          omega
        · by_cases c5 : σ 9 0 ≤ 9999
          · rw [if_pos c5]
            exact GO _ (fun z => by omega)
          · rw [if_neg c5]
            exact GO _ (fun z => by omega)
      · have c3 : isD (b p) = false := by simpa using c2
        rw [c3, if_pos (show bI false = 0 from rfl)]
        have er : run (fun i => isD (b i)) (n - p) p = p := by
          rw [show n - p = (n - (p + 1)) + 1 by omega]
          show (if isD (b p) = true then _ else p) = p
          rw [if_neg c2]
        rw [er]
        exact ⟨σ, rfl, FT.rf, rfl, rfl, h5, hv⟩
    · rw [if_neg c, al_m1.2, qbs, if_pos (show bI false = 0 from rfl)]
      have er : run (fun i => isD (b i)) (n - p) p = p := by rw [show n - p = 0 by omega]; rfl
      rw [er]
      exact ⟨σ, rfl, FT.rf, rfl, rfl, h5, hv⟩
theorem nt_ok (h : TPm σ b n) (hn : n ≤ 200) {p : Nat} (hp : p ≤ n) (h8 : σ 8 0 = nI p) : ∃ σ', fm_nextToken σ = some σ' ∧ FT σ σ' ∧ TM σ' (nx b n p) := by
  unfold fm_nextToken
  rw [qhl, h8]
  obtain ⟨σ1, r1, r2, r3⟩ := nt_l8 hn (fun σ => (hl (sf σ 8 (fun _ => (σ 7 0))) fun σ4 => (Option.bind (fm_byteAt σ4 (σ4 7 0)) fun q5 => (if 0 ≤ q5 then (Option.bind (fm_isAlpha q5) fun q6 => (if q6 = 0 then (Option.bind (fm_isDigit q5) fun q7 => (if q7 = 0 then (fm_nextToken_b83 (3 : Int32) σ4) else (fm_nextToken_b83 (2 : Int32) σ4))) else (fm_nextToken_b83 (1 : Int32) σ4))) else (fm_nextToken_b83 (0 : Int32) σ4))))) (n - p) p hFU (sf σ 7 fun _ => nI p) (Nat.le_refl _) (by unfold hFU; omega) hp (h.ft (FT_sf (by omega))) rfl
  rw [r1, qhl, r3]
  obtain ⟨k1, k2⟩ := skp_le b hp
  have nb := skp_nb (b := b) hp
  unfold nx
  generalize skp b n p = q at r3 k1 k2 nb ⊢
  have f1 : FT σ (sf σ1 8 fun _ => nI q) := ((FT_sf (by omega)).tr r2).tr (FT_sf (by omega))
  have h2 : TPm (sf σ1 8 fun _ => nI q) b n := h.ft f1
  have e7 : (sf σ1 8 fun _ => nI q) 7 0 = nI q := r3
  have e8 : (sf σ1 8 fun _ => nI q) 8 0 = nI q := rfl
  generalize (sf σ1 8 fun _ => nI q) = S at f1 h2 e7 e8 ⊢
  rw [e7, by_at h2 hn (by omega), qbs]
  have DONE : ∀ y, ¬ y = 1 → ¬ y = 2 → fm_nextToken_b83 y S = fm_nextToken_b201 (sf (sf S 6 fun _ => y) 9 fun _ => (0 : Int32)) := by
    intro y y1 y2
    unfold fm_nextToken_b83
    rw [qhl, qhl, nt_l91n _ (show ¬ (sf (sf S 6 fun _ => y) 9 fun _ => (0 : Int32)) 6 0 = 1 from y1), nt_l126n _ (show ¬ (sf (sf S 6 fun _ => y) 9 fun _ => (0 : Int32)) 6 0 = 2 from y2)]
  unfold nxq
  by_cases c0 : q < n
  · rw [if_pos c0, if_pos (show 0 ≤ nI (b q) from nI_pos' (by have := (h2.2 q c0).1; omega)), if_neg (show ¬ n ≤ q by omega), (al_fin _ (h2.2 q c0).1).1, qbs, (al_fin _ (h2.2 q c0).1).2, qbs]
    by_cases c1 : isL (b q) = true
    · rw [c1, if_neg (show ¬ bI true = 0 by decide), if_pos rfl]
      unfold fm_nextToken_b83
      rw [qhl, qhl]
      obtain ⟨σ2, s1, s2, s3, s4, s5⟩ := nt_l91 (b := b) hn (fun σ => (fm_nextToken_l126 (fun σ => (fm_nextToken_b201 σ)) hFU σ)) (n - q) q hFU (sf (sf S 6 fun _ => (1 : Int32)) 9 fun _ => (0 : Int32)) (Nat.le_refl _) (by unfold hFU; omega) k2 (h2.ft ((FT_sf (by omega)).tr (FT_sf (by omega)))) rfl e8
      have e6 : σ2 6 0 = 1 := by rw [s3]; rfl
      rw [s1, nt_l126n _ (show ¬ σ2 6 0 = 2 by rw [e6]; decide)]
      unfold fm_nextToken_b201
      rw [e6, if_pos (by decide), qhl, s5, show nI (run (fun i => isL (b i)) (n - q) q) + (0 : Int32) = nI (run (fun i => isL (b i)) (n - q) q) from Int32.add_zero _]
      refine ⟨_, rfl, (f1.tr (((FT_sf (by omega)).tr (FT_sf (by omega))).tr s2)).tr (FT_sf (by omega)), e6, ?_, rfl, fun z => ?_⟩
      · show σ2 7 0 = _
        rw [s4]
        exact e7
      · have := wdc_le (b := b) (q := q) (t := run (fun i => isL (b i)) (n - q) q)
        have z : wdc b q (run (fun i => isL (b i)) (n - q) q) = 19 := z
        omega
    · have c1' : isL (b q) = false := by simpa using c1
      rw [c1', if_pos (show bI false = 0 from rfl), if_neg (show ¬ false = true by decide)]
      by_cases c2 : isD (b q) = true
      · rw [c2, if_neg (show ¬ bI true = 0 by decide), if_pos (show true = true from rfl)]
        unfold fm_nextToken_b83
        rw [qhl, qhl, nt_l91n _ (show ¬ (sf (sf S 6 fun _ => (2 : Int32)) 9 fun _ => (0 : Int32)) 6 0 = 1 by show ¬ (2 : Int32) = 1; decide)]
        obtain ⟨σ2, s1, s2, s3, s4, s5, s6⟩ := nt_l126 (b := b) (q := q) hn (fun σ => (fm_nextToken_b201 σ)) (n - q) q hFU (sf (sf S 6 fun _ => (2 : Int32)) 9 fun _ => (0 : Int32)) (Nat.le_refl _) (by unfold hFU; omega) k2 (Nat.le_refl _) (h2.ft ((FT_sf (by omega)).tr (FT_sf (by omega)))) rfl e8 (fun i a1 a2 => absurd a2 (by omega)) (fun _ => by rw [Nat.sub_self]; rfl)
        have e6 : σ2 6 0 = 2 := by rw [s3]; rfl
        rw [s1]
        unfold fm_nextToken_b201
        rw [e6, if_pos (by decide), qhl, s5, show nI (run (fun i => isD (b i)) (n - q) q) + (0 : Int32) = nI (run (fun i => isD (b i)) (n - q) q) from Int32.add_zero _]
        refine ⟨_, rfl, (f1.tr (((FT_sf (by omega)).tr (FT_sf (by omega))).tr s2)).tr (FT_sf (by omega)), e6, ?_, rfl, fun z => ?_⟩
        · show σ2 7 0 = _
          rw [s4]
          exact e7
        · show σ2 9 0 = _
          have z : (if run (fun i => isD (b i)) (n - q) q - q ≤ 4 then 19 else 18) = 19 := z
          by_cases c4 : run (fun i => isD (b i)) (n - q) q - q ≤ 4
          · exact s6 c4
          · rw [if_neg c4] at z
            omega
      · have c2' : isD (b q) = false := by simpa using c2
        rw [c2', if_pos (show bI false = 0 from rfl), if_neg (show ¬ false = true by decide), DONE 3 (by decide) (by decide)]
        unfold fm_nextToken_b201
        rw [if_neg (show ¬ (sf (sf S 6 fun _ => (3 : Int32)) 9 fun _ => (0 : Int32)) 6 0 ≤ 2 by show ¬ (3 : Int32) ≤ 2; decide), qhl, show (sf (sf S 6 fun _ => (3 : Int32)) 9 fun _ => (0 : Int32)) 8 0 = nI q from e8, nI_a1]
        refine ⟨_, rfl, f1.tr (((FT_sf (by omega)).tr (FT_sf (by omega))).tr (FT_sf (by omega))), rfl, e7, rfl, fun z => ?_⟩
        have z : 100 + b q = 19 := z
        omega
  · rw [if_neg c0, if_neg (show ¬ 0 ≤ (-1 : Int32) by decide), if_pos (show n ≤ q by omega), DONE 0 (by decide) (by decide)]
    unfold fm_nextToken_b201
    rw [if_pos (show (sf (sf S 6 fun _ => (0 : Int32)) 9 fun _ => (0 : Int32)) 6 0 ≤ 2 by show (0 : Int32) ≤ 2; decide), qhl, show (sf (sf S 6 fun _ => (0 : Int32)) 9 fun _ => (0 : Int32)) 8 0 = nI q from e8, show nI q + (0 : Int32) = nI q from Int32.add_zero _, show q = n by omega]
    refine ⟨_, rfl, f1.tr (((FT_sf (by omega)).tr (FT_sf (by omega))).tr (FT_sf (by omega))), rfl, ?_, rfl, fun z => ?_⟩
    · show S 7 0 = nI n
      rw [e7, show q = n by omega]
    · have z : (20 : Nat) = 19 := z
      omega
end RT
