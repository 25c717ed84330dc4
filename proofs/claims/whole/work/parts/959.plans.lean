/-! PURE: steps of best, ith, ways, charter, bars, game, play, prove -/
def FQ (σ σ' : SM) : Prop := ∀ i, i ≠ 3 → i ≠ 13 → i ≠ 14 → i ≠ 15 → i ≠ 16 → i ≠ 17 → i ≠ 18 → i ≠ 19 → i ≠ 20 → σ' i = σ i
theorem FQ.fr {σ σ' : SM} (h : FQ σ σ') : frM σ σ' := ⟨h 1 (by decide) (by decide) (by decide) (by decide) (by decide) (by decide) (by decide) (by decide) (by decide), h 2 (by decide) (by decide) (by decide) (by decide) (by decide) (by decide) (by decide) (by decide) (by decide), h 4 (by decide) (by decide) (by decide) (by decide) (by decide) (by decide) (by decide) (by decide) (by decide), h 5 (by decide) (by decide) (by decide) (by decide) (by decide) (by decide) (by decide) (by decide) (by decide), h 26 (by decide) (by decide) (by decide) (by decide) (by decide) (by decide) (by decide) (by decide) (by decide), h 27 (by decide) (by decide) (by decide) (by decide) (by decide) (by decide) (by decide) (by decide) (by decide), h 28 (by decide) (by decide) (by decide) (by decide) (by decide) (by decide) (by decide) (by decide) (by decide), h 29 (by decide) (by decide) (by decide) (by decide) (by decide) (by decide) (by decide) (by decide) (by decide), h 30 (by decide) (by decide) (by decide) (by decide) (by decide) (by decide) (by decide) (by decide) (by decide), h 31 (by decide) (by decide) (by decide) (by decide) (by decide) (by decide) (by decide) (by decide) (by decide), h 32 (by decide) (by decide) (by decide) (by decide) (by decide) (by decide) (by decide) (by decide) (by decide), h 33 (by decide) (by decide) (by decide) (by decide) (by decide) (by decide) (by decide) (by decide) (by decide), h 34 (by decide) (by decide) (by decide) (by decide) (by decide) (by decide) (by decide) (by decide) (by decide), h 35 (by decide) (by decide) (by decide) (by decide) (by decide) (by decide) (by decide) (by decide) (by decide)⟩
theorem FQ.z {σ σ' : SM} (h : FQ σ σ') : σ' 0 = σ 0 := h 0 (by decide) (by decide) (by decide) (by decide) (by decide) (by decide) (by decide) (by decide) (by decide)
section PT
variable {τ : SC} {σ : SM} {v : VT} {pr : List RU} {w : Nat}
theorem fp_ok (hT : twM (σ 0) v pr) (hv : vOK v) (hp : pOK pr) {n : Nat} (hn : n ≤ 4) : ∃ σ', fm_findsPlans (nI n) (nI w) σ = some σ' ∧ FQ σ σ' ∧ AM σ' (pS pr (min n (v 3 0 - v 2 0)) v) (min 9 (pF w pr (min n (v 3 0 - v 2 0)) v)) (pE pr (min n (v 3 0 - v 2 0)) v) := by
  have b1 := hv.2.1
  unfold fm_findsPlans
  simp only [qhl]
  generalize hs6 : sf (sf (sf (sf (sf (sf σ 15 fun _ => (-1 : Int32)) 16 fun _ => (0 : Int32)) 17 fun _ => (0 : Int32)) 18 fun _ => nI w) 19 fun _ => (9 : Int32)) 20 (fun _ => (0 : Int32)) = σ6
  have e0 : σ6 0 = σ 0 := by rw [← hs6]; rfl
  have q6 : FQ σ σ6 := by
    rw [← hs6]
    intro i a1 a2 a3 a4 a5 a6 a7 a8 a9
    rw [sg_ne a9, sg_ne a8, sg_ne a7, sg_ne a6, sg_ne a5, sg_ne a4]
  have e18 : σ6 18 0 = nI w := by rw [← hs6]; rfl
  have eA : AM σ6 (0, 0, []) 9 0 := by
    rw [← hs6]
    exact ⟨by show (-1 : Int32) = nM 0; decide, rfl, rfl, fun j hj => absurd hj (Nat.not_lt_zero j), rfl, rfl⟩
  obtain ⟨σ', r1, r2, r3⟩ := rp_ok (w := w) hp (min n (v 3 0 - v 2 0)) 8 (by omega) 0 n 0 0 [] σ6 v (0, 0, []) 9 0 (by rw [e0]; exact hT) hv (Nat.zero_le _) hn (by rw [Nat.sub_zero]) rfl (fun j hj => absurd hj (Nat.not_lt_zero j)) (Nat.zero_le _) (Nat.zero_le _) (Nat.le_refl _) (Nat.le_refl _) e18 eA
  rw [show nI 0 = (0 : Int32) from rfl] at r1
  rw [r1, qbs]
  have eS : pcomb (0, 0, []) (pL 0 [] (pS pr (min n (v 3 0 - v 2 0)) v)) = pS pr (min n (v 3 0 - v 2 0)) v := by
    have h1 := (pS_ok (pr := pr) (min n (v 3 0 - v 2 0)) v hv (by omega)).1
    rw [show pL 0 [] (pS pr (min n (v 3 0 - v 2 0)) v) = pS pr (min n (v 3 0 - v 2 0)) v by
      unfold pL
      rw [Nat.zero_add]
      rfl, pcomb_bot h1]
  rw [eS, Nat.zero_add, Nat.zero_or] at r3
  refine ⟨σ', rfl, fun i a1 a2 a3 a4 a5 a6 a7 a8 a9 => (r2.1 i a1 a2 a3 a4 a5 a6 a8 a9).trans (q6 i a1 a2 a3 a4 a5 a6 a7 a8 a9), r3⟩
theorem rl_long (x : Int32) : fm_isLong x = some (if (0 : Int32) ≤ x ∧ x ≤ 4 then 1 else 0) := by
  unfold fm_isLong
  rw [ri_0_4, qbs]
  split <;> rfl
theorem pl_fin {υ : SC} {ω : SM} (h : Inv τ σ) (tt : ivTown τ 100 (σ 0) v pr) (hT : twC υ 100 v pr) (he : eqP τ υ) (hω : frM σ ω) (h0 : ω 0 = σ 0) : Inv υ ω :=
  Inv_same h tt hω h0 he.fr (he.1 104 (by decide) (by decide) (by decide) (by decide) (by decide) (by decide) (by decide) (by decide)) (he.1 109 (by decide) (by decide) (by decide) (by decide) (by decide) (by decide) (by decide) (by decide)) hT
theorem st_best (h : Inv τ σ) (x1 : Int32) : stp (fc_hh_best x1 τ) (fm_best x1 σ) := by
  obtain ⟨⟨v, pr, tt⟩, -⟩ := id h
  obtain ⟨t1, t2, t3, t4, t5, t6, t7⟩ := id tt
  have b1 := t3.2.1
  unfold fc_hh_best fm_best
  rw [rg_within, rl_long, qbs, qbs]
  by_cases c1 : (0 : Int32) ≤ x1 ∧ x1 ≤ 4
  · simp only [if_pos c1, one0, not_false_eq_true, if_true, if_false]
    obtain ⟨n, -, hn, rfl⟩ := rk_0_4 c1
    obtain ⟨σ', f1, f2, f3⟩ := fp_ok (w := 0) t1 t3 t4 hn
    obtain ⟨τ', s1, s2, s3, s4⟩ := se_ok t4 t5 (min n (v 3 0 - v 2 0)) 8 (by omega) (by omega) τ v t2 t3 (by omega)
    rw [ec_hoursOf t2 t3 (by omega), qbs, s1, show (0 : Int32) = nI 0 from rfl, f1]
    simp only [qbs, qhl]
    rw [f3.1]
    exact ⟨_, τ', σ', rfl, rfl, pl_fin h tt s2 s3 f2.fr f2.z⟩
  · simp only [if_neg c1, zer0, not_true_eq_false, if_true, if_false]
    exact ⟨_, τ, σ, rfl, rfl, h⟩
theorem st_ways (h : Inv τ σ) (x1 : Int32) : stp (fc_hh_ways x1 τ) (fm_ways x1 σ) := by
  obtain ⟨⟨v, pr, tt⟩, -⟩ := id h
  obtain ⟨t1, t2, t3, t4, t5, t6, t7⟩ := id tt
  have b1 := t3.2.1
  unfold fc_hh_ways fm_ways
  rw [rg_within, rl_long, qbs, qbs]
  by_cases c1 : (0 : Int32) ≤ x1 ∧ x1 ≤ 4
  · simp only [if_pos c1, one0, not_false_eq_true, if_true, if_false]
    obtain ⟨n, -, hn, rfl⟩ := rk_0_4 c1
    obtain ⟨σ', f1, f2, f3⟩ := fp_ok (w := 0) t1 t3 t4 hn
    obtain ⟨τ', s1, s2, s3, s4, s5⟩ := se_ok t4 t5 (min n (v 3 0 - v 2 0)) 8 (by omega) (by omega) τ v t2 t3 (by omega)
    rw [ec_hoursOf t2 t3 (by omega), qbs, s1, show (0 : Int32) = nI 0 from rfl, f1]
    simp only [qbs, qhl]
    rw [pb_in (by omega) (by omega), pb_oc, pb_cl (by omega), s4, f3.2.1]
    exact ⟨_, τ', σ', rfl, rfl, pl_fin h tt s2 s3 f2.fr f2.z⟩
  · simp only [if_neg c1, zer0, not_true_eq_false, if_true, if_false]
    exact ⟨_, τ, σ, rfl, rfl, h⟩
theorem st_ith (h : Inv τ σ) (x1 x2 : Int32) : stp (fc_hh_ith x1 x2 τ) (fm_ith x1 x2 σ) := by
  obtain ⟨⟨v, pr, tt⟩, -⟩ := id h
  obtain ⟨t1, t2, t3, t4, t5, t6, t7⟩ := id tt
  have b1 := t3.2.1
  unfold fc_hh_ith fm_ith
  rw [rg_within, rg_within, rl_long, ri_0_3, qbs, qbs, qbs, qbs]
  by_cases c1 : (0 : Int32) ≤ x1 ∧ x1 ≤ 4
  · by_cases c2 : (0 : Int32) ≤ x2 ∧ x2 ≤ 3
    · simp only [if_pos c1, if_pos c2, one0, not_false_eq_true, if_true, if_false]
      obtain ⟨n, -, hn, rfl⟩ := rk_0_4 c1
      obtain ⟨i, -, hi, rfl⟩ := rk_0_3 c2
      obtain ⟨σ', f1, f2, f3⟩ := fp_ok (w := 0) t1 t3 t4 hn
      obtain ⟨τ', s1, s2, s3, s4, s5, s6⟩ := se_ok t4 t5 (min n (v 3 0 - v 2 0)) 8 (by omega) (by omega) τ v t2 t3 (by omega)
      have hl := (pS_ok (pr := pr) (min n (v 3 0 - v 2 0)) v t3 (by omega)).2.2
      rw [ec_hoursOf t2 t3 (by omega), qbs, s1, show (0 : Int32) = nI 0 from rfl, f1]
      simp only [qbs, qhl]
      rw [f3.2.2.1, hl]
      by_cases c3 : i < min n (v 3 0 - v 2 0)
      · rw [if_pos (pQ (pb_lt (by omega) (by omega)) c3), if_neg (pN (pb_le (by omega) (by omega)) (show ¬ min n (v 3 0 - v 2 0) ≤ i by omega)), pb_in (by omega) (by omega), pb_oc, pb_cl (by omega), show decide (min n (v 3 0 - v 2 0) < 5) = true from decide_eq_true (by omega), pb_oc, pb_in (by omega) (by omega), pb_oc, pb_oc, pb_cl (by omega), s5 i c3, f3.2.2.2.1 i (by omega)]
        exact ⟨_, τ', σ', rfl, rfl, pl_fin h tt s2 s3 f2.fr f2.z⟩
      · rw [if_neg (pN (pb_lt (by omega) (by omega)) c3), if_pos (pQ (pb_le (by omega) (by omega)) (show min n (v 3 0 - v 2 0) ≤ i by omega))]
        exact ⟨_, τ, σ', rfl, rfl, pl_fin h tt t2 eqP.rf f2.fr f2.z⟩
    · simp only [if_pos c1, if_neg c2, one0, zer0, not_true_eq_false, if_true, if_false]
      exact ⟨_, τ, σ, rfl, rfl, h⟩
  · simp only [if_neg c1, zer0, if_true]
    exact ⟨_, τ, σ, rfl, rfl, h⟩
theorem pF_or : ∀ m v, pF w pr m v ≤ m ∨ pF w pr m v = 99 := by
  intro m
  induction m with
  | zero =>
    intro v
    unfold pF
    split
    · exact Or.inl (Nat.le_refl _)
    · exact Or.inr rfl
  | succ m ih =>
    intro v
    refine pf_ind _ (fun x : Nat => x ≤ m + 1 ∨ x = 99) _ _ _ (Or.inr rfl) (fun y b h1 h2 hy => ?_)
    show min y (pF w pr m (vPass v pr b).2 + (if b = 0 then 0 else 1)) ≤ m + 1 ∨ min y (pF w pr m (vPass v pr b).2 + (if b = 0 then 0 else 1)) = 99
    have hi := ih (vPass v pr b).2
    by_cases cb : b = 0
    · rw [if_pos cb]
      omega
    · rw [if_neg cb]
      omega
theorem set_fin : ∀ n, n < 7 → ((1 : Int32) <<< (nI n &&& 31)) - (1 : Int32) = nI (2 ^ n - 1) := by decide +kernel
theorem rl_set (hT : twM (σ 0) v pr) (hv : vOK v) (x : Int32) : fm_isSet σ x = some (if (0 : Int32) ≤ x ∧ x ≤ nI (2 ^ v 13 0 - 1) then 1 else 0) := by
  have b6 := hv.1
  unfold fm_isSet
  rw [hT.1, set_fin _ (by omega), show (0 : Int64) = Int32.toInt64 0 from rfl, rg_isIn, qbs]
  split <;> rfl
theorem st_charter (h : Inv τ σ) (x1 x2 : Int32) : stp (fc_hh_charter x1 x2 τ) (fm_charter x1 x2 σ) := by
  obtain ⟨⟨v, pr, tt⟩, -⟩ := id h
  obtain ⟨t1, t2, t3, t4, t5, t6, t7⟩ := id tt
  have b1 := t3.2.1
  have b6 := t3.1
  have hp2 : 2 ^ v 13 0 ≤ 2 ^ 6 := Nat.pow_le_pow_right (by decide) b6
  unfold fc_hh_charter fm_charter
  rw [rg_within, ec_every t2 t3, rl_long, rl_set t1 t3, qbs, qbs, qbs, qbs, rg_within, qbs]
  by_cases c1 : (0 : Int32) ≤ x1 ∧ x1 ≤ 4
  · by_cases c2 : (0 : Int32) ≤ x2 ∧ x2 ≤ nI (2 ^ v 13 0 - 1)
    · simp only [if_pos c1, if_pos c2, one0, not_false_eq_true, if_true, if_false]
      obtain ⟨n, -, hn, rfl⟩ := rk_0_4 c1
      obtain ⟨w, -, hw, rfl⟩ := rg_nat (a := 0) (m := 2 ^ v 13 0 - 1) (by omega) c2 (Nat.zero_le _)
      obtain ⟨σ', f1, f2, f3⟩ := fp_ok (w := w) t1 t3 t4 hn
      obtain ⟨τ', s1, s2, s3⟩ := fe_ok (w := w) t4 t5 (min n (v 3 0 - v 2 0)) 8 (by omega) (by omega) τ v t2 t3 (by omega)
      have ho := pF_or (w := w) (pr := pr) (min n (v 3 0 - v 2 0)) v
      rw [ec_hoursOf t2 t3 (by omega), qbs, s1, f1]
      simp only [qbs, qhl]
      rw [f3.2.2.2.2.1, show (9 : Int32) = nI 9 from rfl, show (4 : Int32) = nI 4 from rfl]
      by_cases c3 : pF w pr (min n (v 3 0 - v 2 0)) v ≤ 4
      · rw [if_pos (pQ (pb_le (by omega) (by omega)) c3), if_neg (pN (pb_le (by omega) (by omega)) (show ¬ 9 ≤ min 9 (pF w pr (min n (v 3 0 - v 2 0)) v) by omega)), show min 9 (pF w pr (min n (v 3 0 - v 2 0)) v) = pF w pr (min n (v 3 0 - v 2 0)) v by omega]
        exact ⟨_, τ', σ', rfl, rfl, pl_fin h tt s2 s3.p f2.fr f2.z⟩
      · rw [if_neg (pN (pb_le (by omega) (by omega)) c3), if_pos (pQ (pb_le (by omega) (by omega)) (show 9 ≤ min 9 (pF w pr (min n (v 3 0 - v 2 0)) v) by omega))]
        exact ⟨_, τ', σ', rfl, rfl, pl_fin h tt s2 s3.p f2.fr f2.z⟩
    · simp only [if_pos c1, if_neg c2, one0, zer0, not_true_eq_false, if_true, if_false]
      exact ⟨_, τ, σ, rfl, rfl, h⟩
  · simp only [if_neg c1, zer0, if_true]
    exact ⟨_, τ, σ, rfl, rfl, h⟩
theorem ba_fin : ∀ w, w < 64 → ∀ e, e < 64 → (nI w &&& (nI e ^^^ (-1 : Int32))) = nI (w &&& (63 - e)) := by decide +kernel
def bl (b : Nat) : Nat → Nat → Int32
  | 0, _ => -3
  | q + 1, o => if ¬ ((nI b >>> (nI o &&& 31)) &&& (1 : Int32)) = (1 : Int32) then bl b q (o + 1) else nI o
theorem bl_fin : ∀ n, n < 7 → ∀ b, b < 2 ^ n → (if ¬ nI b = 0 then (Option.bind (fc_j6_numberOfTrailingZeros_0f7a4 (nI b)) fun q8 => some q8) else some (-3 : Int32)) = some (bl b n 0) := by decide +kernel
theorem ba_l {b : Nat} {x2 : Int32} (hT : twM (σ 0) v pr) (hv : vOK v) (hb : (x2 &&& ((σ 20 0) ^^^ (-1 : Int32))) = nI b) : ∀ (q o fu : Nat), o + q = v 13 0 → q < fu → fm_bars_l25 fu x2 (nI o) σ = some (bl b q o, σ) := by
  have b6 := hv.1
  intro q
  induction q with
  | zero =>
    intro o fu hq hf
    obtain ⟨n', rfl⟩ : ∃ q, fu = q + 1 := ⟨fu - 1, by omega⟩
    unfold fm_bars_l25
    rw [hT.1, if_pos (show nI (v 13 0) ≤ nI o by rw [pb_le (by omega) (by omega)]; omega)]
    rfl
  | succ q ih =>
    intro o fu hq hf
    obtain ⟨n', rfl⟩ : ∃ q, fu = q + 1 := ⟨fu - 1, by omega⟩
    have IH := ih (o + 1) n' (by omega) (by omega)
    rw [fm_bars_l25, hT.1, if_neg (show ¬ nI (v 13 0) ≤ nI o by rw [pb_le (by omega) (by omega)]; omega), hb, nI_a1, IH, show bl b (q + 1) o = if ¬ ((nI b >>> (nI o &&& 31)) &&& (1 : Int32)) = (1 : Int32) then bl b q (o + 1) else nI o from rfl]
    split <;> rfl
theorem st_bars (h : Inv τ σ) (x1 x2 : Int32) : stp (fc_hh_bars x1 x2 τ) (fm_bars x1 x2 σ) := by
  obtain ⟨⟨v, pr, tt⟩, -⟩ := id h
  obtain ⟨t1, t2, t3, t4, t5, t6, t7⟩ := id tt
  have b1 := t3.2.1
  have b6 := t3.1
  have hp2 : 2 ^ v 13 0 ≤ 2 ^ 6 := Nat.pow_le_pow_right (by decide) b6
  have hp3 : 0 < 2 ^ v 13 0 := Nat.two_pow_pos _
  unfold fc_hh_bars fm_bars
  rw [rg_within, ec_every t2 t3, rl_long, rl_set t1 t3, qbs, qbs, qbs, qbs, rg_within, qbs]
  by_cases c1 : (0 : Int32) ≤ x1 ∧ x1 ≤ 4
  · by_cases c2 : (0 : Int32) ≤ x2 ∧ x2 ≤ nI (2 ^ v 13 0 - 1)
    · simp only [if_pos c1, if_pos c2, one0, not_false_eq_true, if_true, if_false]
      obtain ⟨n, -, hn, rfl⟩ := rk_0_4 c1
      obtain ⟨w, -, hw, rfl⟩ := rg_nat (a := 0) (m := 2 ^ v 13 0 - 1) (by omega) c2 (Nat.zero_le _)
      obtain ⟨σ', f1, f2, f3⟩ := fp_ok (w := w) t1 t3 t4 hn
      obtain ⟨τ', s1, s2, s3⟩ := ds_ok t4 t5 (min n (v 3 0 - v 2 0)) 8 (by omega) (by omega) τ v t2 t3 (by omega)
      have hE := pE_lt (pr := pr) (min n (v 3 0 - v 2 0)) v t3 (by omega)
      have hB := ba_fin w (by omega) (pE pr (min n (v 3 0 - v 2 0)) v) (by omega)
      have hBl : w &&& (63 - pE pr (min n (v 3 0 - v 2 0)) v) < 2 ^ v 13 0 := Nat.lt_of_le_of_lt Nat.and_le_left (by omega)
      rw [ec_hoursOf t2 t3 (by omega), qbs, s1, f1]
      simp only [qbs, qhl]
      rw [hB]
      have L := ba_l (σ := σ') (x2 := nI w) (b := w &&& (63 - pE pr (min n (v 3 0 - v 2 0)) v)) (by rw [f2.z]; exact t1) t3 (by rw [f3.2.2.2.2.2]; exact hB) (v 13 0) 0 hFU (Nat.zero_add _) (by unfold hFU; omega)
      rw [show (0 : Int32) = nI 0 from rfl, L]
      have BF := bl_fin (v 13 0) (by omega) _ hBl
      rw [show (0 : Int32) = nI 0 from rfl] at BF
      by_cases c3 : nI (w &&& (63 - pE pr (min n (v 3 0 - v 2 0)) v)) = nI 0
      · rw [if_neg (fun z => z c3)] at BF ⊢
        rw [← Option.some.inj BF]
        exact ⟨_, τ', σ', rfl, rfl, pl_fin h tt s2 s3.p f2.fr f2.z⟩
      · rw [if_pos c3] at BF ⊢
        obtain ⟨z, hz⟩ : ∃ z, fc_j6_numberOfTrailingZeros_0f7a4 (nI (w &&& (63 - pE pr (min n (v 3 0 - v 2 0)) v))) = some z := by
          cases hq : fc_j6_numberOfTrailingZeros_0f7a4 (nI (w &&& (63 - pE pr (min n (v 3 0 - v 2 0)) v))) with
          | none => rw [hq] at BF; cases BF
          | some z => exact ⟨z, rfl⟩
        rw [hz, qbs] at BF
        rw [hz, qbs, ← Option.some.inj BF]
        exact ⟨_, τ', σ', rfl, rfl, pl_fin h tt s2 s3.p f2.fr f2.z⟩
    · simp only [if_pos c1, if_neg c2, one0, zer0, not_true_eq_false, if_true, if_false]
      exact ⟨_, τ, σ, rfl, rfl, h⟩
  · simp only [if_neg c1, zer0, if_true]
    exact ⟨_, τ, σ, rfl, rfl, h⟩
theorem FV_fr {k : Nat} {σ' : SM} (h : FV k σ σ') : frM σ σ' := ⟨h.1 1 (by decide) (by decide), h.1 2 (by decide) (by decide), h.1 4 (by decide) (by decide), h.1 5 (by decide) (by decide), h.1 26 (by decide) (by decide), h.1 27 (by decide) (by decide), h.1 28 (by decide) (by decide), h.1 29 (by decide) (by decide), h.1 30 (by decide) (by decide), h.1 31 (by decide) (by decide), h.1 32 (by decide) (by decide), h.1 33 (by decide) (by decide), h.1 34 (by decide) (by decide), h.1 35 (by decide) (by decide)⟩
theorem st_game (h : Inv τ σ) (x1 : Int32) : stp (fc_hh_game x1 τ) (fm_game x1 σ) := by
  obtain ⟨⟨v, pr, tt⟩, -⟩ := id h
  obtain ⟨t1, t2, t3, t4, t5, t6, t7⟩ := id tt
  have b1 := t3.2.1
  unfold fc_hh_game fm_game
  rw [ri_1_4, qbs]
  by_cases c1 : (1 : Int32) ≤ x1 ∧ x1 ≤ 4
  · rw [if_pos c1, if_neg (show ¬ x1 < 1 by rw [rg_nlt]; exact c1.1), if_pos c1.2, if_neg (show ¬ (1 : Int32) = 0 by decide)]
    obtain ⟨n, hn1, hn, rfl⟩ := rk_1_4 c1
    obtain ⟨τ', s1, s2, s3, s4, s5⟩ := ga_ok t4 t5 (min n (v 3 0 - v 2 0)) 8 (by omega) (by omega) true τ v t2 t3 (by omega)
    obtain ⟨σ', g1, g2, g3⟩ := gre_ok t4 (min n (v 3 0 - v 2 0)) 8 (by omega) 0 n σ v t1 t3 (Nat.zero_le _) hn (by rw [Nat.sub_zero])
    rw [show nI 0 = (0 : Int32) from rfl] at g1
    rw [ec_hoursOf t2 t3 (by omega), qbs, show (1 : Int32) = bI true from rfl, s1, g1]
    simp only [qbs, qhl]
    exact ⟨_, τ', σ', rfl, rfl, pl_fin h tt s2 s3 (FV_fr g2) (g2.1 0 (by decide) (by decide))⟩
  · rw [if_neg c1, if_pos rfl]
    by_cases d1 : x1 < 1
    · rw [if_pos d1]
      exact ⟨_, τ, σ, rfl, rfl, h⟩
    · rw [if_neg d1, if_neg (show ¬ x1 ≤ 4 from fun w => c1 ⟨rg_nlt ▸ d1, w⟩)]
      exact ⟨_, τ, σ, rfl, rfl, h⟩
theorem st_play (h : Inv τ σ) (x1 : Int32) : stp (fc_hh_play x1 τ) (fm_play x1 σ) := by
  obtain ⟨⟨v, pr, tt⟩, -⟩ := id h
  obtain ⟨t1, t2, t3, t4, t5, t6, t7⟩ := id tt
  have b1 := t3.2.1
  unfold fc_hh_play fm_play
  rw [ri_1_4, qbs, em_over t1 t3, ec_over t2 t3, qbs, qbs]
  by_cases c1 : (1 : Int32) ≤ x1 ∧ x1 ≤ 4
  · rw [if_pos c1, if_neg (show ¬ x1 < 1 by rw [rg_nlt]; exact c1.1), if_pos c1.2, if_pos (show ¬ (1 : Int32) = 0 by decide)]
    by_cases c2 : v 2 0 < v 3 0
    · simp only [if_pos c2, zer0, if_true]
      obtain ⟨n, hn1, hn, rfl⟩ := rk_1_4 c1
      obtain ⟨τ', s1, s2, s3, s4, s5⟩ := ga_ok t4 t5 (min n (v 3 0 - v 2 0)) 8 (by omega) (by omega) true τ v t2 t3 (by omega)
      obtain ⟨σ', g1, g2, g3⟩ := gre_ok t4 (min n (v 3 0 - v 2 0)) 8 (by omega) 0 n σ v t1 t3 (Nat.zero_le _) hn (by rw [Nat.sub_zero])
      rw [show nI 0 = (0 : Int32) from rfl] at g1
      rw [ec_hoursOf t2 t3 (by omega), qbs, show (1 : Int32) = bI true from rfl, s1, g1]
      simp only [qbs, qhl]
      rw [pb_in (by omega) (by omega), pb_oc, pb_cl (by omega), show decide (min n (v 3 0 - v 2 0) < 5) = true from decide_eq_true (by omega), pb_oc, s4 (by omega), g3 (by omega)]
      exact ⟨_, τ', σ', rfl, rfl, pl_fin h tt s2 s3 (FV_fr g2) (g2.1 0 (by decide) (by decide))⟩
    · simp only [if_neg c2, one0, if_false]
      exact ⟨_, τ, σ, rfl, rfl, h⟩
  · rw [if_neg c1, if_neg (show ¬ ¬ (0 : Int32) = 0 from fun z => z rfl)]
    by_cases d1 : x1 < 1
    · rw [if_pos d1]
      exact ⟨_, τ, σ, rfl, rfl, h⟩
    · rw [if_neg d1, if_neg (show ¬ x1 ≤ 4 from fun w => c1 ⟨rg_nlt ▸ d1, w⟩)]
      exact ⟨_, τ, σ, rfl, rfl, h⟩
end PT
