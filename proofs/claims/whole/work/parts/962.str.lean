/-! PURE: steps of cause, liar -/
def cN (P : Nat → Bool) : Nat → Nat → Nat
  | 0, _ => 0
  | q + 1, s => (if P s = true then 1 else 0) + cN P q (s + 1)
def cF (P : Nat → Bool) : Nat → Nat → Option Nat
  | 0, _ => none
  | q + 1, s => if P s = true then some s else cF P q (s + 1)
theorem cF_none {P : Nat → Bool} : ∀ q s, cF P q s = none → cN P q s = 0 ∧ ∀ i, s ≤ i → i < s + q → P i = false := by
  intro q
  induction q with
  | zero => intro s _; exact ⟨rfl, fun i h1 h2 => absurd h2 (by omega)⟩
  | succ q ih =>
    intro s h
    have h' : (if P s = true then some s else cF P q (s + 1)) = none := h
    by_cases c : P s = true
    · rw [if_pos c] at h'
      cases h'
    · rw [if_neg c] at h'
      obtain ⟨h1, h2⟩ := ih (s + 1) h'
      refine ⟨?_, fun i a1 a2 => ?_⟩
      · show (if P s = true then 1 else 0) + cN P q (s + 1) = 0
        rw [if_neg c, h1]
      · by_cases e : i = s
        · rw [e]
          simpa using c
        · exact h2 i (by omega) (by omega)
theorem cF_some {P : Nat → Bool} : ∀ q s t, cF P q s = some t → 0 < cN P q s ∧ s ≤ t ∧ t < s + q ∧ P t = true := by
  intro q
  induction q with
  | zero => intro s t h; cases h
  | succ q ih =>
    intro s t h
    have h' : (if P s = true then some s else cF P q (s + 1)) = some t := h
    by_cases c : P s = true
    · rw [if_pos c] at h'
      have e := Option.some.inj h'
      subst e
      refine ⟨?_, Nat.le_refl _, by omega, c⟩
      show 0 < (if P s = true then 1 else 0) + cN P q (s + 1)
      rw [if_pos c]
      omega
    · rw [if_neg c] at h'
      obtain ⟨h1, h2, h3, h4⟩ := ih (s + 1) t h'
      refine ⟨?_, by omega, by omega, h4⟩
      show 0 < (if P s = true then 1 else 0) + cN P q (s + 1)
      omega
theorem cN_le {P : Nat → Bool} : ∀ q s, cN P q s ≤ q := by
  intro q
  induction q with
  | zero => intro s; exact Nat.le_refl _
  | succ q ih =>
    intro s
    show (if P s = true then 1 else 0) + cN P q (s + 1) ≤ q + 1
    have := ih (s + 1)
    split <;> omega
theorem cN_pos {P : Nat → Bool} {q s : Nat} : 0 < cN P q s ↔ ∃ i, s ≤ i ∧ i < s + q ∧ P i = true := by
  constructor
  · intro h
    cases e : cF P q s with
    | none => have := (cF_none q s e).1; omega
    | some t =>
      obtain ⟨-, h2, h3, h4⟩ := cF_some q s t e
      exact ⟨t, h2, h3, h4⟩
  · rintro ⟨i, h1, h2, h3⟩
    cases e : cF P q s with
    | none =>
      have := (cF_none q s e).2 i h1 h2
      rw [h3] at this
      cases this
    | some t => exact (cF_some q s t e).1
section CL
variable {τ : SC} {σ : SM} {v : VT} {pr : List RU}
def FF (σ σ' : SM) : Prop := ∀ i, i ≠ 22 → i ≠ 23 → i ≠ 24 → i ≠ 25 → σ' i = σ i
theorem FF.fr {σ σ' : SM} (h : FF σ σ') : frM σ σ' := ⟨h 1 (by decide) (by decide) (by decide) (by decide), h 2 (by decide) (by decide) (by decide) (by decide), h 4 (by decide) (by decide) (by decide) (by decide), h 5 (by decide) (by decide) (by decide) (by decide), h 26 (by decide) (by decide) (by decide) (by decide), h 27 (by decide) (by decide) (by decide) (by decide), h 28 (by decide) (by decide) (by decide) (by decide), h 29 (by decide) (by decide) (by decide) (by decide), h 30 (by decide) (by decide) (by decide) (by decide), h 31 (by decide) (by decide) (by decide) (by decide), h 32 (by decide) (by decide) (by decide) (by decide), h 33 (by decide) (by decide) (by decide) (by decide), h 34 (by decide) (by decide) (by decide) (by decide), h 35 (by decide) (by decide) (by decide) (by decide)⟩
theorem FF.z {σ σ' : SM} (h : FF σ σ') : σ' 0 = σ 0 := h 0 (by decide) (by decide) (by decide) (by decide)
def fsF (P : Nat → Bool) (q s : Nat) (first : Int32) : Int32 := match cF P q s with
  | none => first
  | some t => nI (100 + t)
theorem ff_l (hT : twM (σ 0) v pr) (hv : vOK v) {x : Int32} {P : Nat → Bool} (hP : ∀ s, s < 500 → fa (wrg v (sm v (1 + s / 100) (s / 10 % 10) (s % 10))) x (v 18 0) 0 = P s) : ∀ (q s fu c : Nat) (first : Int32) (σ' : SM), s + q = 500 → q < fu → c ≤ s → FF σ σ' → σ' 24 0 = nI c → σ' 25 0 = first → ∃ σ2, fm_findsFits_l14 fu x (nI (100 + s)) σ' = some σ2 ∧ FF σ σ2 ∧ σ2 24 0 = nI (c + cN P q s) ∧ σ2 25 0 = (if c = 0 then fsF P q s first else first) := by
  have b6 := hv.2.2.2.2.2.2.2.2.2.2.2.1
  intro q
  induction q with
  | zero =>
    intro s fu c first σ' hq hf hc hF h24 h25
    obtain ⟨n', rfl⟩ : ∃ q, fu = q + 1 := ⟨fu - 1, by omega⟩
    unfold fm_findsFits_l14
    rw [if_pos (show (600 : Int32) ≤ nI (100 + s) by rw [show (600 : Int32) = nI 600 from rfl, pb_le (by omega) (by omega)]; omega)]
    refine ⟨σ', rfl, hF, h24, ?_⟩
    rw [h25]
    show first = if c = 0 then first else first
    rw [ite_self]
  | succ q ih =>
    intro s fu c first σ' hq hf hc hF h24 h25
    obtain ⟨n', rfl⟩ : ∃ q, fu = q + 1 := ⟨fu - 1, by omega⟩
    have IH := fun c first σ' => ih (s + 1) n' c first σ' (by omega) (by omega)
    rw [fm_findsFits_l14]
    generalize fm_findsFits_l14 n' = K at IH ⊢
    have hT' : twM (σ' 0) v pr := by rw [hF.z]; exact hT
    obtain ⟨a, b, e1, e2⟩ := co_ok (σ := σ') (kd := 1 + s / 100) (g := s / 10 % 10) (m0 := s % 10) hT' hv (by omega) (by omega) (by omega)
    rw [if_neg (show ¬ (600 : Int32) ≤ nI (100 + s) by rw [show (600 : Int32) = nI 600 from rfl, pb_le (by omega) (by omega)]; omega), show (100 : Int32) = nI 100 from rfl, show (10 : Int32) = nI 10 from rfl, pb_div (by omega) (by decide) (by decide), pb_div (by omega) (by decide) (by decide), pb_rem (by omega) (by decide) (by decide), pb_rem (by omega) (by decide) (by decide), show (100 + s) / 100 = 1 + s / 100 by omega, show (100 + s) / 10 % 10 = s / 10 % 10 by omega, show (100 + s) % 10 = s % 10 by omega, e1, qbs]
    unfold fm_isFit
    rw [show (1 : Int32) = bI true from rfl, show (0 : Int32) = nI 0 from rfl, isf_l (σ := sf (sf σ' 22 a) 23 b) (s := sm v (1 + s / 100) (s / 10 % 10) (s % 10)) hT' hv (fun j hj => sm_lt hv (by omega) (by omega) (by omega) j (by omega)) e2 x (v 18 0) 0 hFU true (Nat.zero_add _) (by unfold hFU; omega), qbs, Bool.true_and, hP s (by omega)]
    have hF4 : FF σ (sf (sf σ' 22 a) 23 b) := fun i a1 a2 a3 a4 => by
      rw [sg_ne a2, sg_ne a1]
      exact hF i a1 a2 a3 a4
    have eN : cN P (q + 1) s = (if P s = true then 1 else 0) + cN P q (s + 1) := rfl
    have eF : fsF P (q + 1) s first = if P s = true then nI (100 + s) else fsF P q (s + 1) first := by
      unfold fsF
      rw [show cF P (q + 1) s = if P s = true then some s else cF P q (s + 1) from rfl]
      by_cases c : P s = true
      · rw [if_pos c, if_pos c]
      · rw [if_neg c, if_neg c]
    unfold fm_findsFits_b77 fm_findsFits_b64 fm_findsFits_b77
    rw [show (sf (sf σ' 22 a) 23 b) 24 0 = nI c from h24, show (sf (sf σ' 22 a) 23 b) 25 0 = first from h25]
    simp only [qhl, show bI true = (1 : Int32) from rfl, nI_a1]
    by_cases cP : P s = true
    · rw [cP, if_neg (show ¬ bI true = nI 0 by decide)]
      have GO : ∀ y, y = (if c = 0 then nI (100 + s) else first) → ∃ σ2, K x (nI (100 + s + 1)) (sf (sf (sf (sf σ' 22 a) 23 b) 25 fun _ => y) 24 fun _ => (sf (sf (sf σ' 22 a) 23 b) 25 fun _ => y) 24 0 + 1) = some σ2 ∧ FF σ σ2 ∧ σ2 24 0 = nI (c + cN P (q + 1) s) ∧ σ2 25 0 = (if c = 0 then fsF P (q + 1) s first else first) := by
        intro y hy
        obtain ⟨σ2, r1, r2, r3, r4⟩ := IH (c + 1) y (sf (sf (sf (sf σ' 22 a) 23 b) 25 fun _ => y) 24 fun _ => (sf (sf (sf σ' 22 a) 23 b) 25 fun _ => y) 24 0 + 1) (by omega) (fun i a1 a2 a3 a4 => by
          rw [sg_ne a3, sg_ne a4]
          exact hF4 i a1 a2 a3 a4) (by
          show σ' 24 0 + 1 = nI (c + 1)
          rw [h24, nI_a1]) rfl
        refine ⟨σ2, r1, r2, ?_, ?_⟩
        · rw [r3, eN, if_pos cP, Nat.add_assoc]
        · rw [r4, if_neg (by omega), eF, if_pos cP, hy]
      by_cases c0 : c = 0
      · rw [if_neg (pNN (pb_eq (by omega) (by omega)) c0)]
        exact GO _ (by rw [if_pos c0])
      · rw [if_pos (pN (pb_eq (by omega) (by omega)) c0)]
        exact GO _ (by rw [if_neg c0])
    · have cP' : P s = false := by simpa using cP
      rw [cP', if_pos (show bI false = nI 0 from rfl)]
      obtain ⟨σ2, r1, r2, r3, r4⟩ := IH c first (sf (sf σ' 22 a) 23 b) (by omega) hF4 h24 h25
      refine ⟨σ2, r1, r2, ?_, ?_⟩
      · rw [r3, eN, if_neg cP, Nat.zero_add]
      · rw [r4, eF, if_neg cP]
theorem ff_ok (hT : twM (σ 0) v pr) (hv : vOK v) {x : Int32} {P : Nat → Bool} (hP : ∀ s, s < 500 → fa (wrg v (sm v (1 + s / 100) (s / 10 % 10) (s % 10))) x (v 18 0) 0 = P s) : ∃ σ2, fm_findsFits x σ = some σ2 ∧ FF σ σ2 ∧ σ2 24 0 = nI (cN P 500 0) ∧ σ2 25 0 = fsF P 500 0 (-3) := by
  unfold fm_findsFits
  simp only [qhl]
  obtain ⟨σ2, r1, r2, r3, r4⟩ := ff_l (σ := σ) hT hv hP 500 0 hFU 0 (-3) (sf (sf σ 24 fun _ => (0 : Int32)) 25 fun _ => (-3 : Int32)) rfl (by unfold hFU; omega) (Nat.le_refl _) (fun i a1 a2 a3 a4 => by rw [sg_ne a4, sg_ne a3]) rfl rfl
  rw [Nat.zero_add] at r3
  rw [if_pos rfl] at r4
  exact ⟨σ2, r1, r2, r3, r4⟩
def P0 (v : VT) (s : Nat) : Bool := decide (WR v s = 0)
theorem hP0 (hv : vOK v) : ∀ s, s < 500 → fa (wrg v (sm v (1 + s / 100) (s / 10 % 10) (s % 10))) (-1) (v 18 0) 0 = P0 v s := by
  have b6 := hv.2.2.2.2.2.2.2.2.2.2.2.1
  intro s _
  apply Bool.eq_iff_iff.mpr
  rw [fa_iff]
  unfold P0 WR
  rw [decide_eq_true_eq, ws_zero]
  constructor
  · intro h r hr
    rcases h r (Nat.zero_le _) (by omega) with h1 | h1
    · exact absurd h1 (nI_m1 (by omega))
    · exact h1
  · intro h r h1 h2
    exact Or.inr (h r (by omega))
def PK (v : VT) (k s : Nat) : Bool := decide (WR v s = 0 ∨ WR v s = 2 ^ k)
theorem hPK (hv : vOK v) {k : Nat} (hk : k < v 18 0) : ∀ s, s < 500 → fa (wrg v (sm v (1 + s / 100) (s / 10 % 10) (s % 10))) (nI k) (v 18 0) 0 = PK v k s := by
  have b6 := hv.2.2.2.2.2.2.2.2.2.2.2.1
  intro s _
  apply Bool.eq_iff_iff.mpr
  rw [fa_iff]
  unfold PK WR
  rw [decide_eq_true_eq, ws_one hk]
  constructor
  · intro h r hr
    rcases h r (Nat.zero_le _) (by omega) with h1 | h1
    · rw [pb_eq (by omega) (by omega)] at h1
      exact Or.inl h1
    · exact Or.inr h1
  · intro h r h1 h2
    rcases h r (by omega) with h3 | h3
    · exact Or.inl (by rw [h3])
    · exact Or.inr h3
theorem WR_lt (hv : vOK v) (s : Nat) : WR v s < 64 := by
  have b6 := hv.2.2.2.2.2.2.2.2.2.2.2.1
  exact Nat.lt_of_lt_of_le (ws_lt _ _) (Nat.pow_le_pow_right (n := 2) (by decide) b6)
theorem ca_l0 (hT : twC τ 100 v pr) (hv : vOK v) (K63 : Int32 → Int32 → Int32 → Option Int32) : ∀ (q s fu c : Nat) (x3 : Int32), s + q = 500 → q < fu → ∃ y3, fc_hh_cause_l18 τ K63 fu 0 (nI c) x3 (nI s) = K63 0 (nI (c + cN (P0 v) q s)) y3 := by
  intro q
  induction q with
  | zero =>
    intro s fu c x3 hq hf
    obtain ⟨n', rfl⟩ : ∃ q, fu = q + 1 := ⟨fu - 1, by omega⟩
    unfold fc_hh_cause_l18
    rw [if_pos (show (500 : Int32) ≤ nI s by rw [show (500 : Int32) = nI 500 from rfl, pb_le (by omega) (by omega)]; omega)]
    exact ⟨x3, rfl⟩
  | succ q ih =>
    intro s fu c x3 hq hf
    obtain ⟨n', rfl⟩ : ∃ q, fu = q + 1 := ⟨fu - 1, by omega⟩
    have IH := fun c x3 => ih (s + 1) n' c x3 (by omega) (by omega)
    have hl := WR_lt hv s
    rw [fc_hh_cause_l18]
    generalize fc_hh_cause_l18 τ K63 n' = K at IH ⊢
    rw [if_neg (show ¬ (500 : Int32) ≤ nI s by rw [show (500 : Int32) = nI 500 from rfl, pb_le (by omega) (by omega)]; omega), wr_ok hT hv (by omega), qbs]
    unfold fc_hh_cause_b50 fc_hh_cause_b57
    rw [nI_a1, nI_a1, if_pos (show (0 : Int32) = 0 from rfl), if_pos (show (0 : Int32) = 0 from rfl)]
    have eN : cN (P0 v) (q + 1) s = (if P0 v s = true then 1 else 0) + cN (P0 v) q (s + 1) := rfl
    by_cases c0 : WR v s = 0
    · rw [if_neg (pNN (pb_ez (by omega)) c0), eN, if_pos (show P0 v s = true from decide_eq_true c0), ← Nat.add_assoc]
      by_cases c3 : x3 = (-3 : Int32)
      · rw [if_neg (fun z => z c3)]
        exact IH _ _
      · rw [if_pos c3]
        exact IH _ _
    · rw [if_pos (pN (pb_ez (by omega)) c0), eN, if_neg (show ¬ P0 v s = true from fun z => c0 (of_decide_eq_true z)), Nat.zero_add]
      exact IH _ _
theorem ca_l1 (hT : twC τ 100 v pr) (hv : vOK v) (K63 : Int32 → Int32 → Int32 → Option Int32) {x1 : Int32} (hx : ¬ x1 = 0) : ∀ (q s fu : Nat), s + q = 500 → q < fu → fc_hh_cause_l18 τ K63 fu x1 0 (-3) (nI s) = (match cF (P0 v) q s with | none => K63 x1 0 (-3) | some t => K63 x1 (nI 1) (nI t)) := by
  intro q
  induction q with
  | zero =>
    intro s fu hq hf
    obtain ⟨n', rfl⟩ : ∃ q, fu = q + 1 := ⟨fu - 1, by omega⟩
    unfold fc_hh_cause_l18
    rw [if_pos (show (500 : Int32) ≤ nI s by rw [show (500 : Int32) = nI 500 from rfl, pb_le (by omega) (by omega)]; omega)]
    rfl
  | succ q ih =>
    intro s fu hq hf
    obtain ⟨n', rfl⟩ : ∃ q, fu = q + 1 := ⟨fu - 1, by omega⟩
    have IH := ih (s + 1) n' (by omega) (by omega)
    have hl := WR_lt hv s
    rw [fc_hh_cause_l18]
    generalize fc_hh_cause_l18 τ K63 n' = K at IH ⊢
    rw [if_neg (show ¬ (500 : Int32) ≤ nI s by rw [show (500 : Int32) = nI 500 from rfl, pb_le (by omega) (by omega)]; omega), wr_ok hT hv (by omega), qbs, show cF (P0 v) (q + 1) s = if P0 v s = true then some s else cF (P0 v) q (s + 1) from rfl]
    unfold fc_hh_cause_b50 fc_hh_cause_b57
    by_cases c0 : WR v s = 0
    · rw [if_neg (pNN (pb_ez (by omega)) c0), if_pos (show P0 v s = true from decide_eq_true c0), if_neg (show ¬ ¬ (-3 : Int32) = (-3 : Int32) from fun z => z rfl), if_neg hx]
      rfl
    · rw [if_pos (pN (pb_ez (by omega)) c0), if_neg (show ¬ P0 v s = true from fun z => c0 (of_decide_eq_true z)), nI_a1]
      exact IH
theorem nI_mm3 {k : Nat} (hk : k < 2147483648) : ¬ nI k = (-3 : Int32) := by
  intro e
  have := congrArg Int32.toInt e
  rw [nI_toInt (by omega), show (-3 : Int32).toInt = -3 from by decide] at this
  omega
theorem st_cause (h : Inv τ σ) (x1 : Int32) : stp ((fc_hh_cause τ x1).bind fun r => some (r, τ)) (fm_cause x1 σ) := by
  obtain ⟨⟨v, pr, tt⟩, -⟩ := id h
  obtain ⟨t1, t2, t3, t4, t5, t6, t7⟩ := id tt
  unfold fc_hh_cause fm_cause
  rw [rg_within, ri_0_3, qbs, qbs]
  by_cases c1 : (0 : Int32) ≤ x1 ∧ x1 ≤ 3
  · simp only [if_pos c1, one0, not_false_eq_true, if_true]
    obtain ⟨σ2, f1, f2, f3, f4⟩ := ff_ok t1 t3 (hP0 t3)
    have hle := cN_le (P := P0 v) 500 0
    rw [f1, qbs]
    have I : Inv τ σ2 := Inv_same h tt f2.fr f2.z frC.rf rfl rfl t2
    by_cases c0 : x1 = 0
    · subst c0
      obtain ⟨y3, e⟩ := ca_l0 t2 t3 (fun x1 x2 x3 => (fc_hh_cause_b63 τ x1 x2 x3)) 500 0 hFU 0 (-3) rfl (by unfold hFU; omega)
      rw [show nI 0 = (0 : Int32) from rfl, Nat.zero_add] at e
      rw [e, if_pos rfl]
      unfold fc_hh_cause_b63 fm_cause_b30
      rw [if_neg (show ¬ ¬ (0 : Int32) = 0 from fun z => z rfl), if_neg (show ¬ ¬ (0 : Int32) = 0 from fun z => z rfl), qbs, f3]
      exact ⟨_, τ, σ2, rfl, rfl, I⟩
    · have e := ca_l1 t2 t3 (fun x1 x2 x3 => (fc_hh_cause_b63 τ x1 x2 x3)) c0 500 0 hFU rfl (by unfold hFU; omega)
      rw [show nI 0 = (0 : Int32) from rfl] at e
      rw [e, if_neg c0, f3]
      unfold fsF at f4
      cases hc : cF (P0 v) 500 0 with
      | none =>
        rw [hc] at f4
        rw [(cF_none 500 0 hc).1, if_neg (show ¬ ¬ nI 0 = 0 from fun z => z rfl)]
        show stp ((fc_hh_cause_b63 τ x1 0 (-3)).bind fun r => some (r, τ)) (fm_cause_b30 x1 σ2)
        unfold fc_hh_cause_b63 fm_cause_b30
        rw [if_pos c0, if_pos c0, if_neg (show ¬ ¬ (-3 : Int32) = (-3 : Int32) from fun z => z rfl), qbs]
        exact ⟨_, τ, σ2, rfl, rfl, I⟩
      | some t =>
        rw [hc] at f4
        obtain ⟨a1, a2, a3, a4⟩ := cF_some 500 0 t hc
        rw [if_pos (show ¬ nI (cN (P0 v) 500 0) = 0 by rw [pb_ez (by omega)]; omega)]
        show stp ((fc_hh_cause_b63 τ x1 (nI 1) (nI t)).bind fun r => some (r, τ)) _
        unfold fc_hh_cause_b63 fc_hh_partOfStranger fc_hh_kindOfStranger fc_hh_giftOfStranger fc_hh_moodOfStranger
        rw [if_pos c0, if_pos (nI_mm3 (by omega)), show σ2 25 0 = nI (100 + t) from f4, show (100 : Int32) = nI 100 from rfl, show (10 : Int32) = nI 10 from rfl]
        simp only [qbs]
        rw [pb_div (show t < 2147483648 by omega) (by decide) (by decide), pb_div (show t < 2147483648 by omega) (by decide) (by decide), pb_div (show 100 + t < 2147483648 by omega) (by decide) (by decide), pb_div (show 100 + t < 2147483648 by omega) (by decide) (by decide), pb_rem (by omega) (by decide) (by decide), pb_rem (by omega) (by decide) (by decide), pb_rem (by omega) (by decide) (by decide), pb_rem (by omega) (by decide) (by decide), show (1 : Int32) + nI (t / 100) = nI (1 + t / 100) from pb_add 1 _, show (100 + t) / 100 = 1 + t / 100 by omega, show (100 + t) / 10 % 10 = t / 10 % 10 by omega, show (100 + t) % 10 = t % 10 by omega]
        by_cases d1 : x1 = 1
        · rw [if_pos d1, if_neg (fun z => z d1), qbs, qbs]
          exact ⟨_, τ, σ2, rfl, rfl, I⟩
        · rw [if_neg d1, if_pos d1]
          by_cases d2 : x1 = 2
          · rw [if_pos d2, if_neg (fun z => z d2), qbs, qbs]
            exact ⟨_, τ, σ2, rfl, rfl, I⟩
          · rw [if_neg d2, if_pos d2, qbs, qbs]
            exact ⟨_, τ, σ2, rfl, rfl, I⟩
  · simp only [if_neg c1, zer0, not_true_eq_false, if_false, qbs]
    exact ⟨_, τ, σ, rfl, rfl, h⟩
end CL
