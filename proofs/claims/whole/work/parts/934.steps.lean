/-! PURE: steps of state, many, forget, trace, row, alterRow -/
theorem rg_lt0 {x : Int32} : (¬ x < 0) = (0 ≤ x) := rg_nlt
theorem rg_nle {x y : Int32} : (¬ x ≤ y) = (y < x) := propext (by rw [Int32.lt_iff_toInt_lt, Int32.le_iff_toInt_le]; omega)
theorem rg_upto (x : Int32) {n : Nat} (hn : n < 1073741824) : fm_isIn (Int32.toInt64 x) (0 : Int64) (Int32.toInt64 (nI n - (1 : Int32))) = some (if 0 ≤ x ∧ x < nI n then 1 else 0) := by
  rw [show (0 : Int64) = Int32.toInt64 0 from rfl, rg_isIn]
  congr 1
  have e : (x ≤ nI n - (1 : Int32)) = (x < nI n) := by
    rw [show (1 : Int32) = nI 1 from rfl]
    refine propext ?_
    rw [Int32.lt_iff_toInt_lt, Int32.le_iff_toInt_le, pk_sub_toInt (by omega) (by omega), nI_toInt (by omega)]
    omega
  simp only [e]
theorem rg_two {α : Type} (x : Int32) (n : Nat) (A B : α) : (if x < 0 then A else if nI n ≤ x then A else B) = if 0 ≤ x ∧ x < nI n then B else A := by
  by_cases h1 : x < 0
  · rw [if_pos h1, if_neg (fun z => by have := z.1; rw [← rg_lt0] at this; exact this h1)]
  · rw [if_neg h1]
    by_cases h2 : nI n ≤ x
    · rw [if_pos h2, if_neg (fun z => by have := z.2; rw [← rg_nle] at this; exact this h2)]
    · rw [if_neg h2, if_pos ⟨rg_lt0 ▸ h1, rg_nle ▸ h2⟩]
section S2
variable {τ : SC} {σ : SM} {v : VT} {pr : List RU}
theorem vW64 (hv : vOK v) : v 7 0 < 64 ∧ v 8 0 < 64 := by
  have h : 2 ^ v 13 0 ≤ 2 ^ 6 := Nat.pow_le_pow_right (by decide) hv.1
  exact ⟨Nat.lt_of_lt_of_le hv.2.2.2.2.2.2.1 h, Nat.lt_of_lt_of_le hv.2.2.2.2.2.2.2.1 h⟩
theorem th_fin : ∀ w, w < 64 → ∀ k, k < 6 → (nI (w % 2 ^ k)) ||| (nI (vbit w k) <<< (nI k &&& 31)) = nI (w % 2 ^ (k + 1)) := by decide +kernel
theorem em_those_l (hT : twM (σ 0) v pr) (hv : vOK v) {i w : Nat} (hw : w < 64) (hi : ∀ o, o < v 13 0 → fm_its σ (nI o) (nI i) = some (nI (vbit w o))) : ∀ m k n, k + m = v 13 0 → m < n → fm_those_l4 σ n (nI i) (nI (w % 2 ^ k)) (nI k) = some (nI (w % 2 ^ v 13 0)) := by
  have h0 := hv.1
  intro m
  induction m with
  | zero =>
    intro k n hk hn
    obtain ⟨q, rfl⟩ : ∃ q, n = q + 1 := ⟨n - 1, by omega⟩
    unfold fm_those_l4
    rw [hT.1, if_pos (show nI (v 13 0) ≤ nI k by rw [pb_le (by omega) (by omega)]; omega), show k = v 13 0 by omega]
  | succ m ih =>
    intro k n hk hn
    obtain ⟨q, rfl⟩ : ∃ q, n = q + 1 := ⟨n - 1, by omega⟩
    have IH := ih (k + 1) q (by omega) (by omega)
    unfold fm_those_l4
    rw [hT.1, if_neg (show ¬ nI (v 13 0) ≤ nI k by rw [pb_le (by omega) (by omega)]; omega), hi k (by omega), pb_bs, pb_hl, th_fin w hw k (by omega), show (1 : Int32) = nI 1 from rfl, pb_add]
    exact IH
theorem em_those4 (hT : twM (σ 0) v pr) (hv : vOK v) : fm_those σ (4 : Int32) = some (nI (v 7 0)) := by
  have h0 := hv.1
  have h := em_those_l hT hv (i := 4) (vW64 hv).1 (fun o ho => em_its4 hT ho hv) (v 13 0) 0 hFU (by omega) (by unfold hFU; omega)
  rw [Nat.mod_eq_of_lt hv.2.2.2.2.2.2.1, show v 7 0 % 2 ^ 0 = 0 by rw [Nat.pow_zero, Nat.mod_one]] at h
  exact h
theorem em_those5 (hT : twM (σ 0) v pr) (hv : vOK v) : fm_those σ (5 : Int32) = some (nI (v 8 0)) := by
  have h0 := hv.1
  have h := em_those_l hT hv (i := 5) (vW64 hv).2 (fun o ho => em_its5 hT ho hv) (v 13 0) 0 hFU (by omega) (by unfold hFU; omega)
  rw [Nat.mod_eq_of_lt hv.2.2.2.2.2.2.2.1, show v 8 0 % 2 ^ 0 = 0 by rw [Nat.pow_zero, Nat.mod_one]] at h
  exact h
theorem em_done (hT : twM (σ 0) v pr) (hv : vOK v) : fm_doneOnes σ = some (nI (v 8 0)) := by
  unfold fm_doneOnes
  rw [em_those5 hT hv]
  rfl
theorem sz_fin : ∀ w, w < 64 → fm_size (nI w) = fc_j6_bitCount_0f7a4 (nI w) ∧ (fm_size (nI w)).isSome = true := by decide +kernel
theorem em_over (hT : twM (σ 0) v pr) (hv : vOK v) : fm_isOver σ = some (if v 2 0 < v 3 0 then 0 else 1) := by
  have h1 := hv.2.1
  have h2 := hv.2.2.2.1
  unfold fm_isOver
  rw [hT.2.1, hT.2.2.1]
  simp (disch := omega) only [pb_lt]
  split <;> rfl
theorem ec_over (hT : twC τ 100 v pr) (hv : vOK v) : fc_to_isOver τ = some (if v 2 0 < v 3 0 then 0 else 1) := by
  have h1 := hv.2.1
  have h2 := hv.2.2.2.1
  unfold fc_to_isOver
  rw [show τ.1 102 0 = _ from hT.2.1, show τ.1 103 0 = _ from hT.2.2.1]
  simp (disch := omega) only [pb_lt]
  split <;> rfl
theorem st_state (h : Inv τ σ) (x1 : Int32) : st1 (fc_hh_state τ x1) (fm_state σ x1) := by
  obtain ⟨⟨v, pr, t1, t2, t3, t4, t5, t6, t7⟩, -⟩ := id h
  have b1 := t3.2.1
  have b2 := t3.2.2.2.1
  unfold fc_hh_state fm_state
  rw [em_over t1 t3, ec_over t2 t3, em_those4 t1 t3, em_done t1 t3]
  rw [show τ.1 102 0 = _ from t2.2.1, show τ.1 103 0 = _ from t2.2.2.1, show τ.1 104 0 = _ from t6, show τ.1 105 0 = _ from t2.2.2.2.1, show τ.1 106 0 = _ from t2.2.2.2.2.1, show τ.1 107 0 = _ from t2.2.2.2.2.2.1, show τ.1 108 0 = _ from t2.2.2.2.2.2.2.1, t1.2.1, t1.2.2.2.1, t1.2.2.2.2.1]
  by_cases c0 : x1 = 0
  · subst c0
    exact ⟨_, rfl, congrArg some t1.2.1⟩
  simp only [if_neg c0]
  by_cases c1 : x1 = 1
  · subst c1
    exact ⟨_, rfl, congrArg some t1.2.2.1⟩
  simp only [if_neg c1]
  by_cases c2 : x1 = 2
  · subst c2
    exact ⟨_, rfl, rfl⟩
  simp only [if_neg c2]
  by_cases c3 : x1 = 3
  · simp only [if_pos c3]
    by_cases e : v 2 0 < v 3 0
    · rw [if_pos e]
      exact ⟨_, rfl, rfl⟩
    · rw [if_neg e]
      exact ⟨_, rfl, rfl⟩
  simp only [if_neg c3]
  by_cases c4 : x1 = 4
  · subst c4
    exact ⟨_, rfl, rfl⟩
  simp only [if_neg c4]
  by_cases c5 : x1 = 5
  · subst c5
    exact ⟨_, rfl, rfl⟩
  simp only [if_neg c5]
  by_cases c6 : x1 = 6
  · simp only [if_pos c6]
    by_cases e : 16 ≤ v 2 0
    · simp only [if_pos (show (16 : Int32) ≤ nI (v 2 0) by rw [show (16 : Int32) = nI 16 from rfl, pb_le (by decide) (by omega)]; exact e)]
      exact ⟨_, rfl, rfl⟩
    · simp only [if_neg (show ¬ (16 : Int32) ≤ nI (v 2 0) by rw [show (16 : Int32) = nI 16 from rfl, pb_le (by decide) (by omega)]; exact e)]
      simp (disch := omega) only [show (58 : Int32) = nI 58 from rfl, pb_add, pb_in, pb_oc, pb_cl]
      rw [show τ.1 110 (v 2 0) = _ from t2.2.2.2.2.2.2.2.2.2.1 (v 2 0) (by omega), t1.2.2.2.2.2.2.2.1 (v 2 0) (by omega)]
      exact ⟨_, rfl, rfl⟩
  simp only [if_neg c6]
  by_cases c7 : x1 = 7
  · subst c7
    exact ⟨_, rfl, rfl⟩
  simp only [if_neg c7]
  by_cases c8 : x1 = 8
  · subst c8
    exact ⟨_, rfl, rfl⟩
  simp only [if_neg c8]
  exact ⟨_, rfl, rfl⟩
theorem st_many (h : Inv τ σ) (x1 : Int32) : st1 (fc_hh_many τ x1) (fm_many σ x1) := by
  obtain ⟨⟨v, pr, t1, t2, t3, t4, t5, t6, t7⟩, -, ⟨n5, -, a5, b5, -⟩, ⟨n4, -, a4, b4, -⟩, -, -, ⟨n6, -, a6, b6, -⟩⟩ := id h
  unfold fc_hh_many fm_many
  rw [em_done t1 t3, show τ.1 113 0 = _ from t2.1, show τ.1 120 0 = _ from t2.2.2.2.2.2.2.2.2.2.2.2.2.1, show τ.1 108 0 = _ from t2.2.2.2.2.2.2.1, show τ.1 118 0 = _ from t2.2.2.2.2.2.2.2.2.2.2.1, t1.1, t1.2.2.2.2.2.2.2.2.1, t1.2.2.2.2.2.2.2.2.2.2.1, a5, b5, a4, b4, a6, b6, pb_bs]
  obtain ⟨s1, s2⟩ := sz_fin _ (vW64 t3).2
  obtain ⟨z, hz⟩ := Option.isSome_iff_exists.mp s2
  rw [← s1, hz]
  by_cases c0 : x1 = 0
  · subst c0
    exact ⟨_, rfl, rfl⟩
  simp only [if_neg c0]
  by_cases c1 : x1 = 1
  · subst c1
    exact ⟨_, rfl, rfl⟩
  simp only [if_neg c1]
  by_cases c2 : x1 = 2
  · subst c2
    exact ⟨_, rfl, rfl⟩
  simp only [if_neg c2]
  by_cases c3 : x1 = 3
  · subst c3
    exact ⟨_, rfl, rfl⟩
  simp only [if_neg c3]
  by_cases c4 : x1 = 4
  · subst c4
    exact ⟨_, rfl, rfl⟩
  simp only [if_neg c4]
  by_cases c5 : x1 = 5
  · subst c5
    exact ⟨_, rfl, rfl⟩
  simp only [if_neg c5]
  by_cases c6 : x1 = 6
  · subst c6
    exact ⟨_, rfl, rfl⟩
  simp only [if_neg c6]
  exact ⟨_, rfl, rfl⟩
theorem tc_reports0 (h : twC τ 100 v pr) (x : Nat) (hx : x = 0) : twC (sc τ 118 (fun _ => nI x)) 100 (vs v 18 x) pr := by
  obtain ⟨h1, h2, h3, h4, h5, h6, h7, h8, h9, h10, h11, h12, h13, h14⟩ := h
  exact ⟨h1, h2, h3, h4, h5, h6, h7, h8, h9, h10, rfl, fun r hr => absurd (show r < x from hr) (by omega), h13, h14⟩
theorem vOK_reports0 (h : vOK v) : vOK (vs v 18 0) := ⟨h.1, h.2.1, h.2.2.1, h.2.2.2.1, h.2.2.2.2.1, h.2.2.2.2.2.1, h.2.2.2.2.2.2.1, h.2.2.2.2.2.2.2.1, h.2.2.2.2.2.2.2.2.1, h.2.2.2.2.2.2.2.2.2.1, h.2.2.2.2.2.2.2.2.2.2.1, Nat.zero_le _, fun r hr => absurd (show r < 0 from hr) (by omega)⟩
theorem st_forget (h : Inv τ σ) : stp (fc_hh_forget τ) (fm_forget σ) := by
  obtain ⟨⟨v, pr, t1, t2, t3, t4, t5, t6, t7⟩, -⟩ := id h
  unfold fc_hh_forget fm_forget
  rw [show (6 : Int32) = nI 6 from rfl, em_becomes (by omega)]
  simp only [pb_bs, pb_hl]
  rw [show τ.1 118 0 = _ from t2.2.2.2.2.2.2.2.2.2.2.1, t1.2.2.2.2.2.2.2.2.1]
  exact ⟨_, _, _, rfl, rfl, Inv_fr h frM_0 (frC_sc (by unfold rlC; omega)) ⟨vs v 18 0, pr, tw_reports0 t1 0 rfl, tc_reports0 t2 0 rfl, vOK_reports0 t3, t4, t5, t6, t7⟩⟩
theorem st_trace (h : Inv τ σ) (x1 : Int32) : st1 (fc_hh_trace τ x1) (fm_trace σ x1) := by
  obtain ⟨-, -, -, -, -, -, ⟨n, hn, a, b, c⟩⟩ := id h
  unfold fc_hh_trace fm_trace
  rw [a, b, rg_two, rg_upto _ (by omega), pb_bs]
  by_cases e : 0 ≤ x1 ∧ x1 < nI n
  · simp only [if_pos e, one0, if_false]
    obtain ⟨k, hk, rfl⟩ := rg_one (by omega) e
    simp (disch := omega) only [pb_in, pb_oc, pb_cl]
    rw [c k hk]
    exact ⟨_, rfl, rfl⟩
  · simp only [if_neg e, zer0, if_true]
    exact ⟨_, rfl, rfl⟩
theorem em_isRow {n : Nat} (hn : n ≤ 4) (a : σ 27 0 = nI n) (x1 x2 : Int32) : fm_isRow σ x1 x2 = some (if (0 ≤ x1 ∧ x1 < nI n) ∧ ((0 : Int32) ≤ x2 ∧ x2 ≤ 2) then 1 else 0) := by
  unfold fm_isRow
  rw [a, rg_upto _ (by omega), ri_0_2, pb_bs, pb_bs]
  by_cases e : 0 ≤ x1 ∧ x1 < nI n
  · by_cases e2 : (0 : Int32) ≤ x2 ∧ x2 ≤ 2
    · simp only [e, e2, and_self, if_true]
      rfl
    · simp only [e, e2, and_false, and_self, if_true, if_false]
      rfl
  · simp only [e, false_and, if_false]
    rfl
theorem ec_isRow {n : Nat} (hn : n ≤ 4) (a : τ.1 9 0 = nI n) (x1 x2 : Int32) : fc_hh_isRowPart τ x1 x2 = some (if (0 ≤ x1 ∧ x1 < nI n) ∧ ((0 : Int32) ≤ x2 ∧ x2 ≤ 2) then 1 else 0) := by
  unfold fc_hh_isRowPart
  rw [a, rg_two, rg_within, pb_bs]
  by_cases e : 0 ≤ x1 ∧ x1 < nI n
  · by_cases e2 : (0 : Int32) ≤ x2 ∧ x2 ≤ 2
    · simp only [e, e2, and_self, if_true]
      rfl
    · simp only [e, e2, and_false, and_self, if_true, if_false]
  · simp only [e, false_and, if_false]
theorem st_row (h : Inv τ σ) (x1 x2 : Int32) : st1 (fc_hh_row τ x1 x2) (fm_row σ x1 x2) := by
  obtain ⟨-, -, -, ⟨n, hn, a, b, c⟩, -⟩ := id h
  unfold fc_hh_row fm_row
  rw [em_isRow hn a, ec_isRow hn b, pb_bs, pb_bs]
  by_cases e : (0 ≤ x1 ∧ x1 < nI n) ∧ ((0 : Int32) ≤ x2 ∧ x2 ≤ 2)
  · simp only [if_pos e, one0, if_false]
    obtain ⟨k, hk, rfl⟩ := rg_one (by omega) e.1
    obtain ⟨i, -, hi, rfl⟩ := rk_0_2 e.2
    rw [show (3 : Int32) = nI 3 from rfl, pb_mul, pb_mul, Nat.mul_comm k 3]
    simp (disch := omega) only [pb_add, pb_in, pb_oc, pb_cl]
    rw [c (3 * k + i) (by omega)]
    exact ⟨_, rfl, rfl⟩
  · simp only [if_neg e, zer0, if_true]
    exact ⟨_, rfl, rfl⟩
theorem frC_town {υ : SC} (h : ∀ k, 100 ≤ k → k < 125 → υ.1 k = τ.1 k) {f : Nat → Int32} (ht : ivTown τ 100 f v pr) : ivTown υ 100 f v pr := by
  obtain ⟨t1, t2, t3, t4, t5, t6, t7⟩ := ht
  exact ⟨t1, twC_cg (fun k a b => h k a (by omega)) t2, t3, t4, t5, (congrFun (h 104 (by omega) (by omega)) 0).trans t6, (congrFun (h 109 (by omega) (by omega)) 0).trans t7⟩
theorem st_alterRow (h : Inv τ σ) (x1 x2 x3 : Int32) : stp (fc_hh_alterRow x1 x2 x3 τ) (fm_alterRow x1 x2 x3 σ) := by
  obtain ⟨i1, i2, i3, ⟨n, hn, a, b, c⟩, i5, i6, i7⟩ := id h
  unfold fc_hh_alterRow fm_alterRow
  rw [em_isRow hn a, ec_isRow hn b, pb_bs, pb_bs]
  by_cases e : (0 ≤ x1 ∧ x1 < nI n) ∧ ((0 : Int32) ≤ x2 ∧ x2 ≤ 2)
  · simp only [if_pos e, one0, if_false, not_false_eq_true, if_true]
    obtain ⟨k, hk, rfl⟩ := rg_one (by omega) e.1
    obtain ⟨i, -, hi, rfl⟩ := rk_0_2 e.2
    rw [show (3 : Int32) = nI 3 from rfl, pb_mul, pb_mul, Nat.mul_comm k 3]
    simp (disch := omega) only [pb_add, pb_in, pb_oc, pb_cl, pb_hl, ec_repl_8, pb_bs]
    rw [c (3 * k + i) (by omega)]
    refine ⟨_, _, _, rfl, rfl, i1, i2, i3, ⟨n, hn, a, b, fun j hj => ?_⟩, i5, i6, i7⟩
    show upd (τ.1 8) (3 * k + i) x3 j = upd (σ 26) (3 * k + i) x3 j
    by_cases z : j = 3 * k + i
    · subst z
      rw [up_eq, up_eq]
    · rw [up_ne z, up_ne z]
      exact c j hj
  · simp only [if_neg e, zer0, if_true, not_true_eq_false, if_false]
    exact ⟨_, τ, σ, rfl, rfl, h⟩
end S2
