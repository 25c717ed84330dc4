/-! PURE: steps of shelf, taken -/
section S9
variable {τ : SC} {σ : SM} {f : Nat → Int32} {v : VT} {pr : List RU} {o : Nat}
theorem ec_put3 {t : Nat} (ht : t < 4) (a b c : Int32) : fc_hh_put (nI t) a b c τ = some ((1 : Int32), sc (sc (sc τ 13 (upd (τ.1 13) t a)) 14 (upd (τ.1 14) t b)) 15 (upd (τ.1 15) t c)) := by
  unfold fc_hh_put
  simp (disch := omega) only [pb_in, pb_oc, pb_cl, pb_hl, sc_ne]
theorem iv_put (h : Inv τ σ) {t : Nat} (ht : t < 4) (a b c p q : Int32) (hh : a = 0 ∨ (a = 1 ∧ ∃ k, k < 6 ∧ p = nI k ∧ c = nI k) ∨ (a = 2 ∧ ∃ k z, k ≤ 4 ∧ z ≤ 40 ∧ p = nI k ∧ b = nI k ∧ q = nI z ∧ c = nI z)) : Inv (sc (sc (sc τ 13 (upd (τ.1 13) t a)) 14 (upd (τ.1 14) t b)) 15 (upd (τ.1 15) t c)) (sf (sf (sf σ 31 (upd (σ 31) t a)) 32 (upd (σ 32) t p)) 33 (upd (σ 33) t q)) := by
  obtain ⟨i1, i2, i3, i4, i5, i6, i7⟩ := h
  refine ⟨i1, i2, i3, i4, i5, fun j hj => ?_, i7⟩
  show upd (τ.1 13) t a j = upd (σ 31) t a j ∧ (upd (σ 31) t a j = 0 ∨ (upd (σ 31) t a j = 1 ∧ ∃ k, k < 6 ∧ upd (σ 32) t p j = nI k ∧ upd (τ.1 15) t c j = nI k) ∨ (upd (σ 31) t a j = 2 ∧ ∃ k z, k ≤ 4 ∧ z ≤ 40 ∧ upd (σ 32) t p j = nI k ∧ upd (τ.1 14) t b j = nI k ∧ upd (σ 33) t q j = nI z ∧ upd (τ.1 15) t c j = nI z))
  by_cases e : j = t
  · subst e
    simp only [up_eq]
    exact ⟨trivial, hh⟩
  · simp only [up_ne e]
    exact i6 j hj
theorem em_b118 {t : Nat} (ht : t < 4) (x3 : Int32) (a p : Int32) : fm_shelf_b118 (nI t) x3 (0 : Int32) p (nI t) (sf σ 31 (upd (σ 31) t a)) = some ((1 : Int32), sf (sf (sf σ 31 (upd (σ 31) t a)) 32 (upd (σ 32) t p)) 33 (upd (σ 33) t 0)) := by
  unfold fm_shelf_b118
  simp (disch := omega) only [pb_in, pb_oc, pb_cl, pb_hl]
  rfl
theorem em_b118s {t s : Nat} (ht : t < 4) (hs : s < 4) (a p : Int32) : fm_shelf_b118 (nI t) (nI s) (1 : Int32) p (nI t) (sf σ 31 (upd (σ 31) t a)) = some ((1 : Int32), sf (sf (sf σ 31 (upd (σ 31) t a)) 32 (upd (σ 32) t p)) 33 (upd (σ 33) t (σ 29 s))) := by
  unfold fm_shelf_b118
  simp (disch := omega) only [pb_in, pb_oc, pb_cl, pb_hl]
  rfl
theorem st_shelf (h : Inv τ σ) (x1 x2 x3 : Int32) : stp (fc_hh_shelf x1 x2 x3 τ) (fm_shelf x1 x2 x3 σ) := by
  obtain ⟨⟨v, pr, t1, t2, t3, -⟩, i2, i3, i4, i5, i6, i7⟩ := id h
  have b6 := t3.1
  unfold fc_hh_shelf fm_shelf
  rw [rg_within, rg_within, rg_isShelf, ri_0_2, rg_has τ (by omega) t2.1, rg_isOne σ (by omega) t1.1]
  by_cases c1 : (0 : Int32) ≤ x1 ∧ x1 ≤ 3
  · obtain ⟨t, -, ht, rfl⟩ := rk_0_3 c1
    by_cases c2 : (0 : Int32) ≤ x2 ∧ x2 ≤ 2
    · simp only [if_pos c1, if_pos c2, pb_bs, one0, if_false, not_false_eq_true, if_true]
      obtain ⟨w, -, hw, rfl⟩ := rk_0_2 c2
      rcases (show w = 0 ∨ w = 1 ∨ w = 2 by omega) with rfl | rfl | rfl
      · simp only [show (nI 0 = 0) = True by decide, not_true_eq_false, if_false]
        by_cases c3 : 0 ≤ x3 ∧ x3 < nI (v 13 0)
        · simp only [if_pos c3, one0, if_false]
          obtain ⟨k, hk, rfl⟩ := rg_one (by omega) c3
          rw [ec_put3 (by omega)]
          unfold fm_shelf_b31 fm_shelf_b45 fm_shelf_b63 fm_shelf_b64 fm_shelf_b89
          simp (disch := omega) only [show (nI 0 = 0) = True by decide, show (nI 0 = (1 : Int32)) = False by decide, not_true_eq_false, not_false_eq_true, if_true, if_false, pb_in, pb_oc, pb_cl, pb_hl, em_b118]
          exact ⟨_, _, _, rfl, rfl, iv_put h (by omega) _ _ _ _ _ (Or.inr (Or.inl ⟨rfl, k, by omega, rfl, rfl⟩))⟩
        · simp only [if_neg c3, zer0, if_true]
          exact ⟨_, τ, σ, rfl, rfl, h⟩
      · simp only [show (nI 1 = 0) = False by decide, show (nI 1 = (2 : Int32)) = False by decide, not_false_eq_true, if_true]
        rw [rg_within, pb_bs]
        unfold fm_shelf_b31 fm_shelf_b45
        rw [rg_isSheet, pb_bs]
        simp only [show (nI 1 = (1 : Int32)) = True by decide, not_true_eq_false, if_false]
        by_cases c3 : (0 : Int32) ≤ x3 ∧ x3 ≤ 3
        · simp only [if_pos c3, one0, not_false_eq_true, if_true]
          obtain ⟨s, -, hs, rfl⟩ := rk_0_3 c3
          simp (disch := omega) only [pb_in, pb_oc, pb_cl]
          obtain ⟨a1, a2, ⟨z, hz, a3⟩, a4⟩ := i5 s (by omega)
          rw [a1, a2]
          unfold fm_shelf_b63 fm_shelf_b64 fm_shelf_b89
          rcases a4 with a4 | ⟨⟨k, hk, a4⟩, a5⟩
          · rw [a4]
            simp (disch := omega) only [ec_put3, show (nI 1 = 0) = False by decide, not_true_eq_false, not_false_eq_true, if_true, if_false, pb_in, pb_oc, pb_cl, pb_hl, em_b118, zer0, show ((-1 : Int32) < 0) = True by decide]
            exact ⟨_, _, _, rfl, rfl, iv_put h (by omega) _ _ _ _ _ (Or.inl rfl)⟩
          · rw [a4, ec_put3 (by omega), if_pos (nI_m1 (by omega)), if_neg (show ¬ nI k < 0 by rw [rg_lt0]; exact nI_pos' (by omega))]
            simp (disch := omega) only [show (nI 1 = 0) = False by decide, not_true_eq_false, not_false_eq_true, if_true, if_false, pb_in, pb_oc, pb_cl, pb_hl, em_b118s, one0]
            rw [show sf σ 31 (upd (σ 31) t 2) 28 s = σ 28 s from rfl, a4]
            exact ⟨_, _, _, rfl, rfl, iv_put h (by omega) _ _ _ _ _ (Or.inr (Or.inr ⟨rfl, k, z, hk, hz, rfl, rfl, a3, a3⟩))⟩
        · simp only [if_neg c3, zer0, not_true_eq_false, if_false]
          exact ⟨_, τ, σ, rfl, rfl, h⟩
      · simp only [show (nI 2 = 0) = False by decide, show (nI 2 = (2 : Int32)) = True by decide, not_false_eq_true, not_true_eq_false, if_true, if_false]
        rw [ec_put3 (by omega)]
        unfold fm_shelf_b31 fm_shelf_b45 fm_shelf_b63 fm_shelf_b64 fm_shelf_b89
        simp (disch := omega) only [show (nI 2 = 0) = False by decide, show (nI 2 = (1 : Int32)) = False by decide, not_true_eq_false, not_false_eq_true, if_true, if_false, pb_in, pb_oc, pb_cl, pb_hl, em_b118, zer0]
        exact ⟨_, _, _, rfl, rfl, iv_put h (by omega) _ _ _ _ _ (Or.inl rfl)⟩
    · simp only [if_pos c1, if_neg c2, pb_bs, one0, zer0, if_false, not_true_eq_false, if_true]
      exact ⟨_, τ, σ, rfl, rfl, h⟩
  · simp only [if_neg c1, pb_bs, zer0, if_true]
    exact ⟨_, τ, σ, rfl, rfl, h⟩
end S9
