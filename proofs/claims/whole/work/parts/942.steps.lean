/-! PURE: step of taken -/
section S10
variable {τ : SC} {σ : SM} {f : Nat → Int32} {v : VT} {pr : List RU} {o : Nat}
/-- a shelf as the class and the reference see it: 0 nothing, 1 a guild k, 2 a row -/
theorem shelf_see (h : Inv τ σ) {t : Nat} (ht : t < 4) : (fm_heldOn σ (nI t) = some 0 ∧ fc_hh_holdsGuild τ (nI t) = some 0 ∧ ¬ τ.1 13 t = 2) ∨ (∃ v pr k, ivTown τ 100 (σ 0) v pr ∧ k < v 13 0 ∧ fm_heldOn σ (nI t) = some 1 ∧ fc_hh_holdsGuild τ (nI t) = some 1 ∧ τ.1 13 t = 1 ∧ σ 32 t = nI k ∧ τ.1 15 t = nI k) ∨ (∃ k z, k ≤ 4 ∧ z ≤ 40 ∧ fm_heldOn σ (nI t) = some 2 ∧ fc_hh_holdsGuild τ (nI t) = some 0 ∧ τ.1 13 t = 2 ∧ σ 32 t = nI k ∧ τ.1 14 t = nI k ∧ σ 33 t = nI z ∧ τ.1 15 t = nI z) := by
  obtain ⟨⟨v, pr, tt⟩, i2, i3, i4, i5, i6, i7⟩ := h
  obtain ⟨t1, t2, t3, -⟩ := id tt
  have b6 := t3.1
  obtain ⟨a1, a2⟩ := i6 t ht
  unfold fm_heldOn fc_hh_holdsGuild
  simp (disch := omega) only [pb_in, pb_oc, pb_cl]
  rw [a1]
  rcases a2 with a2 | ⟨a2, k, hk, a3, a4⟩ | ⟨a2, k, z, hk, hz, a3, a4, a5, a6⟩
  · left
    rw [a2]
    exact ⟨rfl, rfl, by decide⟩
  · rw [a2, a3, a4, rg_has τ (by omega) t2.1, rg_isOne σ (by omega) t1.1]
    by_cases c : k < v 13 0
    · right
      left
      have c' : 0 ≤ nI k ∧ nI k < nI (v 13 0) := ⟨nI_pos' (by omega), by rw [pb_lt (by omega) (by omega)]; exact c⟩
      rw [if_pos c']
      exact ⟨v, pr, k, tt, c, rfl, rfl, rfl, rfl, rfl⟩
    · left
      have c' : ¬ (0 ≤ nI k ∧ nI k < nI (v 13 0)) := fun z => c (by have := z.2; rw [pb_lt (by omega) (by omega)] at this; exact this)
      rw [if_neg c']
      exact ⟨rfl, rfl, by decide⟩
  · right
    right
    rw [a2]
    exact ⟨k, z, hk, hz, rfl, rfl, rfl, a3, a4, a5, a6⟩
theorem st_taken (h : Inv τ σ) (x1 x2 : Int32) : st1 (fc_hh_taken τ x1 x2) (fm_taken σ x1 x2) := by
  unfold fc_hh_taken fm_taken fc_hh_taken_b22 fc_hh_taken_b23
  rw [rg_isShelf, ri_0_14, ri_6_9, rg_within, rg_within, pb_bs, pb_bs]
  by_cases c1 : (0 : Int32) ≤ x1 ∧ x1 ≤ 3
  · obtain ⟨t, -, ht, rfl⟩ := rk_0_3 c1
    simp only [if_pos c1, pb_bs, one0, zer0, if_false, not_true_eq_false, not_false_eq_true, if_true]
    have S := shelf_see h (show t < 4 by omega)
    by_cases c2 : (0 : Int32) ≤ x2 ∧ x2 ≤ 14
    · simp only [if_pos c2, one0, if_false]
      obtain ⟨w, -, hw, rfl⟩ := rk_0_14 c2
      by_cases c3 : w ≤ 5
      · -- as a thing
        rw [if_pos (show (0 : Int32) ≤ nI w ∧ nI w ≤ 5 from ⟨nI_pos' (by omega), nI_le c3 (by decide)⟩), if_neg (show ¬ ((6 : Int32) ≤ nI w ∧ nI w ≤ 9) from fun z => by have := z.1; rw [show (6 : Int32) = nI 6 from rfl, pb_le (by omega) (by omega)] at this; omega), if_pos (show nI w < (10 : Int32) by rw [show (10 : Int32) = nI 10 from rfl, pb_lt (by omega) (by omega)]; omega)]
        simp only [one0, zer0, not_false_eq_true, if_true]
        unfold fc_hh_taken_b44 fc_hh_taken_b119 fc_hh_taken_b76 fc_hh_taken_b77 fc_hh_taken_b120 fc_hh_taken_b128
        simp (disch := omega) only [pb_in, pb_oc, pb_cl]
        simp only [if_neg (show ¬ (10 : Int32) ≤ nI w by rw [show (10 : Int32) = nI 10 from rfl, pb_le (by omega) (by omega)]; omega), if_true, one0, if_false]
        rcases S with ⟨s1, s2, s3⟩ | ⟨v, pr, k, tt, hk, s1, s2, s3, s4, s5⟩ | ⟨k, z, hk, hz, s1, s2, s3, s4, s5, s6, s7⟩
        · rw [s1, s2, if_pos s3]
          exact ⟨_, rfl, rfl⟩
        · obtain ⟨t1, t2, t3, -⟩ := tt
          have b6 := t3.1
          have bk := t3.2.2.2.2.2.2.2.2.1 k hk
          rw [s1, s2, s3, s4, s5]
          simp (disch := omega) only [pb_bs, pb_in, pb_oc, pb_cl]
          rw [em_its0 t1 hk t3, show τ.1 114 k = _ from (t2.2.2.2.2.2.2.2.1 k hk).1, pb_bs, em_under _ (by omega) _ (by omega), ec_under _ (by omega) _ (by omega)]
          by_cases c4 : vunder (v 14 k) w = true
          · rw [if_pos c4]
            exact ⟨_, rfl, rfl⟩
          · rw [if_neg c4]
            exact ⟨_, rfl, rfl⟩
        · rw [s1, s2, s3]
          exact ⟨_, rfl, rfl⟩
      · by_cases c4 : w ≤ 9
        · rw [if_neg (show ¬ ((0 : Int32) ≤ nI w ∧ nI w ≤ 5) from fun z => by have := z.2; rw [show (5 : Int32) = nI 5 from rfl, pb_le (by omega) (by omega)] at this; omega), if_pos (show ((6 : Int32) ≤ nI w ∧ nI w ≤ 9) from rn_6_9 (by omega) c4), if_pos (show nI w < (10 : Int32) by rw [show (10 : Int32) = nI 10 from rfl, pb_lt (by omega) (by omega)]; omega)]
          exact ⟨_, rfl, rfl⟩
        · -- as a row
          rw [if_neg (show ¬ ((0 : Int32) ≤ nI w ∧ nI w ≤ 5) from fun z => by have := z.2; rw [show (5 : Int32) = nI 5 from rfl, pb_le (by omega) (by omega)] at this; omega), if_neg (show ¬ ((6 : Int32) ≤ nI w ∧ nI w ≤ 9) from fun z => by have := z.2; rw [show (9 : Int32) = nI 9 from rfl, pb_le (by omega) (by omega)] at this; omega), if_neg (show ¬ nI w < (10 : Int32) by rw [show (10 : Int32) = nI 10 from rfl, pb_lt (by omega) (by omega)]; omega), if_neg (show ¬ (15 : Int32) ≤ nI w by rw [show (15 : Int32) = nI 15 from rfl, pb_le (by omega) (by omega)]; omega)]
          simp only [one0, zer0, not_false_eq_true, not_true_eq_false, if_true, if_false]
          unfold fc_hh_taken_b44 fc_hh_taken_b119 fc_hh_taken_b76 fc_hh_taken_b77 fc_hh_taken_b120 fc_hh_taken_b128
          simp (disch := omega) only [pb_in, pb_oc, pb_cl]
          simp only [if_pos (show (10 : Int32) ≤ nI w by rw [show (10 : Int32) = nI 10 from rfl, pb_le (by omega) (by omega)]; omega), if_true, one0, if_false]
          rcases S with ⟨s1, s2, s3⟩ | ⟨v, pr, k, tt, hk, s1, s2, s3, s4, s5⟩ | ⟨k, z, hk, hz, s1, s2, s3, s4, s5, s6, s7⟩
          · rw [s1, s2, if_pos s3]
            exact ⟨_, rfl, rfl⟩
          · rw [s1, s2, s3]
            exact ⟨_, rfl, rfl⟩
          · rw [s1, s2, s3, s4, s5, s6, s7, show (10 : Int32) = nI 10 from rfl, pb_sub (by omega)]
            simp only [pb_bs, show ((2 : Int32) = 0) = False by decide, not_true_eq_false, not_false_eq_true, if_true, if_false, one0, zer0]
            by_cases c5 : k = w - 10
            · rw [c5]
              simp only [not_true_eq_false, if_false]
              exact ⟨_, rfl, rfl⟩
            · simp only [show (nI k = nI (w - 10)) = False by rw [pb_eq (by omega) (by omega)]; simp [c5], not_false_eq_true, if_true]
              exact ⟨_, rfl, rfl⟩
    · have d1 : ¬ ((0 : Int32) ≤ x2 ∧ x2 ≤ 5) := fun z => c2 ⟨z.1, Int32.le_trans z.2 (by decide)⟩
      simp only [if_neg c2, if_neg d1, zer0, not_true_eq_false, if_false, if_true]
      by_cases d2 : x2 < 10
      · rw [if_pos d2]
        exact ⟨_, rfl, rfl⟩
      · have d3 : (15 : Int32) ≤ x2 := by
          rw [show (15 : Int32) = nI (14 + 1) from rfl]
          by_cases d4 : nI (14 + 1) ≤ x2
          · exact d4
          · rw [rg_nle, le_lt10 (by decide)] at d4
            rw [rg_nlt] at d2
            exact absurd ⟨Int32.le_trans (by decide) d2, d4⟩ c2
        rw [if_neg d2, if_pos d3]
        exact ⟨_, rfl, rfl⟩
  · simp only [if_neg c1, pb_bs, zer0, if_true, ite_self]
    exact ⟨_, rfl, rfl⟩
end S10
