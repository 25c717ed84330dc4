/-! PURE: steps of news, street, streetOf, heart, ends, remake, seed, forget, change -/
theorem one0 : ((1 : Int32) = 0) = False := by decide
theorem zer0 : ((0 : Int32) = 0) = True := by decide
theorem em_becomes {σ : SM} {k : Nat} (hk : k < 580) (y : Int32) : fm_becomes (nI k) y σ = some (σ 0 k, sf σ 0 (upd (σ 0) k y)) := by
  unfold fm_becomes
  simp (disch := omega) only [pb_in, pb_oc, pb_cl, pb_hl]
theorem ec_repl_110 {τ : SC} {k : Nat} (hk : k < 16) (y : Int32) : fc_hh_replaced_a110 (nI k) y τ = some (τ.1 110 k, sc τ 110 (upd (τ.1 110) k y)) := by
  unfold fc_hh_replaced_a110
  simp (disch := omega) only [pb_in, pb_oc, pb_cl, pb_hl]
theorem ec_repl_111 {τ : SC} {k : Nat} (hk : k < 6) (y : Int32) : fc_hh_replaced_a111 (nI k) y τ = some (τ.1 111 k, sc τ 111 (upd (τ.1 111) k y)) := by
  unfold fc_hh_replaced_a111
  simp (disch := omega) only [pb_in, pb_oc, pb_cl, pb_hl]
theorem ec_repl_112 {τ : SC} {k : Nat} (hk : k < 6) (y : Int32) : fc_hh_replaced_a112 (nI k) y τ = some (τ.1 112 k, sc τ 112 (upd (τ.1 112) k y)) := by
  unfold fc_hh_replaced_a112
  simp (disch := omega) only [pb_in, pb_oc, pb_cl, pb_hl]
theorem ec_repl_114 {τ : SC} {k : Nat} (hk : k < 6) (y : Int32) : fc_hh_replaced_a114 (nI k) y τ = some (τ.1 114 k, sc τ 114 (upd (τ.1 114) k y)) := by
  unfold fc_hh_replaced_a114
  simp (disch := omega) only [pb_in, pb_oc, pb_cl, pb_hl]
theorem ec_repl_115 {τ : SC} {k : Nat} (hk : k < 6) (y : Int32) : fc_hh_replaced_a115 (nI k) y τ = some (τ.1 115 k, sc τ 115 (upd (τ.1 115) k y)) := by
  unfold fc_hh_replaced_a115
  simp (disch := omega) only [pb_in, pb_oc, pb_cl, pb_hl]
theorem ec_repl_116 {τ : SC} {k : Nat} (hk : k < 6) (y : Int32) : fc_hh_replaced_a116 (nI k) y τ = some (τ.1 116 k, sc τ 116 (upd (τ.1 116) k y)) := by
  unfold fc_hh_replaced_a116
  simp (disch := omega) only [pb_in, pb_oc, pb_cl, pb_hl]
theorem ec_repl_117 {τ : SC} {k : Nat} (hk : k < 6) (y : Int32) : fc_hh_replaced_a117 (nI k) y τ = some (τ.1 117 k, sc τ 117 (upd (τ.1 117) k y)) := by
  unfold fc_hh_replaced_a117
  simp (disch := omega) only [pb_in, pb_oc, pb_cl, pb_hl]
theorem ec_repl_8 {τ : SC} {k : Nat} (hk : k < 12) (y : Int32) : fc_hh_replaced_a8 (nI k) y τ = some (τ.1 8 k, sc τ 8 (upd (τ.1 8) k y)) := by
  unfold fc_hh_replaced_a8
  simp (disch := omega) only [pb_in, pb_oc, pb_cl, pb_hl]
section S1
variable {τ : SC} {σ : SM}
theorem st_news (h : Inv τ σ) (x1 x2 : Int32) : stp (fc_hh_news x1 x2 τ) (fm_news x1 x2 σ) := by
  obtain ⟨⟨v, pr, t1, t2, t3, t4, t5, t6, t7⟩, -⟩ := id h
  unfold fc_hh_news fm_news
  rw [rg_within, ri_0_15, rg_within, ri_0_15]
  by_cases h1 : (0 : Int32) ≤ x1 ∧ x1 ≤ 15
  · by_cases h2 : (0 : Int32) ≤ x2 ∧ x2 ≤ 15
    · simp only [if_pos h1, if_pos h2, pb_bs, pb_hl, one0, zer0, not_false_eq_true, not_true_eq_false, if_true, if_false]
      obtain ⟨a, -, ha, rfl⟩ := rk_0_15 h1
      obtain ⟨b, -, hb, rfl⟩ := rk_0_15 h2
      rw [show (58 : Int32) = nI 58 from rfl, pb_add, ec_repl_110 (by omega), em_becomes (by omega)]
      simp only [pb_bs, pb_hl]
      have e1 : τ.1 110 a = nI (v 10 a) := t2.2.2.2.2.2.2.2.2.2.1 a (by omega)
      have e2 : σ 0 (58 + a) = nI (v 10 a) := t1.2.2.2.2.2.2.2.1 a (by omega)
      rw [e1, e2]
      exact ⟨_, _, _, rfl, rfl, Inv_fr h frM_0 (frC_sc (by unfold rlC; omega)) ⟨va v 10 a b, pr, tw_news t1 (by omega) t3.1 b, tc_news t2 b, vOK_news t3 hb, t4, t5, t6.trans (up_ne (by omega)).symm, t7.trans (up_ne (by omega)).symm⟩⟩
    · simp only [if_pos h1, if_neg h2, pb_bs, pb_hl, one0, zer0, not_false_eq_true, not_true_eq_false, if_true, if_false]
      exact ⟨_, τ, σ, rfl, rfl, h⟩
  · simp only [if_neg h1, pb_bs, pb_hl, one0, zer0, not_false_eq_true, not_true_eq_false, if_true, if_false]
    exact ⟨_, τ, σ, rfl, rfl, h⟩
theorem st_streetOf (h : Inv τ σ) (x1 x2 : Int32) : st1 (fc_hh_streetOf τ x1 x2) (fm_streetOf σ x1 x2) := by
  obtain ⟨⟨v, pr, t1, t2, t3, t4, t5, t6, t7⟩, -⟩ := id h
  unfold fc_hh_streetOf fm_streetOf
  rw [rg_within, rg_isStreet, rg_within, ri_0_1]
  by_cases h1 : (0 : Int32) ≤ x1 ∧ x1 ≤ 5
  · by_cases h2 : (0 : Int32) ≤ x2 ∧ x2 ≤ 1
    · simp only [if_pos h1, if_pos h2, pb_bs, pb_hl, one0, zer0, not_false_eq_true, not_true_eq_false, if_true, if_false]
      obtain ⟨a, -, ha, rfl⟩ := rg_nat (a := 0) (m := 5) (by decide) h1 (by decide)
      simp (disch := omega) only [show (52 : Int32) = nI 52 from rfl, show (46 : Int32) = nI 46 from rfl, pb_add, pb_in, pb_oc, pb_cl]
      have e1 : τ.1 111 a = nI (v 11 a) ∧ τ.1 112 a = nI (v 12 a) := t2.2.2.2.2.2.2.2.2.1 a (by omega)
      have e2 := t1.2.2.2.2.2.2.1 a (by omega)
      rw [e1.1, e1.2, e2.1, e2.2]
      by_cases h3 : x2 = 0
      · rw [if_neg (show ¬ ¬ x2 = 0 from fun z => z h3)]
        exact ⟨_, rfl, rfl⟩
      · rw [if_pos h3]
        exact ⟨_, rfl, rfl⟩
    · simp only [if_pos h1, if_neg h2, pb_bs, pb_hl, one0, zer0, not_false_eq_true, not_true_eq_false, if_true, if_false]
      exact ⟨_, rfl, rfl⟩
  · simp only [if_neg h1, pb_bs, pb_hl, one0, zer0, not_false_eq_true, not_true_eq_false, if_true, if_false]
    exact ⟨_, rfl, rfl⟩
theorem st_street (h : Inv τ σ) (x1 x2 x3 : Int32) : stp (fc_hh_street x1 x2 x3 τ) (fm_street x1 x2 x3 σ) := by
  obtain ⟨⟨v, pr, t1, t2, t3, t4, t5, t6, t7⟩, -⟩ := id h
  unfold fc_hh_street fm_street fc_hh_street_b36 fm_street_b33
  rw [rg_within, rg_isStreet, rg_within, rg_within, ri_0_1, ri_0_14, ri_0_9]
  by_cases h1 : (0 : Int32) ≤ x1 ∧ x1 ≤ 5
  · obtain ⟨a, -, ha, rfl⟩ := rg_nat (a := 0) (m := 5) (by decide) h1 (by decide)
    by_cases h2 : x2 = 0
    · subst h2
      have h20 : (0 : Int32) ≤ 0 ∧ (0 : Int32) ≤ 1 := by decide
      have n1 : ((0 : Int32) = 1) = False := by decide
      by_cases h3 : (0 : Int32) ≤ x3 ∧ x3 ≤ 9
      · simp only [if_pos h1, if_pos h20, if_pos h3, n1, pb_bs, pb_hl, one0, zer0, not_false_eq_true, not_true_eq_false, if_true, if_false]
        obtain ⟨b, -, hb, rfl⟩ := rk_0_9 h3
        rw [show (46 : Int32) = nI 46 from rfl, pb_add, ec_repl_111 (by omega), em_becomes (by omega)]
        simp only [pb_bs, pb_hl]
        have e1 : τ.1 111 a = nI (v 11 a) := (t2.2.2.2.2.2.2.2.2.1 a (by omega)).1
        have e2 : σ 0 (46 + a) = nI (v 11 a) := (t1.2.2.2.2.2.2.1 a (by omega)).1
        rw [e1, e2]
        exact ⟨_, _, _, rfl, rfl, Inv_fr h frM_0 (frC_sc (by unfold rlC; omega)) ⟨va v 11 a b, pr, tw_shift t1 (by omega) t3.1 b, tc_shift t2 b, vOK_shift t3 hb, t4, t5, t6.trans (up_ne (by omega)).symm, t7.trans (up_ne (by omega)).symm⟩⟩
      · simp only [if_pos h1, if_pos h20, if_neg h3, n1, pb_bs, pb_hl, one0, zer0, not_false_eq_true, not_true_eq_false, if_true, if_false]
        exact ⟨_, τ, σ, rfl, rfl, h⟩
    · by_cases h4 : x2 = 1
      · subst h4
        have h20 : (0 : Int32) ≤ 1 ∧ (1 : Int32) ≤ 1 := by decide
        by_cases h3 : (0 : Int32) ≤ x3 ∧ x3 ≤ 14
        · simp only [if_pos h1, if_pos h20, if_pos h3, pb_bs, pb_hl, one0, zer0, not_false_eq_true, not_true_eq_false, if_true, if_false]
          obtain ⟨b, -, hb, rfl⟩ := rk_0_14 h3
          rw [show (52 : Int32) = nI 52 from rfl, pb_add, ec_repl_112 (by omega), em_becomes (by omega)]
          simp only [pb_bs, pb_hl]
          have e1 : τ.1 112 a = nI (v 12 a) := (t2.2.2.2.2.2.2.2.2.1 a (by omega)).2
          have e2 : σ 0 (52 + a) = nI (v 12 a) := (t1.2.2.2.2.2.2.1 a (by omega)).2
          rw [e1, e2]
          exact ⟨_, _, _, rfl, rfl, Inv_fr h frM_0 (frC_sc (by unfold rlC; omega)) ⟨va v 12 a b, pr, tw_bear t1 (by omega) t3.1 b, tc_bear t2 b, vOK_bear t3 hb, t4, t5, t6.trans (up_ne (by omega)).symm, t7.trans (up_ne (by omega)).symm⟩⟩
        · simp only [if_pos h1, if_pos h20, if_neg h3, pb_bs, pb_hl, one0, zer0, not_false_eq_true, not_true_eq_false, if_true, if_false]
          exact ⟨_, τ, σ, rfl, rfl, h⟩
      · have h20 : ¬ ((0 : Int32) ≤ x2 ∧ x2 ≤ 1) := by
          intro z
          obtain ⟨k, -, hk, rfl⟩ := rk_0_1 z
          rcases (show k = 0 ∨ k = 1 by omega) with rfl | rfl
          · exact h2 rfl
          · exact h4 rfl
        simp only [if_pos h1, if_neg h20, h2, h4, pb_bs, pb_hl, one0, zer0, not_false_eq_true, not_true_eq_false, if_true, if_false]
        exact ⟨_, τ, σ, rfl, rfl, h⟩
  · simp only [if_neg h1, pb_bs, pb_hl, one0, zer0, not_false_eq_true, not_true_eq_false, if_true, if_false]
    exact ⟨_, τ, σ, rfl, rfl, h⟩
theorem st_heart (h : Inv τ σ) (x1 x2 : Int32) : stp (fc_hh_heart x1 x2 τ) (fm_heart x1 x2 σ) := by
  obtain ⟨⟨v, pr, t1, t2, t3, t4, t5, t6, t7⟩, -⟩ := id h
  unfold fc_hh_heart fm_heart fc_hh_heart_b32 fm_heart_b26
  rw [rg_within, rg_within, ri_0_1, ri_0_99, ri_0_9]
  by_cases h2 : x1 = 0
  · subst h2
    have h20 : (0 : Int32) ≤ 0 ∧ (0 : Int32) ≤ 1 := by decide
    have n1 : ((0 : Int32) = 1) = False := by decide
    by_cases h3 : (0 : Int32) ≤ x2 ∧ x2 ≤ 9
    · simp only [if_pos h20, if_pos h3, n1, pb_bs, pb_hl, one0, zer0, not_false_eq_true, not_true_eq_false, if_true, if_false]
      obtain ⟨b, -, hb, rfl⟩ := rk_0_9 h3
      rw [show (8 : Int32) + 0 = nI 8 from rfl, em_becomes (by omega)]
      simp only [pb_bs, pb_hl]
      have e1 : τ.1 105 0 = nI (v 5 0) := t2.2.2.2.1
      rw [e1, t1.2.2.2.1]
      exact ⟨_, _, _, rfl, rfl, Inv_fr h frM_0 (frC_sc (by unfold rlC; omega)) ⟨vs v 5 b, pr, tw_mood t1 b, tc_mood t2 b, vOK_mood t3 hb, t4, t5, t6, t7⟩⟩
    · simp only [if_pos h20, if_neg h3, n1, pb_bs, pb_hl, one0, zer0, not_false_eq_true, not_true_eq_false, if_true, if_false]
      exact ⟨_, τ, σ, rfl, rfl, h⟩
  · by_cases h4 : x1 = 1
    · subst h4
      have h20 : (0 : Int32) ≤ 1 ∧ (1 : Int32) ≤ 1 := by decide
      by_cases h3 : (0 : Int32) ≤ x2 ∧ x2 ≤ 99
      · simp only [if_pos h20, if_pos h3, pb_bs, pb_hl, one0, zer0, not_false_eq_true, not_true_eq_false, if_true, if_false]
        obtain ⟨b, -, hb, rfl⟩ := rk_0_99 h3
        rw [show (8 : Int32) + 1 = nI 9 from rfl, em_becomes (by omega)]
        simp only [pb_bs, pb_hl]
        have e1 : τ.1 106 0 = nI (v 6 0) := t2.2.2.2.2.1
        rw [e1, t1.2.2.2.2.1]
        exact ⟨_, _, _, rfl, rfl, Inv_fr h frM_0 (frC_sc (by unfold rlC; omega)) ⟨vs v 6 b, pr, tw_hands t1 b, tc_hands t2 b, vOK_hands t3 hb, t4, t5, t6, t7⟩⟩
      · simp only [if_pos h20, if_neg h3, pb_bs, pb_hl, one0, zer0, not_false_eq_true, not_true_eq_false, if_true, if_false]
        exact ⟨_, τ, σ, rfl, rfl, h⟩
    · have h20 : ¬ ((0 : Int32) ≤ x1 ∧ x1 ≤ 1) := by
        intro z
        obtain ⟨k, -, hk, rfl⟩ := rk_0_1 z
        rcases (show k = 0 ∨ k = 1 by omega) with rfl | rfl
        · exact h2 rfl
        · exact h4 rfl
      simp only [if_neg h20, h2, h4, pb_bs, pb_hl, one0, zer0, not_false_eq_true, not_true_eq_false, if_true, if_false]
      exact ⟨_, τ, σ, rfl, rfl, h⟩
theorem st_ends (h : Inv τ σ) (x1 : Int32) : stp (fc_hh_ends x1 τ) (fm_ends x1 σ) := by
  obtain ⟨⟨v, pr, t1, t2, t3, t4, t5, t6, t7⟩, -⟩ := id h
  have e102 : τ.1 102 0 = nI (v 2 0) := t2.2.1
  have e103 : τ.1 103 0 = nI (v 3 0) := t2.2.2.1
  have b1 := t3.2.1
  have b2 := t3.2.2.2.1
  unfold fc_hh_ends fm_ends
  rw [ri_1_16, e102, e103, t1.2.1]
  by_cases h1 : (1 : Int32) ≤ x1 ∧ x1 ≤ 16
  · obtain ⟨a, ha1, ha, rfl⟩ := rk_1_16 h1
    rw [if_neg (show ¬ nI a < (1 : Int32) by rw [show (1 : Int32) = nI 1 from rfl, pb_lt (by omega) (by decide)]; omega), if_pos h1.2, if_pos h1]
    simp only [pb_bs, pb_hl, one0, zer0, not_false_eq_true, not_true_eq_false, if_true, if_false]
    simp (disch := omega) only [pb_le]
    by_cases h2 : v 2 0 ≤ a
    · rw [if_pos h2, if_pos h2, show (2 : Int32) = nI 2 from rfl, em_becomes (by omega)]
      simp only [pb_bs, pb_hl]
      rw [t1.2.2.1]
      exact ⟨_, _, _, rfl, rfl, Inv_fr h frM_0 (frC_sc (by unfold rlC; omega)) ⟨vs v 3 a, pr, tw_end t1 a, tc_end t2 a, vOK_end t3 ha1 ha h2, t4, t5, t6, t7⟩⟩
    · rw [if_neg h2, if_neg h2]
      exact ⟨_, τ, σ, rfl, rfl, h⟩
  · rw [if_neg h1]
    simp only [pb_bs, pb_hl, one0, zer0, not_false_eq_true, not_true_eq_false, if_true, if_false]
    by_cases h2 : x1 < 1
    · rw [if_pos h2]
      exact ⟨_, τ, σ, rfl, rfl, h⟩
    · rw [if_neg h2, if_neg (fun z => h1 ⟨rg_nlt ▸ h2, z⟩)]
      exact ⟨_, τ, σ, rfl, rfl, h⟩
theorem st_seed (h : Inv τ σ) (x1 : Int32) : stp (fc_hh_seed x1 τ) (fm_seed x1 σ) := by
  obtain ⟨⟨v, pr, t1, t2, t3, t4, t5, t6, t7⟩, -⟩ := id h
  unfold fc_hh_seed fm_seed
  rw [show (4 : Int32) = nI 4 from rfl, em_becomes (by omega)]
  simp only [pb_bs, pb_hl]
  rw [show τ.1 109 0 = σ 0 4 from t7]
  exact ⟨_, _, _, rfl, rfl, Inv_fr h frM_0 (frC_sc (by unfold rlC; omega)) ⟨v, pr, tw_zed t1 x1, t2, t3, t4, t5, t6, rfl⟩⟩
theorem st_remake (h : Inv τ σ) (x1 x2 : Int32) : stp (fc_hh_remake x1 x2 τ) (fm_remake x1 x2 σ) := by
  obtain ⟨⟨v, pr, t1, t2, t3, t4, t5, t6, t7⟩, -⟩ := id h
  have b6 := t3.1
  unfold fc_hh_remake fm_remake
  rw [rg_has τ (by omega) t2.1, rg_isOne σ (by omega) t1.1, rg_isKind, ri_1_5]
  by_cases h1 : 0 ≤ x1 ∧ x1 < nI (v 13 0)
  · by_cases h2 : (1 : Int32) ≤ x2 ∧ x2 ≤ 5
    · simp only [if_pos h1, if_pos h2, pb_bs, pb_hl, one0, zer0, not_false_eq_true, not_true_eq_false, if_true, if_false]
      obtain ⟨a, ha, rfl⟩ := rg_one (by omega) h1
      obtain ⟨b, hb1, hb, rfl⟩ := rk_1_5 h2
      rw [show (10 : Int32) = nI 10 from rfl, show (6 : Int32) = nI 6 from rfl, pb_mul, pb_add, ec_repl_114 (by omega), em_becomes (by omega)]
      simp only [pb_bs, pb_hl]
      have e1 : τ.1 114 a = nI (v 14 a) := (t2.2.2.2.2.2.2.2.1 a ha).1
      rw [e1, (t1.2.2.2.2.2.1 a ha).1]
      exact ⟨_, _, _, rfl, rfl, Inv_fr h frM_0 (frC_sc (by unfold rlC; omega)) ⟨va v 14 a b, pr, tw_kind t1 (by omega) t3.1 b, tc_kind t2 b, vOK_kind t3 hb1 hb, t4, t5, t6.trans (up_ne (by omega)).symm, t7.trans (up_ne (by omega)).symm⟩⟩
    · simp only [if_pos h1, if_neg h2, pb_bs, pb_hl, one0, zer0, not_false_eq_true, not_true_eq_false, if_true, if_false]
      exact ⟨_, τ, σ, rfl, rfl, h⟩
  · simp only [if_neg h1, pb_bs, pb_hl, one0, zer0, not_false_eq_true, not_true_eq_false, if_true, if_false]
    exact ⟨_, τ, σ, rfl, rfl, h⟩
end S1
