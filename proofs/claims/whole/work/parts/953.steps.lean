/-! PURE: steps of goAll, wouldBe -/
section S21
variable {τ : SC} {σ : SM} {v : VT} {pr : List RU} {o : Nat}
theorem sheet0 (h : Inv τ σ) {t : Nat} (ht : t < 4) (h0 : σ 28 t = 0) : ∃ z, z ≤ 40 ∧ σ 29 t = nI z ∧ τ.1 11 t = nI z ∧ ∀ i, i < 40 → τ.2 (40 * t + i) = (σ 30 (40 * t + i)).toInt64 := by
  obtain ⟨-, -, -, -, i5, -, -⟩ := h
  obtain ⟨a1, a2, ⟨z, hz, a3⟩, a4⟩ := i5 t ht
  rcases a4 with a4 | ⟨-, a5⟩
  · rw [h0] at a4
    exact absurd a4 (by decide)
  · exact ⟨z, hz, a3, a2.trans a3, a5⟩
theorem lacks_eq (h : Inv τ σ) {t : Nat} (ht : t < 4) : ∃ r, fm_lacks σ (nI t) 0 = some r ∧ fc_hh_refusalAs τ (nI t) 0 = some r ∧ (r = 0 → σ 28 t = 0) := by
  obtain ⟨-, -, -, -, i5, -, -⟩ := h
  obtain ⟨a1, a2, ⟨z, hz, a3⟩, a4⟩ := i5 t ht
  unfold fm_lacks fc_hh_refusalAs
  simp (disch := omega) only [pb_in, pb_oc, pb_cl]
  rw [a1]
  rcases a4 with a4 | ⟨⟨k, hk, a4⟩, -⟩
  · rw [a4]
    exact ⟨-11, rfl, rfl, fun z => absurd z (by decide)⟩
  · rw [a4, if_pos (nI_m1 (by omega)), if_pos (show 0 ≤ nI k from nI_pos' (by omega))]
    by_cases c : nI k = 0
    · rw [if_pos c, if_neg (show ¬ ¬ nI k = 0 from fun z => z c)]
      exact ⟨0, rfl, rfl, fun _ => c⟩
    · rw [if_neg c, if_pos (show ¬ nI k = 0 from c)]
      exact ⟨-13, rfl, rfl, fun z => absurd z (by decide)⟩
theorem idx_eq (t : Nat) (x : Int32) {k i : Nat} (e : x + nI k = nI i) : (nI (40 * t) + x) + nI k = nI (40 * t + i) := by
  rw [Int32.add_assoc, e, pb_add]
theorem goAll_l {t : Nat} (ht : t < 4) (x2 : Int32) {n : Nat} (hn : n ≤ 20) : ∀ (m k n1 n2 : Nat) (x : Int32) (τ : SC) (σ : SM), Inv τ σ → σ 28 t = 0 → k + m = n → m < n1 → m < n2 → stp (fc_hh_goAll_l41 n1 (nI t) x2 (nI n) x (nI k) τ) (fm_goAll_l43 n2 (nI t) x2 (nI n) x (nI k) σ) := by
  intro m
  induction m with
  | zero =>
    intro k n1 n2 x τ σ h h0 hk h1 h2
    obtain ⟨q1, rfl⟩ : ∃ q, n1 = q + 1 := ⟨n1 - 1, by omega⟩
    obtain ⟨q2, rfl⟩ : ∃ q, n2 = q + 1 := ⟨n2 - 1, by omega⟩
    unfold fc_hh_goAll_l41 fm_goAll_l43
    rw [if_pos (show nI n ≤ nI k by rw [pb_le (by omega) (by omega)]; omega), if_pos (show nI n ≤ nI k by rw [pb_le (by omega) (by omega)]; omega)]
    exact ⟨x, τ, σ, rfl, rfl, h⟩
  | succ m ih =>
    intro k n1 n2 x τ σ h h0 hk h1 h2
    obtain ⟨q1, rfl⟩ : ∃ q, n1 = q + 1 := ⟨n1 - 1, by omega⟩
    obtain ⟨q2, rfl⟩ : ∃ q, n2 = q + 1 := ⟨n2 - 1, by omega⟩
    have IH := fun y τ2 σ2 a b => ih (k + 1) q1 q2 y τ2 σ2 a b (by omega) (by omega) (by omega)
    obtain ⟨z, hz, s1, s2, s3⟩ := sheet0 h ht h0
    obtain ⟨⟨v, pr, tt⟩, -⟩ := id h
    obtain ⟨t1, t2, t3, t4, t5, t6, t7⟩ := id tt
    have b6 := t3.1
    rw [fc_hh_goAll_l41, fm_goAll_l43]
    generalize fc_hh_goAll_l41 q1 = FC at IH ⊢
    generalize fm_goAll_l43 q2 = FM at IH ⊢
    rw [if_neg (show ¬ nI n ≤ nI k by rw [pb_le (by omega) (by omega)]; omega), if_neg (show ¬ nI n ≤ nI k by rw [pb_le (by omega) (by omega)]; omega), ec_hasItem ht s2, pb_in (by omega) ht, pb_cl (by omega), pb_oc, s1, it_cond x2 (by omega) hz, qbs, qbs]
    unfold fc_hh_goAll_b119 fm_goAll_b117 fm_goAll_b118
    simp only [show (40 : Int32) = nI 40 from rfl, show nI k + (1 : Int32) = nI (k + 1) from pb_add k 1, pb_mul, Nat.mul_comm t 40, qhl]
    by_cases c : 0 ≤ x2 + nI k ∧ x2 + nI k < nI z
    · simp only [if_pos c, one0, not_false_eq_true, if_true]
      obtain ⟨i, hi, ei⟩ := rg_one (by omega) c
      rw [idx_eq t x2 ei]
      simp (disch := omega) only [pb_in, pb_oc, pb_cl]
      rw [s3 i (by omega), Int32.toInt32_toInt64, em_isAct t1, ec_isAct t2, em_over t1 t3, ec_over t2 t3, show x + (0 : Int32) = x from Int32.add_zero x]
      simp only [qbs]
      by_cases c1 : 0 ≤ σ 30 (40 * t + i) ∧ σ 30 (40 * t + i) ≤ nI (v 13 0)
      · by_cases c2 : v 2 0 < v 3 0
        · simp only [if_pos c1, if_pos c2, one0, zer0, if_false, not_true_eq_false]
          obtain ⟨a, -, ha, ea⟩ := rg_nat (a := 0) (m := v 13 0) (by omega) c1 (by omega)
          obtain ⟨τ2, q1', q2', q3'⟩ := ec_pass t2 t3 t4 t5 c2 ha
          obtain ⟨f2, g1, g2, g3, g4, g5⟩ := em_goesWith t1 t3 t4 c2 ha
          rw [ea, q1', g1, qbs, qbs]
          obtain ⟨r, υ, ω, e1, e2, e3⟩ := sc_fin h tt q2' q3' (vPass_ok t3 c2 ha).1 g2 g3 g4
          have e4 := Option.some.inj e2
          have e5 := congrArg Prod.fst e4
          have e6 := congrArg Prod.snd e4
          show stp (Option.bind (fc_hh_scored (nI (vPass v pr a).1) τ2) fun p_ => FC (nI t) x2 (nI n) (x + p_.1) (nI (k + 1)) p_.2) (FM (nI t) x2 (nI n) (x + nI (vPass v pr a).1) (nI (k + 1)) (sf σ 0 f2))
          rw [e1, qbs, show nI (vPass v pr a).1 = r from e5]
          exact IH _ υ _ (by rw [show sf σ 0 f2 = ω from e6]; exact e3) h0
        · simp only [if_pos c1, if_neg c2, one0, if_false, not_false_eq_true, if_true]
          exact IH x τ σ h h0
      · simp only [if_neg c1, zer0, if_true]
        exact IH x τ σ h h0
    · simp only [if_neg c, zer0, not_true_eq_false, if_false]
      exact ⟨_, τ, σ, rfl, rfl, h⟩
theorem st_goAll (h : Inv τ σ) (x1 x2 x3 : Int32) : stp (fc_hh_goAll x1 x2 x3 τ) (fm_goAll x1 x2 x3 σ) := by
  unfold fc_hh_goAll fm_goAll
  rw [rg_within, rg_within, rg_isSheet, ri_0_20]
  by_cases c1 : (0 : Int32) ≤ x1 ∧ x1 ≤ 3
  · obtain ⟨t, -, ht, rfl⟩ := rk_0_3 c1
    by_cases c2 : (0 : Int32) ≤ x3 ∧ x3 ≤ 20
    · obtain ⟨n, -, hn, rfl⟩ := rk_0_20 c2
      simp only [if_pos c1, if_pos c2, qbs, one0, if_false, not_false_eq_true, if_true]
      obtain ⟨r, r1, r2, r3⟩ := lacks_eq h (show t < 4 by omega)
      rw [r1, r2, qbs, qbs, qbs]
      by_cases c3 : r = 0
      · rw [if_pos c3, if_pos c3]
        have hF : n < hFU := by unfold hFU; omega
        exact goAll_l (by omega) x2 hn n 0 hFU hFU 0 τ σ h (r3 c3) (Nat.zero_add _) hF hF
      · rw [if_neg c3, if_neg c3]
        exact ⟨_, τ, σ, rfl, rfl, h⟩
    · simp only [if_pos c1, if_neg c2, qbs, one0, zer0, if_false, not_true_eq_false, if_true]
      exact ⟨_, τ, σ, rfl, rfl, h⟩
  · simp only [if_neg c1, qbs, zer0, if_true]
    exact ⟨_, τ, σ, rfl, rfl, h⟩
theorem wb_l {g : Nat → Int32} (hp : pOK pr) (hpc : vclen pr ≤ 200) {t z : Nat} (ht : t < 4) (hz : z ≤ 40) (s1 : σ 29 t = nI z) (s2 : τ.1 11 t = nI z) (s3 : ∀ i, i < 40 → τ.2 (40 * t + i) = (σ 30 (40 * t + i)).toInt64) (x2 : Int32) {n : Nat} (hn : n ≤ 20) : ∀ (m k n1 n2 : Nat) (x : Int32) (τ' : SC) (f' : Nat → Int32) (v' : VT), MV τ (σ 0) v pr τ' f' v' → k + m = n → m < n1 → m < n2 → ∃ r τ2 f2 v2, fc_hh_worthOfItems_l6 n1 (nI t) x2 (nI n) x (nI k) τ' = some (r, τ2) ∧ fm_sumBy_l6 n2 (nI t) x2 (nI n) x (nI k) (sf (sf σ 3 g) 0 f') = some (r, sf (sf σ 3 g) 0 f2) ∧ MV τ (σ 0) v pr τ2 f2 v2 := by
  intro m
  induction m with
  | zero =>
    intro k n1 n2 x τ' f' v' h hk h1 h2
    obtain ⟨q1, rfl⟩ : ∃ q, n1 = q + 1 := ⟨n1 - 1, by omega⟩
    obtain ⟨q2, rfl⟩ : ∃ q, n2 = q + 1 := ⟨n2 - 1, by omega⟩
    unfold fc_hh_worthOfItems_l6 fm_sumBy_l6
    rw [if_pos (show nI n ≤ nI k by rw [pb_le (by omega) (by omega)]; omega), if_pos (show nI n ≤ nI k by rw [pb_le (by omega) (by omega)]; omega)]
    exact ⟨x, τ', f', v', rfl, rfl, h⟩
  | succ m ih =>
    intro k n1 n2 x τ' f' v' h hk h1 h2
    obtain ⟨q1, rfl⟩ : ∃ q, n1 = q + 1 := ⟨n1 - 1, by omega⟩
    obtain ⟨q2, rfl⟩ : ∃ q, n2 = q + 1 := ⟨n2 - 1, by omega⟩
    have IH := fun y τ2 f2 v2 a => ih (k + 1) q1 q2 y τ2 f2 v2 a (by omega) (by omega) (by omega)
    obtain ⟨m1, m2, m3, m4, m5, m6⟩ := id h
    have b6 := m4.1
    rw [fc_hh_worthOfItems_l6, fm_sumBy_l6]
    generalize fc_hh_worthOfItems_l6 q1 = FC at IH ⊢
    generalize fm_sumBy_l6 q2 = FM at IH ⊢
    have e11 : τ'.1 11 t = nI z := by rw [m2.1 11 (by decide) (by decide) (by decide) (by decide) (by decide) (by decide)]; exact s2
    rw [if_neg (show ¬ nI n ≤ nI k by rw [pb_le (by omega) (by omega)]; omega), if_neg (show ¬ nI n ≤ nI k by rw [pb_le (by omega) (by omega)]; omega), ec_hasItem ht e11, pb_in (by omega) ht, pb_cl (by omega), pb_oc, show (sf (sf σ 3 g) 0 f') 29 t = nI z from s1, it_cond x2 (by omega) hz, qbs, qbs]
    simp only [show (40 : Int32) = nI 40 from rfl, show nI k + (1 : Int32) = nI (k + 1) from pb_add k 1, pb_mul, Nat.mul_comm t 40, qhl]
    by_cases c : 0 ≤ x2 + nI k ∧ x2 + nI k < nI z
    · simp only [if_pos c, one0, not_false_eq_true, if_true]
      obtain ⟨i, hi, ei⟩ := rg_one (by omega) c
      rw [idx_eq t x2 ei]
      simp (disch := omega) only [pb_in, pb_oc, pb_cl]
      rw [m2.2, s3 i (by omega), Int32.toInt32_toInt64, show (sf (sf σ 3 g) 0 f') 30 = σ 30 from rfl, em_isAct (σ := sf (sf σ 3 g) 0 f') m5, ec_isAct m1, mv_over h, ec_over m1 m4]
      simp only [qbs]
      by_cases c1 : 0 ≤ σ 30 (40 * t + i) ∧ σ 30 (40 * t + i) ≤ nI (v' 13 0)
      · by_cases c2 : v' 2 0 < v' 3 0
        · simp only [if_pos c1, if_pos c2, one0, zer0, if_false, if_true]
          obtain ⟨a, -, ha, ea⟩ := rg_nat (a := 0) (m := v' 13 0) (by omega) c1 (by omega)
          obtain ⟨τ2, f2, e1, e3, e4, -⟩ := mv_pass (ρ := sf σ 3 g) h hp hpc c2 ha
          rw [ea, e1, e3, qbs, qbs]
          exact IH _ τ2 f2 _ e4
        · simp only [if_pos c1, if_neg c2, one0, if_false]
          exact ⟨_, τ', f', v', rfl, rfl, h⟩
      · simp only [if_neg c1, zer0, if_true]
        exact ⟨_, τ', f', v', rfl, rfl, h⟩
    · simp only [if_neg c, zer0, not_true_eq_false, if_false]
      exact ⟨_, τ', f', v', rfl, rfl, h⟩
theorem st_wouldBe (h : Inv τ σ) (x1 x2 x3 : Int32) : stp (fc_hh_wouldBe x1 x2 x3 τ) (fm_wouldBe x1 x2 x3 σ) := by
  obtain ⟨⟨v, pr, tt⟩, -⟩ := id h
  obtain ⟨t1, t2, t3, t4, t5, t6, t7⟩ := id tt
  unfold fc_hh_wouldBe fm_wouldBe
  rw [rg_within, rg_within, rg_isSheet, ri_0_20]
  by_cases c1 : (0 : Int32) ≤ x1 ∧ x1 ≤ 3
  · obtain ⟨t, -, ht, rfl⟩ := rk_0_3 c1
    by_cases c2 : (0 : Int32) ≤ x3 ∧ x3 ≤ 20
    · obtain ⟨n, -, hn, rfl⟩ := rk_0_20 c2
      simp only [if_pos c1, if_pos c2, qbs, one0, if_false, not_false_eq_true, if_true]
      obtain ⟨r, r1, r2, r3⟩ := lacks_eq h (show t < 4 by omega)
      rw [r1, r2, qbs, qbs, qbs]
      by_cases c3 : r = 0
      · rw [if_pos c3, if_pos c3]
        have hF : n < hFU := by unfold hFU; omega
        obtain ⟨z, hz, s1, s2, s3⟩ := sheet0 h (show t < 4 by omega) (r3 c3)
        obtain ⟨g, g1, g2⟩ := aside0 σ
        obtain ⟨X, τ2, f2, v2, e1, e2, e3⟩ := wb_l (g := g) t4 t5 (show t < 4 by omega) hz s1 s2 s3 x2 hn n 0 hFU hFU 0 τ (σ 0) v (MV.rf t1 t2 t3) (Nat.zero_add _) hF hF
        rw [show sf (sf σ 3 g) 0 (σ 0) = sf σ 3 g from sf_id (sf σ 3 g) 0, show nI 0 = (0 : Int32) from rfl] at e2
        rw [show nI 0 = (0 : Int32) from rfl] at e1
        obtain ⟨υ, u1, u2, u3, u4⟩ := mv_end e3 t3 g2
        unfold fc_hh_worthOfItems fm_sumBy
        rw [ec_moment t2 t3, g1, qbs, qbs, e1, e2]
        simp only [qbs, qhl]
        rw [u1, u4]
        exact RD.stp h tt ⟨X, υ, g, rfl, rfl, u2, u3⟩
      · rw [if_neg c3, if_neg c3]
        exact ⟨_, τ, σ, rfl, rfl, h⟩
    · simp only [if_pos c1, if_neg c2, qbs, one0, zer0, if_false, not_true_eq_false, if_true]
      exact ⟨_, τ, σ, rfl, rfl, h⟩
  · simp only [if_neg c1, qbs, zer0, if_true]
    exact ⟨_, τ, σ, rfl, rfl, h⟩
end S21
