/-! PURE: steps of judge, goAll, wouldBe -/
theorem rg_cmp64 (x y : Int64) : (lg_cmp x y < 0) = (x < y) ∧ (0 < lg_cmp x y) = (y < x) := by
  unfold lg_cmp
  simp only [gt_iff_lt]
  have t1 : ¬ ((1 : Int32) < 0) := by decide
  have t2 : ¬ ((0 : Int32) < 0) := by decide
  have t3 : (-1 : Int32) < 0 := by decide
  have t4 : (0 : Int32) < 1 := by decide
  have t5 : ¬ ((0 : Int32) < -1) := by decide
  by_cases h1 : y < x
  · rw [if_pos h1]
    refine ⟨propext ⟨fun z => absurd z t1, fun z => ?_⟩, propext ⟨fun _ => h1, fun _ => t4⟩⟩
    have a1 := Int64.lt_iff_toInt_lt.mp h1
    have a2 := Int64.lt_iff_toInt_lt.mp z
    omega
  · rw [if_neg h1]
    by_cases h2 : x = y
    · rw [if_pos h2]
      refine ⟨propext ⟨fun z => absurd z t2, fun z => ?_⟩, propext ⟨fun z => absurd z t2, fun z => absurd z h1⟩⟩
      rw [h2] at z
      have a2 := Int64.lt_iff_toInt_lt.mp z
      omega
    · rw [if_neg h2]
      refine ⟨propext ⟨fun _ => ?_, fun _ => t3⟩, propext ⟨fun z => absurd z t5, fun z => absurd z h1⟩⟩
      have a1 : ¬ y.toInt < x.toInt := fun z => h1 (Int64.lt_iff_toInt_lt.mpr z)
      have a2 : ¬ x.toInt = y.toInt := fun z => h2 (Int64.toInt_inj.mp z)
      rw [Int64.lt_iff_toInt_lt]
      omega
theorem rg_isIn64 (x a b : Int64) (P : Prop) [Decidable P] (h : (a.toInt ≤ x.toInt ∧ x.toInt ≤ b.toInt) ↔ P) : fm_isIn x a b = some (if P then 1 else 0) := by
  unfold fm_isIn
  simp only [(rg_cmp64 x a).1, (rg_cmp64 x b).2]
  by_cases h1 : x < a
  · have h1' := Int64.lt_iff_toInt_lt.mp h1
    rw [if_pos h1, if_neg (fun z => by have := h.mpr z; omega)]
  · have h1' : ¬ x.toInt < a.toInt := fun z => h1 (Int64.lt_iff_toInt_lt.mpr z)
    rw [if_neg h1]
    by_cases h2 : b < x
    · have h2' := Int64.lt_iff_toInt_lt.mp h2
      rw [if_pos h2, if_neg (fun z => by have := h.mpr z; omega)]
    · have h2' : ¬ b.toInt < x.toInt := fun z => h2 (Int64.lt_iff_toInt_lt.mpr z)
      rw [if_neg h2, if_pos (h.mp (by omega))]
theorem it_cond (x : Int32) {k z : Nat} (hk : k ≤ 20) (hz : z ≤ 40) : fm_isIn ((Int32.toInt64 x) + (Int32.toInt64 (nI k))) (0 : Int64) ((Int32.toInt64 (nI z)) - (1 : Int64)) = some (if 0 ≤ x + nI k ∧ x + nI k < nI z then 1 else 0) := by
  apply rg_isIn64
  have a1 := Int32.le_toInt x
  have a2 := Int32.toInt_lt x
  rw [Int64.toInt_add, Int64.toInt_sub, Int32.toInt_toInt64, Int32.toInt_toInt64, Int32.toInt_toInt64, nI_toInt (by omega), nI_toInt (by omega), show (0 : Int64).toInt = 0 from rfl, show (1 : Int64).toInt = 1 from rfl]
  rw [Int32.le_iff_toInt_le, Int32.lt_iff_toInt_lt, Int32.toInt_add, nI_toInt (by omega), nI_toInt (by omega), show (0 : Int32).toInt = 0 from rfl]
  rw [Int.bmod_eq_of_le (by omega) (by omega), Int.bmod_eq_of_le (n := (z : Int) - 1) (by omega) (by omega)]
  by_cases c : x.toInt + (k : Int) < 2147483648
  · rw [Int.bmod_eq_of_le (by omega) (by omega)]
    omega
  · have e : (x.toInt + (k : Int)).bmod (2 ^ 32) = x.toInt + k - 4294967296 := by
      have : (x.toInt + (k : Int)).bmod (2 ^ 32) = (x.toInt + k - 4294967296).bmod (2 ^ 32) := by
        rw [show x.toInt + (k : Int) = (x.toInt + k - 4294967296) + (2 ^ 32 : Nat) by omega, Int.add_bmod_right]
        congr 1
        omega
      rw [this, Int.bmod_eq_of_le (by omega) (by omega)]
    rw [e]
    omega
section S20
variable {τ : SC} {σ : SM} {v : VT} {pr : List RU} {o : Nat}
theorem em_isAct (hT : twM (σ 0) v pr) (x : Int32) : fm_isAct σ x = some (if 0 ≤ x ∧ x ≤ nI (v 13 0) then 1 else 0) := by
  unfold fm_isAct
  rw [hT.1, show (0 : Int64) = Int32.toInt64 0 from rfl, rg_isIn, qbs]
  by_cases c : 0 ≤ x ∧ x ≤ nI (v 13 0)
  · rw [if_pos c]; rfl
  · rw [if_neg c]; rfl
theorem ec_isAct (hT : twC τ 100 v pr) (x : Int32) : fc_to_isAct τ x = some (if 0 ≤ x ∧ x ≤ nI (v 13 0) then 1 else 0) := by
  unfold fc_to_isAct
  rw [show τ.1 113 0 = _ from hT.1]
  by_cases c1 : x < 0
  · rw [if_pos c1, if_neg (fun z => by have := z.1; rw [← rg_lt0] at this; exact this c1)]
  · rw [if_neg c1]
    by_cases c2 : nI (v 13 0) < x
    · rw [if_pos c2, if_neg (fun z => by have := z.2; rw [← rg_nlt] at this; exact this c2)]
    · rw [if_neg c2, if_pos ⟨rg_lt0 ▸ c1, rg_nlt ▸ c2⟩]
theorem judge_l {g : Nat → Int32} (hv : vOK v) (hp : pOK pr) (hpc : vclen pr ≤ 200) (hg : ∀ j, j < 46 → g j = σ 0 j) {n : Nat} (hn : n ≤ 4) (r1 : σ 27 0 = nI n) (r2 : τ.1 9 0 = nI n) (r3 : ∀ j, j < 12 → τ.1 8 j = σ 26 j) : ∀ (m k n1 n2 : Nat) (τ' : SC) (f' : Nat → Int32) (v' : VT), MV τ (σ 0) v pr τ' f' v' → k + m = n → m + 1 < n1 → m + 1 < n2 → RD τ σ v pr (fc_hh_judge_l12 n1 (nI (vMom v)) 0 (nI k) τ') (fm_judge_l9 (fun x1 x2 σ => (fm_judge_b97 x1 x2 σ)) n2 (nI k) 1 (sf (sf σ 3 g) 0 f')) := by
  have b6 := hv.1
  have E9 : ∀ τ', eqC τ τ' → τ'.1 9 0 = nI n := fun τ' h => by rw [h.1 9 (by decide) (by decide) (by decide) (by decide) (by decide) (by decide)]; exact r2
  have E8 : ∀ τ', eqC τ τ' → τ'.1 8 = τ.1 8 := fun τ' h => h.1 8 (by decide) (by decide) (by decide) (by decide) (by decide) (by decide)
  have WR : ∀ (k n1 n2 : Nat) (τ' : SC) (f' : Nat → Int32) (v' : VT), 0 < n1 → 0 < n2 → k < n → MV τ (σ 0) v pr τ' f' v' → RD τ σ v pr (fc_hh_judge_l12 n1 (nI (vMom v)) (nI (k + 1)) (nI (k + 1)) τ') (fm_judge_l9 (fun x1 x2 σ => (fm_judge_b97 x1 x2 σ)) n2 (nI (k + 1)) 0 (sf (sf σ 3 g) 0 f')) := by
    intro k n1 n2 τ' f' v' z1 z2 hkn h
    obtain ⟨q1, rfl⟩ : ∃ q, n1 = q + 1 := ⟨n1 - 1, by omega⟩
    obtain ⟨q2, rfl⟩ : ∃ q, n2 = q + 1 := ⟨n2 - 1, by omega⟩
    obtain ⟨υ, u1, u2, u3, u4⟩ := mv_end h hv hg
    unfold fc_hh_judge_l12 fm_judge_l9 fm_judge_b97
    rw [u1, u4, if_pos (show ¬ nI (k + 1) = 0 by rw [pb_ez (by omega)]; omega), if_pos (show (0 : Int32) = 0 from rfl)]
    simp only [qbs, ite_self, if_true]
    exact ⟨_, υ, g, rfl, rfl, u2, u3⟩
  intro m
  induction m with
  | zero =>
    intro k n1 n2 τ' f' v' h hk h1 h2
    obtain ⟨q1, rfl⟩ : ∃ q, n1 = q + 1 := ⟨n1 - 1, by omega⟩
    obtain ⟨q2, rfl⟩ : ∃ q, n2 = q + 1 := ⟨n2 - 1, by omega⟩
    obtain ⟨υ, u1, u2, u3, u4⟩ := mv_end h hv hg
    unfold fc_hh_judge_l12 fm_judge_l9 fm_judge_b97
    rw [E9 τ' h.2.1, show (sf (sf σ 3 g) 0 f') 27 0 = nI n from r1, if_pos (show nI n ≤ nI k by rw [pb_le (by omega) (by omega)]; omega), if_pos (show nI n ≤ nI k by rw [pb_le (by omega) (by omega)]; omega), u1, u4]
    exact ⟨_, υ, g, rfl, rfl, u2, u3⟩
  | succ m ih =>
    intro k n1 n2 τ' f' v' h hk h1 h2
    obtain ⟨q1, rfl⟩ : ∃ q, n1 = q + 1 := ⟨n1 - 1, by omega⟩
    obtain ⟨q2, rfl⟩ : ∃ q, n2 = q + 1 := ⟨n2 - 1, by omega⟩
    have h13 : v' 13 0 = v 13 0 := congrFun (h.2.2.1.at (by decide)) 0
    obtain ⟨m1, m2, m3, m4, m5, m6⟩ := id h
    have IH := fun τ2 f2 v2 e4 => ih (k + 1) q1 q2 τ2 f2 v2 e4 (by omega) (by omega) (by omega)
    have WR' := fun τ2 f2 v2 e4 => WR k q1 q2 τ2 f2 v2 (by omega) (by omega) (by omega) e4
    rw [fc_hh_judge_l12, fm_judge_l9]
    generalize fc_hh_judge_l12 q1 = FC at IH WR' ⊢
    generalize fm_judge_l9 (fun x1 x2 σ => (fm_judge_b97 x1 x2 σ)) q2 = FM at IH WR' ⊢
    rw [E9 τ' m2, if_neg (show ¬ nI n ≤ nI k by rw [pb_le (by omega) (by omega)]; omega), if_neg (show ¬ ¬ (0 : Int32) = 0 from fun z => z rfl), show (sf (sf σ 3 g) 0 f') 27 0 = nI n from r1, if_neg (show ¬ nI n ≤ nI k by rw [pb_le (by omega) (by omega)]; omega), if_neg (show ¬ (1 : Int32) = 0 by decide), show (sf (sf σ 3 g) 0 f') 26 = σ 26 from rfl]
    unfold fc_hh_isRight fc_hh_judge_b36 fm_judge_b89 fm_judge_b90
    simp only [show (3 : Int32) = nI 3 from rfl, show (2 : Int32) = nI 2 from rfl, show ∀ a : Nat, nI a + (1 : Int32) = nI (a + 1) from fun a => pb_add a 1, pb_mul, pb_add, Nat.mul_comm k 3]
    simp (disch := omega) only [pb_in, pb_oc, pb_cl, qhl, E8 τ' m2]
    rw [r3 (3 * k) (by omega), ec_isAct m1, ec_over m1 m4, em_isAct (σ := sf (sf σ 3 g) 0 f') m5, mv_over h]
    simp only [qbs]
    have W0 := WR' τ' f' v' h
    by_cases c1 : 0 ≤ σ 26 (3 * k) ∧ σ 26 (3 * k) ≤ nI (v' 13 0)
    · by_cases c2 : v' 2 0 < v' 3 0
      · simp only [if_pos c1, if_pos c2, one0, zer0, if_false, if_true, not_true_eq_false]
        obtain ⟨a, -, ha, ea⟩ := rg_nat (a := 0) (m := v' 13 0) (by omega) c1 (by omega)
        obtain ⟨τ2, f2, e1, e3, e4, -⟩ := mv_pass (ρ := sf σ 3 g) h hp hpc c2 ha
        rw [ea, e1, e3]
        simp only [qbs]
        rw [E8 τ2 e4.2.1, r3 _ (by omega), r3 _ (by omega), show τ2.1 108 0 = _ from e4.1.2.2.2.2.2.2.1, show (sf (sf σ 3 g) 0 f2) 26 = σ 26 from rfl, em_done (σ := sf (sf σ 3 g) 0 f2) e4.2.2.2.2.1 e4.2.2.2.1, qbs]
        have W1 := WR' τ2 f2 _ e4
        by_cases c3 : nI (vPass v' pr a).1 = σ 26 (3 * k + 1)
        · simp only [if_neg (show ¬ ¬ nI (vPass v' pr a).1 = σ 26 (3 * k + 1) from fun z => z c3)]
          by_cases c4 : nI ((vPass v' pr a).2 8 0) = σ 26 (3 * k + 2)
          · simp only [if_neg (show ¬ ¬ nI ((vPass v' pr a).2 8 0) = σ 26 (3 * k + 2) from fun z => z c4), qbs, one0, not_false_eq_true, if_true]
            exact IH τ2 f2 _ e4
          · simp only [if_pos (show ¬ nI ((vPass v' pr a).2 8 0) = σ 26 (3 * k + 2) from c4), qbs, zer0, not_true_eq_false, if_false]
            exact W1
        · simp only [if_pos (show ¬ nI (vPass v' pr a).1 = σ 26 (3 * k + 1) from c3), qbs, zer0, not_true_eq_false, if_false]
          exact W1
      · simp only [if_pos c1, if_neg c2, one0, one0, zer0, if_false, if_true, not_true_eq_false, not_false_eq_true, qbs]
        exact W0
    · simp only [if_neg c1, zer0, if_true, not_true_eq_false, if_false, qbs]
      exact W0
theorem st_judge (h : Inv τ σ) : stp (fc_hh_judge τ) (fm_judge σ) := by
  obtain ⟨⟨v, pr, tt⟩, -, -, ⟨n, hn, r1, r2, r3⟩, -⟩ := id h
  obtain ⟨t1, t2, t3, t4, t5, t6, t7⟩ := id tt
  unfold fc_hh_judge fm_judge
  obtain ⟨g, g1, g2⟩ := aside0 σ
  have hF : n + 1 < hFU := by unfold hFU; omega
  have R := judge_l (g := g) t3 t4 t5 g2 hn r1 r2 r3 n 0 hFU hFU τ (σ 0) v (MV.rf t1 t2 t3) (Nat.zero_add _) hF hF
  rw [show sf (sf σ 3 g) 0 (σ 0) = sf σ 3 g from sf_id (sf σ 3 g) 0, show nI 0 = (0 : Int32) from rfl] at R
  rw [ec_moment t2 t3, g1, qbs, qbs]
  exact RD.stp h tt R
end S20
