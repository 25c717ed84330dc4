/-! PURE: steps of sheet, write, item -/
section S8
variable {τ : SC} {σ : SM} {f : Nat → Int32} {v : VT} {pr : List RU} {o : Nat}
theorem rg_isSheet (x : Int32) : fm_isSheet x = some (if (0 : Int32) ≤ x ∧ x ≤ 3 then 1 else 0) := by
  unfold fm_isSheet
  rw [ri_0_3, pb_bs]
  by_cases c : (0 : Int32) ≤ x ∧ x ≤ 3
  · rw [if_pos c]; rfl
  · rw [if_neg c]; rfl
theorem rg_isShelf (x : Int32) : fm_isShelf x = some (if (0 : Int32) ≤ x ∧ x ≤ 3 then 1 else 0) := rg_isSheet x
theorem ec_hasItem {t z : Nat} (ht : t < 4) (e : τ.1 11 t = nI z) (x : Int32) : fc_hh_hasItem τ (nI t) x = some (if 0 ≤ x ∧ x < nI z then 1 else 0) := by
  unfold fc_hh_hasItem
  simp (disch := omega) only [pb_in, pb_oc, pb_cl]
  rw [e, rg_two]
  by_cases c : 0 ≤ x ∧ x < nI z
  · simp only [if_pos c]
  · simp only [if_neg c]
theorem st_item (h : Inv τ σ) (x1 x2 x3 : Int32) : st1 (fc_hh_item τ x1 x2 x3) (fm_item σ x1 x2 x3) := by
  obtain ⟨-, -, -, -, i5, -, -⟩ := id h
  unfold fc_hh_item fm_item fm_lacks fc_hh_refusalAs
  rw [rg_within, rg_within, rg_isSheet, ri_0_4]
  by_cases c1 : (0 : Int32) ≤ x1 ∧ x1 ≤ 3
  · obtain ⟨t, -, ht, rfl⟩ := rk_0_3 c1
    by_cases c2 : (0 : Int32) ≤ x2 ∧ x2 ≤ 4
    · simp only [if_pos c1, if_pos c2, pb_bs, one0, if_false, not_false_eq_true, if_true]
      obtain ⟨s, -, hs, rfl⟩ := rk_0_4 c2
      obtain ⟨a1, a2, ⟨z, hz, a3⟩, a4⟩ := i5 t (by omega)
      simp (disch := omega) only [pb_in, pb_oc, pb_cl]
      rw [a1, a3, ec_hasItem (by omega) (a2.trans a3), rg_upto _ (by omega)]
      rcases a4 with a4 | ⟨⟨k, hk, a4⟩, a5⟩
      · rw [a4]
        exact ⟨_, rfl, rfl⟩
      · rw [a4]
        rw [if_pos (show ¬ nI k = (-1 : Int32) by intro e; have := congrArg Int32.toInt e; rw [nI_toInt (by omega)] at this; revert this; rw [pb_neg1]; omega), if_pos (show 0 ≤ nI k from nI_pos' (by omega))]
        by_cases c3 : k = s
        · subst c3
          simp only [if_true, not_true_eq_false, if_false, pb_bs]
          by_cases c4 : 0 ≤ x3 ∧ x3 < nI z
          · simp only [if_pos c4, one0, if_false]
            obtain ⟨i, hi, rfl⟩ := rg_one (by omega) c4
            rw [show (40 : Int32) = nI 40 from rfl, pb_mul, pb_mul, Nat.mul_comm t 40]
            simp (disch := omega) only [pb_add, pb_in, pb_oc, pb_cl]
            rw [a5 i (by omega), Int32.toInt32_toInt64]
            exact ⟨_, rfl, rfl⟩
          · simp only [if_neg c4, zer0, if_true]
            exact ⟨_, rfl, rfl⟩
        · simp only [show (nI k = nI s) = False by rw [pb_eq (by omega) (by omega)]; simp [c3], not_false_eq_true, if_true, if_false, pb_bs, show ((-13 : Int32) = 0) = False by decide]
          exact ⟨_, rfl, rfl⟩
    · simp only [if_pos c1, if_neg c2, pb_bs, one0, zer0, if_false, not_true_eq_false, if_true]
      exact ⟨_, rfl, rfl⟩
  · simp only [if_neg c1, pb_bs, zer0, if_true]
    exact ⟨_, rfl, rfl⟩
def vNar (k : Nat) (x : Int32) : Int32 := if k = 0 then Int8.toInt32 (Int32.toInt8 x) else if k = 1 then Int16.toInt32 (Int32.toInt16 x) else if k = 4 then (if x = 0 then 0 else 1) else x
theorem ec_narrowed {k : Nat} (hk : k ≤ 4) (x : Int32) : fc_hh_narrowed (nI k) x = some (Int32.toInt64 (vNar k x)) := by
  rcases (show k = 0 ∨ k = 1 ∨ k = 2 ∨ k = 3 ∨ k = 4 by omega) with rfl | rfl | rfl | rfl | rfl
  · rfl
  · rfl
  · rfl
  · rfl
  · show (if x = 0 then some (0 : Int64) else some 1) = some (Int32.toInt64 (if x = 0 then 0 else 1))
    by_cases e : x = 0
    · simp only [if_pos e]; rfl
    · simp only [if_neg e]; rfl
theorem updL_eq {g : Nat → Int64} {k : Nat} {x : Int64} : vp_updL g k x k = x := if_pos rfl
theorem updL_ne {g : Nat → Int64} {k j : Nat} {x : Int64} (h : j ≠ k) : vp_updL g k x j = g j := if_neg h
theorem nI_m1 {k : Nat} (hk : k < 2147483648) : ¬ nI k = (-1 : Int32) := by
  intro e
  have := congrArg Int32.toInt e
  rw [nI_toInt (by omega), pb_neg1] at this
  omega
theorem st_write (h : Inv τ σ) (x1 x2 x3 : Int32) : stp (fc_hh_write x1 x2 x3 τ) (fm_write x1 x2 x3 σ) := by
  obtain ⟨i1, i2, i3, i4, i5, i6, i7⟩ := id h
  unfold fc_hh_write fm_write
  rw [rg_within, rg_isSheet]
  by_cases c1 : (0 : Int32) ≤ x1 ∧ x1 ≤ 3
  · obtain ⟨t, -, ht, rfl⟩ := rk_0_3 c1
    simp only [if_pos c1, pb_bs, one0, not_false_eq_true, if_true]
    obtain ⟨a1, a2, ⟨z, hz, a3⟩, a4⟩ := i5 t (by omega)
    simp (disch := omega) only [pb_in, pb_oc, pb_cl]
    rw [a1, a3, ec_hasItem (by omega) (a2.trans a3), rg_upto _ (by omega), pb_bs, pb_bs]
    rcases a4 with a4 | ⟨⟨k, hk, a4⟩, a5⟩
    · rw [a4]
      exact ⟨_, τ, σ, rfl, rfl, h⟩
    · rw [a4, if_pos (nI_m1 (by omega)), if_pos (show 0 ≤ nI k from nI_pos' (by omega)), ec_narrowed hk, pb_bs]
      by_cases c4 : 0 ≤ x2 ∧ x2 < nI z
      · simp only [if_pos c4, one0, not_false_eq_true, if_true]
        obtain ⟨i, hi, rfl⟩ := rg_one (by omega) c4
        rw [show (40 : Int32) = nI 40 from rfl, pb_mul, pb_mul, Nat.mul_comm t 40]
        simp (disch := omega) only [pb_add, pb_in, pb_oc, pb_cl, pb_hl]
        have E : (if ¬ nI k = 0 then if ¬ nI k = 1 then if ¬ nI k = 4 then some ((1 : Int32), sf σ 30 (upd (σ 30) (40 * t + i) x3)) else if ¬ x3 = 0 then some ((1 : Int32), sf σ 30 (upd (σ 30) (40 * t + i) 1)) else some ((1 : Int32), sf σ 30 (upd (σ 30) (40 * t + i) 0)) else some ((1 : Int32), sf σ 30 (upd (σ 30) (40 * t + i) (Int16.toInt32 (Int32.toInt16 x3)))) else some ((1 : Int32), sf σ 30 (upd (σ 30) (40 * t + i) (Int8.toInt32 (Int32.toInt8 x3))))) = some ((1 : Int32), sf σ 30 (upd (σ 30) (40 * t + i) (vNar k x3))) := by
          rcases (show k = 0 ∨ k = 1 ∨ k = 2 ∨ k = 3 ∨ k = 4 by omega) with rfl | rfl | rfl | rfl | rfl
          · rfl
          · rfl
          · rfl
          · rfl
          · show (if ¬ x3 = 0 then some ((1 : Int32), sf σ 30 (upd (σ 30) (40 * t + i) 1)) else some ((1 : Int32), sf σ 30 (upd (σ 30) (40 * t + i) 0))) = some ((1 : Int32), sf σ 30 (upd (σ 30) (40 * t + i) (if x3 = 0 then 0 else 1)))
            by_cases e : x3 = 0
            · simp only [e, not_true_eq_false, if_false, if_true]
            · simp only [e, not_false_eq_true, if_true, if_false]
        rw [E]
        refine ⟨_, _, _, rfl, rfl, i1, i2, i3, i4, fun t' ht' => ?_, i6, i7⟩
        obtain ⟨b1, b2, b3, b4⟩ := i5 t' ht'
        refine ⟨b1, b2, b3, ?_⟩
        rcases b4 with b4 | ⟨b4, b5⟩
        · exact Or.inl b4
        · refine Or.inr ⟨b4, fun j hj => ?_⟩
          show vp_updL τ.2 (40 * t + i) _ (40 * t' + j) = Int32.toInt64 (upd (σ 30) (40 * t + i) _ (40 * t' + j))
          by_cases e : 40 * t' + j = 40 * t + i
          · rw [e, updL_eq, up_eq]
          · rw [updL_ne e, up_ne e]
            exact b5 j hj
      · simp only [if_neg c4, zer0, not_true_eq_false, if_false]
        exact ⟨_, τ, σ, rfl, rfl, h⟩
  · simp only [if_neg c1, pb_bs, zer0, not_true_eq_false, if_false]
    exact ⟨_, τ, σ, rfl, rfl, h⟩
theorem em_sheet_l {t : Nat} (ht : t < 4) : ∀ (m k n : Nat) (g : Nat → Int32), k + m = 40 → m < n → (∀ j, j < k → g (40 * t + j) = 0) → (∀ j, (j < 40 * t ∨ 40 * t + 40 ≤ j) → g j = σ 30 j) → ∃ g2, fm_sheet_l69 n (nI t) (nI k) (sf σ 30 g) = some ((1 : Int32), sf σ 30 g2) ∧ (∀ j, j < 40 → g2 (40 * t + j) = 0) ∧ (∀ j, (j < 40 * t ∨ 40 * t + 40 ≤ j) → g2 j = σ 30 j) := by
  intro m
  induction m with
  | zero =>
    intro k n g hk hn h1 h2
    obtain ⟨q, rfl⟩ : ∃ q, n = q + 1 := ⟨n - 1, by omega⟩
    unfold fm_sheet_l69
    rw [if_pos (show (40 : Int32) ≤ nI k by rw [show (40 : Int32) = nI 40 from rfl, pb_le (by decide) (by omega)]; omega)]
    exact ⟨g, rfl, fun j hj => h1 j (by omega), h2⟩
  | succ m ih =>
    intro k n g hk hn h1 h2
    obtain ⟨q, rfl⟩ : ∃ q, n = q + 1 := ⟨n - 1, by omega⟩
    unfold fm_sheet_l69
    rw [if_neg (show ¬ (40 : Int32) ≤ nI k by rw [show (40 : Int32) = nI 40 from rfl, pb_le (by decide) (by omega)]; omega)]
    simp (disch := omega) only [show (40 : Int32) = nI 40 from rfl, show (1 : Int32) = nI 1 from rfl, pb_mul, pb_add, pb_in, pb_oc, pb_cl, pb_hl, pb_sfsf]
    rw [show sf σ 30 g 30 = g from rfl]
    refine ih (k + 1) q _ (by omega) (by omega) (fun j hj => ?_) (fun j hj => ?_)
    · by_cases e : j = k
      · subst e
        exact up_eq
      · rw [up_ne (by omega)]
        exact h1 j (by omega)
    · rw [up_ne (by omega)]
      exact h2 j hj
theorem ec_fill_l {t : Nat} (ht : t < 4) : ∀ (m k n : Nat) (g : Nat → Int64), k + m = 40 → m < n → (∀ j, j < k → g (40 * t + j) = 0) → (∀ j, (j < 40 * t ∨ 40 * t + 40 ≤ j) → g j = τ.2 j) → ∃ g2, fc_j7_fill_bad5a_a12_l10 n (nI (40 * t + 40)) (0 : Int64) (nI (40 * t + k)) (sl τ g) = some (sl τ g2) ∧ (∀ j, j < 40 → g2 (40 * t + j) = 0) ∧ (∀ j, (j < 40 * t ∨ 40 * t + 40 ≤ j) → g2 j = τ.2 j) := by
  intro m
  induction m with
  | zero =>
    intro k n g hk hn h1 h2
    obtain ⟨q, rfl⟩ : ∃ q, n = q + 1 := ⟨n - 1, by omega⟩
    unfold fc_j7_fill_bad5a_a12_l10
    rw [if_pos (show nI (40 * t + 40) ≤ nI (40 * t + k) by rw [pb_le (by omega) (by omega)]; omega)]
    exact ⟨g, rfl, fun j hj => h1 j (by omega), h2⟩
  | succ m ih =>
    intro k n g hk hn h1 h2
    obtain ⟨q, rfl⟩ : ∃ q, n = q + 1 := ⟨n - 1, by omega⟩
    unfold fc_j7_fill_bad5a_a12_l10
    rw [if_neg (show ¬ nI (40 * t + 40) ≤ nI (40 * t + k) by rw [pb_le (by omega) (by omega)]; omega)]
    simp (disch := omega) only [show (1 : Int32) = nI 1 from rfl, pb_add, pb_in, pb_oc, pb_cl, pb_hl]
    refine ih (k + 1) q (vp_updL g (40 * t + k) 0) (by omega) (by omega) (fun j hj => ?_) (fun j hj => ?_)
    · by_cases e : j = k
      · subst e
        exact updL_eq
      · rw [updL_ne (by omega)]
        exact h1 j (by omega)
    · rw [updL_ne (by omega)]
      exact h2 j hj
theorem ec_fill {t : Nat} (ht : t < 4) : ∃ g2, fc_j7_fill_bad5a_a12 (nI (40 * t)) (nI (40 * t + 40)) (0 : Int64) τ = some (sl τ g2) ∧ (∀ j, j < 40 → g2 (40 * t + j) = 0) ∧ (∀ j, (j < 40 * t ∨ 40 * t + 40 ≤ j) → g2 j = τ.2 j) := by
  obtain ⟨g2, h1, h2, h3⟩ := ec_fill_l (τ := τ) ht 40 0 hFU τ.2 (by omega) (by unfold hFU; omega) (fun j hj => by omega) (fun _ _ => rfl)
  refine ⟨g2, ?_, h2, h3⟩
  unfold fc_j7_fill_bad5a_a12 fc_j7_rangeCheck_23922
  rw [if_pos (show nI (40 * t) ≤ nI (40 * t + 40) by rw [pb_le (by omega) (by omega)]; omega), if_pos (show 0 ≤ nI (40 * t) from nI_pos' (by omega)), if_pos (show nI (40 * t + 40) ≤ (160 : Int32) by rw [show (160 : Int32) = nI 160 from rfl, pb_le (by omega) (by omega)]; omega)]
  exact h1
theorem st_sheet (h : Inv τ σ) (x1 x2 x3 : Int32) : stp (fc_hh_sheet x1 x2 x3 τ) (fm_sheet x1 x2 x3 σ) := by
  obtain ⟨i1, i2, i3, i4, i5, i6, i7⟩ := id h
  have EM : ∀ (t : Nat), t < 4 → ∀ (a b : Int32), ∃ g2, fm_sheet_b65 (nI t) b (nI t) (sf σ 28 (upd (σ 28) t a)) = some ((1 : Int32), sf (sf (sf σ 28 (upd (σ 28) t a)) 29 (upd (σ 29) t b)) 30 g2) ∧ (∀ j, j < 40 → g2 (40 * t + j) = 0) ∧ (∀ j, (j < 40 * t ∨ 40 * t + 40 ≤ j) → g2 j = σ 30 j) := by
    intro t ht a b
    unfold fm_sheet_b65
    simp (disch := omega) only [pb_in, pb_oc, pb_cl, pb_hl]
    obtain ⟨g2, h1, h2, h3⟩ := em_sheet_l (σ := sf (sf σ 28 (upd (σ 28) t a)) 29 (upd (σ 29) t b)) ht 40 0 hFU (σ 30) (by omega) (by unfold hFU; omega) (fun j hj => by omega) (fun _ _ => rfl)
    refine ⟨g2, ?_, h2, h3⟩
    rw [← h1, show sf (sf (sf σ 28 (upd (σ 28) t a)) 29 (upd (σ 29) t b)) 30 (σ 30) = sf (sf σ 28 (upd (σ 28) t a)) 29 (upd (σ 29) t b) from sf_id (sf (sf σ 28 (upd (σ 28) t a)) 29 (upd (σ 29) t b)) 30]
    rfl
  unfold fc_hh_sheet fm_sheet fm_sheet_b33 fm_sheet_b44
  rw [rg_within, rg_isSheet, show (-1 : Int64) = Int32.toInt64 (-1) from rfl, show (4 : Int64) = Int32.toInt64 4 from rfl, rg_isIn]
  by_cases c1 : (0 : Int32) ≤ x1 ∧ x1 ≤ 3
  · obtain ⟨t, -, ht, rfl⟩ := rk_0_3 c1
    simp only [if_pos c1, pb_bs, one0, if_false]
    simp (disch := omega) only [pb_in, pb_oc, pb_cl, pb_hl]
    by_cases c2 : x2 < -1
    · simp only [if_pos c2, if_neg (show ¬ ((-1 : Int32) ≤ x2 ∧ x2 ≤ 4) from fun z => by have := z.1; rw [← rg_nlt] at this; exact this c2), zer0, if_true]
      exact ⟨_, τ, σ, rfl, rfl, h⟩
    · simp only [if_neg c2]
      have c2' : (-1 : Int32) ≤ x2 := rg_nlt ▸ c2
      rw [show (5 : Int32) = nI (4 + 1) from rfl]
      simp only [le_lt10 (show 4 < 1073741824 by decide)]
      by_cases c3 : x2 ≤ 4
      · simp only [if_pos (show x2 ≤ nI 4 from c3), if_pos (show (-1 : Int32) ≤ x2 ∧ x2 ≤ 4 from ⟨c2', c3⟩), one0, if_false]
        by_cases c4 : x2 = -1
        · subst c4
          simp only [not_true_eq_false, if_false, show ((-1 : Int32) < 0) = True by decide, if_true, show ((0 : Int32) ≤ -1) = False by decide]
          obtain ⟨g2, h1, h2, h3⟩ := EM t (by omega) (-1) 0
          rw [h1]
          refine ⟨_, _, _, rfl, rfl, i1, i2, i3, i4, fun t' ht' => ?_, i6, i7⟩
          obtain ⟨b1, b2, b3, b4⟩ := i5 t' ht'
          show upd (τ.1 10) t (-1) t' = upd (σ 28) t (-1) t' ∧ upd (τ.1 11) t 0 t' = upd (σ 29) t 0 t' ∧ (∃ z, z ≤ 40 ∧ upd (σ 29) t 0 t' = nI z) ∧ (upd (σ 28) t (-1) t' = -1 ∨ ((∃ k, k ≤ 4 ∧ upd (σ 28) t (-1) t' = nI k) ∧ ∀ i, i < 40 → τ.2 (40 * t' + i) = Int32.toInt64 (g2 (40 * t' + i))))
          by_cases e : t' = t
          · subst e
            simp only [up_eq]
            exact ⟨trivial, trivial, ⟨0, by decide, rfl⟩, Or.inl trivial⟩
          · simp only [up_ne e]
            refine ⟨b1, b2, b3, ?_⟩
            rcases b4 with b4 | ⟨b4, b5⟩
            · exact Or.inl b4
            · refine Or.inr ⟨b4, fun i hi => ?_⟩
              rw [h3 _ (by omega)]
              exact b5 i hi
        · have c5 : 0 ≤ x2 := by
            rw [Int32.le_iff_toInt_le] at c2' ⊢
            have c4' : x2.toInt ≠ -1 := fun z => c4 (Int32.toInt_inj.mp (z.trans pb_neg1.symm))
            rw [pb_neg1] at c2'
            rw [show (0 : Int32).toInt = 0 from rfl]
            omega
          have c6 : ¬ x2 < 0 := by rw [rg_lt0]; exact c5
          obtain ⟨k, -, hk, rfl⟩ := rk_0_4 ⟨c5, c3⟩
          simp only [c4, not_false_eq_true, if_true, if_neg c6, if_pos c5]
          by_cases c7 : x3 ≤ 40
          · simp only [if_pos c7]
            by_cases c8 : 0 ≤ x3
            · simp only [if_pos c8]
              obtain ⟨z, -, hz, rfl⟩ := rg_nat (a := 0) (m := 40) (by decide) ⟨c8, c7⟩ (by decide)
              obtain ⟨g2, h1, h2, h3⟩ := EM t (by omega) (nI k) (nI z)
              rw [h1, show (40 : Int32) = nI 40 from rfl, pb_mul, Nat.mul_comm t 40, pb_add]
              obtain ⟨g3, k1, k2, k3⟩ := ec_fill (τ := sc (sc τ 10 (upd (τ.1 10) t (nI k))) 11 (upd ((sc τ 10 (upd (τ.1 10) t (nI k))).1 11) t (nI z))) (show t < 4 by omega)
              rw [k1, pb_bs]
              refine ⟨_, _, _, rfl, rfl, i1, i2, i3, i4, fun t' ht' => ?_, i6, i7⟩
              obtain ⟨b1, b2, b3, b4⟩ := i5 t' ht'
              show upd (τ.1 10) t (nI k) t' = upd (σ 28) t (nI k) t' ∧ upd (τ.1 11) t (nI z) t' = upd (σ 29) t (nI z) t' ∧ (∃ z2, z2 ≤ 40 ∧ upd (σ 29) t (nI z) t' = nI z2) ∧ (upd (σ 28) t (nI k) t' = -1 ∨ ((∃ k2, k2 ≤ 4 ∧ upd (σ 28) t (nI k) t' = nI k2) ∧ ∀ i, i < 40 → g3 (40 * t' + i) = Int32.toInt64 (g2 (40 * t' + i))))
              by_cases e : t' = t
              · subst e
                simp only [up_eq]
                exact ⟨trivial, trivial, ⟨z, hz, rfl⟩, Or.inr ⟨⟨k, hk, rfl⟩, fun i hi => by rw [h2 i hi, k2 i hi]; rfl⟩⟩
              · simp only [up_ne e]
                refine ⟨b1, b2, b3, ?_⟩
                rcases b4 with b4 | ⟨b4, b5⟩
                · exact Or.inl b4
                · refine Or.inr ⟨b4, fun i hi => ?_⟩
                  rw [h3 _ (by omega), k3 _ (by omega)]
                  exact b5 i hi
            · simp only [if_neg c8]
              exact ⟨_, τ, σ, rfl, rfl, h⟩
          · simp only [if_neg c7]
            exact ⟨_, τ, σ, rfl, rfl, h⟩
      · simp only [if_neg (show ¬ x2 ≤ nI 4 from c3), if_neg (show ¬ ((-1 : Int32) ≤ x2 ∧ x2 ≤ 4) from fun z => c3 z.2), zer0, if_true]
        exact ⟨_, τ, σ, rfl, rfl, h⟩
  · simp only [if_neg c1, pb_bs, zer0, if_true]
    exact ⟨_, τ, σ, rfl, rfl, h⟩
end S8
