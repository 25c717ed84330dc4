/-! PURE: ranges -/
theorem rg_cmp (x y : Int32) : (lg_cmp x.toInt64 y.toInt64 < 0) = (x < y) ∧ (0 < lg_cmp x.toInt64 y.toInt64) = (y < x) := by
  have e : ∀ a b : Int32, (a.toInt64 < b.toInt64) = (a < b) := fun a b => propext (by rw [Int64.lt_iff_toInt_lt, Int32.lt_iff_toInt_lt, Int32.toInt_toInt64, Int32.toInt_toInt64])
  have e2 : ∀ a b : Int32, (a.toInt64 = b.toInt64) = (a = b) := fun a b => propext ⟨fun h => by
    have h1 := congrArg Int64.toInt h
    rw [Int32.toInt_toInt64, Int32.toInt_toInt64] at h1
    exact Int32.toInt_inj.mp h1, fun h => by rw [h]⟩
  unfold lg_cmp
  simp only [gt_iff_lt, e, e2]
  have t1 : ¬ ((1 : Int32) < 0) := by decide
  have t2 : ¬ ((0 : Int32) < 0) := by decide
  have t3 : (-1 : Int32) < 0 := by decide
  have t4 : (0 : Int32) < 1 := by decide
  have t5 : ¬ ((0 : Int32) < -1) := by decide
  by_cases h1 : y < x
  · rw [if_pos h1]
    refine ⟨propext ⟨fun z => absurd z t1, fun z => ?_⟩, propext ⟨fun _ => h1, fun _ => t4⟩⟩
    have a1 := Int32.lt_iff_toInt_lt.mp h1
    have a2 := Int32.lt_iff_toInt_lt.mp z
    omega
  · rw [if_neg h1]
    by_cases h2 : x = y
    · rw [if_pos h2]
      refine ⟨propext ⟨fun z => absurd z t2, fun z => ?_⟩, propext ⟨fun z => absurd z t2, fun z => absurd z h1⟩⟩
      rw [h2] at z
      have a2 := Int32.lt_iff_toInt_lt.mp z
      omega
    · rw [if_neg h2]
      refine ⟨propext ⟨fun _ => ?_, fun _ => t3⟩, propext ⟨fun z => absurd z t5, fun z => absurd z h1⟩⟩
      have a1 : ¬ y.toInt < x.toInt := fun z => h1 (Int32.lt_iff_toInt_lt.mpr z)
      have a2 : ¬ x.toInt = y.toInt := fun z => h2 (Int32.toInt_inj.mp z)
      rw [Int32.lt_iff_toInt_lt]
      omega
theorem rg_nlt {x y : Int32} : (¬ x < y) = (y ≤ x) := propext (by rw [Int32.lt_iff_toInt_lt, Int32.le_iff_toInt_le]; omega)
theorem rg_isIn (x a b : Int32) : fm_isIn x.toInt64 a.toInt64 b.toInt64 = some (if a ≤ x ∧ x ≤ b then 1 else 0) := by
  unfold fm_isIn
  simp only [(rg_cmp x a).1, (rg_cmp x b).2]
  by_cases h1 : x < a
  · rw [if_pos h1, if_neg (fun z => by have a1 := Int32.lt_iff_toInt_lt.mp h1; have a2 := Int32.le_iff_toInt_le.mp z.1; omega)]
  · rw [if_neg h1]
    by_cases h2 : b < x
    · rw [if_pos h2, if_neg (fun z => by have a1 := Int32.lt_iff_toInt_lt.mp h2; have a2 := Int32.le_iff_toInt_le.mp z.2; omega)]
    · rw [if_neg h2, if_pos ⟨rg_nlt ▸ h1, rg_nlt ▸ h2⟩]
theorem rg_within (x b : Int32) : fc_hh_within x b = some (if 0 ≤ x ∧ x ≤ b then 1 else 0) := by
  unfold fc_hh_within
  by_cases h1 : x < 0
  · rw [if_pos h1, if_neg (fun z => by have a1 := Int32.lt_iff_toInt_lt.mp h1; have a2 := Int32.le_iff_toInt_le.mp z.1; omega)]
  · rw [if_neg h1]
    by_cases h2 : b < x
    · rw [if_pos h2, if_neg (fun z => by have a1 := Int32.lt_iff_toInt_lt.mp h2; have a2 := Int32.le_iff_toInt_le.mp z.2; omega)]
    · rw [if_neg h2, if_pos ⟨rg_nlt ▸ h1, rg_nlt ▸ h2⟩]
theorem rg_nat {x : Int32} {a m : Nat} (hm : m < 2147483648) (h : nI a ≤ x ∧ x ≤ nI m) (ha : a ≤ m) : ∃ k, a ≤ k ∧ k ≤ m ∧ x = nI k := by
  have h1 := Int32.le_iff_toInt_le.mp h.1
  have h2 := Int32.le_iff_toInt_le.mp h.2
  rw [nI_toInt (by omega)] at h1 h2
  refine ⟨x.toInt.toNat, by omega, by omega, ?_⟩
  apply Int32.toInt_inj.mp
  rw [nI_toInt (by omega)]
  omega
theorem ri_1_5 (x : Int32) : fm_isIn (Int32.toInt64 x) (1 : Int64) (5 : Int64) = some (if (1 : Int32) ≤ x ∧ x ≤ (5 : Int32) then 1 else 0) := rg_isIn x 1 5
theorem rk_1_5 {x : Int32} (h : (1 : Int32) ≤ x ∧ x ≤ (5 : Int32)) : ∃ k : Nat, 1 ≤ k ∧ k ≤ 5 ∧ x = nI k := rg_nat (a := 1) (m := 5) (by decide) h (by decide)
theorem rn_1_5 {k : Nat} (h1 : 1 ≤ k) (h2 : k ≤ 5) : (1 : Int32) ≤ nI k ∧ nI k ≤ (5 : Int32) := ⟨nI_le h1 (by omega), nI_le h2 (by decide)⟩
theorem ri_0_60 (x : Int32) : fm_isIn (Int32.toInt64 x) (0 : Int64) (60 : Int64) = some (if (0 : Int32) ≤ x ∧ x ≤ (60 : Int32) then 1 else 0) := rg_isIn x 0 60
theorem rk_0_60 {x : Int32} (h : (0 : Int32) ≤ x ∧ x ≤ (60 : Int32)) : ∃ k : Nat, 0 ≤ k ∧ k ≤ 60 ∧ x = nI k := rg_nat (a := 0) (m := 60) (by decide) h (by decide)
theorem rn_0_60 {k : Nat} (h1 : 0 ≤ k) (h2 : k ≤ 60) : (0 : Int32) ≤ nI k ∧ nI k ≤ (60 : Int32) := ⟨nI_le h1 (by omega), nI_le h2 (by decide)⟩
theorem ri_0_9 (x : Int32) : fm_isIn (Int32.toInt64 x) (0 : Int64) (9 : Int64) = some (if (0 : Int32) ≤ x ∧ x ≤ (9 : Int32) then 1 else 0) := rg_isIn x 0 9
theorem rk_0_9 {x : Int32} (h : (0 : Int32) ≤ x ∧ x ≤ (9 : Int32)) : ∃ k : Nat, 0 ≤ k ∧ k ≤ 9 ∧ x = nI k := rg_nat (a := 0) (m := 9) (by decide) h (by decide)
theorem rn_0_9 {k : Nat} (h1 : 0 ≤ k) (h2 : k ≤ 9) : (0 : Int32) ≤ nI k ∧ nI k ≤ (9 : Int32) := ⟨nI_le h1 (by omega), nI_le h2 (by decide)⟩
theorem ri_0_15 (x : Int32) : fm_isIn (Int32.toInt64 x) (0 : Int64) (15 : Int64) = some (if (0 : Int32) ≤ x ∧ x ≤ (15 : Int32) then 1 else 0) := rg_isIn x 0 15
theorem rk_0_15 {x : Int32} (h : (0 : Int32) ≤ x ∧ x ≤ (15 : Int32)) : ∃ k : Nat, 0 ≤ k ∧ k ≤ 15 ∧ x = nI k := rg_nat (a := 0) (m := 15) (by decide) h (by decide)
theorem rn_0_15 {k : Nat} (h1 : 0 ≤ k) (h2 : k ≤ 15) : (0 : Int32) ≤ nI k ∧ nI k ≤ (15 : Int32) := ⟨nI_le h1 (by omega), nI_le h2 (by decide)⟩
theorem ri_0_1 (x : Int32) : fm_isIn (Int32.toInt64 x) (0 : Int64) (1 : Int64) = some (if (0 : Int32) ≤ x ∧ x ≤ (1 : Int32) then 1 else 0) := rg_isIn x 0 1
theorem rk_0_1 {x : Int32} (h : (0 : Int32) ≤ x ∧ x ≤ (1 : Int32)) : ∃ k : Nat, 0 ≤ k ∧ k ≤ 1 ∧ x = nI k := rg_nat (a := 0) (m := 1) (by decide) h (by decide)
theorem rn_0_1 {k : Nat} (h1 : 0 ≤ k) (h2 : k ≤ 1) : (0 : Int32) ≤ nI k ∧ nI k ≤ (1 : Int32) := ⟨nI_le h1 (by omega), nI_le h2 (by decide)⟩
theorem ri_0_14 (x : Int32) : fm_isIn (Int32.toInt64 x) (0 : Int64) (14 : Int64) = some (if (0 : Int32) ≤ x ∧ x ≤ (14 : Int32) then 1 else 0) := rg_isIn x 0 14
theorem rk_0_14 {x : Int32} (h : (0 : Int32) ≤ x ∧ x ≤ (14 : Int32)) : ∃ k : Nat, 0 ≤ k ∧ k ≤ 14 ∧ x = nI k := rg_nat (a := 0) (m := 14) (by decide) h (by decide)
theorem rn_0_14 {k : Nat} (h1 : 0 ≤ k) (h2 : k ≤ 14) : (0 : Int32) ≤ nI k ∧ nI k ≤ (14 : Int32) := ⟨nI_le h1 (by omega), nI_le h2 (by decide)⟩
theorem ri_0_99 (x : Int32) : fm_isIn (Int32.toInt64 x) (0 : Int64) (99 : Int64) = some (if (0 : Int32) ≤ x ∧ x ≤ (99 : Int32) then 1 else 0) := rg_isIn x 0 99
theorem rk_0_99 {x : Int32} (h : (0 : Int32) ≤ x ∧ x ≤ (99 : Int32)) : ∃ k : Nat, 0 ≤ k ∧ k ≤ 99 ∧ x = nI k := rg_nat (a := 0) (m := 99) (by decide) h (by decide)
theorem rn_0_99 {k : Nat} (h1 : 0 ≤ k) (h2 : k ≤ 99) : (0 : Int32) ≤ nI k ∧ nI k ≤ (99 : Int32) := ⟨nI_le h1 (by omega), nI_le h2 (by decide)⟩
theorem ri_1_16 (x : Int32) : fm_isIn (Int32.toInt64 x) (1 : Int64) (16 : Int64) = some (if (1 : Int32) ≤ x ∧ x ≤ (16 : Int32) then 1 else 0) := rg_isIn x 1 16
theorem rk_1_16 {x : Int32} (h : (1 : Int32) ≤ x ∧ x ≤ (16 : Int32)) : ∃ k : Nat, 1 ≤ k ∧ k ≤ 16 ∧ x = nI k := rg_nat (a := 1) (m := 16) (by decide) h (by decide)
theorem rn_1_16 {k : Nat} (h1 : 1 ≤ k) (h2 : k ≤ 16) : (1 : Int32) ≤ nI k ∧ nI k ≤ (16 : Int32) := ⟨nI_le h1 (by omega), nI_le h2 (by decide)⟩
theorem ri_1_8 (x : Int32) : fm_isIn (Int32.toInt64 x) (1 : Int64) (8 : Int64) = some (if (1 : Int32) ≤ x ∧ x ≤ (8 : Int32) then 1 else 0) := rg_isIn x 1 8
theorem rk_1_8 {x : Int32} (h : (1 : Int32) ≤ x ∧ x ≤ (8 : Int32)) : ∃ k : Nat, 1 ≤ k ∧ k ≤ 8 ∧ x = nI k := rg_nat (a := 1) (m := 8) (by decide) h (by decide)
theorem rn_1_8 {k : Nat} (h1 : 1 ≤ k) (h2 : k ≤ 8) : (1 : Int32) ≤ nI k ∧ nI k ≤ (8 : Int32) := ⟨nI_le h1 (by omega), nI_le h2 (by decide)⟩
theorem ri_0_16 (x : Int32) : fm_isIn (Int32.toInt64 x) (0 : Int64) (16 : Int64) = some (if (0 : Int32) ≤ x ∧ x ≤ (16 : Int32) then 1 else 0) := rg_isIn x 0 16
theorem rk_0_16 {x : Int32} (h : (0 : Int32) ≤ x ∧ x ≤ (16 : Int32)) : ∃ k : Nat, 0 ≤ k ∧ k ≤ 16 ∧ x = nI k := rg_nat (a := 0) (m := 16) (by decide) h (by decide)
theorem rn_0_16 {k : Nat} (h1 : 0 ≤ k) (h2 : k ≤ 16) : (0 : Int32) ≤ nI k ∧ nI k ≤ (16 : Int32) := ⟨nI_le h1 (by omega), nI_le h2 (by decide)⟩
theorem ri_0_4 (x : Int32) : fm_isIn (Int32.toInt64 x) (0 : Int64) (4 : Int64) = some (if (0 : Int32) ≤ x ∧ x ≤ (4 : Int32) then 1 else 0) := rg_isIn x 0 4
theorem rk_0_4 {x : Int32} (h : (0 : Int32) ≤ x ∧ x ≤ (4 : Int32)) : ∃ k : Nat, 0 ≤ k ∧ k ≤ 4 ∧ x = nI k := rg_nat (a := 0) (m := 4) (by decide) h (by decide)
theorem rn_0_4 {k : Nat} (h1 : 0 ≤ k) (h2 : k ≤ 4) : (0 : Int32) ≤ nI k ∧ nI k ≤ (4 : Int32) := ⟨nI_le h1 (by omega), nI_le h2 (by decide)⟩
theorem ri_0_3 (x : Int32) : fm_isIn (Int32.toInt64 x) (0 : Int64) (3 : Int64) = some (if (0 : Int32) ≤ x ∧ x ≤ (3 : Int32) then 1 else 0) := rg_isIn x 0 3
theorem rk_0_3 {x : Int32} (h : (0 : Int32) ≤ x ∧ x ≤ (3 : Int32)) : ∃ k : Nat, 0 ≤ k ∧ k ≤ 3 ∧ x = nI k := rg_nat (a := 0) (m := 3) (by decide) h (by decide)
theorem rn_0_3 {k : Nat} (h1 : 0 ≤ k) (h2 : k ≤ 3) : (0 : Int32) ≤ nI k ∧ nI k ≤ (3 : Int32) := ⟨nI_le h1 (by omega), nI_le h2 (by decide)⟩
theorem ri_1_4 (x : Int32) : fm_isIn (Int32.toInt64 x) (1 : Int64) (4 : Int64) = some (if (1 : Int32) ≤ x ∧ x ≤ (4 : Int32) then 1 else 0) := rg_isIn x 1 4
theorem rk_1_4 {x : Int32} (h : (1 : Int32) ≤ x ∧ x ≤ (4 : Int32)) : ∃ k : Nat, 1 ≤ k ∧ k ≤ 4 ∧ x = nI k := rg_nat (a := 1) (m := 4) (by decide) h (by decide)
theorem rn_1_4 {k : Nat} (h1 : 1 ≤ k) (h2 : k ≤ 4) : (1 : Int32) ≤ nI k ∧ nI k ≤ (4 : Int32) := ⟨nI_le h1 (by omega), nI_le h2 (by decide)⟩
theorem ri_0_999 (x : Int32) : fm_isIn (Int32.toInt64 x) (0 : Int64) (999 : Int64) = some (if (0 : Int32) ≤ x ∧ x ≤ (999 : Int32) then 1 else 0) := rg_isIn x 0 999
theorem rk_0_999 {x : Int32} (h : (0 : Int32) ≤ x ∧ x ≤ (999 : Int32)) : ∃ k : Nat, 0 ≤ k ∧ k ≤ 999 ∧ x = nI k := rg_nat (a := 0) (m := 999) (by decide) h (by decide)
theorem rn_0_999 {k : Nat} (h1 : 0 ≤ k) (h2 : k ≤ 999) : (0 : Int32) ≤ nI k ∧ nI k ≤ (999 : Int32) := ⟨nI_le h1 (by omega), nI_le h2 (by decide)⟩
theorem ri_1_40 (x : Int32) : fm_isIn (Int32.toInt64 x) (1 : Int64) (40 : Int64) = some (if (1 : Int32) ≤ x ∧ x ≤ (40 : Int32) then 1 else 0) := rg_isIn x 1 40
theorem rk_1_40 {x : Int32} (h : (1 : Int32) ≤ x ∧ x ≤ (40 : Int32)) : ∃ k : Nat, 1 ≤ k ∧ k ≤ 40 ∧ x = nI k := rg_nat (a := 1) (m := 40) (by decide) h (by decide)
theorem rn_1_40 {k : Nat} (h1 : 1 ≤ k) (h2 : k ≤ 40) : (1 : Int32) ≤ nI k ∧ nI k ≤ (40 : Int32) := ⟨nI_le h1 (by omega), nI_le h2 (by decide)⟩
theorem ri_0_2 (x : Int32) : fm_isIn (Int32.toInt64 x) (0 : Int64) (2 : Int64) = some (if (0 : Int32) ≤ x ∧ x ≤ (2 : Int32) then 1 else 0) := rg_isIn x 0 2
theorem rk_0_2 {x : Int32} (h : (0 : Int32) ≤ x ∧ x ≤ (2 : Int32)) : ∃ k : Nat, 0 ≤ k ∧ k ≤ 2 ∧ x = nI k := rg_nat (a := 0) (m := 2) (by decide) h (by decide)
theorem rn_0_2 {k : Nat} (h1 : 0 ≤ k) (h2 : k ≤ 2) : (0 : Int32) ≤ nI k ∧ nI k ≤ (2 : Int32) := ⟨nI_le h1 (by omega), nI_le h2 (by decide)⟩
theorem ri_0_20 (x : Int32) : fm_isIn (Int32.toInt64 x) (0 : Int64) (20 : Int64) = some (if (0 : Int32) ≤ x ∧ x ≤ (20 : Int32) then 1 else 0) := rg_isIn x 0 20
theorem rk_0_20 {x : Int32} (h : (0 : Int32) ≤ x ∧ x ≤ (20 : Int32)) : ∃ k : Nat, 0 ≤ k ∧ k ≤ 20 ∧ x = nI k := rg_nat (a := 0) (m := 20) (by decide) h (by decide)
theorem rn_0_20 {k : Nat} (h1 : 0 ≤ k) (h2 : k ≤ 20) : (0 : Int32) ≤ nI k ∧ nI k ≤ (20 : Int32) := ⟨nI_le h1 (by omega), nI_le h2 (by decide)⟩
theorem ri_6_9 (x : Int32) : fm_isIn (Int32.toInt64 x) (6 : Int64) (9 : Int64) = some (if (6 : Int32) ≤ x ∧ x ≤ (9 : Int32) then 1 else 0) := rg_isIn x 6 9
theorem rk_6_9 {x : Int32} (h : (6 : Int32) ≤ x ∧ x ≤ (9 : Int32)) : ∃ k : Nat, 6 ≤ k ∧ k ≤ 9 ∧ x = nI k := rg_nat (a := 6) (m := 9) (by decide) h (by decide)
theorem rn_6_9 {k : Nat} (h1 : 6 ≤ k) (h2 : k ≤ 9) : (6 : Int32) ≤ nI k ∧ nI k ≤ (9 : Int32) := ⟨nI_le h1 (by omega), nI_le h2 (by decide)⟩
theorem rg_isKind (x : Int32) : fc_hh_isKind x = some (if (1 : Int32) ≤ x ∧ x ≤ (5 : Int32) then 1 else 0) := by
  unfold fc_hh_isKind
  by_cases h1 : x < 1
  · rw [if_pos h1, if_neg (fun z => by have a1 := Int32.lt_iff_toInt_lt.mp h1; have a2 := Int32.le_iff_toInt_le.mp z.1; omega)]
  · rw [if_neg h1]
    by_cases h2 : (5 : Int32) < x
    · rw [if_pos h2, if_neg (fun z => by have a1 := Int32.lt_iff_toInt_lt.mp h2; have a2 := Int32.le_iff_toInt_le.mp z.2; omega)]
    · rw [if_neg h2, if_pos ⟨rg_nlt ▸ h1, rg_nlt ▸ h2⟩]
theorem rg_isStreet (x : Int32) : fm_isStreet x = some (if (0 : Int32) ≤ x ∧ x ≤ (5 : Int32) then 1 else 0) := by
  unfold fm_isStreet
  by_cases h1 : x < 0
  · rw [if_pos h1, if_neg (fun z => by have a1 := Int32.lt_iff_toInt_lt.mp h1; have a2 := Int32.le_iff_toInt_le.mp z.1; omega)]
  · rw [if_neg h1]
    have e5 : (5 : Int32).toInt = 5 := by decide
    have e6 : (6 : Int32).toInt = 6 := by decide
    by_cases h2 : (6 : Int32) ≤ x
    · rw [if_pos h2, if_neg (fun z => by have a1 := Int32.le_iff_toInt_le.mp h2; have a2 := Int32.le_iff_toInt_le.mp z.2; omega)]
    · rw [if_neg h2, if_pos ⟨rg_nlt ▸ h1, by
        rw [Int32.le_iff_toInt_le] at h2 ⊢
        omega⟩]
theorem rg_has (τ : SC) {n : Nat} (hn : n < 2147483648) (e : τ.1 113 0 = nI n) (x : Int32) : fc_to_has τ x = some (if 0 ≤ x ∧ x < nI n then 1 else 0) := by
  unfold fc_to_has
  rw [e]
  by_cases h1 : x < 0
  · rw [if_pos h1, if_neg (fun z => by have a1 := Int32.lt_iff_toInt_lt.mp h1; have a2 := Int32.le_iff_toInt_le.mp z.1; omega)]
  · rw [if_neg h1]
    by_cases h2 : nI n ≤ x
    · rw [if_pos h2, if_neg (fun z => by have a1 := Int32.le_iff_toInt_le.mp h2; have a2 := Int32.lt_iff_toInt_lt.mp z.2; omega)]
    · rw [if_neg h2, if_pos ⟨rg_nlt ▸ h1, by
        rw [Int32.le_iff_toInt_le] at h2
        rw [Int32.lt_iff_toInt_lt]
        omega⟩]
theorem rg_isOne (σ : SM) {n : Nat} (hn : n < 2147483648) (e : σ 0 0 = nI n) (x : Int32) : fm_isOne σ x = some (if 0 ≤ x ∧ x < nI n then 1 else 0) := by
  unfold fm_isOne
  rw [e]
  by_cases h1 : x < 0
  · rw [if_pos h1, if_neg (fun z => by have a1 := Int32.lt_iff_toInt_lt.mp h1; have a2 := Int32.le_iff_toInt_le.mp z.1; omega)]
  · rw [if_neg h1]
    by_cases h2 : nI n ≤ x
    · rw [if_pos h2, if_neg (fun z => by have a1 := Int32.le_iff_toInt_le.mp h2; have a2 := Int32.lt_iff_toInt_lt.mp z.2; omega)]
    · rw [if_neg h2, if_pos ⟨rg_nlt ▸ h1, by
        rw [Int32.le_iff_toInt_le] at h2
        rw [Int32.lt_iff_toInt_lt]
        omega⟩]
theorem rg_one {x : Int32} {n : Nat} (hn : n < 2147483648) (h : 0 ≤ x ∧ x < nI n) : ∃ k, k < n ∧ x = nI k := by
  obtain ⟨j, h1, h2⟩ := pb_nat h.1
  subst h2
  refine ⟨j, ?_, rfl⟩
  have := h.2
  rwa [pb_lt h1 hn] at this
