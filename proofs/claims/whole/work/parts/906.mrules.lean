/-! PURE: the reference's rules -/
theorem pb_subne {a b c : Nat} (ha : a < b) (hb : b < 1073741824) (hc : c < 1073741824) : (nI a - nI b = nI c) = False := by
  refine propext ⟨fun h => ?_, fun h => h.elim⟩
  have h1 := congrArg Int32.toInt h
  rw [pk_sub_toInt (by omega) (by omega), nI_toInt (by omega)] at h1
  omega
theorem pb_l2 (n : Nat) : (OfNat.ofNat n : Int64) = lN n := rfl
theorem pb_lm2 {n : Nat} (h : n < 4294967296) : lN n &&& (-2 : Int64) = lN (n / 2 * 2) := by
  rw [show (-2 : Int64) = lN (2 ^ 64 - 2) by decide +kernel, fb_andL]
  congr 1
  apply Nat.eq_of_testBit_eq
  intro i
  rw [Nat.testBit_and, show (2 : Nat) ^ 64 - 2 = (2 ^ 63 - 1) * 2 ^ 1 by decide, Nat.testBit_mul_two_pow, show n / 2 * 2 = (n / 2 ^ 1) * 2 ^ 1 by rw [Nat.pow_one], Nat.testBit_mul_two_pow]
  by_cases hi : 1 ≤ i
  · simp only [hi, decide_true, Bool.true_and]
    rw [Nat.testBit_div_two_pow, Nat.testBit_two_pow_sub_one, show i - 1 + 1 = i by omega]
    by_cases h3 : i < 64
    · simp [show i - 1 < 63 by omega]
    · have : n.testBit i = false := Nat.testBit_lt_two_pow (Nat.lt_of_lt_of_le h (by calc 4294967296 = 2 ^ 32 := by decide
        _ ≤ 2 ^ i := Nat.pow_le_pow_right (by decide) (by omega)))
      simp [this]
  · simp [hi]
theorem em_under : ∀ a, a < 6 → ∀ b, b < 6 → fm_isUnder (nI a) (nI b) = some (if vunder a b = true then 1 else 0) := by decide +kernel
section MR2
variable {σ : SM} {v : VT} {pr : List RU} {o : Nat}
theorem em_valueOf (hT : twM (σ 0) v pr) (ho : o < v 13 0) (hv : vOK v) {a : Nat} (ha : a < 10005) : fm_valueOf σ (nI a) (nI o) = some (nI (vvl (vfact v o) a)) := by
  unfold fm_valueOf vvl
  rw [em_its2 hT ho hv, em_late hT ho hv, hT.2.1, hT.2.2.2.1]
  simp only [pb_bs]
  by_cases h : a < 10000
  · rw [if_pos h]
    simp (disch := omega) only [pb_lit, pb_subne, if_false, show (0 : Int32) = nI 0 from rfl]
  · rw [if_neg h]
    simp (disch := omega) only [pb_lit, pb_sub, pb_eq, show (0 : Int32) = nI 0 from rfl]
    unfold vfact
    rcases (show a = 10000 ∨ a = 10001 ∨ a = 10002 ∨ a = 10003 ∨ a = 10004 by omega) with rfl | rfl | rfl | rfl | rfl <;> simp
theorem vfact_le (ho : o < v 13 0) (hv : vOK v) (i : Nat) : vfact v o i ≤ 99 := by
  have h1 := vLate_le ho hv
  have h2 := hv.1
  have h3 := hv.2.1
  have h4 := hv.2.2.2.1
  have h5 := hv.2.2.2.2.1
  have h6 := (hv.2.2.2.2.2.2.2.2.1 o ho).2.2.1
  unfold vfact
  split
  · omega
  · split
    · omega
    · split
      · omega
      · split <;> omega
theorem vvl_le (ho : o < v 13 0) (hv : vOK v) {a : Nat} : vvl (vfact v o) a < 10000 := by
  have h := vfact_le ho hv (a - 10000)
  unfold vvl
  split <;> omega
theorem pb_lcmp1 {a : Nat} (h : a < 2) : (lg_cmp (lN a) (1 : Int64) = 0) = (a = 1) := by
  rcases (show a = 0 ∨ a = 1 by omega) with rfl | rfl <;> decide
theorem vstp_lt {fa : Nat → Nat} {t d : Nat} {q : RS} (hd : d < 28 ∨ 3 ≤ q.1) (ht : t < 2 ^ (d + 1)) : vstp fa t q < 2 ^ ((if q.1 < 3 then d + 1 else if q.1 = 3 then d else d - 1) + 1) := by
  have key : ∀ x y : Nat, (if x < y then (1 : Nat) else 0) ≤ 1 := fun x y => by split <;> omega
  have keq : ∀ x y : Nat, (if x = y then (1 : Nat) else 0) ≤ 1 := fun x y => by split <;> omega
  have e2 : 2 ^ (d + 1 + 1) = 2 * 2 ^ (d + 1) := by rw [Nat.pow_succ, Nat.mul_comm]
  unfold vstp
  by_cases h0 : q.1 = 0
  · rw [if_pos h0, if_pos (show q.1 < 3 by omega), e2]
    have := key (vvl fa q.2.1) (vvl fa q.2.2)
    omega
  rw [if_neg h0]
  by_cases h1 : q.1 = 1
  · rw [if_pos h1, if_pos (show q.1 < 3 by omega), e2]
    have := keq (vvl fa q.2.1) (vvl fa q.2.2)
    omega
  rw [if_neg h1]
  by_cases h2 : q.1 = 2
  · rw [if_pos h2, if_pos (show q.1 < 3 by omega), e2]
    have := key (vvl fa q.2.2) (vvl fa q.2.1)
    omega
  rw [if_neg h2, if_neg (show ¬ q.1 < 3 by omega)]
  by_cases h3 : q.1 = 3
  · rw [if_pos h3, if_pos h3]
    exact Nat.xor_lt_two_pow ht (Nat.lt_of_lt_of_le (show 1 < 2 ^ 1 by decide) (Nat.pow_le_pow_right (by decide) (by omega)))
  rw [if_neg h3, if_neg h3]
  have hh : t / 2 < 2 ^ (d - 1 + 1) := by
    cases d with
    | zero => simp at ht ⊢; omega
    | succ d =>
      have e3 : 2 ^ (d + 1 + 1) = 2 * 2 ^ (d + 1) := by rw [Nat.pow_succ, Nat.mul_comm]
      rw [e3] at ht
      show t / 2 < 2 ^ (d + 1)
      omega
  by_cases h4 : q.1 = 4
  · rw [if_pos h4]
    split <;> omega
  rw [if_neg h4]
  exact Nat.or_lt_two_pow hh (Nat.lt_of_lt_of_le (Nat.mod_lt t (by decide)) (show 2 ≤ 2 ^ (d - 1 + 1) by calc 2 = 2 ^ 1 := by decide
    _ ≤ 2 ^ (d - 1 + 1) := Nat.pow_le_pow_right (by decide) (by omega)))
end MR2
