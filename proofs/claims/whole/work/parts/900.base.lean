/-! PURE: numbers -/
theorem pb_lit (n : Nat) : (OfNat.ofNat n : Int32) = nI n := Eq.symm (Eq.symm (Eq.trans rfl rfl))
theorem pb_toInt {n : Nat} (h : n < 2147483648) : (nI n).toInt = (n : Int) := nI_toInt (by omega)
theorem pb_lt {a b : Nat} (ha : a < 2147483648) (hb : b < 2147483648) : (nI a < nI b) = (a < b) := propext (nI_ltI (by omega) (by omega))
theorem pb_le {a b : Nat} (ha : a < 2147483648) (hb : b < 2147483648) : (nI a ≤ nI b) = (a ≤ b) := propext (nI_leI (by omega) (by omega))
theorem pb_eq {a b : Nat} (ha : a < 2147483648) (hb : b < 2147483648) : (nI a = nI b) = (a = b) := propext (nI_eq (by omega) (by omega))
theorem pb_cl {a : Nat} (ha : a < 2147483648) : (nI a).toNatClampNeg = a := nI_clamp (by omega)
theorem pb_add (a b : Nat) : nI a + nI b = nI (a + b) := nI_add a b
theorem pb_mul (a b : Nat) : nI a * nI b = nI (a * b) := pk_mul a b
theorem pb_sub {a b : Nat} (h : b ≤ a) : nI a - nI b = nI (a - b) := pk_sub h
theorem pb_div {a b : Nat} (ha : a < 2147483648) (h0 : 0 < b) (hb : b < 2147483648) : nI a / nI b = nI (a / b) := pk_div (by omega) h0 (by omega)
theorem pb_rem {a b : Nat} (ha : a < 2147483648) (h0 : 0 < b) (hb : b < 2147483648) : hrem (nI a) (nI b) = nI (a % b) := pk_rem (by omega) h0 (by omega)
theorem pb_in {a n : Nat} (ha : a < 2147483648) (h : a < n) : hin (nI a) n = true := by
  simp only [hin, Bool.and_eq_true, decide_eq_true_eq]
  exact ⟨nI_pos (by omega), by rw [nI_clamp (by omega)]; exact h⟩
theorem pb_oc {α : Type} (x : Option α) : oc true x = x := if_pos rfl
theorem pb_hl {α β : Type} (x : α) (f : α → β) : hl x f = f x := rfl
theorem pb_bs {α β : Type} (x : α) (f : α → Option β) : Option.bind (some x) f = f x := rfl
theorem pb_neg1 : (-1 : Int32).toInt = -1 := by decide
/-- an int that lies between two naturals is one -/
theorem pb_nat {x : Int32} (h : 0 ≤ x) : ∃ n : Nat, n < 2147483648 ∧ x = nI n := by
  obtain ⟨j, h1, h2⟩ := nI_of (x := x) (fun q => by
    have h3 := Int32.le_iff_toInt_le.mp h
    have h4 := Int32.lt_iff_toInt_lt.mp q
    omega)
  exact ⟨j, by omega, h2⟩
theorem pb_1 : (nI 1 = 0) = False := by decide
theorem pb_0 : (nI 0 = 0) = True := by decide
theorem pb_z {a : Nat} (h : a < 2147483648) : (nI a < 0) = False := by
  have := nI_pos (n := a) (by omega)
  simp only [this]
theorem pb_zle {a : Nat} (h : a < 2147483648) : ((0 : Int32) ≤ nI a) = True := by
  have := nI_pos' (n := a) (by omega)
  simp only [this]
theorem pb_lz {a : Nat} (h : a < 2147483648) : (nI a ≤ 0) = (a = 0) := by
  rw [show (0 : Int32) = nI 0 from rfl, pb_le h (by decide)]
  exact propext ⟨fun h => by omega, fun h => by omega⟩
theorem pb_ez {a : Nat} (h : a < 2147483648) : (nI a = 0) = (a = 0) := by
  rw [show (0 : Int32) = nI 0 from rfl, pb_eq h (by decide)]
theorem pb_pz {a : Nat} (h : a < 2147483648) : ((0 : Int32) < nI a) = (0 < a) := by
  rw [show (0 : Int32) = nI 0 from rfl, pb_lt (by decide) h]
theorem pb_upd (f : Nat → Int32) (k : Nat) (x : Int32) (j : Nat) : upd f k x j = if j = k then x else f j := rfl
theorem pb_sf0 (σ : SM) (f : Nat → Int32) : sf σ 0 f 0 = f := rfl
theorem pb_sfsf (σ : SM) (k : Nat) (f g : Nat → Int32) : sf (sf σ k f) k g = sf σ k g := by
  funext i
  unfold sf
  by_cases h : i = k <;> simp [h]
