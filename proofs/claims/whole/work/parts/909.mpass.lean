/-! PURE: an hour of the reference -/
def vNews (nw mood : Nat) : Nat := ((fm_told (nI mood) (nI nw)).getD 0).toNatClampNeg
theorem em_told : ∀ m, m < 10 → ∀ n, n < 16 → fm_told (nI m) (nI n) = some (nI (vNews n m)) ∧ vNews n m < 10 := by decide +kernel
def vCh (kd g h : Nat) : Int32 := (fm_cheersBy (nI kd) (nI g) (nI h)).getD 0
def vChN (kd g h : Nat) : Nat := (vCh kd g h + 3).toNatClampNeg
theorem em_cheersBy : ∀ k, k < 6 → ∀ g, g < 10 → ∀ h, h < 17 → fm_cheersBy (nI k) (nI g) (nI h) = some (vCh k g h) ∧ vCh k g h = nI (vChN k g h) - nI 3 ∧ vChN k g h < 12 := by decide +kernel
def vW (m c : Nat) : Nat := ((fm_within (nI m + (nI c - nI 3))).getD 0).toNatClampNeg
theorem em_within : ∀ m, m < 10 → ∀ c, c < 12 → fm_within (nI m + (nI c - nI 3)) = some (nI (vW m c)) ∧ vW m c < 10 := by decide +kernel
def vMood (kd g h m : Nat) : Nat := vW m (vChN kd g h)
def vPays (kd k : Nat) : Nat := if kd = 1 then 6 else if kd = 2 then 4 + k else if kd = 3 then 2 * (4 + k) else if kd = 4 then 3 else 1
theorem vOK_mood {v : VT} (h : vOK v) {x : Nat} (hx : x ≤ 9) : vOK (vs v 5 x) := ⟨h.1, h.2.1, h.2.2.1, h.2.2.2.1, hx, h.2.2.2.2.2⟩
theorem vOK_hands {v : VT} (h : vOK v) {x : Nat} (hx : x ≤ 99) : vOK (vs v 6 x) := ⟨h.1, h.2.1, h.2.2.1, h.2.2.2.1, h.2.2.2.2.1, hx, h.2.2.2.2.2.2⟩
theorem vOK_hour {v : VT} (h : vOK v) {x : Nat} (hx : x ≤ v 3 0) : vOK (vs v 2 x) := ⟨h.1, hx, h.2.2⟩
theorem vOK_waits {v : VT} (h : vOK v) {x : Nat} (hx : x < 2 ^ v 13 0) : vOK (vs v 7 x) := ⟨h.1, h.2.1, h.2.2.1, h.2.2.2.1, h.2.2.2.2.1, h.2.2.2.2.2.1, hx, h.2.2.2.2.2.2.2⟩
theorem vOK_done {v : VT} (h : vOK v) {x : Nat} (hx : x < 2 ^ v 13 0) : vOK (vs v 8 x) := ⟨h.1, h.2.1, h.2.2.1, h.2.2.2.1, h.2.2.2.2.1, h.2.2.2.2.2.1, h.2.2.2.2.2.2.1, hx, h.2.2.2.2.2.2.2.2⟩
/-- a guild calls: the worth, and the numbers behind it -/
def vCalls (v : VT) (pr : List RU) (k : Nat) : Nat × VT :=
  if vWill v pr k = 1 then (0, v) else
  if vWill v pr k = 2 then (1, vs v 7 (vclr (v 7 0) k)) else
  if vTime v k = true then (vPays (v 14 k) k + (9 - vLate v k), vs (vs (vs v 7 (vclr (v 7 0) k)) 5 (vMood (v 14 k) (v 16 k) (v 2 0) (v 5 0))) 8 (vset (v 8 0) k))
  else (0, vs (vs v 7 (vclr (v 7 0) k)) 5 (vMood (v 14 k) (v 16 k) (v 2 0) (v 5 0)))
section MP
variable {σ : SM} {v : VT} {pr : List RU} {o : Nat}
theorem em_cheers (hT : twM (σ 0) v pr) (ho : o < v 13 0) (hv : vOK v) : fm_cheers σ (nI o) = some (vCh (v 14 o) (v 16 o) (v 2 0)) := by
  have h1 := hv.2.2.2.2.2.2.2.2.1 o ho
  have h2 := hv.2.1
  have h3 := hv.2.2.2.1
  unfold fm_cheers
  rw [em_its0 hT ho hv, em_its2 hT ho hv, hT.2.1]
  simp only [pb_bs]
  rw [(em_cheersBy (v 14 o) (by omega) (v 16 o) (by omega) (v 2 0) (by omega)).1]
  rfl
theorem em_pays (hT : twM (σ 0) v pr) (ho : o < v 13 0) (hv : vOK v) : fm_pays σ (nI o) = some (nI (vPays (v 14 o) o)) := by
  have h1 := hv.2.2.2.2.2.2.2.2.1 o ho
  have h0 := hv.1
  unfold fm_pays vPays
  rw [em_its0 hT ho hv]
  simp (disch := omega) only [pb_bs, pb_lit, pb_eq, pb_add, pb_mul]
  by_cases e1 : v 14 o = 1
  · rw [if_pos e1, if_pos e1]
  rw [if_neg e1, if_neg e1]
  by_cases e2 : v 14 o = 2
  · rw [if_pos e2, if_pos e2]
  rw [if_neg e2, if_neg e2]
  by_cases e3 : v 14 o = 3
  · rw [if_pos e3, if_pos e3]
  rw [if_neg e3, if_neg e3]
  by_cases e4 : v 14 o = 4
  · rw [if_pos e4, if_pos e4]
  rw [if_neg e4, if_neg e4]
theorem em_great {a b : Int32} : fm_greatest a b = some (if b < a then a else b) := by
  unfold fm_greatest
  by_cases h : a ≤ b
  · rw [if_pos h, if_neg (fun z => by have h1 := Int32.le_iff_toInt_le.mp h; have h2 := Int32.lt_iff_toInt_lt.mp z; omega)]
  · rw [if_neg h, if_pos (by
      rw [Int32.lt_iff_toInt_lt]
      rw [Int32.le_iff_toInt_le] at h
      omega)]
theorem em_nine {l : Nat} (hl : l ≤ 99) : fm_greatest (0 : Int32) ((9 : Int32) - nI l) = some (nI (9 - l)) := by
  have key : ∀ l, l < 100 → fm_greatest (0 : Int32) ((9 : Int32) - nI l) = some (nI (9 - l)) := by decide +kernel
  exact key l (by omega)
end MP
