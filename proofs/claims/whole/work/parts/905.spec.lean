/-! PURE: the town's numbers. v : component (numbered as the class's fields of a town) -> place -> number; pr: the rules.
2 hour, 3 end, 5 mood, 6 hands, 7 waits, 8 done, 10 tidings, 11 shifts, 12 bears, 13 guilds, 14 kind, 15 due, 16 gift, 17 place, 18 reports, 19 told -/
abbrev VT : Type := Nat → Nat → Nat
abbrev RS : Type := Nat × Nat × Nat
abbrev RU : Type := Nat × Nat × List RS
def vs (v : VT) (k x : Nat) : VT := fun i => if i = k then fun _ => x else v i
theorem vs_same (v : VT) (k x j : Nat) : vs v k x k j = x := by simp [vs]
theorem vs_ne (v : VT) {k i : Nat} (x : Nat) (h : i ≠ k) : vs v k x i = v i := by simp [vs, h]
def vdS (v : VT) (k : Nat) : Nat := v 15 k + v 11 (v 17 k)
def vab (a b : Nat) : Nat := if a < b then b - a else a - b
def vLate (v : VT) (k : Nat) : Nat := vab (v 6 0) (vdS v k)
def vbit (w k : Nat) : Nat := w / 2 ^ k % 2
def vfact (v : VT) (k i : Nat) : Nat := if i = 0 then v 2 0 else if i = 1 then v 16 k else if i = 2 then vLate v k else if i = 3 then v 5 0 else k
def vvl (fa : Nat → Nat) (a : Nat) : Nat := if a < 10000 then a else fa (a - 10000)
def vstp (fa : Nat → Nat) (t : Nat) (q : RS) : Nat :=
  if q.1 = 0 then 2 * t + (if vvl fa q.2.1 < vvl fa q.2.2 then 1 else 0)
  else if q.1 = 1 then 2 * t + (if vvl fa q.2.1 = vvl fa q.2.2 then 1 else 0)
  else if q.1 = 2 then 2 * t + (if vvl fa q.2.2 < vvl fa q.2.1 then 1 else 0)
  else if q.1 = 3 then t ^^^ 1
  else if q.1 = 4 then (if t % 2 = 1 then t / 2 else t / 2 / 2 * 2)
  else t / 2 ||| t % 2
def vholds (fa : Nat → Nat) (ss : List RS) : Bool := decide (ss.foldl (vstp fa) 1 % 2 = 1)
def vunder (own kind : Nat) : Bool := decide (kind = 0 ∨ own = kind ∨ (kind = 2 ∧ own = 3) ∨ (kind = 4 ∧ own = 5))
def vwill (fa : Nat → Nat) (kind : Nat) : List RU → Nat
  | [] => 0
  | (k, d, ss) :: rs => if vunder kind k = true ∧ vholds fa ss = true then d else vwill fa kind rs
def vWill (v : VT) (pr : List RU) (k : Nat) : Nat := vwill (vfact v k) (v 14 k) pr
/-- steps that can be walked: operands in range, never deeper than 28 truths -/
def vokS : Nat → List RS → Bool
  | _, [] => true
  | d, (s, a, b) :: ss => if s < 3 then decide (d < 28 ∧ a < 10005 ∧ b < 10005) && vokS (d + 1) ss else decide (s < 6) && (if s = 3 then vokS d ss else vokS (d - 1) ss)
def vokR (q : RU) : Prop := q.1 ≤ 5 ∧ q.2.1 ≤ 2 ∧ vokS 0 q.2.2 = true
def vlen (pr : List RU) : Nat := (pr.map fun q => q.2.2.length).sum
/-- what holds of the numbers -/
def vOK (v : VT) : Prop := v 13 0 ≤ 6 ∧ v 2 0 ≤ v 3 0 ∧ 1 ≤ v 3 0 ∧ v 3 0 ≤ 16 ∧ v 5 0 ≤ 9 ∧ v 6 0 ≤ 99 ∧ v 7 0 < 2 ^ v 13 0 ∧ v 8 0 < 2 ^ v 13 0 ∧ (∀ o, o < v 13 0 → (1 ≤ v 14 o ∧ v 14 o ≤ 5) ∧ v 15 o ≤ 60 ∧ v 16 o ≤ 9 ∧ v 17 o ≤ 5) ∧ (∀ j, j < 6 → v 11 j ≤ 9 ∧ v 12 j ≤ 14) ∧ (∀ j, j < 16 → v 10 j ≤ 15) ∧ v 18 0 ≤ 6 ∧ (∀ r, r < v 18 0 → v 19 (4 * r) ≤ 15 ∧ v 19 (4 * r + 1) ≤ 1 ∧ v 19 (4 * r + 2) ≤ v 19 (4 * r + 3) ∧ v 19 (4 * r + 3) ≤ 99)
def pOK (pr : List RU) : Prop := pr.length ≤ 8 ∧ vlen pr ≤ 150 ∧ ∀ q ∈ pr, vokR q
/-! the reference's row -/
def stM (f : Nat → Int32) : Nat → List RS → Prop
  | _, [] => True
  | k, (a, b, c) :: ss => f (130 + 3 * k) = nI a ∧ f (131 + 3 * k) = nI b ∧ f (132 + 3 * k) = nI c ∧ stM f (k + 1) ss
def ruM (f : Nat → Int32) : Nat → Nat → List RU → Prop
  | _, _, [] => True
  | r, k, (kd, d, ss) :: rs => f (74 + 4 * r) = nI kd ∧ f (75 + 4 * r) = nI d ∧ f (76 + 4 * r) = nI k ∧ f (77 + 4 * r) = nI (k + ss.length) ∧ stM f k ss ∧ ruM f (r + 1) (k + ss.length) rs
def twM (f : Nat → Int32) (v : VT) (pr : List RU) : Prop := f 0 = nI (v 13 0) ∧ f 1 = nI (v 2 0) ∧ f 2 = nI (v 3 0) ∧ f 8 = nI (v 5 0) ∧ f 9 = nI (v 6 0) ∧ (∀ o, o < v 13 0 → f (10 + 6 * o) = nI (v 14 o) ∧ f (11 + 6 * o) = nI (v 15 o) ∧ f (12 + 6 * o) = nI (v 16 o) ∧ f (13 + 6 * o) = nI (v 17 o) ∧ f (14 + 6 * o) = nI (vbit (v 7 0) o) ∧ f (15 + 6 * o) = nI (vbit (v 8 0) o)) ∧ (∀ j, j < 6 → f (46 + j) = nI (v 11 j) ∧ f (52 + j) = nI (v 12 j)) ∧ (∀ j, j < 16 → f (58 + j) = nI (v 10 j)) ∧ f 6 = nI (v 18 0) ∧ (∀ r, r < v 18 0 → ∀ i, i < 4 → f (106 + 4 * r + i) = nI (v 19 (4 * r + i))) ∧ f 5 = nI pr.length ∧ ruM f 0 0 pr
theorem vbit_lt (w k : Nat) : vbit w k < 2 := Nat.mod_lt _ (by decide)
section MV
variable {σ : SM} {v : VT} {pr : List RU} {o : Nat}
theorem em_its {w : Nat} (h : 10 + 6 * o + w < 580) : fm_its σ (nI o) (nI w) = some (σ 0 (10 + 6 * o + w)) := by
  unfold fm_its
  simp (disch := omega) only [pb_lit, pb_mul, pb_add, pb_in, pb_oc, pb_cl]
theorem em_its0 (hT : twM (σ 0) v pr) (ho : o < v 13 0) (hv : vOK v) : fm_its σ (nI o) 0 = some (nI (v 14 o)) := by
  have h := hv.1
  rw [show (0 : Int32) = nI 0 from rfl, em_its (by omega), (hT.2.2.2.2.2.1 o ho).1.symm]
  rfl
theorem em_its1 (hT : twM (σ 0) v pr) (ho : o < v 13 0) (hv : vOK v) : fm_its σ (nI o) 1 = some (nI (v 15 o)) := by
  have h := hv.1
  rw [show (1 : Int32) = nI 1 from rfl, em_its (by omega), (hT.2.2.2.2.2.1 o ho).2.1.symm, show 10 + 6 * o + 1 = 11 + 6 * o by omega]
theorem em_its2 (hT : twM (σ 0) v pr) (ho : o < v 13 0) (hv : vOK v) : fm_its σ (nI o) 2 = some (nI (v 16 o)) := by
  have h := hv.1
  rw [show (2 : Int32) = nI 2 from rfl, em_its (by omega), (hT.2.2.2.2.2.1 o ho).2.2.1.symm, show 10 + 6 * o + 2 = 12 + 6 * o by omega]
theorem em_its3 (hT : twM (σ 0) v pr) (ho : o < v 13 0) (hv : vOK v) : fm_its σ (nI o) 3 = some (nI (v 17 o)) := by
  have h := hv.1
  rw [show (3 : Int32) = nI 3 from rfl, em_its (by omega), (hT.2.2.2.2.2.1 o ho).2.2.2.1.symm, show 10 + 6 * o + 3 = 13 + 6 * o by omega]
theorem em_its4 (hT : twM (σ 0) v pr) (ho : o < v 13 0) (hv : vOK v) : fm_its σ (nI o) 4 = some (nI (vbit (v 7 0) o)) := by
  have h := hv.1
  rw [show (4 : Int32) = nI 4 from rfl, em_its (by omega), (hT.2.2.2.2.2.1 o ho).2.2.2.2.1.symm, show 10 + 6 * o + 4 = 14 + 6 * o by omega]
theorem em_its5 (hT : twM (σ 0) v pr) (ho : o < v 13 0) (hv : vOK v) : fm_its σ (nI o) 5 = some (nI (vbit (v 8 0) o)) := by
  have h := hv.1
  rw [show (5 : Int32) = nI 5 from rfl, em_its (by omega), (hT.2.2.2.2.2.1 o ho).2.2.2.2.2.symm, show 10 + 6 * o + 5 = 15 + 6 * o by omega]
theorem em_apart {a b : Nat} (ha : a < 2147483648) (hb : b < 2147483648) : fm_apart (nI a) (nI b) = some (nI (vab a b)) := by
  unfold fm_apart vab
  simp (disch := omega) only [pb_le]
  by_cases h : a < b
  · rw [if_neg (by omega), if_pos h, pb_sub (by omega)]
  · rw [if_pos (by omega), if_neg h, pb_sub (by omega)]
theorem em_place (hT : twM (σ 0) v pr) (ho : o < v 13 0) (hv : vOK v) : fm_place σ (nI o) = some (nI (vdS v o)) := by
  have h1 := (hv.2.2.2.2.2.2.2.2.1 o ho).2.2.2
  unfold fm_place
  rw [em_its1 hT ho hv, em_its3 hT ho hv]
  simp (disch := omega) only [pb_bs, pb_lit, pb_add, pb_in, pb_oc, pb_cl]
  rw [(hT.2.2.2.2.2.2.1 (v 17 o) (by omega)).1, pb_add]
  rfl
theorem vdS_le (ho : o < v 13 0) (hv : vOK v) : vdS v o ≤ 69 := by
  have h := hv.2.2.2.2.2.2.2.2.1 o ho
  have h2 := (hv.2.2.2.2.2.2.2.2.2.1 (v 17 o) (by omega)).1
  unfold vdS
  omega
theorem vLate_le (ho : o < v 13 0) (hv : vOK v) : vLate v o ≤ 99 := by
  have h := vdS_le ho hv
  have h2 := hv.2.2.2.2.2.1
  unfold vLate vab
  split <;> omega
theorem em_late (hT : twM (σ 0) v pr) (ho : o < v 13 0) (hv : vOK v) : fm_late σ (nI o) = some (nI (vLate v o)) := by
  have h := vdS_le ho hv
  have h2 := hv.2.2.2.2.2.1
  unfold fm_late
  rw [em_place hT ho hv, hT.2.2.2.2.1]
  simp only [pb_bs]
  rw [em_apart (by omega) (by omega)]
  rfl
def vTime (v : VT) (k : Nat) : Bool := decide (vLate v k ≤ v 12 (v 17 k))
theorem em_isInTime (hT : twM (σ 0) v pr) (ho : o < v 13 0) (hv : vOK v) : fm_isInTime σ (nI o) = some (if vTime v o = true then 1 else 0) := by
  have h1 := (hv.2.2.2.2.2.2.2.2.1 o ho).2.2.2
  have h2 := vLate_le ho hv
  have h3 := (hv.2.2.2.2.2.2.2.2.2.1 (v 17 o) (by omega)).2
  unfold fm_isInTime
  rw [em_late hT ho hv, em_its3 hT ho hv]
  simp (disch := omega) only [pb_bs, pb_lit, pb_add, pb_in, pb_oc, pb_cl]
  rw [(hT.2.2.2.2.2.2.1 (v 17 o) (by omega)).2]
  simp (disch := omega) only [pb_lt]
  unfold vTime
  by_cases h : vLate v o ≤ v 12 (v 17 o)
  · rw [if_neg (by omega), if_pos (by simpa using h)]
  · rw [if_pos (by omega), if_neg (by simpa using h)]
end MV
