/-! PURE: tokens of the tape -/
def isL (c : Nat) : Bool := decide (97 ≤ c ∧ c ≤ 122)
def isD (c : Nat) : Bool := decide (48 ≤ c ∧ c ≤ 57)
def run (P : Nat → Bool) : Nat → Nat → Nat
  | 0, p => p
  | m + 1, p => if P p = true then run P m (p + 1) else p
theorem run_le (P : Nat → Bool) : ∀ m p, p ≤ run P m p ∧ run P m p ≤ p + m := by
  intro m
  induction m with
  | zero => intro p; exact ⟨Nat.le_refl _, Nat.le_refl _⟩
  | succ m ih =>
    intro p
    show p ≤ (if P p = true then run P m (p + 1) else p) ∧ (if P p = true then run P m (p + 1) else p) ≤ p + (m + 1)
    have := ih (p + 1)
    split <;> omega
theorem run_in (P : Nat → Bool) : ∀ m p i, p ≤ i → i < run P m p → P i = true := by
  intro m
  induction m with
  | zero =>
    intro p i h1 h2
    have h2 : i < p := h2
    omega
  | succ m ih =>
    intro p i h1 h2
    have h2 : i < (if P p = true then run P m (p + 1) else p) := h2
    by_cases c : P p = true
    · rw [if_pos c] at h2
      by_cases e : i = p
      · rw [e]; exact c
      · exact ih (p + 1) i (by omega) h2
    · rw [if_neg c] at h2
      omega
theorem run_end (P : Nat → Bool) : ∀ m p, run P m p < p + m → P (run P m p) = false := by
  intro m
  induction m with
  | zero =>
    intro p h
    have h : p < p + 0 := h
    omega
  | succ m ih =>
    intro p h
    show P (if P p = true then run P m (p + 1) else p) = false
    have h : (if P p = true then run P m (p + 1) else p) < p + (m + 1) := h
    by_cases c : P p = true
    · rw [if_pos c] at h ⊢
      exact ih (p + 1) (by omega)
    · rw [if_neg c]
      simpa using c
def mt (b : Nat → Nat) : Nat → List Nat → Bool
  | _, [] => true
  | p, c :: cs => decide (b p = c) && mt b (p + 1) cs
def WT : List (List Nat) := [[103, 117, 105, 108, 100], [98, 97, 107, 101, 114], [108, 97, 119, 121, 101, 114], [100, 111, 99, 116, 111, 114], [98, 111, 111, 107], [99, 97, 110, 100, 108, 101], [99, 111, 109, 101], [119, 97, 105, 116], [108, 101, 97, 118, 101], [105, 102], [111, 114], [97, 110, 100], [110, 111, 116], [104, 111, 117, 114], [103, 105, 102, 116], [108, 97, 116, 101], [109, 111, 111, 100], [110, 117, 109, 98, 101, 114]]
/-- the name from q to t is the k-th word -/
def mW (b : Nat → Nat) (q t k : Nat) : Bool := decide (t = q + (WT.getD k []).length) && mt b q (WT.getD k [])
def wd (b : Nat → Nat) (q t : Nat) : Nat → Nat → Nat
  | 0, _ => 18
  | m + 1, k => if mW b q t k = true then k else wd b q t m (k + 1)
theorem mt_inj (b : Nat → Nat) : ∀ (w w' : List Nat) (p : Nat), w.length = w'.length → mt b p w = true → mt b p w' = true → w = w' := by
  intro w
  induction w with
  | nil =>
    intro w' p h _ _
    cases w' with
    | nil => rfl
    | cons c cs => cases h
  | cons c cs ih =>
    intro w' p h h1 h2
    cases w' with
    | nil => cases h
    | cons c' cs' =>
      have h1 : (decide (b p = c) && mt b (p + 1) cs) = true := h1
      have h2 : (decide (b p = c') && mt b (p + 1) cs') = true := h2
      rw [Bool.and_eq_true, decide_eq_true_eq] at h1 h2
      rw [ih cs' (p + 1) (by have : cs.length + 1 = cs'.length + 1 := h; omega) h1.2 h2.2, ← h1.1, ← h2.1]
theorem WT_inj : ∀ i, i < 18 → ∀ j, j < 18 → WT.getD i [] = WT.getD j [] → i = j := by decide +kernel
theorem mW_inj {b : Nat → Nat} {q t i j : Nat} (hi : i < 18) (hj : j < 18) (h1 : mW b q t i = true) (h2 : mW b q t j = true) : i = j := by
  unfold mW at h1 h2
  rw [Bool.and_eq_true, decide_eq_true_eq] at h1 h2
  exact WT_inj i hi j hj (mt_inj b _ _ q (by omega) h1.2 h2.2)
theorem wd_of {b : Nat → Nat} {q t j : Nat} (hj : j < 18) (h : mW b q t j = true) : ∀ m k, k ≤ j → k + m = 18 → wd b q t m k = j := by
  intro m
  induction m with
  | zero => intro k h1 h2; omega
  | succ m ih =>
    intro k h1 h2
    show (if mW b q t k = true then k else wd b q t m (k + 1)) = j
    by_cases c : mW b q t k = true
    · rw [if_pos c]
      exact mW_inj (by omega) hj c h
    · rw [if_neg c]
      have : k ≠ j := fun e => c (e ▸ h)
      exact ih (k + 1) (by omega) (by omega)
theorem wd_is {b : Nat → Nat} {q t : Nat} : ∀ m k, k + m = 18 → (wd b q t m k = 18 ∨ (wd b q t m k < 18 ∧ mW b q t (wd b q t m k) = true)) := by
  intro m
  induction m with
  | zero => intro k _; exact Or.inl rfl
  | succ m ih =>
    intro k h
    show (if mW b q t k = true then k else wd b q t m (k + 1)) = 18 ∨ ((if mW b q t k = true then k else wd b q t m (k + 1)) < 18 ∧ mW b q t (if mW b q t k = true then k else wd b q t m (k + 1)) = true)
    by_cases c : mW b q t k = true
    · rw [if_pos c]
      exact Or.inr ⟨by omega, c⟩
    · rw [if_neg c]
      exact ih (k + 1) (by omega)
def wdc (b : Nat → Nat) (q t : Nat) : Nat := wd b q t 18 0
theorem wdc_iff {b : Nat → Nat} {q t j : Nat} (hj : j < 18) : wdc b q t = j ↔ mW b q t j = true := by
  constructor
  · intro h
    rcases wd_is (b := b) (q := q) (t := t) 18 0 rfl with h1 | h1
    · have : wdc b q t = 18 := h1
      omega
    · have h2 : wdc b q t < 18 ∧ mW b q t (wdc b q t) = true := h1
      rw [h] at h2
      exact h2.2
  · intro h
    exact wd_of hj h 18 0 (Nat.zero_le _) rfl
theorem wdc_le {b : Nat → Nat} {q t : Nat} : wdc b q t ≤ 18 := by
  rcases wd_is (b := b) (q := q) (t := t) 18 0 rfl with h1 | h1
  · exact Nat.le_of_eq h1
  · exact Nat.le_of_lt h1.1
/-- the value of m digits -/
def dv (b : Nat → Nat) : Nat → Nat → Nat → Nat
  | 0, _, a => a
  | m + 1, p, a => dv b m (p + 1) (10 * a + (b p - 48))
/-- kind, code, from, to, number -/
abbrev TK : Type := Nat × Nat × Nat × Nat × Nat
def nxq (b : Nat → Nat) (n q : Nat) : TK :=
  if n ≤ q then (0, 20, n, n, 0)
  else if isL (b q) = true then (1, wdc b q (run (fun i => isL (b i)) (n - q) q), q, run (fun i => isL (b i)) (n - q) q, 0)
  else if isD (b q) = true then (2, if run (fun i => isD (b i)) (n - q) q - q ≤ 4 then 19 else 18, q, run (fun i => isD (b i)) (n - q) q, dv b (run (fun i => isD (b i)) (n - q) q - q) q 0)
  else (3, 100 + b q, q, q + 1, 0)
def skp (b : Nat → Nat) (n p : Nat) : Nat := run (fun i => decide (b i = 32)) (n - p) p
def nx (b : Nat → Nat) (n p : Nat) : TK := nxq b n (skp b n p)
theorem skp_le (b : Nat → Nat) {n p : Nat} (h : p ≤ n) : p ≤ skp b n p ∧ skp b n p ≤ n := by
  have := run_le (fun i => decide (b i = 32)) (n - p) p
  unfold skp
  omega
theorem skp_s {b : Nat → Nat} {n p : Nat} (h : p < n) (c : b p = 32) : skp b n p = skp b n (p + 1) := by
  unfold skp
  rw [show n - p = (n - (p + 1)) + 1 by omega]
  show (if decide (b p = 32) = true then run (fun i => decide (b i = 32)) (n - (p + 1)) (p + 1) else p) = _
  rw [if_pos (decide_eq_true c)]
theorem skp_n {b : Nat → Nat} {n p : Nat} (h : p < n) (c : ¬ b p = 32) : skp b n p = p := by
  unfold skp
  rw [show n - p = (n - (p + 1)) + 1 by omega]
  show (if decide (b p = 32) = true then run (fun i => decide (b i = 32)) (n - (p + 1)) (p + 1) else p) = _
  rw [if_neg (by simp [c])]
theorem skp_z {b : Nat → Nat} {n : Nat} : skp b n n = n := by
  unfold skp
  rw [Nat.sub_self]
  rfl
theorem skp_nb {b : Nat → Nat} {n p : Nat} (hp : p ≤ n) (h : skp b n p < n) : ¬ b (skp b n p) = 32 := by
  have := run_end (fun i => decide (b i = 32)) (n - p) p (by unfold skp at h; omega)
  exact of_decide_eq_false this
theorem run_s {P : Nat → Bool} {n p : Nat} (h : p < n) (c : P p = true) : run P (n - p) p = run P (n - (p + 1)) (p + 1) := by
  rw [show n - p = (n - (p + 1)) + 1 by omega]
  show (if P p = true then run P (n - (p + 1)) (p + 1) else p) = _
  rw [if_pos c]
/-- what holds of a token at q -/
theorem nxq_ok {b : Nat → Nat} {n q : Nat} (hq : q ≤ n) : ((nxq b n q).2.1 = 20 ∧ (nxq b n q).1 = 0 ∧ (nxq b n q).2.2.1 = n ∧ (nxq b n q).2.2.2.1 = n) ∨ (¬ (nxq b n q).2.1 = 20 ∧ (nxq b n q).2.2.1 = q ∧ q < (nxq b n q).2.2.2.1 ∧ (nxq b n q).2.2.2.1 ≤ n) := by
  unfold nxq
  by_cases c0 : n ≤ q
  · rw [if_pos c0]
    exact Or.inl ⟨rfl, rfl, rfl, rfl⟩
  · rw [if_neg c0]
    right
    by_cases c1 : isL (b q) = true
    · rw [if_pos c1]
      have h := run_s (P := fun i => isL (b i)) (show q < n by omega) c1
      have h2 := run_le (fun i => isL (b i)) (n - (q + 1)) (q + 1)
      have h3 := wdc_le (b := b) (q := q) (t := run (fun i => isL (b i)) (n - q) q)
      refine ⟨?_, rfl, ?_, ?_⟩
      · show ¬ wdc b q _ = 20
        omega
      · show q < run (fun i => isL (b i)) (n - q) q
        rw [h]; omega
      · show run (fun i => isL (b i)) (n - q) q ≤ n
        rw [h]; omega
    · rw [if_neg c1]
      by_cases c2 : isD (b q) = true
      · rw [if_pos c2]
        have h := run_s (P := fun i => isD (b i)) (show q < n by omega) c2
        have h2 := run_le (fun i => isD (b i)) (n - (q + 1)) (q + 1)
        refine ⟨?_, rfl, ?_, ?_⟩
        · show ¬ (if _ then 19 else 18) = 20
          split <;> omega
        · show q < run (fun i => isD (b i)) (n - q) q
          rw [h]; omega
        · show run (fun i => isD (b i)) (n - q) q ≤ n
          rw [h]; omega
      · rw [if_neg c2]
        refine ⟨?_, rfl, Nat.lt_succ_self _, ?_⟩
        · show ¬ 100 + b q = 20
          omega
        · show q + 1 ≤ n
          omega
