/-! PURE: the invariant of reference and class -/
def ivTown (τ : SC) (b : Nat) (f : Nat → Int32) (v : VT) (pr : List RU) : Prop := twM f v pr ∧ twC τ b v pr ∧ vOK v ∧ pOK pr ∧ vclen pr ≤ 200 ∧ τ.1 (b + 4) 0 = f 3 ∧ τ.1 (b + 9) 0 = f 4
def ivKept (τ : SC) (σ : SM) : Prop := τ.1 2 0 = σ 2 0 ∧ (σ 2 0 = 0 ∨ (σ 2 0 = 1 ∧ ∃ v pr, ivTown τ 200 (σ 1) v pr))
def ivTape (τ : SC) (σ : SM) : Prop := ∃ n, n ≤ 200 ∧ σ 5 0 = nI n ∧ τ.1 7 0 = nI n ∧ ∀ j, j < n → ∃ b, b < 256 ∧ σ 4 j = nI b ∧ τ.1 6 j = (nI b).toInt8.toInt32
def ivRows (τ : SC) (σ : SM) : Prop := ∃ n, n ≤ 4 ∧ σ 27 0 = nI n ∧ τ.1 9 0 = nI n ∧ ∀ j, j < 12 → τ.1 8 j = σ 26 j
def ivSheet (τ : SC) (σ : SM) : Prop := ∀ t, t < 4 → τ.1 10 t = σ 28 t ∧ τ.1 11 t = σ 29 t ∧ (∃ z, z ≤ 40 ∧ σ 29 t = nI z) ∧ (σ 28 t = -1 ∨ ((∃ k, k ≤ 4 ∧ σ 28 t = nI k) ∧ ∀ i, i < 40 → τ.2 (40 * t + i) = (σ 30 (40 * t + i)).toInt64))
def ivShelf (τ : SC) (σ : SM) : Prop := ∀ h, h < 4 → τ.1 13 h = σ 31 h ∧ (σ 31 h = 0 ∨ (σ 31 h = 1 ∧ ∃ k, k < 6 ∧ σ 32 h = nI k ∧ τ.1 15 h = nI k) ∨ (σ 31 h = 2 ∧ ∃ k z, k ≤ 4 ∧ z ≤ 40 ∧ σ 32 h = nI k ∧ τ.1 14 h = nI k ∧ σ 33 h = nI z ∧ τ.1 15 h = nI z))
def ivTrace (τ : SC) (σ : SM) : Prop := ∃ n, n ≤ 30 ∧ σ 35 0 = nI n ∧ τ.1 504 0 = nI n ∧ ∀ j, j < n → τ.1 503 j = σ 34 j
def Inv (τ : SC) (σ : SM) : Prop := (∃ v pr, ivTown τ 100 (σ 0) v pr) ∧ ivKept τ σ ∧ ivTape τ σ ∧ ivRows τ σ ∧ ivSheet τ σ ∧ ivShelf τ σ ∧ ivTrace τ σ
/-- what of the reference the invariant speaks of, but the town's row -/
def frM (σ υ : SM) : Prop := υ 1 = σ 1 ∧ υ 2 = σ 2 ∧ υ 4 = σ 4 ∧ υ 5 = σ 5 ∧ υ 26 = σ 26 ∧ υ 27 = σ 27 ∧ υ 28 = σ 28 ∧ υ 29 = σ 29 ∧ υ 30 = σ 30 ∧ υ 31 = σ 31 ∧ υ 32 = σ 32 ∧ υ 33 = σ 33 ∧ υ 34 = σ 34 ∧ υ 35 = σ 35
def rlC (k : Nat) : Prop := k = 2 ∨ k = 6 ∨ k = 7 ∨ k = 8 ∨ k = 9 ∨ k = 10 ∨ k = 11 ∨ k = 13 ∨ k = 14 ∨ k = 15 ∨ (200 ≤ k ∧ k < 225) ∨ k = 503 ∨ k = 504
def frC (τ υ : SC) : Prop := (∀ k, rlC k → υ.1 k = τ.1 k) ∧ υ.2 = τ.2
theorem frC.rf {τ : SC} : frC τ τ := ⟨fun _ _ => rfl, rfl⟩
theorem frC.tr {a b c : SC} (h1 : frC a b) (h2 : frC b c) : frC a c := ⟨fun k hk => (h2.1 k hk).trans (h1.1 k hk), h2.2.trans h1.2⟩
theorem frM.rf {σ : SM} : frM σ σ := ⟨rfl, rfl, rfl, rfl, rfl, rfl, rfl, rfl, rfl, rfl, rfl, rfl, rfl, rfl⟩
theorem frM.tr {a b c : SM} (h1 : frM a b) (h2 : frM b c) : frM a c := by
  obtain ⟨a1, a2, a3, a4, a5, a6, a7, a8, a9, a10, a11, a12, a13, a14⟩ := h1
  obtain ⟨b1, b2, b3, b4, b5, b6, b7, b8, b9, b10, b11, b12, b13, b14⟩ := h2
  exact ⟨b1.trans a1, b2.trans a2, b3.trans a3, b4.trans a4, b5.trans a5, b6.trans a6, b7.trans a7, b8.trans a8, b9.trans a9, b10.trans a10, b11.trans a11, b12.trans a12, b13.trans a13, b14.trans a14⟩
theorem frM_0 {σ : SM} {f : Nat → Int32} : frM σ (sf σ 0 f) := ⟨rfl, rfl, rfl, rfl, rfl, rfl, rfl, rfl, rfl, rfl, rfl, rfl, rfl, rfl⟩
theorem frM_3 {σ : SM} {f : Nat → Int32} : frM σ (sf σ 3 f) := ⟨rfl, rfl, rfl, rfl, rfl, rfl, rfl, rfl, rfl, rfl, rfl, rfl, rfl, rfl⟩
theorem frC_sc {τ : SC} {k : Nat} {f : Nat → Int32} (h : ¬ rlC k) : frC τ (sc τ k f) := ⟨fun j hj => sc_ne (fun e => h (e ▸ hj)), rfl⟩
theorem eqC.fr {τ υ : SC} (h : eqC τ υ) : frC τ υ := ⟨fun k hk => h.1 k (by rcases hk with h | h | h | h | h | h | h | h | h | h | h | h | h <;> omega) (by rcases hk with h | h | h | h | h | h | h | h | h | h | h | h | h <;> omega) (by rcases hk with h | h | h | h | h | h | h | h | h | h | h | h | h <;> omega) (by rcases hk with h | h | h | h | h | h | h | h | h | h | h | h | h <;> omega) (by rcases hk with h | h | h | h | h | h | h | h | h | h | h | h | h <;> omega) (by rcases hk with h | h | h | h | h | h | h | h | h | h | h | h | h <;> omega), h.2⟩
theorem twC_cg {τ υ : SC} {b : Nat} {v : VT} {pr : List RU} (h : ∀ k, b ≤ k → k < b + 25 → υ.1 k = τ.1 k) (hT : twC τ b v pr) : twC υ b v pr := by
  obtain ⟨h1, h2, h3, h4, h5, h6, h7, h8, h9, h10, h11, h12, h13, h14⟩ := hT
  refine ⟨?_, ?_, ?_, ?_, ?_, ?_, ?_, fun o ho => ?_, fun j hj => ?_, fun j hj => ?_, ?_, fun r hr i hi => ?_, ?_, ?_⟩
  · rw [h _ (by omega) (by omega)]; exact h1
  · rw [h _ (by omega) (by omega)]; exact h2
  · rw [h _ (by omega) (by omega)]; exact h3
  · rw [h _ (by omega) (by omega)]; exact h4
  · rw [h _ (by omega) (by omega)]; exact h5
  · rw [h _ (by omega) (by omega)]; exact h6
  · rw [h _ (by omega) (by omega)]; exact h7
  · rw [h (b + 14) (by omega) (by omega), h (b + 15) (by omega) (by omega), h (b + 16) (by omega) (by omega), h (b + 17) (by omega) (by omega)]; exact h8 o ho
  · rw [h (b + 11) (by omega) (by omega), h (b + 12) (by omega) (by omega)]; exact h9 j hj
  · rw [h _ (by omega) (by omega)]; exact h10 j hj
  · rw [h _ (by omega) (by omega)]; exact h11
  · rw [h _ (by omega) (by omega)]; exact h12 r hr i hi
  · rw [h _ (by omega) (by omega)]; exact h13
  · rw [h (b + 21) (by omega) (by omega), h (b + 22) (by omega) (by omega), h (b + 23) (by omega) (by omega), h (b + 24) (by omega) (by omega)]; exact h14
theorem Inv_fr {τ υ : SC} {σ ω : SM} (h : Inv τ σ) (hσ : frM σ ω) (hτ : frC τ υ) (ht : ∃ v pr, ivTown υ 100 (ω 0) v pr) : Inv υ ω := by
  obtain ⟨a1, a2, a3, a4, a5, a6, a7, a8, a9, a10, a11, a12, a13, a14⟩ := hσ
  obtain ⟨c, c2⟩ := hτ
  obtain ⟨-, ⟨k1, k2⟩, i3, i4, i5, i6, i7⟩ := h
  have r2 := c 2 (by unfold rlC; omega)
  have r6 := c 6 (by unfold rlC; omega)
  have r7 := c 7 (by unfold rlC; omega)
  have r8 := c 8 (by unfold rlC; omega)
  have r9 := c 9 (by unfold rlC; omega)
  have r10 := c 10 (by unfold rlC; omega)
  have r11 := c 11 (by unfold rlC; omega)
  have r13 := c 13 (by unfold rlC; omega)
  have r14 := c 14 (by unfold rlC; omega)
  have r15 := c 15 (by unfold rlC; omega)
  have r503 := c 503 (by unfold rlC; omega)
  have r504 := c 504 (by unfold rlC; omega)
  refine ⟨ht, ⟨by rw [r2, a2]; exact k1, ?_⟩, ?_, ?_, ?_, ?_, ?_⟩
  · rw [a2]
    rcases k2 with k2 | ⟨k2, v, pr, t1, t2, t3, t4, t5, t6, t7⟩
    · exact Or.inl k2
    · refine Or.inr ⟨k2, v, pr, by rw [a1]; exact t1, twC_cg (fun k h1 h2 => c k (by unfold rlC; omega)) t2, t3, t4, t5, ?_, ?_⟩
      · rw [c (200 + 4) (by unfold rlC; omega), a1]; exact t6
      · rw [c (200 + 9) (by unfold rlC; omega), a1]; exact t7
  · unfold ivTape
    rw [a5, a4, r7, r6] at *
    rw [a3]
    exact i3
  · unfold ivRows
    rw [a6, a5, r9, r8]
    exact i4
  · unfold ivSheet
    rw [a7, a8, a9, r10, r11, c2]
    exact i5
  · unfold ivShelf
    rw [a10, a11, a12, r13, r14, r15]
    exact i6
  · unfold ivTrace
    rw [a13, a14, r503, r504]
    exact i7
def stp (a : Option (Int32 × SC)) (b : Option (Int32 × SM)) : Prop := ∃ r υ ω, a = some (r, υ) ∧ b = some (r, ω) ∧ Inv υ ω
def st1 (a : Option Int32) (b : Option Int32) : Prop := ∃ r, a = some r ∧ b = some r
def st2 (a : Option (Int32 × SC)) (σ : SM) (b : Option Int32) : Prop := ∃ r υ, a = some (r, υ) ∧ b = some r ∧ Inv υ σ
/-- one number of a row of the town -/
def va (v : VT) (k j x : Nat) : VT := fun i => if i = k then fun q => if q = j then x else v i q else v i
