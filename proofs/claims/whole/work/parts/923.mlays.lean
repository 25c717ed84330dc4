/-! PURE: the reference lays its row aside and back -/
section ML
variable {σ : SM}
theorem em_laysAside_l {l : Nat} (hl : l < 5) : ∀ (m k n : Nat) (g : Nat → Int32), k + m = 46 → m < n → (∀ j, j < k → g (46 * l + j) = σ 0 j) → (∀ j, (j < 46 * l ∨ 46 * l + 46 ≤ j) → g j = σ 3 j) → ∃ g2, fm_laysAside_l2 n (nI l) (nI k) (sf σ 3 g) = some (sf σ 3 g2) ∧ (∀ j, j < 46 → g2 (46 * l + j) = σ 0 j) ∧ (∀ j, (j < 46 * l ∨ 46 * l + 46 ≤ j) → g2 j = σ 3 j) := by
  intro m
  induction m with
  | zero =>
    intro k n g hk hn h1 h2
    obtain ⟨q, rfl⟩ : ∃ q, n = q + 1 := ⟨n - 1, by omega⟩
    unfold fm_laysAside_l2
    rw [if_pos (show (46 : Int32) ≤ nI k by rw [show (46 : Int32) = nI 46 from rfl, pb_le (by decide) (by omega)]; omega)]
    exact ⟨g, rfl, fun j hj => h1 j (by omega), h2⟩
  | succ m ih =>
    intro k n g hk hn h1 h2
    obtain ⟨q, rfl⟩ : ∃ q, n = q + 1 := ⟨n - 1, by omega⟩
    unfold fm_laysAside_l2
    rw [if_neg (show ¬ (46 : Int32) ≤ nI k by rw [show (46 : Int32) = nI 46 from rfl, pb_le (by decide) (by omega)]; omega)]
    simp (disch := omega) only [pb_lit, pb_mul, pb_add, pb_in, pb_oc, pb_cl, pb_hl, pb_sfsf]
    rw [show sf σ 3 g 3 = g from rfl, show sf σ 3 g 0 k = σ 0 k from rfl]
    refine ih (k + 1) q _ (by omega) (by omega) (fun j hj => ?_) (fun j hj => ?_)
    · by_cases e : j = k
      · subst e
        exact up_eq
      · rw [up_ne (by omega)]
        exact h1 j (by omega)
    · rw [up_ne (by omega)]
      exact h2 j hj
theorem em_laysAside {l : Nat} (hl : l < 5) : ∃ g, fm_laysAside (nI l) σ = some (sf σ 3 g) ∧ (∀ j, j < 46 → g (46 * l + j) = σ 0 j) ∧ (∀ j, (j < 46 * l ∨ 46 * l + 46 ≤ j) → g j = σ 3 j) := by
  have h := em_laysAside_l (σ := σ) hl 46 0 hFU (σ 3) (by omega) (by unfold hFU; omega) (fun j hj => by omega) (fun _ _ => rfl)
  rw [sf_id] at h
  exact h
theorem em_laysBack_l {l : Nat} (hl : l < 5) : ∀ (m k n : Nat) (f : Nat → Int32), k + m = 46 → m < n → (∀ j, j < k → f j = σ 3 (46 * l + j)) → (∀ j, 46 ≤ j → f j = σ 0 j) → ∃ f2, fm_laysBack_l2 n (nI l) (nI k) (sf σ 0 f) = some (sf σ 0 f2) ∧ (∀ j, j < 46 → f2 j = σ 3 (46 * l + j)) ∧ (∀ j, 46 ≤ j → f2 j = σ 0 j) := by
  intro m
  induction m with
  | zero =>
    intro k n f hk hn h1 h2
    obtain ⟨q, rfl⟩ : ∃ q, n = q + 1 := ⟨n - 1, by omega⟩
    unfold fm_laysBack_l2
    rw [if_pos (show (46 : Int32) ≤ nI k by rw [show (46 : Int32) = nI 46 from rfl, pb_le (by decide) (by omega)]; omega)]
    exact ⟨f, rfl, fun j hj => h1 j (by omega), h2⟩
  | succ m ih =>
    intro k n f hk hn h1 h2
    obtain ⟨q, rfl⟩ : ∃ q, n = q + 1 := ⟨n - 1, by omega⟩
    unfold fm_laysBack_l2
    rw [if_neg (show ¬ (46 : Int32) ≤ nI k by rw [show (46 : Int32) = nI 46 from rfl, pb_le (by decide) (by omega)]; omega)]
    simp (disch := omega) only [pb_lit, pb_mul, pb_add, pb_in, pb_oc, pb_cl, pb_hl, pb_sfsf]
    rw [show sf σ 0 f 0 = f from rfl, show sf σ 0 f 3 (46 * l + k) = σ 3 (46 * l + k) from rfl]
    refine ih (k + 1) q _ (by omega) (by omega) (fun j hj => ?_) (fun j hj => ?_)
    · by_cases e : j = k
      · subst e
        exact up_eq
      · rw [up_ne (by omega)]
        exact h1 j (by omega)
    · rw [up_ne (by omega)]
      exact h2 j hj
theorem em_laysBack {l : Nat} (hl : l < 5) : ∃ f, fm_laysBack (nI l) σ = some (sf σ 0 f) ∧ (∀ j, j < 46 → f j = σ 3 (46 * l + j)) ∧ (∀ j, 46 ≤ j → f j = σ 0 j) := by
  have h := em_laysBack_l (σ := σ) hl 46 0 hFU (σ 0) (by omega) (by unfold hFU; omega) (fun j hj => by omega) (fun _ _ => rfl)
  rw [sf_id] at h
  exact h
end ML
