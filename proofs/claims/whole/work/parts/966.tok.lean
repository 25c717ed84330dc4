/-! PURE: the words -/
theorem wk_0 {b : Nat → Nat} {q t : Nat} : wdc b q t = 0 ↔ (t = q + 5 ∧ b q = 103 ∧ b (q + 1) = 117 ∧ b (q + 2) = 105 ∧ b (q + 3) = 108 ∧ b (q + 4) = 100) := by
  rw [wdc_iff (by decide)]
  show (decide (t = q + 5) && (decide (b q = 103) && (decide (b (q + 1) = 117) && (decide (b (q + 2) = 105) && (decide (b (q + 3) = 108) && (decide (b (q + 4) = 100) && true)))))) = true ↔ _
  simp only [Bool.and_eq_true, decide_eq_true_eq, and_true]
theorem wk_1 {b : Nat → Nat} {q t : Nat} : wdc b q t = 1 ↔ (t = q + 5 ∧ b q = 98 ∧ b (q + 1) = 97 ∧ b (q + 2) = 107 ∧ b (q + 3) = 101 ∧ b (q + 4) = 114) := by
  rw [wdc_iff (by decide)]
  show (decide (t = q + 5) && (decide (b q = 98) && (decide (b (q + 1) = 97) && (decide (b (q + 2) = 107) && (decide (b (q + 3) = 101) && (decide (b (q + 4) = 114) && true)))))) = true ↔ _
  simp only [Bool.and_eq_true, decide_eq_true_eq, and_true]
theorem wk_2 {b : Nat → Nat} {q t : Nat} : wdc b q t = 2 ↔ (t = q + 6 ∧ b q = 108 ∧ b (q + 1) = 97 ∧ b (q + 2) = 119 ∧ b (q + 3) = 121 ∧ b (q + 4) = 101 ∧ b (q + 5) = 114) := by
  rw [wdc_iff (by decide)]
  show (decide (t = q + 6) && (decide (b q = 108) && (decide (b (q + 1) = 97) && (decide (b (q + 2) = 119) && (decide (b (q + 3) = 121) && (decide (b (q + 4) = 101) && (decide (b (q + 5) = 114) && true))))))) = true ↔ _
  simp only [Bool.and_eq_true, decide_eq_true_eq, and_true]
theorem wk_3 {b : Nat → Nat} {q t : Nat} : wdc b q t = 3 ↔ (t = q + 6 ∧ b q = 100 ∧ b (q + 1) = 111 ∧ b (q + 2) = 99 ∧ b (q + 3) = 116 ∧ b (q + 4) = 111 ∧ b (q + 5) = 114) := by
  rw [wdc_iff (by decide)]
  show (decide (t = q + 6) && (decide (b q = 100) && (decide (b (q + 1) = 111) && (decide (b (q + 2) = 99) && (decide (b (q + 3) = 116) && (decide (b (q + 4) = 111) && (decide (b (q + 5) = 114) && true))))))) = true ↔ _
  simp only [Bool.and_eq_true, decide_eq_true_eq, and_true]
theorem wk_4 {b : Nat → Nat} {q t : Nat} : wdc b q t = 4 ↔ (t = q + 4 ∧ b q = 98 ∧ b (q + 1) = 111 ∧ b (q + 2) = 111 ∧ b (q + 3) = 107) := by
  rw [wdc_iff (by decide)]
  show (decide (t = q + 4) && (decide (b q = 98) && (decide (b (q + 1) = 111) && (decide (b (q + 2) = 111) && (decide (b (q + 3) = 107) && true))))) = true ↔ _
  simp only [Bool.and_eq_true, decide_eq_true_eq, and_true]
theorem wk_5 {b : Nat → Nat} {q t : Nat} : wdc b q t = 5 ↔ (t = q + 6 ∧ b q = 99 ∧ b (q + 1) = 97 ∧ b (q + 2) = 110 ∧ b (q + 3) = 100 ∧ b (q + 4) = 108 ∧ b (q + 5) = 101) := by
  rw [wdc_iff (by decide)]
  show (decide (t = q + 6) && (decide (b q = 99) && (decide (b (q + 1) = 97) && (decide (b (q + 2) = 110) && (decide (b (q + 3) = 100) && (decide (b (q + 4) = 108) && (decide (b (q + 5) = 101) && true))))))) = true ↔ _
  simp only [Bool.and_eq_true, decide_eq_true_eq, and_true]
theorem wk_6 {b : Nat → Nat} {q t : Nat} : wdc b q t = 6 ↔ (t = q + 4 ∧ b q = 99 ∧ b (q + 1) = 111 ∧ b (q + 2) = 109 ∧ b (q + 3) = 101) := by
  rw [wdc_iff (by decide)]
  show (decide (t = q + 4) && (decide (b q = 99) && (decide (b (q + 1) = 111) && (decide (b (q + 2) = 109) && (decide (b (q + 3) = 101) && true))))) = true ↔ _
  simp only [Bool.and_eq_true, decide_eq_true_eq, and_true]
theorem wk_7 {b : Nat → Nat} {q t : Nat} : wdc b q t = 7 ↔ (t = q + 4 ∧ b q = 119 ∧ b (q + 1) = 97 ∧ b (q + 2) = 105 ∧ b (q + 3) = 116) := by
  rw [wdc_iff (by decide)]
  show (decide (t = q + 4) && (decide (b q = 119) && (decide (b (q + 1) = 97) && (decide (b (q + 2) = 105) && (decide (b (q + 3) = 116) && true))))) = true ↔ _
  simp only [Bool.and_eq_true, decide_eq_true_eq, and_true]
theorem wk_8 {b : Nat → Nat} {q t : Nat} : wdc b q t = 8 ↔ (t = q + 5 ∧ b q = 108 ∧ b (q + 1) = 101 ∧ b (q + 2) = 97 ∧ b (q + 3) = 118 ∧ b (q + 4) = 101) := by
  rw [wdc_iff (by decide)]
  show (decide (t = q + 5) && (decide (b q = 108) && (decide (b (q + 1) = 101) && (decide (b (q + 2) = 97) && (decide (b (q + 3) = 118) && (decide (b (q + 4) = 101) && true)))))) = true ↔ _
  simp only [Bool.and_eq_true, decide_eq_true_eq, and_true]
theorem wk_9 {b : Nat → Nat} {q t : Nat} : wdc b q t = 9 ↔ (t = q + 2 ∧ b q = 105 ∧ b (q + 1) = 102) := by
  rw [wdc_iff (by decide)]
  show (decide (t = q + 2) && (decide (b q = 105) && (decide (b (q + 1) = 102) && true))) = true ↔ _
  simp only [Bool.and_eq_true, decide_eq_true_eq, and_true]
theorem wk_10 {b : Nat → Nat} {q t : Nat} : wdc b q t = 10 ↔ (t = q + 2 ∧ b q = 111 ∧ b (q + 1) = 114) := by
  rw [wdc_iff (by decide)]
  show (decide (t = q + 2) && (decide (b q = 111) && (decide (b (q + 1) = 114) && true))) = true ↔ _
  simp only [Bool.and_eq_true, decide_eq_true_eq, and_true]
theorem wk_11 {b : Nat → Nat} {q t : Nat} : wdc b q t = 11 ↔ (t = q + 3 ∧ b q = 97 ∧ b (q + 1) = 110 ∧ b (q + 2) = 100) := by
  rw [wdc_iff (by decide)]
  show (decide (t = q + 3) && (decide (b q = 97) && (decide (b (q + 1) = 110) && (decide (b (q + 2) = 100) && true)))) = true ↔ _
  simp only [Bool.and_eq_true, decide_eq_true_eq, and_true]
theorem wk_12 {b : Nat → Nat} {q t : Nat} : wdc b q t = 12 ↔ (t = q + 3 ∧ b q = 110 ∧ b (q + 1) = 111 ∧ b (q + 2) = 116) := by
  rw [wdc_iff (by decide)]
  show (decide (t = q + 3) && (decide (b q = 110) && (decide (b (q + 1) = 111) && (decide (b (q + 2) = 116) && true)))) = true ↔ _
  simp only [Bool.and_eq_true, decide_eq_true_eq, and_true]
theorem wk_13 {b : Nat → Nat} {q t : Nat} : wdc b q t = 13 ↔ (t = q + 4 ∧ b q = 104 ∧ b (q + 1) = 111 ∧ b (q + 2) = 117 ∧ b (q + 3) = 114) := by
  rw [wdc_iff (by decide)]
  show (decide (t = q + 4) && (decide (b q = 104) && (decide (b (q + 1) = 111) && (decide (b (q + 2) = 117) && (decide (b (q + 3) = 114) && true))))) = true ↔ _
  simp only [Bool.and_eq_true, decide_eq_true_eq, and_true]
theorem wk_14 {b : Nat → Nat} {q t : Nat} : wdc b q t = 14 ↔ (t = q + 4 ∧ b q = 103 ∧ b (q + 1) = 105 ∧ b (q + 2) = 102 ∧ b (q + 3) = 116) := by
  rw [wdc_iff (by decide)]
  show (decide (t = q + 4) && (decide (b q = 103) && (decide (b (q + 1) = 105) && (decide (b (q + 2) = 102) && (decide (b (q + 3) = 116) && true))))) = true ↔ _
  simp only [Bool.and_eq_true, decide_eq_true_eq, and_true]
theorem wk_15 {b : Nat → Nat} {q t : Nat} : wdc b q t = 15 ↔ (t = q + 4 ∧ b q = 108 ∧ b (q + 1) = 97 ∧ b (q + 2) = 116 ∧ b (q + 3) = 101) := by
  rw [wdc_iff (by decide)]
  show (decide (t = q + 4) && (decide (b q = 108) && (decide (b (q + 1) = 97) && (decide (b (q + 2) = 116) && (decide (b (q + 3) = 101) && true))))) = true ↔ _
  simp only [Bool.and_eq_true, decide_eq_true_eq, and_true]
theorem wk_16 {b : Nat → Nat} {q t : Nat} : wdc b q t = 16 ↔ (t = q + 4 ∧ b q = 109 ∧ b (q + 1) = 111 ∧ b (q + 2) = 111 ∧ b (q + 3) = 100) := by
  rw [wdc_iff (by decide)]
  show (decide (t = q + 4) && (decide (b q = 109) && (decide (b (q + 1) = 111) && (decide (b (q + 2) = 111) && (decide (b (q + 3) = 100) && true))))) = true ↔ _
  simp only [Bool.and_eq_true, decide_eq_true_eq, and_true]
theorem wk_17 {b : Nat → Nat} {q t : Nat} : wdc b q t = 17 ↔ (t = q + 6 ∧ b q = 110 ∧ b (q + 1) = 117 ∧ b (q + 2) = 109 ∧ b (q + 3) = 98 ∧ b (q + 4) = 101 ∧ b (q + 5) = 114) := by
  rw [wdc_iff (by decide)]
  show (decide (t = q + 6) && (decide (b q = 110) && (decide (b (q + 1) = 117) && (decide (b (q + 2) = 109) && (decide (b (q + 3) = 98) && (decide (b (q + 4) = 101) && (decide (b (q + 5) = 114) && true))))))) = true ↔ _
  simp only [Bool.and_eq_true, decide_eq_true_eq, and_true]
section WP
variable {σ : SM} {b : Nat → Nat} {n : Nat} {T : TK}
/-- what a token is -/
def TF (b : Nat → Nat) (n : Nat) (T : TK) : Prop := T.2.2.1 ≤ T.2.2.2.1 ∧ T.2.2.2.1 ≤ n ∧ ((T.1 = 1 ∧ T.2.1 = wdc b T.2.2.1 T.2.2.2.1) ∨ (T.1 = 0 ∧ T.2.1 = 20) ∨ (T.1 = 2 ∧ T.2.1 = if T.2.2.2.1 - T.2.2.1 ≤ 4 then 19 else 18) ∨ (T.1 = 3 ∧ T.2.2.1 < n ∧ T.2.1 = 100 + b T.2.2.1))
theorem nxq_tf {q : Nat} (hq : q ≤ n) : TF b n (nxq b n q) := by
  have h := nxq_ok (b := b) hq
  refine ⟨?_, ?_, ?_⟩
  · rcases h with ⟨-, -, h1, h2⟩ | ⟨-, h1, h2, h3⟩ <;> omega
  · rcases h with ⟨-, -, h1, h2⟩ | ⟨-, h1, h2, h3⟩ <;> omega
  · unfold nxq
    by_cases c0 : n ≤ q
    · rw [if_pos c0]
      exact Or.inr (Or.inl ⟨rfl, rfl⟩)
    · rw [if_neg c0]
      by_cases c1 : isL (b q) = true
      · rw [if_pos c1]
        exact Or.inl ⟨rfl, rfl⟩
      · rw [if_neg c1]
        by_cases c2 : isD (b q) = true
        · rw [if_pos c2]
          exact Or.inr (Or.inr (Or.inl ⟨rfl, rfl⟩))
        · rw [if_neg c2]
          exact Or.inr (Or.inr (Or.inr ⟨rfl, by show q < n; omega, rfl⟩))
theorem tf_word (h : TF b n T) {k : Nat} (hk : k < 18) : T.2.1 = k ↔ (T.1 = 1 ∧ wdc b T.2.2.1 T.2.2.2.1 = k) := by
  obtain ⟨-, -, h⟩ := h
  rcases h with ⟨h1, h2⟩ | ⟨h1, h2⟩ | ⟨h1, h2⟩ | ⟨h1, h3, h2⟩
  · rw [h2]
    exact ⟨fun z => ⟨h1, z⟩, fun z => z.2⟩
  · exact ⟨fun z => by omega, fun z => by omega⟩
  · refine ⟨fun z => ?_, fun z => by omega⟩
    split at h2 <;> omega
  · exact ⟨fun z => by omega, fun z => by omega⟩
def nmP (b : Nat → Nat) (T : TK) (L x1 x2 x3 x4 : Nat) : Prop := T.1 = 1 ∧ T.2.2.2.1 = T.2.2.1 + L ∧ b T.2.2.1 = x1 ∧ b (T.2.2.1 + 1) = x2 ∧ b (T.2.2.1 + 2) = x3 ∧ b (T.2.2.2.1 - 1) = x4
theorem by_in (h : TPm σ b n) (hn : n ≤ 200) {p : Nat} (hp : p < n) : fm_byteAt σ (nI p) = some (nI (b p)) ∧ b p < 256 := by
  rw [by_at h hn (by omega), if_pos hp]
  exact ⟨rfl, (h.2 p hp).1⟩
theorem nm_y (h : TPm σ b n) (hn : n ≤ 200) (hM : TM σ T) (hF : TF b n T) {L x1 x2 x3 x4 : Nat} (hL : 3 ≤ L) (c : nmP b T L x1 x2 x3 x4) : fm_isName σ (nI L) (nI x1) (nI x2) (nI x3) (nI x4) = some 1 := by
  obtain ⟨c1, c2, c3, c4, c5, c6⟩ := c
  obtain ⟨f1, f2, -⟩ := hF
  obtain ⟨m1, m2, m3, -⟩ := hM
  unfold fm_isName
  rw [m1, m2, m3, c1, if_neg (show ¬ ¬ nI 1 = 1 from fun z => z rfl), pb_sub f1, if_neg (show ¬ ¬ nI (T.2.2.2.1 - T.2.2.1) = nI L by rw [show T.2.2.2.1 - T.2.2.1 = L by omega]; exact fun z => z rfl), (by_in h hn (show T.2.2.1 < n by omega)).1, qbs, c3, if_neg (fun z => z rfl), nI_a1, (by_in h hn (show T.2.2.1 + 1 < n by omega)).1, qbs, c4, if_neg (fun z => z rfl), show (2 : Int32) = nI 2 from rfl, pb_add, (by_in h hn (show T.2.2.1 + 2 < n by omega)).1, qbs, c5, if_neg (fun z => z rfl), show (1 : Int32) = nI 1 from rfl, pb_sub (by omega), (by_in h hn (show T.2.2.2.1 - 1 < n by omega)).1, qbs, c6, if_neg (fun z => z rfl)]
theorem nm_n (h : TPm σ b n) (hn : n ≤ 200) (hM : TM σ T) (hF : TF b n T) {L x1 x2 x3 x4 : Nat} (hL : 3 ≤ L) (hL2 : L < 10) (hx : x1 < 256 ∧ x2 < 256 ∧ x3 < 256 ∧ x4 < 256) (c : ¬ nmP b T L x1 x2 x3 x4) : fm_isName σ (nI L) (nI x1) (nI x2) (nI x3) (nI x4) = some 0 := by
  obtain ⟨f1, f2, f3⟩ := hF
  obtain ⟨m1, m2, m3, -⟩ := hM
  have hk : T.1 < 4 := by
    rcases f3 with ⟨h1, h2⟩ | ⟨h1, h2⟩ | ⟨h1, h2⟩ | ⟨h1, h3, h2⟩ <;> omega
  unfold fm_isName
  rw [m1, m2, m3, pb_sub f1]
  by_cases c1 : T.1 = 1
  · rw [c1, if_neg (show ¬ ¬ nI 1 = 1 from fun z => z rfl)]
    by_cases c2 : T.2.2.2.1 - T.2.2.1 = L
    · rw [if_neg (show ¬ ¬ nI (T.2.2.2.1 - T.2.2.1) = nI L by rw [c2]; exact fun z => z rfl)]
      obtain ⟨e1, g1⟩ := by_in h hn (show T.2.2.1 < n by omega)
      obtain ⟨e2, g2⟩ := by_in h hn (show T.2.2.1 + 1 < n by omega)
      obtain ⟨e3, g3⟩ := by_in h hn (show T.2.2.1 + 2 < n by omega)
      obtain ⟨e4, g4⟩ := by_in h hn (show T.2.2.2.1 - 1 < n by omega)
      rw [e1, qbs, nI_a1, e2, qbs, show (2 : Int32) = nI 2 from rfl, pb_add, e3, qbs, show (1 : Int32) = nI 1 from rfl, pb_sub (by omega), e4, qbs]
      by_cases c3 : b T.2.2.1 = x1
      · rw [if_neg (pNN (pb_eq (by omega) (by omega)) c3)]
        by_cases c4 : b (T.2.2.1 + 1) = x2
        · rw [if_neg (pNN (pb_eq (by omega) (by omega)) c4)]
          by_cases c5 : b (T.2.2.1 + 2) = x3
          · rw [if_neg (pNN (pb_eq (by omega) (by omega)) c5)]
            by_cases c6 : b (T.2.2.2.1 - 1) = x4
            · exact absurd ⟨c1, by omega, c3, c4, c5, c6⟩ c
            · rw [if_pos (pN (pb_eq (by omega) (by omega)) c6)]
          · rw [if_pos (pN (pb_eq (by omega) (by omega)) c5)]
        · rw [if_pos (pN (pb_eq (by omega) (by omega)) c4)]
      · rw [if_pos (pN (pb_eq (by omega) (by omega)) c3)]
    · rw [if_pos (show ¬ nI (T.2.2.2.1 - T.2.2.1) = nI L by rw [pb_eq (by omega) (by omega)]; exact c2)]
  · rw [if_pos (show ¬ nI T.1 = 1 by rw [show (1 : Int32) = nI 1 from rfl, pb_eq (by omega) (by omega)]; exact c1)]
/-- a name of three or four letters -/
theorem cC (h : TPm σ b n) (hn : n ≤ 200) (hM : TM σ T) (hF : TF b n T) {k L x1 x2 x3 x4 : Nat} (hk : k < 18) (hL : 3 ≤ L) (hL2 : L < 10) (hx : x1 < 256 ∧ x2 < 256 ∧ x3 < 256 ∧ x4 < 256) (hw : wdc b T.2.2.1 T.2.2.2.1 = k ↔ (T.2.2.2.1 = T.2.2.1 + L ∧ b T.2.2.1 = x1 ∧ b (T.2.2.1 + 1) = x2 ∧ b (T.2.2.1 + 2) = x3 ∧ b (T.2.2.2.1 - 1) = x4)) : fm_isName σ (nI L) (nI x1) (nI x2) (nI x3) (nI x4) = some (if T.2.1 = k then 1 else 0) := by
  by_cases c : T.2.1 = k
  · rw [if_pos c]
    obtain ⟨c1, c2⟩ := (tf_word hF hk).mp c
    exact nm_y h hn hM hF hL ⟨c1, hw.mp c2⟩
  · rw [if_neg c]
    exact nm_n h hn hM hF hL hL2 hx (fun z => c ((tf_word hF hk).mpr ⟨z.1, hw.mpr z.2⟩))
theorem cA {α : Type} (h : TPm σ b n) (hn : n ≤ 200) (hM : TM σ T) (hF : TF b n T) {k x1 x2 x3 x4 x5 : Nat} {A B : Option α} (hk : k < 18) (hx : x1 < 256 ∧ x2 < 256 ∧ x3 < 256 ∧ x4 < 256 ∧ x5 < 256) (hw : wdc b T.2.2.1 T.2.2.2.1 = k ↔ (T.2.2.2.1 = T.2.2.1 + 5 ∧ b T.2.2.1 = x1 ∧ b (T.2.2.1 + 1) = x2 ∧ b (T.2.2.1 + 2) = x3 ∧ b (T.2.2.1 + 3) = x5 ∧ b (T.2.2.1 + 4) = x4)) : (Option.bind (fm_isName σ (nI 5) (nI x1) (nI x2) (nI x3) (nI x4)) fun q1 => (if q1 = 0 then A else (Option.bind (fm_byteAt σ ((σ 7 0) + (3 : Int32))) fun q11 => (if ¬ q11 = nI x5 then A else B)))) = if T.2.1 = k then B else A := by
  by_cases M : nmP b T 5 x1 x2 x3 x4
  · obtain ⟨g1, g2⟩ := by_in h hn (show T.2.2.1 + 3 < n by have := M.2.1; have := hF.2.1; omega)
    rw [nm_y h hn hM hF (by decide) M, qbs, if_neg (by decide), hM.2.1, show (3 : Int32) = nI 3 from rfl, pb_add, g1, qbs]
    obtain ⟨c1, c2, c3, c4, c5, c6⟩ := M
    by_cases E : b (T.2.2.1 + 3) = x5
    · rw [if_neg (pNN (pb_eq (by omega) (by omega)) E), if_pos ((tf_word hF hk).mpr ⟨c1, hw.mpr ⟨c2, c3, c4, c5, E, by rw [← c6, c2]; rfl⟩⟩)]
    · rw [if_pos (pN (pb_eq (by omega) (by omega)) E), if_neg (fun z => E (hw.mp ((tf_word hF hk).mp z).2).2.2.2.2.1)]
  · rw [nm_n h hn hM hF (by decide) (by decide) ⟨hx.1, hx.2.1, hx.2.2.1, hx.2.2.2.1⟩ M, qbs, if_pos rfl, if_neg (fun z => ?_)]
    obtain ⟨c1, c2⟩ := (tf_word hF hk).mp z
    obtain ⟨d1, d2, d3, d4, d5, d6⟩ := hw.mp c2
    exact M ⟨c1, d1, d2, d3, d4, by rw [d1]; exact d6⟩
theorem cB {α : Type} (h : TPm σ b n) (hn : n ≤ 200) (hM : TM σ T) (hF : TF b n T) {k x1 x2 x3 x4 x5 x6 : Nat} {A B : Option α} (hk : k < 18) (hx : x1 < 256 ∧ x2 < 256 ∧ x3 < 256 ∧ x4 < 256 ∧ x5 < 256 ∧ x6 < 256) (hw : wdc b T.2.2.1 T.2.2.2.1 = k ↔ (T.2.2.2.1 = T.2.2.1 + 6 ∧ b T.2.2.1 = x1 ∧ b (T.2.2.1 + 1) = x2 ∧ b (T.2.2.1 + 2) = x3 ∧ b (T.2.2.1 + 3) = x5 ∧ b (T.2.2.1 + 4) = x6 ∧ b (T.2.2.1 + 5) = x4)) : (Option.bind (fm_isName σ (nI 6) (nI x1) (nI x2) (nI x3) (nI x4)) fun q1 => (if q1 = 0 then A else (Option.bind (fm_isSame σ (2 : Int32) (nI x3) (nI x5) (nI x6)) fun q11 => (if q11 = 0 then A else B)))) = if T.2.1 = k then B else A := by
  by_cases M : nmP b T 6 x1 x2 x3 x4
  · have hto := M.2.1
    have hle := hF.2.1
    obtain ⟨g1, g2⟩ := by_in h hn (show T.2.2.1 + 2 < n by omega)
    obtain ⟨g3, g4⟩ := by_in h hn (show T.2.2.1 + 3 < n by omega)
    obtain ⟨g5, g6⟩ := by_in h hn (show T.2.2.1 + 4 < n by omega)
    rw [nm_y h hn hM hF (by decide) M, qbs, if_neg (by decide)]
    unfold fm_isSame
    rw [hM.2.1, show (2 : Int32) = nI 2 from rfl, pb_add, nI_a1, pb_add, g1, qbs, show T.2.2.1 + 2 + 1 = T.2.2.1 + 3 from rfl, show T.2.2.1 + 2 + 2 = T.2.2.1 + 4 from rfl, g3, g5, qbs, qbs]
    obtain ⟨c1, c2, c3, c4, c5, c6⟩ := M
    rw [if_neg (pNN (pb_eq (by omega) (by omega)) c5)]
    by_cases E : b (T.2.2.1 + 3) = x5
    · rw [if_neg (pNN (pb_eq (by omega) (by omega)) E)]
      by_cases E2 : b (T.2.2.1 + 4) = x6
      · rw [if_neg (pNN (pb_eq (by omega) (by omega)) E2), qbs, if_neg (by decide), if_pos ((tf_word hF hk).mpr ⟨c1, hw.mpr ⟨c2, c3, c4, c5, E, E2, by rw [← c6, c2]; rfl⟩⟩)]
      · rw [if_pos (pN (pb_eq (by omega) (by omega)) E2), qbs, if_pos rfl, if_neg (fun z => E2 (hw.mp ((tf_word hF hk).mp z).2).2.2.2.2.2.1)]
    · rw [if_pos (pN (pb_eq (by omega) (by omega)) E), qbs, if_pos rfl, if_neg (fun z => E (hw.mp ((tf_word hF hk).mp z).2).2.2.2.2.1)]
  · rw [nm_n h hn hM hF (by decide) (by decide) ⟨hx.1, hx.2.1, hx.2.2.1, hx.2.2.2.1⟩ M, qbs, if_pos rfl, if_neg (fun z => ?_)]
    obtain ⟨c1, c2⟩ := (tf_word hF hk).mp z
    obtain ⟨d1, d2, d3, d4, d5, d6, d7⟩ := hw.mp c2
    exact M ⟨c1, d1, d2, d3, d4, by rw [d1]; exact d7⟩
theorem h4 {b : Nat → Nat} {q t k x1 x2 x3 x4 : Nat} (h : wdc b q t = k ↔ (t = q + 4 ∧ b q = x1 ∧ b (q + 1) = x2 ∧ b (q + 2) = x3 ∧ b (q + 3) = x4)) : wdc b q t = k ↔ (t = q + 4 ∧ b q = x1 ∧ b (q + 1) = x2 ∧ b (q + 2) = x3 ∧ b (t - 1) = x4) := by
  rw [h]
  constructor
  · rintro ⟨a1, a2, a3, a4, a5⟩
    exact ⟨a1, a2, a3, a4, by rw [a1]; exact a5⟩
  · rintro ⟨a1, a2, a3, a4, a5⟩
    exact ⟨a1, a2, a3, a4, by rw [a1] at a5; exact a5⟩
theorem h3 {b : Nat → Nat} {q t k x1 x2 x3 : Nat} (h : wdc b q t = k ↔ (t = q + 3 ∧ b q = x1 ∧ b (q + 1) = x2 ∧ b (q + 2) = x3)) : wdc b q t = k ↔ (t = q + 3 ∧ b q = x1 ∧ b (q + 1) = x2 ∧ b (q + 2) = x3 ∧ b (t - 1) = x3) := by
  rw [h]
  constructor
  · rintro ⟨a1, a2, a3, a4⟩
    exact ⟨a1, a2, a3, a4, by rw [a1]; exact a4⟩
  · rintro ⟨a1, a2, a3, a4, a5⟩
    exact ⟨a1, a2, a3, a4⟩
section P
variable (h : TPm σ b n) (hn : n ≤ 200) (hM : TM σ T) (hF : TF b n T)
theorem pr_kind (h : TPm σ b n) (hn : n ≤ 200) (hM : TM σ T) (hF : TF b n T) : fm_kindHere σ = some (if T.2.1 ≤ 5 then nI T.2.1 else (-1 : Int32)) := by
  have e0 : fm_kindHere σ = if T.2.1 = 0 then some 0 else fm_kindHere_b33 σ := cA h hn hM hF (by decide) (by decide) wk_0
  have e1 : fm_kindHere_b33 σ = if T.2.1 = 1 then some 1 else fm_kindHere_b66 σ := cA h hn hM hF (by decide) (by decide) wk_1
  have e2 : fm_kindHere_b66 σ = if T.2.1 = 2 then some 2 else fm_kindHere_b99 σ := cB h hn hM hF (by decide) (by decide) wk_2
  have e3 : fm_kindHere_b99 σ = if T.2.1 = 3 then some 3 else fm_kindHere_b132 σ := cB h hn hM hF (by decide) (by decide) wk_3
  have e4 : fm_isName σ (4 : Int32) (98 : Int32) (111 : Int32) (111 : Int32) (107 : Int32) = some (if T.2.1 = 4 then 1 else 0) := cC h hn hM hF (by decide) (by decide) (by decide) (by decide) (h4 wk_4)
  have e5 : (Option.bind (fm_isName σ (6 : Int32) (99 : Int32) (97 : Int32) (110 : Int32) (101 : Int32)) fun q6 => (if q6 = 0 then (some (-1 : Int32)) else (Option.bind (fm_isSame σ (2 : Int32) (110 : Int32) (100 : Int32) (108 : Int32)) fun q7 => (if q7 = 0 then (some (-1 : Int32)) else (some (5 : Int32)))))) = if T.2.1 = 5 then some 5 else some (-1) := cB h hn hM hF (by decide) (by decide) wk_5
  have e4' : fm_kindHere_b132 σ = if T.2.1 = 4 then some 4 else if T.2.1 = 5 then some 5 else some (-1) := by
    unfold fm_kindHere_b132
    rw [e4, qbs, e5]
    by_cases c : T.2.1 = 4
    · rw [if_pos c, if_neg (by decide), if_pos c]
    · rw [if_neg c, if_pos rfl, if_neg c]
  rw [e0, e1, e2, e3, e4']
  by_cases c0 : T.2.1 = 0
  · rw [if_pos c0, c0]; rfl
  rw [if_neg c0]
  by_cases c1 : T.2.1 = 1
  · rw [if_pos c1, c1]; rfl
  rw [if_neg c1]
  by_cases c2 : T.2.1 = 2
  · rw [if_pos c2, c2]; rfl
  rw [if_neg c2]
  by_cases c3 : T.2.1 = 3
  · rw [if_pos c3, c3]; rfl
  rw [if_neg c3]
  by_cases c4 : T.2.1 = 4
  · rw [if_pos c4, c4]; rfl
  rw [if_neg c4]
  by_cases c5 : T.2.1 = 5
  · rw [if_pos c5, c5]; rfl
  rw [if_neg c5, if_neg (by omega)]
theorem pr_do (h : TPm σ b n) (hn : n ≤ 200) (hM : TM σ T) (hF : TF b n T) : fm_doHere σ = some (if 6 ≤ T.2.1 ∧ T.2.1 ≤ 8 then nI (T.2.1 - 6) else (-1 : Int32)) := by
  have e0 : fm_isName σ (4 : Int32) (99 : Int32) (111 : Int32) (109 : Int32) (101 : Int32) = some (if T.2.1 = 6 then 1 else 0) := cC h hn hM hF (by decide) (by decide) (by decide) (by decide) (h4 wk_6)
  have e1 : fm_isName σ (4 : Int32) (119 : Int32) (97 : Int32) (105 : Int32) (116 : Int32) = some (if T.2.1 = 7 then 1 else 0) := cC h hn hM hF (by decide) (by decide) (by decide) (by decide) (h4 wk_7)
  have e2 : (Option.bind (fm_isName σ (5 : Int32) (108 : Int32) (101 : Int32) (97 : Int32) (101 : Int32)) fun q3 => (if q3 = 0 then (some (-1 : Int32)) else (Option.bind (fm_byteAt σ ((σ 7 0) + (3 : Int32))) fun q4 => (if ¬ q4 = (118 : Int32) then (some (-1 : Int32)) else (some (2 : Int32)))))) = if T.2.1 = 8 then some 2 else some (-1) := cA h hn hM hF (by decide) (by decide) wk_8
  unfold fm_doHere
  rw [e0, qbs, e1, qbs, e2]
  by_cases c0 : T.2.1 = 6
  · rw [if_pos c0, if_neg (by decide), c0]; rfl
  rw [if_neg c0, if_pos rfl]
  by_cases c1 : T.2.1 = 7
  · rw [if_pos c1, if_neg (by decide), c1]; rfl
  rw [if_neg c1, if_pos rfl]
  by_cases c2 : T.2.1 = 8
  · rw [if_pos c2, c2]; rfl
  rw [if_neg c2, if_neg (by omega)]
theorem pr_fact (h : TPm σ b n) (hn : n ≤ 200) (hM : TM σ T) (hF : TF b n T) : fm_factHere σ = some (if 13 ≤ T.2.1 ∧ T.2.1 ≤ 17 then nI (T.2.1 - 13) else (-1 : Int32)) := by
  have e0 : fm_isName σ (4 : Int32) (104 : Int32) (111 : Int32) (117 : Int32) (114 : Int32) = some (if T.2.1 = 13 then 1 else 0) := cC h hn hM hF (by decide) (by decide) (by decide) (by decide) (h4 wk_13)
  have e1 : fm_isName σ (4 : Int32) (103 : Int32) (105 : Int32) (102 : Int32) (116 : Int32) = some (if T.2.1 = 14 then 1 else 0) := cC h hn hM hF (by decide) (by decide) (by decide) (by decide) (h4 wk_14)
  have e2 : fm_isName σ (4 : Int32) (108 : Int32) (97 : Int32) (116 : Int32) (101 : Int32) = some (if T.2.1 = 15 then 1 else 0) := cC h hn hM hF (by decide) (by decide) (by decide) (by decide) (h4 wk_15)
  have e3 : fm_isName σ (4 : Int32) (109 : Int32) (111 : Int32) (111 : Int32) (100 : Int32) = some (if T.2.1 = 16 then 1 else 0) := cC h hn hM hF (by decide) (by decide) (by decide) (by decide) (h4 wk_16)
  have e4 : (Option.bind (fm_isName σ (6 : Int32) (110 : Int32) (117 : Int32) (109 : Int32) (114 : Int32)) fun q5 => (if q5 = 0 then (some (-1 : Int32)) else (Option.bind (fm_isSame σ (2 : Int32) (109 : Int32) (98 : Int32) (101 : Int32)) fun q6 => (if q6 = 0 then (some (-1 : Int32)) else (some (4 : Int32)))))) = if T.2.1 = 17 then some 4 else some (-1) := cB h hn hM hF (by decide) (by decide) wk_17
  unfold fm_factHere
  rw [e0, qbs, e1, qbs, e2, qbs, e3, qbs, e4]
  by_cases c0 : T.2.1 = 13
  · rw [if_pos c0, if_neg (by decide), c0]; rfl
  rw [if_neg c0, if_pos rfl]
  by_cases c1 : T.2.1 = 14
  · rw [if_pos c1, if_neg (by decide), c1]; rfl
  rw [if_neg c1, if_pos rfl]
  by_cases c2 : T.2.1 = 15
  · rw [if_pos c2, if_neg (by decide), c2]; rfl
  rw [if_neg c2, if_pos rfl]
  by_cases c3 : T.2.1 = 16
  · rw [if_pos c3, if_neg (by decide), c3]; rfl
  rw [if_neg c3, if_pos rfl]
  by_cases c4 : T.2.1 = 17
  · rw [if_pos c4, c4]; rfl
  rw [if_neg c4, if_neg (by omega)]
theorem pr_not (h : TPm σ b n) (hn : n ≤ 200) (hM : TM σ T) (hF : TF b n T) : fm_isName σ (3 : Int32) (110 : Int32) (111 : Int32) (116 : Int32) (116 : Int32) = some (if T.2.1 = 12 then 1 else 0) := cC h hn hM hF (by decide) (by decide) (by decide) (by decide) (h3 wk_12)
theorem pr_and (h : TPm σ b n) (hn : n ≤ 200) (hM : TM σ T) (hF : TF b n T) : fm_isName σ (3 : Int32) (97 : Int32) (110 : Int32) (100 : Int32) (100 : Int32) = some (if T.2.1 = 11 then 1 else 0) := cC h hn hM hF (by decide) (by decide) (by decide) (by decide) (h3 wk_11)
theorem pr_two (h : TPm σ b n) (hn : n ≤ 200) (hM : TM σ T) (hF : TF b n T) {k x1 x2 : Nat} (hk : k < 18) (hx : x1 < 256 ∧ x2 < 256) (hw : wdc b T.2.2.1 T.2.2.2.1 = k ↔ (T.2.2.2.1 = T.2.2.1 + 2 ∧ b T.2.2.1 = x1 ∧ b (T.2.2.1 + 1) = x2)) : fm_isTwo σ (nI x1) (nI x2) = some (if T.2.1 = k then 1 else 0) := by
  have tw := tf_word hF hk
  obtain ⟨f1, f2, f3⟩ := hF
  obtain ⟨m1, m2, m3, -⟩ := hM
  have hk3 : T.1 < 4 := by
    rcases f3 with ⟨h1, h2⟩ | ⟨h1, h2⟩ | ⟨h1, h2⟩ | ⟨h1, h3, h2⟩ <;> omega
  unfold fm_isTwo
  rw [m1, m2, m3, pb_sub f1]
  by_cases c1 : T.1 = 1
  · rw [if_neg (show ¬ ¬ nI T.1 = 1 by rw [c1]; exact fun z => z rfl)]
    by_cases c2 : T.2.2.2.1 - T.2.2.1 = 2
    · rw [if_neg (show ¬ ¬ nI (T.2.2.2.1 - T.2.2.1) = 2 by rw [c2]; exact fun z => z rfl)]
      obtain ⟨e1, g1⟩ := by_in h hn (show T.2.2.1 < n by omega)
      obtain ⟨e2, g2⟩ := by_in h hn (show T.2.2.1 + 1 < n by omega)
      rw [e1, qbs, nI_a1, e2, qbs]
      by_cases c3 : b T.2.2.1 = x1
      · rw [if_neg (pNN (pb_eq (by omega) (by omega)) c3)]
        by_cases c4 : b (T.2.2.1 + 1) = x2
        · rw [if_neg (pNN (pb_eq (by omega) (by omega)) c4), if_pos (tw.mpr ⟨c1, hw.mpr ⟨by omega, c3, c4⟩⟩)]
        · rw [if_pos (pN (pb_eq (by omega) (by omega)) c4), if_neg (fun z => c4 (hw.mp (tw.mp z).2).2.2)]
      · rw [if_pos (pN (pb_eq (by omega) (by omega)) c3), if_neg (fun z => c3 (hw.mp (tw.mp z).2).2.1)]
    · rw [if_pos (show ¬ nI (T.2.2.2.1 - T.2.2.1) = 2 by rw [show (2 : Int32) = nI 2 from rfl, pb_eq (by omega) (by omega)]; exact c2), if_neg (fun z => c2 (by have := (hw.mp (tw.mp z).2).1; omega))]
  · rw [if_pos (show ¬ nI T.1 = 1 by rw [show (1 : Int32) = nI 1 from rfl, pb_eq (by omega) (by omega)]; exact c1), if_neg (fun z => c1 (tw.mp z).1)]
theorem pr_or (h : TPm σ b n) (hn : n ≤ 200) (hM : TM σ T) (hF : TF b n T) : fm_isTwo σ (111 : Int32) (114 : Int32) = some (if T.2.1 = 10 then 1 else 0) := pr_two h hn hM hF (by decide) (by decide) wk_10
theorem pr_if (h : TPm σ b n) (hn : n ≤ 200) (hM : TM σ T) (hF : TF b n T) : fm_isTwo σ (105 : Int32) (102 : Int32) = some (if T.2.1 = 9 then 1 else 0) := pr_two h hn hM hF (by decide) (by decide) wk_9
theorem pr_byte (h : TPm σ b n) (hn : n ≤ 200) (hM : TM σ T) (hF : TF b n T) {c : Nat} (hc : c < 256) : fm_isByte σ (nI c) = some (if T.2.1 = 100 + c then 1 else 0) := by
  have hd := wdc_le (b := b) (q := T.2.2.1) (t := T.2.2.2.1)
  obtain ⟨f1, f2, f3⟩ := hF
  obtain ⟨m1, m2, m3, -⟩ := hM
  unfold fm_isByte
  rw [m1, m2]
  rcases f3 with ⟨h1, h2⟩ | ⟨h1, h2⟩ | ⟨h1, h2⟩ | ⟨h1, h3, h2⟩
  · rw [h1, if_pos (by decide), if_neg (by omega)]
  · rw [h1, if_pos (by decide), if_neg (by omega)]
  · rw [h1, if_pos (by decide), if_neg (by rw [h2]; split <;> omega)]
  · obtain ⟨e1, g1⟩ := by_in h hn h3
    rw [h1, if_neg (show ¬ ¬ nI 3 = 3 from fun z => z rfl), e1, qbs]
    by_cases c3 : b T.2.2.1 = c
    · rw [if_neg (pNN (pb_eq (by omega) (by omega)) c3), if_pos (by omega)]
    · rw [if_pos (pN (pb_eq (by omega) (by omega)) c3), if_neg (by omega)]
end P
end WP
