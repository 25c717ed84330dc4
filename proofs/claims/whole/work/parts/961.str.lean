/-! PURE: strangers -/
def smM (v : VT) (kd g h m : Nat) : Nat := if h % 2 = 0 then vW (vNews (v 10 h) m) (vChN kd g h) else vNews (v 10 h) m
def sm (v : VT) (kd g m0 : Nat) : Nat → Nat × Nat
  | 0 => (m0, 0)
  | h + 1 => (smM v kd g h (sm v kd g m0 h).1, min 99 ((sm v kd g m0 h).2 + 6 - smM v kd g h (sm v kd g m0 h).1 / 2))
/-- a report isn't so, by what was seen -/
def wq (v : VT) (hands mood r : Nat) : Bool := decide ((if v 19 (4 * r + 1) = 0 then hands else mood) < v 19 (4 * r + 2) ∨ v 19 (4 * r + 3) < (if v 19 (4 * r + 1) = 0 then hands else mood))
def wrg (v : VT) (s : Nat → Nat × Nat) (r : Nat) : Bool := wq v (s (v 19 (4 * r))).2 (s (v 19 (4 * r))).1 r
def ws (p : Nat → Bool) : Nat → Nat → Nat
  | 0, _ => 0
  | q + 1, r => (if p r = true then 2 ^ r else 0) ||| ws p q (r + 1)
theorem ws_bit (p : Nat → Bool) (i : Nat) : ∀ q r, (ws p q r).testBit i = (decide (r ≤ i ∧ i < r + q) && p i) := by
  intro q
  induction q with
  | zero =>
    intro r
    rw [decide_eq_false (by omega)]
    exact Nat.zero_testBit i
  | succ q ih =>
    intro r
    show ((if p r = true then 2 ^ r else 0) ||| ws p q (r + 1)).testBit i = _
    rw [Nat.testBit_or, ih (r + 1)]
    by_cases e : i = r
    · subst e
      rw [decide_eq_false (show ¬ (i + 1 ≤ i ∧ i < i + 1 + q) by omega), decide_eq_true (show i ≤ i ∧ i < i + (q + 1) by omega)]
      by_cases c : p i = true
      · rw [if_pos c, c, Nat.testBit_two_pow_self]
        rfl
      · rw [if_neg c, Nat.zero_testBit]
        simp [c]
    · rw [show decide (r + 1 ≤ i ∧ i < r + 1 + q) = decide (r ≤ i ∧ i < r + (q + 1)) from by
        by_cases h : r ≤ i ∧ i < r + (q + 1)
        · rw [decide_eq_true h, decide_eq_true (by omega)]
        · rw [decide_eq_false h, decide_eq_false (by omega)]]
      by_cases c : p r = true
      · rw [if_pos c, Nat.testBit_two_pow_of_ne (fun z => e z.symm), Bool.false_or]
      · rw [if_neg c, Nat.zero_testBit, Bool.false_or]
theorem ws_ext {p p' : Nat → Bool} {q : Nat} (h : ∀ i, i < q → p i = p' i) : ws p q 0 = ws p' q 0 := by
  apply Nat.eq_of_testBit_eq
  intro i
  rw [ws_bit, ws_bit]
  by_cases c : i < q
  · rw [h i c]
  · rw [decide_eq_false (show ¬ (0 ≤ i ∧ i < 0 + q) by omega)]
    rfl
theorem ws_or {p p' : Nat → Bool} {q : Nat} : ws p q 0 ||| ws p' q 0 = ws (fun i => p i || p' i) q 0 := by
  apply Nat.eq_of_testBit_eq
  intro i
  rw [Nat.testBit_or, ws_bit, ws_bit, ws_bit]
  cases decide (0 ≤ i ∧ i < 0 + q) <;> rfl
theorem ws_lt (p : Nat → Bool) (q : Nat) : ws p q 0 < 2 ^ q := by
  apply Nat.lt_pow_two_of_testBit
  intro i hi
  rw [ws_bit, decide_eq_false (show ¬ (0 ≤ i ∧ i < 0 + q) by omega)]
  rfl
theorem ws_zero {p : Nat → Bool} {q : Nat} : ws p q 0 = 0 ↔ ∀ r, r < q → p r = false := by
  constructor
  · intro h r hr
    have := ws_bit p r q 0
    rw [h, Nat.zero_testBit, decide_eq_true (show 0 ≤ r ∧ r < 0 + q by omega), Bool.true_and] at this
    exact this.symm
  · intro h
    apply Nat.eq_of_testBit_eq
    intro i
    rw [ws_bit, Nat.zero_testBit]
    by_cases c : i < q
    · rw [h i c, Bool.and_false]
    · rw [decide_eq_false (show ¬ (0 ≤ i ∧ i < 0 + q) by omega)]
      rfl
theorem ws_one {p : Nat → Bool} {q k : Nat} (hk : k < q) : (ws p q 0 = 0 ∨ ws p q 0 = 2 ^ k) ↔ ∀ r, r < q → r = k ∨ p r = false := by
  constructor
  · rintro (h | h) r hr
    · exact Or.inr (ws_zero.mp h r hr)
    · by_cases e : r = k
      · exact Or.inl e
      · right
        have := ws_bit p r q 0
        rw [h, Nat.testBit_two_pow_of_ne (fun z => e z.symm), decide_eq_true (show 0 ≤ r ∧ r < 0 + q by omega), Bool.true_and] at this
        exact this.symm
  · intro h
    by_cases c : p k = true
    · right
      apply Nat.eq_of_testBit_eq
      intro i
      rw [ws_bit]
      by_cases e : i = k
      · rw [e, Nat.testBit_two_pow_self, decide_eq_true (show 0 ≤ k ∧ k < 0 + q by omega), c]
        rfl
      · rw [Nat.testBit_two_pow_of_ne (fun z => e z.symm)]
        by_cases c2 : i < q
        · rcases h i c2 with h1 | h1
          · exact absurd h1 e
          · rw [h1, Bool.and_false]
        · rw [decide_eq_false (show ¬ (0 ≤ i ∧ i < 0 + q) by omega)]
          rfl
    · left
      rw [ws_zero]
      intro r hr
      rcases h r hr with h1 | h1
      · rw [h1]
        simpa using c
      · exact h1
section ST
variable {τ : SC} {σ : SM} {v : VT} {pr : List RU}
theorem smM_lt (hv : vOK v) {kd g h m : Nat} (hk : kd < 6) (hg : g < 10) (hh : h < 16) (hm : m < 10) : smM v kd g h m < 10 ∧ vNews (v 10 h) m < 10 ∧ vChN kd g h < 12 := by
  have h1 := hv.2.2.2.2.2.2.2.2.2.2.1 h hh
  have e1 := (em_told m hm (v 10 h) (by omega)).2
  have e2 := (em_cheersBy kd hk g hg h (by omega)).2.2
  refine ⟨?_, e1, e2⟩
  unfold smM
  split
  · exact (em_within _ e1 _ e2).2
  · exact e1
theorem sm_lt (hv : vOK v) {kd g m0 : Nat} (hk : kd < 6) (hg : g < 10) (hm : m0 < 10) : ∀ h, h ≤ 16 → (sm v kd g m0 h).1 < 10 ∧ (sm v kd g m0 h).2 < 100 := by
  intro h
  induction h with
  | zero => intro _; exact ⟨hm, (by decide : 0 < 100)⟩
  | succ h ih =>
    intro hh
    obtain ⟨i1, i2⟩ := ih (by omega)
    refine ⟨(smM_lt hv hk hg (by omega) i1).1, ?_⟩
    show min 99 _ < 100
    omega
theorem sf_s2 (σ : SM) (a b a' : Nat → Int32) : sf (sf (sf σ 22 a) 23 b) 22 a' = sf (sf σ 22 a') 23 b := by
  funext i
  unfold sf
  by_cases e2 : i = 22
  · subst e2
    rfl
  · by_cases e3 : i = 23
    · subst e3
      rfl
    · simp only [if_neg e2, if_neg e3]
theorem co_l (hT : twM (σ 0) v pr) (hv : vOK v) {kd g m0 : Nat} (hk : kd < 6) (hg : g < 10) (hm : m0 < 10) : ∀ (q k n : Nat) (a b : Nat → Int32), k + q = 15 → q < n → (∀ j, j ≤ k → a j = nI (sm v kd g m0 j).1 ∧ b j = nI (sm v kd g m0 j).2) → ∃ a2 b2, fm_calledOnBy_l17 n (nI kd) (nI g) (nI k) (sf (sf σ 22 a) 23 b) = some (sf (sf σ 22 a2) 23 b2) ∧ ∀ j, j ≤ 15 → a2 j = nI (sm v kd g m0 j).1 ∧ b2 j = nI (sm v kd g m0 j).2 := by
  intro q
  induction q with
  | zero =>
    intro k n a b hq hn hab
    obtain ⟨n', rfl⟩ : ∃ q, n = q + 1 := ⟨n - 1, by omega⟩
    unfold fm_calledOnBy_l17
    rw [if_pos (show (15 : Int32) ≤ nI k by rw [show (15 : Int32) = nI 15 from rfl, pb_le (by omega) (by omega)]; omega)]
    exact ⟨a, b, rfl, fun j hj => hab j (by omega)⟩
  | succ q ih =>
    intro k n a b hq hn hab
    obtain ⟨n', rfl⟩ : ∃ q, n = q + 1 := ⟨n - 1, by omega⟩
    obtain ⟨i1, i2⟩ := sm_lt hv hk hg hm k (by omega)
    obtain ⟨j1, j2, j3⟩ := smM_lt hv hk hg (show k < 16 by omega) i1
    have hn15 := hv.2.2.2.2.2.2.2.2.2.2.1 k (by omega)
    have IH := fun a b => ih (k + 1) n' a b (by omega) (by omega)
    rw [fm_calledOnBy_l17]
    generalize fm_calledOnBy_l17 n' = K at IH ⊢
    rw [if_neg (show ¬ (15 : Int32) ≤ nI k by rw [show (15 : Int32) = nI 15 from rfl, pb_le (by omega) (by omega)]; omega), pb_in (by omega) (by omega), pb_oc, show (58 : Int32) = nI 58 from rfl, pb_add, pb_in (by omega) (by omega), pb_oc, pb_cl (by omega), pb_cl (by omega), show (sf (sf σ 22 a) 23 b) 22 k = nI (sm v kd g m0 k).1 from (hab k (Nat.le_refl _)).1, show (sf (sf σ 22 a) 23 b) 0 (58 + k) = nI (v 10 k) from hT.2.2.2.2.2.2.2.1 k (by omega), (em_told _ i1 _ (by omega)).1, qbs, nI_a1, show (2 : Int32) = nI 2 from rfl, pb_rem (by omega) (by decide) (by decide)]
    have FIN : ∃ a2 b2, fm_calledOnBy_b79 K (nI kd) (nI g) (nI k) (nI (smM v kd g k (sm v kd g m0 k).1)) (nI (k + 1)) (sf (sf σ 22 a) 23 b) = some (sf (sf σ 22 a2) 23 b2) ∧ ∀ j, j ≤ 15 → a2 j = nI (sm v kd g m0 j).1 ∧ b2 j = nI (sm v kd g m0 j).2 := by
      unfold fm_calledOnBy_b79
      rw [nI_a1, pb_in (show k + 1 < 2147483648 by omega) (show k + 1 < 16 by omega), pb_in (show k < 2147483648 by omega) (show k < 16 by omega), pb_oc, qhl, pb_oc, pb_oc, pb_cl (show k + 1 < 2147483648 by omega), pb_cl (show k < 2147483648 by omega), show (sf (sf σ 22 a) 23 b) 22 = a from rfl, sf_s2]
      rw [show (sf (sf σ 22 (upd a (k + 1) (nI (smM v kd g k (sm v kd g m0 k).1)))) 23 b) 23 k = nI (sm v kd g m0 k).2 from (hab k (Nat.le_refl _)).2, show (sf (sf σ 22 (upd a (k + 1) (nI (smM v kd g k (sm v kd g m0 k).1)))) 23 b) 22 (k + 1) = nI (smM v kd g k (sm v kd g m0 k).1) from up_eq, em_hands _ j1 _ i2, qbs, pb_oc, qhl, pb_sfsf]
      refine IH _ _ (fun j hj => ?_)
      by_cases e : j = k + 1
      · subst e
        exact ⟨up_eq, up_eq⟩
      · rw [up_ne e]
        rw [show upd ((sf (sf σ 22 (upd a (k + 1) (nI (smM v kd g k (sm v kd g m0 k).1)))) 23 b) 23) (k + 1) (nI (min 99 ((sm v kd g m0 k).2 + 6 - smM v kd g k (sm v kd g m0 k).1 / 2))) j = b j from up_ne e]
        exact hab j (by omega)
    by_cases c : k % 2 = 0
    · rw [if_neg (pNN (pb_ez (by omega)) c)]
      obtain ⟨c1, c2, c3⟩ := em_cheersBy kd hk g hg k (by omega)
      rw [c1, qbs, c2, (em_within _ j2 _ c3).1, qbs, show vW (vNews (v 10 k) (sm v kd g m0 k).1) (vChN kd g k) = smM v kd g k (sm v kd g m0 k).1 by unfold smM; rw [if_pos c]]
      exact FIN
    · rw [if_pos (pN (pb_ez (by omega)) c), show vNews (v 10 k) (sm v kd g m0 k).1 = smM v kd g k (sm v kd g m0 k).1 by unfold smM; rw [if_neg c]]
      exact FIN
theorem co_ok (hT : twM (σ 0) v pr) (hv : vOK v) {kd g m0 : Nat} (hk : kd < 6) (hg : g < 10) (hm : m0 < 10) : ∃ a b, fm_calledOnBy (nI kd) (nI g) (nI m0) σ = some (sf (sf σ 22 a) 23 b) ∧ ∀ j, j ≤ 15 → a j = nI (sm v kd g m0 j).1 ∧ b j = nI (sm v kd g m0 j).2 := by
  unfold fm_calledOnBy
  simp only [qhl]
  have R := co_l hT hv hk hg hm 15 0 hFU (upd (σ 22) 0 (nI m0)) (upd (σ 23) 0 (0 : Int32)) rfl (by unfold hFU; omega) (fun j hj => by
    have e : j = 0 := by omega
    subst e
    exact ⟨up_eq, up_eq⟩)
  exact R
def fa (p : Nat → Bool) (x : Int32) : Nat → Nat → Bool
  | 0, _ => true
  | q + 1, k => (decide (nI k = x) || !p k) && fa p x q (k + 1)
theorem fa_iff (p : Nat → Bool) (x : Int32) : ∀ q k, fa p x q k = true ↔ ∀ r, k ≤ r → r < k + q → (nI r = x ∨ p r = false) := by
  intro q
  induction q with
  | zero => intro k; exact ⟨fun _ r h1 h2 => absurd h2 (by omega), fun _ => rfl⟩
  | succ q ih =>
    intro k
    show ((decide (nI k = x) || !p k) && fa p x q (k + 1)) = true ↔ _
    rw [Bool.and_eq_true, ih (k + 1), Bool.or_eq_true, decide_eq_true_eq, Bool.not_eq_true']
    constructor
    · rintro ⟨h1, h2⟩ r h3 h4
      by_cases e : r = k
      · rw [e]
        exact h1
      · exact h2 r (by omega) (by omega)
    · intro h
      exact ⟨h k (Nat.le_refl _) (by omega), fun r h1 h2 => h r (by omega) (by omega)⟩
theorem bI_and1 (b : Bool) : bI b &&& (1 : Int32) = bI b := by cases b <;> decide
theorem bI_and0 (b : Bool) : bI b &&& (0 : Int32) = bI false := by cases b <;> decide
theorem isf_l {s : Nat → Nat × Nat} (hT : twM (σ 0) v pr) (hv : vOK v) (hs : ∀ j, j ≤ 15 → (s j).1 < 10 ∧ (s j).2 < 100) (h22 : ∀ j, j ≤ 15 → σ 22 j = nI (s j).1 ∧ σ 23 j = nI (s j).2) (x : Int32) : ∀ (q k fu : Nat) (b : Bool), k + q = v 18 0 → q < fu → fm_isFit_l4 σ fu x (bI b) (nI k) = some (bI (b && fa (wrg v s) x q k)) := by
  have b6 := hv.2.2.2.2.2.2.2.2.2.2.2.1
  intro q
  induction q with
  | zero =>
    intro k fu b hq hf
    obtain ⟨n', rfl⟩ : ∃ q, fu = q + 1 := ⟨fu - 1, by omega⟩
    unfold fm_isFit_l4
    rw [hT.2.2.2.2.2.2.2.2.1, if_pos (show nI (v 18 0) ≤ nI k by rw [pb_le (by omega) (by omega)]; omega), show hz (bI b) = true by cases b <;> rfl, pb_oc]
    show _ = some (bI (b && true))
    rw [Bool.and_true]
  | succ q ih =>
    intro k fu b hq hf
    obtain ⟨n', rfl⟩ : ∃ q, fu = q + 1 := ⟨fu - 1, by omega⟩
    have IH := fun b => ih (k + 1) n' b (by omega) (by omega)
    have R := hT.2.2.2.2.2.2.2.2.2.1 k (by omega)
    obtain ⟨w0, w1, w2, w3⟩ := hv.2.2.2.2.2.2.2.2.2.2.2.2 k (by omega)
    have r0 : σ 0 (106 + 4 * k) = nI (v 19 (4 * k)) := R 0 (by decide)
    have r1 : σ 0 (106 + 4 * k + 1) = nI (v 19 (4 * k + 1)) := R 1 (by decide)
    have r2 : σ 0 (106 + 4 * k + 2) = nI (v 19 (4 * k + 2)) := R 2 (by decide)
    have r3 : σ 0 (106 + 4 * k + 3) = nI (v 19 (4 * k + 3)) := R 3 (by decide)
    obtain ⟨y1, y2⟩ := hs (v 19 (4 * k)) w0
    obtain ⟨z1, z2⟩ := h22 (v 19 (4 * k)) w0
    rw [fm_isFit_l4]
    generalize fm_isFit_l4 σ n' = K at IH ⊢
    rw [hT.2.2.2.2.2.2.2.2.1, if_neg (show ¬ nI (v 18 0) ≤ nI k by rw [pb_le (by omega) (by omega)]; omega), qhl, show (106 : Int32) = nI 106 from rfl, show (4 : Int32) = nI 4 from rfl, pb_mul, pb_add, nI_a1, pb_in (by omega) (by omega), pb_oc, pb_cl (by omega), r1, pb_in (show 106 + 4 * k < 2147483648 by omega) (show 106 + 4 * k < 580 by omega), pb_oc, pb_cl (show 106 + 4 * k < 2147483648 by omega), r0, pb_in (show v 19 (4 * k) < 2147483648 by omega) (show v 19 (4 * k) < 16 by omega), pb_oc, pb_oc, pb_oc, pb_cl (show v 19 (4 * k) < 2147483648 by omega), z1, z2]
    have FIN : ∀ y, y < 100 → y = (if v 19 (4 * k + 1) = 0 then (s (v 19 (4 * k))).2 else (s (v 19 (4 * k))).1) → fm_isFit_b62 σ K x (bI b) (nI k) (nI (106 + 4 * k)) (nI y) = some (bI (b && fa (wrg v s) x (q + 1) k)) := by
      intro y hy ey
      have ew : wrg v s k = decide (y < v 19 (4 * k + 2) ∨ v 19 (4 * k + 3) < y) := by
        unfold wrg wq
        rw [ey]
      unfold fm_isFit_b62 fm_isFit_b99 fm_isFit_b104
      rw [show (2 : Int32) = nI 2 from rfl, show (3 : Int32) = nI 3 from rfl, pb_add, pb_add, pb_in (by omega) (by omega), pb_in (by omega) (by omega), pb_oc, pb_oc, pb_cl (by omega), pb_cl (by omega), r2, r3, rg_isIn, qbs, nI_a1]
      simp only [qhl, bI_and1, bI_and0, IH]
      show _ = some (bI (b && ((decide (nI k = x) || !wrg v s k) && fa (wrg v s) x q (k + 1))))
      by_cases c1 : nI k = x
      · rw [if_pos c1, decide_eq_true c1, Bool.true_or, Bool.true_and]
      · rw [if_neg c1, decide_eq_false c1, Bool.false_or, ew]
        by_cases c2 : nI (v 19 (4 * k + 2)) ≤ nI y ∧ nI y ≤ nI (v 19 (4 * k + 3))
        · rw [if_pos c2, if_neg (show ¬ (1 : Int32) = 0 by decide)]
          rw [pb_le (by omega) (by omega), pb_le (by omega) (by omega)] at c2
          rw [decide_eq_false (show ¬ (y < v 19 (4 * k + 2) ∨ v 19 (4 * k + 3) < y) by omega), Bool.not_false, Bool.true_and]
        · rw [if_neg c2, if_pos rfl]
          rw [pb_le (by omega) (by omega), pb_le (by omega) (by omega)] at c2
          rw [decide_eq_true (show y < v 19 (4 * k + 2) ∨ v 19 (4 * k + 3) < y by omega), Bool.not_true, Bool.false_and, Bool.and_false]
    by_cases c : v 19 (4 * k + 1) = 0
    · rw [if_neg (pNN (pb_ez (by omega)) c)]
      exact FIN _ y2 (by rw [if_pos c])
    · rw [if_pos (pN (pb_ez (by omega)) c)]
      exact FIN _ (by omega) (by rw [if_neg c])
/-! the class -/
theorem sh_fin : ∀ r, r < 6 → (1 : Int32) <<< (nI r &&& 31) = nI (2 ^ r) := by decide +kernel
theorem wb_l2 (hT : twC τ 100 v pr) (hv : vOK v) {hr hands mood : Nat} (h1 : hr ≤ 16) (h2 : hands < 100) (h3 : mood < 10) : ∀ (q r fu acc : Nat), r + q = v 18 0 → q < fu → fc_to_wrongBehind_l6 τ fu (nI hr) (nI hands) (nI mood) (nI acc) (nI r) = some (nI (acc ||| ws (fun i => decide (v 19 (4 * i) = hr) && wq v hands mood i) q r)) := by
  have b6 := hv.2.2.2.2.2.2.2.2.2.2.2.1
  intro q
  induction q with
  | zero =>
    intro r fu acc hq hf
    obtain ⟨n', rfl⟩ : ∃ q, fu = q + 1 := ⟨fu - 1, by omega⟩
    unfold fc_to_wrongBehind_l6
    rw [show τ.1 118 0 = nI (v 18 0) from hT.2.2.2.2.2.2.2.2.2.2.1, if_pos (show nI (v 18 0) ≤ nI r by rw [pb_le (by omega) (by omega)]; omega)]
    show _ = some (nI (acc ||| 0))
    rw [Nat.or_zero]
  | succ q ih =>
    intro r fu acc hq hf
    obtain ⟨n', rfl⟩ : ∃ q, fu = q + 1 := ⟨fu - 1, by omega⟩
    have IH := fun acc => ih (r + 1) n' acc (by omega) (by omega)
    have R := hT.2.2.2.2.2.2.2.2.2.2.2.1 r (by omega)
    obtain ⟨w0, w1, w2, w3⟩ := hv.2.2.2.2.2.2.2.2.2.2.2.2 r (by omega)
    have r0 : τ.1 119 (4 * r) = nI (v 19 (4 * r)) := R 0 (by decide)
    have r1 : τ.1 119 (4 * r + 1) = nI (v 19 (4 * r + 1)) := R 1 (by decide)
    have r2 : τ.1 119 (4 * r + 2) = nI (v 19 (4 * r + 2)) := R 2 (by decide)
    have r3 : τ.1 119 (4 * r + 3) = nI (v 19 (4 * r + 3)) := R 3 (by decide)
    rw [fc_to_wrongBehind_l6]
    generalize fc_to_wrongBehind_l6 τ n' = K at IH ⊢
    rw [show τ.1 118 0 = nI (v 18 0) from hT.2.2.2.2.2.2.2.2.2.2.1, if_neg (show ¬ nI (v 18 0) ≤ nI r by rw [pb_le (by omega) (by omega)]; omega), qhl, show (4 : Int32) = nI 4 from rfl, pb_mul, Nat.mul_comm r 4, nI_a1, pb_in (show 4 * r < 2147483648 by omega) (show 4 * r < 24 by omega), pb_in (show 4 * r + 1 < 2147483648 by omega) (show 4 * r + 1 < 24 by omega), pb_oc, pb_oc, pb_cl (show 4 * r < 2147483648 by omega), pb_cl (show 4 * r + 1 < 2147483648 by omega), r0, r1]
    have hstep : ∀ b : Bool, (decide (v 19 (4 * r) = hr) && wq v hands mood r) = b → nI (acc ||| ws (fun i => decide (v 19 (4 * i) = hr) && wq v hands mood i) (q + 1) r) = nI ((acc ||| (if b = true then 2 ^ r else 0)) ||| ws (fun i => decide (v 19 (4 * i) = hr) && wq v hands mood i) q (r + 1)) := by
      intro b hb
      show nI (acc ||| ((if (decide (v 19 (4 * r) = hr) && wq v hands mood r) = true then 2 ^ r else 0) ||| _)) = _
      rw [hb, Nat.or_assoc]
    have NO : (decide (v 19 (4 * r) = hr) && wq v hands mood r) = false → fc_to_wrongBehind_b88 τ K (nI hr) (nI hands) (nI mood) (nI acc) (nI r) = some (nI (acc ||| ws (fun i => decide (v 19 (4 * i) = hr) && wq v hands mood i) (q + 1) r)) := by
      intro h
      unfold fc_to_wrongBehind_b88
      rw [nI_a1, IH, hstep false h, if_neg (by decide), Nat.or_zero]
    have YES : (decide (v 19 (4 * r) = hr) && wq v hands mood r) = true → fc_to_wrongBehind_b79 τ K (nI hr) (nI hands) (nI mood) (nI acc) (nI r) = some (nI (acc ||| ws (fun i => decide (v 19 (4 * i) = hr) && wq v hands mood i) (q + 1) r)) := by
      intro h
      unfold fc_to_wrongBehind_b79 fc_to_wrongBehind_b88
      rw [qhl, sh_fin r (by omega), fa_or, nI_a1, IH, hstep true h, if_pos rfl]
    by_cases c1 : v 19 (4 * r) = hr
    · rw [if_neg (pNN (pb_eq (by omega) (by omega)) c1)]
      have FIN : ∀ y, y < 100 → y = (if v 19 (4 * r + 1) = 0 then hands else mood) → fc_to_wrongBehind_b49 τ K (nI hr) (nI hands) (nI mood) (nI acc) (nI r) (nI (4 * r)) (nI y) = some (nI (acc ||| ws (fun i => decide (v 19 (4 * i) = hr) && wq v hands mood i) (q + 1) r)) := by
        intro y hy ey
        have ew : wq v hands mood r = decide (y < v 19 (4 * r + 2) ∨ v 19 (4 * r + 3) < y) := by
          unfold wq
          rw [ey]
        rw [decide_eq_true c1, Bool.true_and, ew] at NO YES
        unfold fc_to_wrongBehind_b49
        rw [show (2 : Int32) = nI 2 from rfl, show (3 : Int32) = nI 3 from rfl, pb_add, pb_add, pb_in (by omega) (by omega), pb_in (by omega) (by omega), pb_oc, pb_oc, pb_cl (by omega), pb_cl (by omega), r2, r3]
        by_cases c2 : y < v 19 (4 * r + 2)
        · rw [if_pos (pQ (pb_lt (by omega) (by omega)) c2)]
          exact YES (decide_eq_true (Or.inl c2))
        · rw [if_neg (pN (pb_lt (by omega) (by omega)) c2)]
          by_cases c3 : y ≤ v 19 (4 * r + 3)
          · rw [if_pos (pQ (pb_le (by omega) (by omega)) c3)]
            exact NO (decide_eq_false (by omega))
          · rw [if_neg (pN (pb_le (by omega) (by omega)) c3)]
            exact YES (decide_eq_true (by omega))
      by_cases c : v 19 (4 * r + 1) = 0
      · rw [if_neg (pNN (pb_ez (by omega)) c)]
        exact FIN _ h2 (by rw [if_pos c])
      · rw [if_pos (pN (pb_ez (by omega)) c)]
        exact FIN _ (by omega) (by rw [if_neg c])
    · rw [if_pos (pN (pb_eq (by omega) (by omega)) c1)]
      exact NO (by rw [decide_eq_false c1, Bool.false_and])
theorem lh_l (hT : twC τ 100 v pr) (hv : vOK v) : ∀ (q r fu acc : Nat), r + q = v 18 0 → q < fu → acc ≤ 15 → ∃ L, fc_to_lastHourReported_l4 τ fu (nI acc) (nI r) = some (nI L) ∧ L ≤ 15 ∧ acc ≤ L ∧ ∀ i, r ≤ i → i < r + q → v 19 (4 * i) ≤ L := by
  have b6 := hv.2.2.2.2.2.2.2.2.2.2.2.1
  intro q
  induction q with
  | zero =>
    intro r fu acc hq hf ha
    obtain ⟨n', rfl⟩ : ∃ q, fu = q + 1 := ⟨fu - 1, by omega⟩
    unfold fc_to_lastHourReported_l4
    rw [show τ.1 118 0 = nI (v 18 0) from hT.2.2.2.2.2.2.2.2.2.2.1, if_pos (show nI (v 18 0) ≤ nI r by rw [pb_le (by omega) (by omega)]; omega)]
    exact ⟨acc, rfl, ha, Nat.le_refl _, fun i h1 h2 => absurd h2 (by omega)⟩
  | succ q ih =>
    intro r fu acc hq hf ha
    obtain ⟨n', rfl⟩ : ∃ q, fu = q + 1 := ⟨fu - 1, by omega⟩
    obtain ⟨w0, -⟩ := hv.2.2.2.2.2.2.2.2.2.2.2.2 r (by omega)
    have r0 : τ.1 119 (4 * r) = nI (v 19 (4 * r)) := hT.2.2.2.2.2.2.2.2.2.2.2.1 r (by omega) 0 (by decide)
    unfold fc_to_lastHourReported_l4
    rw [show τ.1 118 0 = nI (v 18 0) from hT.2.2.2.2.2.2.2.2.2.2.1, if_neg (show ¬ nI (v 18 0) ≤ nI r by rw [pb_le (by omega) (by omega)]; omega), show (4 : Int32) = nI 4 from rfl, pb_mul, Nat.mul_comm r 4, nI_a1, pb_in (by omega) (by omega), pb_oc, pb_cl (by omega), r0, cmax (by omega) (by omega), qhl]
    obtain ⟨L, l1, l2, l3, l4⟩ := ih (r + 1) n' (max acc (v 19 (4 * r))) (by omega) (by omega) (by omega)
    refine ⟨L, l1, l2, by omega, fun i h1 h2 => ?_⟩
    by_cases e : i = r
    · rw [e]
      omega
    · exact l4 i (by omega) (by omega)
def WR (v : VT) (s : Nat) : Nat := ws (wrg v (sm v (1 + s / 100) (s / 10 % 10) (s % 10))) (v 18 0) 0
theorem wr_l (hT : twC τ 100 v pr) (hv : vOK v) {kd g m0 L : Nat} (hk : kd < 6) (hk1 : 1 ≤ kd) (hg : g < 10) (hm : m0 < 10) (hL : L ≤ 15) : ∀ (q h fu : Nat), h + q = L → q < fu → fc_to_wrongReports_l44 τ fu kd (nI g) (nI (sm v kd g m0 h).1) (nI (sm v kd g m0 h).2) (nI L) (nI (ws (fun r => decide (v 19 (4 * r) ≤ h) && wrg v (sm v kd g m0) r) (v 18 0) 0)) (nI h) = some (nI (ws (fun r => decide (v 19 (4 * r) ≤ L) && wrg v (sm v kd g m0) r) (v 18 0) 0)) := by
  have b6 := hv.2.2.2.2.2.2.2.2.2.2.2.1
  intro q
  induction q with
  | zero =>
    intro h fu hq hf
    obtain ⟨n', rfl⟩ : ∃ q, fu = q + 1 := ⟨fu - 1, by omega⟩
    unfold fc_to_wrongReports_l44
    rw [if_pos (show nI L ≤ nI h by rw [pb_le (by omega) (by omega)]; omega), show h = L by omega]
  | succ q ih =>
    intro h fu hq hf
    obtain ⟨n', rfl⟩ : ∃ q, fu = q + 1 := ⟨fu - 1, by omega⟩
    have IH := ih (h + 1) n' (by omega) (by omega)
    obtain ⟨i1, i2⟩ := sm_lt hv hk hg hm h (by omega)
    obtain ⟨j1, j2, j3⟩ := smM_lt hv hk hg (show h < 16 by omega) i1
    rw [fc_to_wrongReports_l44]
    generalize fc_to_wrongReports_l44 τ n' = K at IH ⊢
    rw [if_neg (show ¬ nI L ≤ nI h by rw [pb_le (by omega) (by omega)]; omega), ec_news hT hv (by omega) (by omega), qbs, show (2 : Int32) = nI 2 from rfl, pb_rem (by omega) (by decide) (by decide)]
    have FIN : fc_to_wrongReports_b85 τ K kd (nI g) (nI (smM v kd g h (sm v kd g m0 h).1)) (nI (sm v kd g m0 h).2) (nI L) (nI (ws (fun r => decide (v 19 (4 * r) ≤ h) && wrg v (sm v kd g m0) r) (v 18 0) 0)) (nI h) = some (nI (ws (fun r => decide (v 19 (4 * r) ≤ L) && wrg v (sm v kd g m0) r) (v 18 0) 0)) := by
      unfold fc_to_wrongReports_b85 fc_to_wrongBehind
      rw [ec_handsAfter _ i2 _ j1, qbs, nI_a1, show (0 : Int32) = nI 0 from rfl, wb_l2 hT hv (by omega) (by omega) j1 (v 18 0) 0 hFU 0 (Nat.zero_add _) (by unfold hFU; omega), qbs, qhl, Nat.zero_or, fa_or, ws_or]
      rw [← IH]
      congr 2
      refine ws_ext (fun r hr => ?_)
      show (decide (v 19 (4 * r) ≤ h) && wrg v (sm v kd g m0) r || decide (v 19 (4 * r) = h + 1) && wq v (sm v kd g m0 (h + 1)).2 (sm v kd g m0 (h + 1)).1 r) = (decide (v 19 (4 * r) ≤ h + 1) && wrg v (sm v kd g m0) r)
      by_cases c1 : v 19 (4 * r) ≤ h
      · rw [decide_eq_true c1, decide_eq_false (show ¬ v 19 (4 * r) = h + 1 by omega), decide_eq_true (show v 19 (4 * r) ≤ h + 1 by omega), Bool.false_and, Bool.or_false]
      · by_cases c2 : v 19 (4 * r) = h + 1
        · rw [decide_eq_false c1, decide_eq_true c2, decide_eq_true (show v 19 (4 * r) ≤ h + 1 by omega), Bool.false_and, Bool.false_or, Bool.true_and, Bool.true_and]
          unfold wrg
          rw [c2]
        · rw [decide_eq_false c1, decide_eq_false c2, decide_eq_false (show ¬ v 19 (4 * r) ≤ h + 1 by omega)]
          rfl
    by_cases c : h % 2 = 0
    · rw [if_neg (pNN (pb_ez (by omega)) c)]
      obtain ⟨c1, c2, c3⟩ := em_cheersBy kd hk g hg h (by omega)
      rw [ec_Ncheers kd hk hk1 g hg h (by omega), qbs, c2, ec_held _ j2 _ c3, qbs, show vW (vNews (v 10 h) (sm v kd g m0 h).1) (vChN kd g h) = smM v kd g h (sm v kd g m0 h).1 by unfold smM; rw [if_pos c]]
      exact FIN
    · rw [if_pos (pN (pb_ez (by omega)) c), show vNews (v 10 h) (sm v kd g m0 h).1 = smM v kd g h (sm v kd g m0 h).1 by unfold smM; rw [if_neg c]]
      exact FIN
theorem wr_ok (hT : twC τ 100 v pr) (hv : vOK v) {s : Nat} (hs : s < 500) : fc_to_wrongReports τ (nI s) = some (nI (WR v s)) := by
  have b6 := hv.2.2.2.2.2.2.2.2.2.2.2.1
  have hF : v 18 0 < hFU := by unfold hFU; omega
  unfold fc_to_wrongReports fc_hh_kindOfStranger fc_hh_giftOfStranger fc_hh_moodOfStranger fc_to_lastHourReported fc_to_wrongBehind
  rw [show (100 : Int32) = nI 100 from rfl, show (10 : Int32) = nI 10 from rfl, pb_div (by omega) (by decide) (by decide), pb_div (by omega) (by decide) (by decide), pb_rem (by omega) (by decide) (by decide), pb_rem (by omega) (by decide) (by decide), show (1 : Int32) = nI 1 from rfl, pb_add, qbs, pb_in (by omega) (by omega), pb_oc, qbs, qbs]
  obtain ⟨L, l1, l2, l3, l4⟩ := lh_l hT hv (v 18 0) 0 hFU 0 (Nat.zero_add _) hF (by decide)
  rw [show (0 : Int32) = nI 0 from rfl, l1, qbs, wb_l2 hT hv (hr := 0) (hands := 0) (by omega) (by omega) (show s % 10 < 10 by omega) (v 18 0) 0 hFU 0 (Nat.zero_add _) hF, qbs, pb_cl (by omega), Nat.zero_or]
  have R := wr_l hT hv (kd := 1 + s / 100) (g := s / 10 % 10) (m0 := s % 10) (L := L) (by omega) (by omega) (by omega) (by omega) l2 L 0 hFU (Nat.zero_add _) (by unfold hFU; omega)
  rw [show ws (fun r => decide (v 19 (4 * r) ≤ 0) && wrg v (sm v (1 + s / 100) (s / 10 % 10) (s % 10)) r) (v 18 0) 0 = ws (fun i => decide (v 19 (4 * i) = 0) && wq v 0 (s % 10) i) (v 18 0) 0 from ws_ext (fun r hr => by
    by_cases c : v 19 (4 * r) = 0
    · rw [decide_eq_true c, decide_eq_true (show v 19 (4 * r) ≤ 0 by omega)]
      unfold wrg
      rw [c]
      rfl
    · rw [decide_eq_false c, decide_eq_false (show ¬ v 19 (4 * r) ≤ 0 by omega)]
      rfl)] at R
  refine R.trans ?_
  unfold WR
  congr 2
  refine ws_ext (fun r hr => ?_)
  rw [decide_eq_true (l4 r (Nat.zero_le _) (by omega)), Bool.true_and]
end ST
