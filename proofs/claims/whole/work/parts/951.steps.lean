/-! PURE: queues of the reference; that they are the class's -/
section S19
variable {τ : SC} {σ : SM} {v : VT} {pr : List RU} {o : Nat}
/-- the reference's inmost row: q from k on -/
def vin (v : VT) (p : Nat) : Nat → Nat → Nat → Nat
  | 0, _, t => t
  | m + 1, k, t => vin v p m (k + 1) (if (vbit (v 7 0) p = 1 ∧ vbit (v 7 0) k = 1 ∧ vab (vdS v p) (vdS v k) ≤ 2) ∧ vbit t p = 1 then t ||| 2 ^ k else t)
theorem vin_eq (hv : vOK v) {p s : Nat} (hs : s < 64) (hsub : vbit s p = 1 → vbit (v 7 0) p = 1) : ∀ m k acc, acc < 64 → vin v p m k (s ||| acc) = if vbit (s ||| acc) p = 1 then (if vbit s p = 1 then s ||| vclo v p m k acc else vin v p m k (s ||| acc)) else s ||| acc := by
  intro m
  induction m with
  | zero =>
    intro k acc ha
    rw [show vin v p 0 k (s ||| acc) = s ||| acc from rfl, show vclo v p 0 k acc = acc from rfl]
    simp only [ite_self]
  | succ m ih =>
    intro k acc ha
    by_cases c : vbit (s ||| acc) p = 1
    · rw [if_pos c]
      by_cases c2 : vbit s p = 1
      · rw [if_pos c2]
        show vin v p m (k + 1) (if (vbit (v 7 0) p = 1 ∧ vbit (v 7 0) k = 1 ∧ vab (vdS v p) (vdS v k) ≤ 2) ∧ vbit (s ||| acc) p = 1 then (s ||| acc) ||| 2 ^ k else (s ||| acc)) = s ||| vclo v p m (k + 1) (if vNear v k p then acc ||| 2 ^ k else acc)
        by_cases d : vNear v k p
        · by_cases e : k < 6
          · rw [if_pos d, if_pos ⟨⟨hsub c2, d.1, by rw [vab_comm]; exact d.2⟩, c⟩, Nat.or_assoc, ih (k + 1) (acc ||| 2 ^ k) (or64 ha (pw64 e)), if_pos (by rw [vb_or]; exact Or.inl c2), if_pos c2]
          · exact absurd d.1 (vb_big (vW64 hv).1 (by omega))
        · rw [if_neg d, if_neg (fun z => d ⟨z.1.2.1, by rw [vab_comm]; exact z.1.2.2⟩), ih (k + 1) acc ha, if_pos c, if_pos c2]
      · rw [if_neg c2]
    · rw [if_neg c]
      show vin v p m (k + 1) (if (vbit (v 7 0) p = 1 ∧ vbit (v 7 0) k = 1 ∧ vab (vdS v p) (vdS v k) ≤ 2) ∧ vbit (s ||| acc) p = 1 then (s ||| acc) ||| 2 ^ k else (s ||| acc)) = _
      rw [if_neg (fun z => c z.2), ih (k + 1) acc ha, if_neg c]
theorem vin_St (hv : vOK v) {p s : Nat} (hs : s < 64) (hsub : vbit s p = 1 → vbit (v 7 0) p = 1) : vin v p (v 13 0) 0 s = vSt v p s := by
  have h := vin_eq hv hs hsub (v 13 0) 0 0 (by decide)
  rw [Nat.or_zero] at h
  rw [h]
  unfold vSt vC
  by_cases c : vbit s p = 1
  · simp only [if_pos c]
  · simp only [if_neg c]
theorem em_row (hT : twM (σ 0) v pr) (hv : vOK v) (K11 K131 : Int32 → Int32 → Option Int32) (K20 K125 : Int32 → Int32 → Int32 → Option Int32) (x3 : Int32) {p : Nat} (hp : p < v 13 0) : ∀ m k n s, k + m = v 13 0 → m < n → s < 64 → fm_queueOf_l34 σ K11 K131 K20 K125 n (nI s) x3 (nI p) (nI k) = K125 (nI (vin v p m k s)) x3 (nI p) := by
  have b6 := hv.1
  intro m
  induction m with
  | zero =>
    intro k n s hk hn hs
    obtain ⟨q, rfl⟩ : ∃ q, n = q + 1 := ⟨n - 1, by omega⟩
    unfold fm_queueOf_l34
    rw [hT.1, if_pos (show nI (v 13 0) ≤ nI k by rw [pb_le (by omega) (by omega)]; omega)]
    rfl
  | succ m ih =>
    intro k n s hk hn hs
    obtain ⟨q, rfl⟩ : ∃ q, n = q + 1 := ⟨n - 1, by omega⟩
    have h1 := vbit_lt (v 7 0) k
    have h2 := vbit_lt (v 7 0) p
    have h3 := vbit_lt s p
    have hd := vdS_le (v := v) (o := k) (by omega) hv
    have hd2 := vdS_le hp hv
    have v1 := vab_le (n := 99) (show vdS v p ≤ 99 by omega) (show vdS v k ≤ 99 by omega)
    rw [show vin v p (m + 1) k s = vin v p m (k + 1) (if (vbit (v 7 0) p = 1 ∧ vbit (v 7 0) k = 1 ∧ vab (vdS v p) (vdS v k) ≤ 2) ∧ vbit s p = 1 then s ||| 2 ^ k else s) from rfl]
    have IH0 : ∀ t, t < 64 → fm_queueOf_b117 σ K11 K131 K20 K125 (fm_queueOf_l34 σ K11 K131 K20 K125 q) x3 (nI p) (nI k) (nI t) (nI s) = K125 (nI (vin v p m (k + 1) (s ||| t))) x3 (nI p) := by
      intro t ht
      unfold fm_queueOf_b117
      rw [or_fin _ hs _ ht, qhl, show (1 : Int32) = nI 1 from rfl, pb_add]
      exact ih (k + 1) q _ (by omega) (by omega) (or64 hs ht)
    have B116 : fm_queueOf_b116 σ K11 K131 K20 K125 (fm_queueOf_l34 σ K11 K131 K20 K125 q) x3 (nI p) (nI k) (nI s) = K125 (nI (vin v p m (k + 1) s)) x3 (nI p) := by
      unfold fm_queueOf_b116
      have := IH0 0 (by decide)
      rw [Nat.or_zero] at this
      exact this
    have B90 : fm_queueOf_b90 σ K11 K131 K20 K125 (fm_queueOf_l34 σ K11 K131 K20 K125 q) (nI s) x3 (nI p) (nI k) = K125 (nI (vin v p m (k + 1) s)) x3 (nI p) := by
      unfold fm_queueOf_b90 fm_queueOf_b91
      rw [if_pos rfl]
      exact B116
    have B91 : fm_queueOf_b91 σ K11 K131 K20 K125 (fm_queueOf_l34 σ K11 K131 K20 K125 q) (nI s) x3 (nI p) (nI k) 1 = K125 (nI (vin v p m (k + 1) (if vbit s p = 1 then s ||| 2 ^ k else s))) x3 (nI p) := by
      unfold fm_queueOf_b91
      rw [if_neg (show ¬ (1 : Int32) = 0 by decide), bt_fin _ hs _ (by omega), B116, pw_fin _ (by omega), IH0 _ (pw64 (by omega))]
      by_cases c : vbit s p = 1
      · rw [if_neg (show ¬ ¬ nI (vbit s p) = (1 : Int32) from fun z => z (by rw [c]; rfl)), if_pos c]
      · rw [if_pos (show ¬ nI (vbit s p) = (1 : Int32) by rw [show (1 : Int32) = nI 1 from rfl, pb_eq (by omega) (by omega)]; exact c), if_neg c]
    unfold fm_queueOf_l34
    rw [hT.1, if_neg (show ¬ nI (v 13 0) ≤ nI k by rw [pb_le (by omega) (by omega)]; omega), em_its4 hT hp hv, em_its4 hT (by omega) hv, em_place hT hp hv, em_place hT (by omega) hv, B90, B91]
    simp only [qbs]
    rw [em_apart (by omega) (by omega), qbs]
    by_cases c1 : vbit (v 7 0) p = 1
    · rw [if_neg (show ¬ ¬ nI (vbit (v 7 0) p) = (1 : Int32) from fun z => z (by rw [c1]; rfl))]
      by_cases c2 : vbit (v 7 0) k = 1
      · rw [if_neg (show ¬ ¬ nI (vbit (v 7 0) k) = (1 : Int32) from fun z => z (by rw [c2]; rfl))]
        by_cases c3 : vab (vdS v p) (vdS v k) ≤ 2
        · rw [if_neg (show ¬ (2 : Int32) < nI (vab (vdS v p) (vdS v k)) by rw [show (2 : Int32) = nI 2 from rfl, pb_lt (by omega) (by omega)]; omega)]
          by_cases c4 : vbit s p = 1
          · rw [if_pos c4, if_pos ⟨⟨c1, c2, c3⟩, c4⟩]
          · rw [if_neg c4, if_neg (fun z => c4 z.2)]
        · rw [if_pos (show (2 : Int32) < nI (vab (vdS v p) (vdS v k)) by rw [show (2 : Int32) = nI 2 from rfl, pb_lt (by omega) (by omega)]; omega), if_neg (fun z => c3 z.1.2.2)]
      · rw [if_pos (show ¬ nI (vbit (v 7 0) k) = (1 : Int32) by rw [show (1 : Int32) = nI 1 from rfl, pb_eq (by omega) (by omega)]; exact c2), if_neg (fun z => c2 z.1.2.1)]
    · rw [if_pos (show ¬ nI (vbit (v 7 0) p) = (1 : Int32) by rw [show (1 : Int32) = nI 1 from rfl, pb_eq (by omega) (by omega)]; exact c1), if_neg (fun z => c1 z.1.1)]
/-- part of the waiting ones -/
def vSub (v : VT) (s : Nat) : Prop := ∀ j, vbit s j = 1 → vbit (v 7 0) j = 1
theorem vSt_sub {s : Nat} (h : vSub v s) (p : Nat) : vSub v (vSt v p s) := by
  intro j hj
  unfold vSt at hj
  split at hj
  · rw [vb_or] at hj
    rcases hj with z | z
    · exact h j z
    · exact ((vC_bit v p j).mp z).2.1
  · exact h j hj
theorem vRd_sub : ∀ m k s, vSub v s → vSub v (vRd v m k s) := by
  intro m
  induction m with
  | zero => intro k s h; exact h
  | succ m ih => intro k s h; exact ih _ _ (vSt_sub h k)
theorem vIt_sub : ∀ n s, vSub v s → vSub v (vIt v n s) := by
  intro n
  induction n with
  | zero => intro s h; exact h
  | succ n ih => intro s h; exact ih _ (vRd_sub _ _ _ h)
theorem em_round (hT : twM (σ 0) v pr) (hv : vOK v) (K11 K131 : Int32 → Int32 → Option Int32) (x3 : Int32) : ∀ m k n s, k + m = v 13 0 → m < n → s < 64 → vSub v s → fm_queueOf_l20 σ K11 K131 n (nI s) x3 (nI k) = K131 (nI (vRd v m k s)) x3 := by
  have b6 := hv.1
  have hF : v 13 0 < hFU := by unfold hFU; omega
  intro m
  induction m with
  | zero =>
    intro k n s hk hn hs hsub
    obtain ⟨q, rfl⟩ : ∃ q, n = q + 1 := ⟨n - 1, by omega⟩
    unfold fm_queueOf_l20
    rw [hT.1, if_pos (show nI (v 13 0) ≤ nI k by rw [pb_le (by omega) (by omega)]; omega)]
    rfl
  | succ m ih =>
    intro k n s hk hn hs hsub
    obtain ⟨q, rfl⟩ : ∃ q, n = q + 1 := ⟨n - 1, by omega⟩
    have IH := ih (k + 1) q (vSt v k s) (by omega) (by omega) (vSt_lt hv hs k) (vSt_sub hsub k)
    rw [show vRd v (m + 1) k s = vRd v m (k + 1) (vSt v k s) from rfl]
    unfold fm_queueOf_l20
    rw [hT.1, if_neg (show ¬ nI (v 13 0) ≤ nI k by rw [pb_le (by omega) (by omega)]; omega), show (0 : Int32) = nI 0 from rfl, em_row hT hv _ _ _ _ _ (by omega) (v 13 0) 0 hFU s (Nat.zero_add _) hF hs, vin_St hv hs (hsub k), show (1 : Int32) = nI 1 from rfl, pb_add]
    exact IH
theorem em_queue_l (hT : twM (σ 0) v pr) (hv : vOK v) : ∀ m k n s, k + m = 6 → m < n → s < 64 → vSub v s → fm_queueOf_l11 σ n (nI s) (nI k) = some (nI (vIt v m s)) := by
  have b6 := hv.1
  have hF : v 13 0 < hFU := by unfold hFU; omega
  intro m
  induction m with
  | zero =>
    intro k n s hk hn hs hsub
    obtain ⟨q, rfl⟩ : ∃ q, n = q + 1 := ⟨n - 1, by omega⟩
    unfold fm_queueOf_l11
    rw [if_pos (show (6 : Int32) ≤ nI k by rw [show (6 : Int32) = nI 6 from rfl, pb_le (by omega) (by omega)]; omega)]
    rfl
  | succ m ih =>
    intro k n s hk hn hs hsub
    obtain ⟨q, rfl⟩ : ∃ q, n = q + 1 := ⟨n - 1, by omega⟩
    have IH := ih (k + 1) q (vRd v (v 13 0) 0 s) (by omega) (by omega) (vRd_lt hv _ _ _ hs) (vRd_sub _ _ _ hsub)
    rw [show vIt v (m + 1) s = vIt v m (vRd v (v 13 0) 0 s) from rfl]
    unfold fm_queueOf_l11
    rw [if_neg (show ¬ (6 : Int32) ≤ nI k by rw [show (6 : Int32) = nI 6 from rfl, pb_le (by omega) (by omega)]; omega), show (0 : Int32) = nI 0 from rfl, em_round hT hv _ _ _ (v 13 0) 0 hFU s (Nat.zero_add _) hF hs hsub, show (1 : Int32) = nI 1 from rfl, pb_add]
    exact IH
theorem one_bit (w o j : Nat) : (vbit (vbit w o * 2 ^ o) j = 1) = (vbit w o = 1 ∧ o = j) := by
  have h := vbit_lt w o
  rcases (show vbit w o = 0 ∨ vbit w o = 1 by omega) with e | e
  · rw [e, Nat.zero_mul]
    exact propext ⟨fun z => absurd z (vb_0 j), fun z => by omega⟩
  · rw [e, Nat.one_mul, vb_pw]
    simp
theorem em_queueOf6 (hT : twM (σ 0) v pr) (hv : vOK v) (ho : o < v 13 0) : fm_queueOf σ (nI o) = some (nI (vIt v 6 (vbit (v 7 0) o * 2 ^ o))) := by
  have b6 := hv.1
  have hF : 6 < hFU := by unfold hFU; decide
  obtain ⟨w1, w2, w3⟩ := wb_fin _ (vW64 hv).1 o (by omega)
  unfold fm_queueOf
  rw [em_its4 hT ho hv, qbs, w2, qhl, show (0 : Int32) = nI 0 from rfl]
  exact em_queue_l hT hv 6 0 hFU _ rfl hF w3 (fun j hj => by rw [one_bit] at hj; obtain ⟨a, rfl⟩ := hj; exact a)
/-! it grows until no more come -/
theorem vSt_inc {s : Nat} (p j : Nat) (h : vbit s j = 1) : vbit (vSt v p s) j = 1 := by
  unfold vSt
  split
  · rw [vb_or]; exact Or.inl h
  · exact h
theorem vRd_inc : ∀ m k s j, vbit s j = 1 → vbit (vRd v m k s) j = 1 := by
  intro m
  induction m with
  | zero => intro k s j h; exact h
  | succ m ih => intro k s j h; exact ih _ _ _ (vSt_inc k j h)
theorem vRd_close : ∀ m k s p j, k ≤ p → p < k + m → vbit s p = 1 → vbit (vC v p) j = 1 → vbit (vRd v m k s) j = 1 := by
  intro m
  induction m with
  | zero => intro k s p j h1 h2; omega
  | succ m ih =>
    intro k s p j h1 h2 h3 h4
    by_cases e : p = k
    · subst e
      refine vRd_inc m _ _ j ?_
      unfold vSt
      rw [if_pos h3, vb_or]
      exact Or.inr h4
    · exact ih _ _ p j (by omega) (by omega) (vSt_inc k p h3) h4
def pc6 (s : Nat) : Nat := vbit s 0 + vbit s 1 + vbit s 2 + vbit s 3 + vbit s 4 + vbit s 5
theorem pc6_lt {s t : Nat} (hs : s < 64) (ht : t < 64) (h : ∀ j, vbit s j = 1 → vbit t j = 1) (hne : ¬ t = s) : pc6 s < pc6 t := by
  have L : ∀ j, vbit s j ≤ vbit t j := fun j => by
    have a := vbit_lt s j
    have b := h j
    by_cases c : vbit s j = 1
    · rw [c, b c]; exact Nat.le_refl _
    · omega
  have l0 := L 0
  have l1 := L 1
  have l2 := L 2
  have l3 := L 3
  have l4 := L 4
  have l5 := L 5
  by_cases c : pc6 s < pc6 t
  · exact c
  · unfold pc6 at c
    refine absurd (vb_ext ht hs fun j hj => ?_) hne
    rcases (show j = 0 ∨ j = 1 ∨ j = 2 ∨ j = 3 ∨ j = 4 ∨ j = 5 by omega) with rfl | rfl | rfl | rfl | rfl | rfl <;> omega
theorem pc6_le : ∀ n, n < 7 → ∀ s, s < 2 ^ n → pc6 s ≤ n := by decide +kernel
theorem vIt_succ : ∀ n s, vIt v (n + 1) s = vRd v (v 13 0) 0 (vIt v n s) := by
  intro n
  induction n with
  | zero => intro s; rfl
  | succ n ih => intro s; exact ih _
theorem vIt_grow (hv : vOK v) {s : Nat} (hs : s < 64) : ∀ n, vIt v (n + 1) s = vIt v n s ∨ n + 1 + pc6 s ≤ pc6 (vIt v (n + 1) s) := by
  intro n
  induction n with
  | zero =>
    by_cases e : vIt v (0 + 1) s = s
    · exact Or.inl e
    · right
      have := pc6_lt hs (vIt_lt hv (0 + 1) s hs) (fun j hj => vRd_inc _ _ _ j hj) e
      omega
  | succ n ih =>
    rcases ih with h | h
    · left
      rw [vIt_succ (n + 1), h, ← vIt_succ n, h]
    · by_cases e : vIt v (n + 1 + 1) s = vIt v (n + 1) s
      · exact Or.inl e
      · right
        have := pc6_lt (vIt_lt hv (n + 1) s hs) (vIt_lt hv (n + 1 + 1) s hs) (fun j hj => by rw [vIt_succ (n + 1)]; exact vRd_inc _ _ _ j hj) e
        omega
theorem vIt_stab {s n : Nat} (h : vIt v (n + 1) s = vIt v n s) : ∀ k, vIt v (n + k) s = vIt v n s := by
  intro k
  induction k with
  | zero => rfl
  | succ k ih => rw [← Nat.add_assoc, vIt_succ, ih, ← vIt_succ, h]
theorem vSub_lt {s : Nat} (hv : vOK v) (hs : s < 64) (h : vSub v s) : s < 2 ^ v 13 0 := by
  have hw := hv.2.2.2.2.2.2.1
  apply Nat.lt_pow_two_of_testBit
  intro i hi
  cases c : s.testBit i with
  | false => rfl
  | true =>
    rw [← vb_tb] at c
    have z := h i c
    rw [vb_tb, Nat.testBit_lt_two_pow (Nat.lt_of_lt_of_le hw (Nat.pow_le_pow_right (by decide) hi))] at z
    cases z
theorem vIt_fix (hv : vOK v) (ho : o < v 13 0) : vRd v (v 13 0) 0 (vIt v (v 13 0) (vbit (v 7 0) o * 2 ^ o)) = vIt v (v 13 0) (vbit (v 7 0) o * 2 ^ o) := by
  have b6 := hv.1
  have h0 := (wb_fin _ (vW64 hv).1 o (by omega)).2.2
  have sub : vSub v (vbit (v 7 0) o * 2 ^ o) := fun j hj => by rw [one_bit] at hj; obtain ⟨a, rfl⟩ := hj; exact a
  rw [← vIt_succ]
  rcases vIt_grow hv h0 (v 13 0) with h | h
  · exact h
  · have l1 := pc6_le _ (show v 13 0 < 7 by omega) _ (vSub_lt hv (vIt_lt hv (v 13 0 + 1) _ h0) (vIt_sub (v 13 0 + 1) _ sub))
    omega
theorem em_queueOf (hT : twM (σ 0) v pr) (hv : vOK v) (ho : o < v 13 0) : fm_queueOf σ (nI o) = some (nI (vIt v (v 13 0) (vbit (v 7 0) o * 2 ^ o))) := by
  have b6 := hv.1
  rw [em_queueOf6 hT hv ho]
  have h := vIt_stab (s := vbit (v 7 0) o * 2 ^ o) (by rw [vIt_succ]; exact vIt_fix hv ho) (6 - v 13 0)
  rw [show v 13 0 + (6 - v 13 0) = 6 by omega] at h
  rw [h]
/-! a queue holds its members' queues -/
def vQ (v : VT) (o : Nat) : Nat := vIt v (v 13 0) (vbit (v 7 0) o * 2 ^ o)
theorem vQ_lt (hv : vOK v) (ho : o < v 13 0) : vQ v o < 64 := by
  have b6 := hv.1
  exact vIt_lt hv _ _ (wb_fin _ (vW64 hv).1 o (by omega)).2.2
theorem vIt_inc : ∀ n s j, vbit s j = 1 → vbit (vIt v n s) j = 1 := by
  intro n
  induction n with
  | zero => intro s j h; exact h
  | succ n ih => intro s j h; exact ih _ _ (vRd_inc _ _ _ j h)
theorem vQ_self (h : vbit (v 7 0) o = 1) : vbit (vQ v o) o = 1 := vIt_inc _ _ _ (by rw [one_bit]; exact ⟨h, rfl⟩)
theorem vQ_sub : vSub v (vQ v o) := vIt_sub _ _ fun j hj => by rw [one_bit] at hj; obtain ⟨a, rfl⟩ := hj; exact a
theorem w_lt (hv : vOK v) {j : Nat} (h : vbit (v 7 0) j = 1) : j < v 13 0 := by
  have hw := hv.2.2.2.2.2.2.1
  by_cases c : j < v 13 0
  · exact c
  · rw [vb_tb, Nat.testBit_lt_two_pow (Nat.lt_of_lt_of_le hw (Nat.pow_le_pow_right (by decide) (by omega)))] at h
    cases h
theorem vQ_close (hv : vOK v) (ho : o < v 13 0) {p j : Nat} (hp : vbit (vQ v o) p = 1) (hj : vNear v j p) : vbit (vQ v o) j = 1 := by
  have hf := vIt_fix hv ho
  have hpn := w_lt hv (vQ_sub p hp)
  have h := vRd_close (v := v) (v 13 0) 0 (vQ v o) p j (by omega) (by omega) hp ((vC_bit v p j).mpr ⟨w_lt hv hj.1, hj⟩)
  unfold vQ at h ⊢
  rw [hf] at h
  exact h
/-- a set that is closed holds the whole queue of its members -/
theorem vQ_least {T : Nat → Prop} (hT : ∀ p, T p → ∀ j, vNear v j p → T j) (h : T o) : ∀ j, vbit (vQ v o) j = 1 → T j := by
  have S : ∀ p s, (∀ j, vbit s j = 1 → T j) → ∀ j, vbit (vSt v p s) j = 1 → T j := by
    intro p s hs j hj
    unfold vSt at hj
    split at hj
    · rename_i c
      rw [vb_or] at hj
      rcases hj with z | z
      · exact hs j z
      · exact hT p (hs p c) j ((vC_bit v p j).mp z).2
    · exact hs j hj
  have R : ∀ m k s, (∀ j, vbit s j = 1 → T j) → ∀ j, vbit (vRd v m k s) j = 1 → T j := by
    intro m
    induction m with
    | zero => intro k s hs; exact hs
    | succ m ih => intro k s hs; exact ih _ _ (S k s hs)
  have I : ∀ n s, (∀ j, vbit s j = 1 → T j) → ∀ j, vbit (vIt v n s) j = 1 → T j := by
    intro n
    induction n with
    | zero => intro s hs; exact hs
    | succ n ih => intro s hs; exact ih _ (R _ _ s hs)
  exact I _ _ fun j hj => by rw [one_bit] at hj; obtain ⟨_, rfl⟩ := hj; exact h
theorem vQ_trans (hv : vOK v) (ho : o < v 13 0) {q : Nat} (hq : vbit (vQ v o) q = 1) : ∀ j, vbit (vQ v q) j = 1 → vbit (vQ v o) j = 1 := vQ_least (T := fun j => vbit (vQ v o) j = 1) (fun p hp j hj => vQ_close hv ho hp hj) hq
theorem vNear_sym {j p : Nat} (hp : vbit (v 7 0) p = 1) (h : vNear v j p) : vNear v p j := ⟨hp, by rw [vab_comm]; exact h.2⟩
theorem vQ_sym (hv : vOK v) (ho : vbit (v 7 0) o = 1) {q : Nat} (hq : vbit (vQ v o) q = 1) : vbit (vQ v q) o = 1 := by
  have hon := w_lt hv ho
  have hqw := vQ_sub q hq
  have hqn := w_lt hv hqw
  refine Decidable.byContradiction fun c => ?_
  have h := vQ_least (v := v) (o := o) (T := fun j => vbit (vQ v o) j = 1 ∧ ¬ vbit (vQ v q) j = 1) (fun p hp j hj => ⟨vQ_close hv hon hp.1 hj, fun z => hp.2 (vQ_close hv hqn z (vNear_sym (vQ_sub p hp.1) hj))⟩) ⟨vQ_self ho, c⟩ q hq
  exact h.2 (vQ_self hqw)
theorem low_fin : ∀ Q, Q < 64 → ∀ k, k < 6 → (nI Q &&& (((1 : Int32) <<< (nI k &&& 31)) - (1 : Int32)) = 0 ↔ ∀ j, j < k → ¬ vbit Q j = 1) := by decide +kernel
theorem count_l (t1 : twM (σ 0) v pr) (t2 : twC τ 100 v pr) (hv : vOK v) : ∀ (m k n1 n2 s : Nat) (x : Int32), k + m = v 13 0 → m < n1 → m < n2 → s < 64 → (∀ q, vbit s q = 1 ↔ ∃ j, j < k ∧ vbit (v 7 0) j = 1 ∧ vbit (vQ v j) q = 1) → st1 (fc_hh_countQueues_l6 τ n1 x (nI s) (nI k)) (fm_queues_l29 σ n2 x (nI k)) := by
  have b6 := hv.1
  intro m
  induction m with
  | zero =>
    intro k n1 n2 s x hk h1 h2 hs hq
    obtain ⟨q1, rfl⟩ : ∃ q, n1 = q + 1 := ⟨n1 - 1, by omega⟩
    obtain ⟨q2, rfl⟩ : ∃ q, n2 = q + 1 := ⟨n2 - 1, by omega⟩
    unfold fc_hh_countQueues_l6 fm_queues_l29
    rw [t1.1, show τ.1 113 0 = _ from t2.1, if_pos (show nI (v 13 0) ≤ nI k by rw [pb_le (by omega) (by omega)]; omega), if_pos (show nI (v 13 0) ≤ nI k by rw [pb_le (by omega) (by omega)]; omega)]
    exact ⟨x, rfl, rfl⟩
  | succ m ih =>
    intro k n1 n2 s x hk h1 h2 hs hq
    obtain ⟨q1, rfl⟩ : ∃ q, n1 = q + 1 := ⟨n1 - 1, by omega⟩
    obtain ⟨q2, rfl⟩ : ∃ q, n2 = q + 1 := ⟨n2 - 1, by omega⟩
    have hkn : k < v 13 0 := by omega
    have hb1 := vbit_lt (v 7 0) k
    have hb2 := vbit_lt s k
    unfold fc_hh_countQueues_l6 fm_queues_l29 fc_hh_countQueues_b54 fm_queues_b68 fm_queues_b69
    rw [t1.1, show τ.1 113 0 = _ from t2.1, if_neg (show ¬ nI (v 13 0) ≤ nI k by rw [pb_le (by omega) (by omega)]; omega), if_neg (show ¬ nI (v 13 0) ≤ nI k by rw [pb_le (by omega) (by omega)]; omega), show τ.1 107 0 = _ from t2.2.2.2.2.2.1, ec_bit _ (vW64 hv).1 _ (by omega), ec_bit _ hs _ (by omega), em_its4 t1 hkn hv, ec_queueOf t2 hv hkn, em_queueOf t1 hv hkn]
    simp only [qbs, qhl]
    rw [show vIt v (v 13 0) (vbit (v 7 0) k * 2 ^ k) = vQ v k from rfl, or_fin _ hs _ (vQ_lt hv hkn), show (1 : Int32) = nI 1 from rfl, pb_add, show x + (0 : Int32) = x from Int32.add_zero x]
    by_cases c1 : vbit (v 7 0) k = 1
    · simp only [if_neg (show ¬ ¬ nI (vbit (v 7 0) k) = nI 1 from fun z => z (by rw [c1]))]
      by_cases c2 : vbit s k = 1
      · rw [if_pos (show ¬ nI (vbit s k) = 0 by rw [c2]; decide)]
        obtain ⟨j, hj, hjw, hjq⟩ := (hq k).mp c2
        have hL : ¬ (nI (vQ v k) &&& (((1 : Int32) <<< (nI k &&& 31)) - (1 : Int32)) = 0) := fun z => (low_fin _ (vQ_lt hv hkn) k (by omega)).mp z j hj (vQ_sym hv hjw hjq)
        rw [if_pos (show ¬ (nI (vQ v k) &&& ((nI 1 <<< (nI k &&& 31)) - nI 1) = 0) from hL)]
        refine ih (k + 1) q1 q2 s x (by omega) (by omega) (by omega) hs fun q => ?_
        rw [hq q]
        constructor
        · rintro ⟨i, hi, a, b⟩
          exact ⟨i, by omega, a, b⟩
        · rintro ⟨i, hi, a, b⟩
          by_cases e : i = k
          · subst e
            exact ⟨j, hj, hjw, vQ_trans hv (w_lt hv hjw) hjq q b⟩
          · exact ⟨i, by omega, a, b⟩
      · rw [if_neg (show ¬ ¬ nI (vbit s k) = 0 from fun z => z (by rw [show vbit s k = 0 by omega]; rfl))]
        have hL : nI (vQ v k) &&& (((1 : Int32) <<< (nI k &&& 31)) - (1 : Int32)) = 0 := (low_fin _ (vQ_lt hv hkn) k (by omega)).mpr fun j hj z => c2 ((hq k).mpr ⟨j, hj, vQ_sub j z, vQ_sym hv c1 z⟩)
        rw [if_neg (show ¬ ¬ (nI (vQ v k) &&& ((nI 1 <<< (nI k &&& 31)) - nI 1) = 0) from fun z => z hL)]
        refine ih (k + 1) q1 q2 _ _ (by omega) (by omega) (by omega) (or64 hs (vQ_lt hv hkn)) fun q => ?_
        rw [vb_or, hq q]
        constructor
        · rintro (⟨i, hi, a, b⟩ | b)
          · exact ⟨i, by omega, a, b⟩
          · exact ⟨k, by omega, c1, b⟩
        · rintro ⟨i, hi, a, b⟩
          by_cases e : i = k
          · subst e
            exact Or.inr b
          · exact Or.inl ⟨i, by omega, a, b⟩
    · simp only [if_pos (show ¬ nI (vbit (v 7 0) k) = nI 1 by rw [pb_eq (by omega) (by omega)]; exact c1)]
      refine ih (k + 1) q1 q2 s x (by omega) (by omega) (by omega) hs fun q => ?_
      rw [hq q]
      constructor
      · rintro ⟨i, hi, a, b⟩
        exact ⟨i, by omega, a, b⟩
      · rintro ⟨i, hi, a, b⟩
        by_cases e : i = k
        · subst e
          exact absurd a c1
        · exact ⟨i, by omega, a, b⟩
theorem st_queues (h : Inv τ σ) (x1 : Int32) : st1 (fc_hh_queues τ x1) (fm_queues σ x1) := by
  obtain ⟨⟨v, pr, t1, t2, t3, -⟩, -⟩ := id h
  have b6 := t3.1
  unfold fc_hh_queues fm_queues fm_queues_b15
  by_cases c0 : x1 = -1
  · rw [if_neg (show ¬ ¬ x1 = -1 from fun z => z c0), if_pos c0, c0, if_pos (show (-1 : Int32) < 0 by decide)]
    unfold fc_hh_countQueues
    have hF : v 13 0 < hFU := by unfold hFU; omega
    obtain ⟨r, r1, r2⟩ := count_l t1 t2 t3 (v 13 0) 0 hFU hFU 0 0 (Nat.zero_add _) hF hF (by decide) (fun q => ⟨fun z => absurd z (vb_0 q), fun z => by obtain ⟨j, hj, -⟩ := z; omega⟩)
    rw [show nI 0 = (0 : Int32) from rfl] at r1 r2
    rw [r1, r2]
    exact ⟨r, rfl, rfl⟩
  · rw [if_pos (show ¬ x1 = -1 from c0), if_neg c0, rg_has τ (by omega) t2.1, rg_isOne σ (by omega) t1.1, qbs, qbs]
    by_cases c1 : 0 ≤ x1 ∧ x1 < nI (v 13 0)
    · simp only [if_pos c1, one0, if_false, not_false_eq_true, if_true]
      obtain ⟨a, ha, rfl⟩ := rg_one (by omega) c1
      rw [if_neg (show ¬ nI a < 0 by rw [rg_lt0]; exact c1.1), ec_queueOf t2 t3 ha, em_queueOf t1 t3 ha]
      exact ⟨_, rfl, rfl⟩
    · simp only [if_neg c1, zer0, if_true, not_true_eq_false, if_false]
      exact ⟨_, rfl, rfl⟩
end S19
