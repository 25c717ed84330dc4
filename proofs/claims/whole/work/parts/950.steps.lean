/-! PURE: step of queues -/
section S18
variable {τ : SC} {σ : SM} {v : VT} {pr : List RU} {o : Nat}
theorem vb_tb (w k : Nat) : (vbit w k = 1) = (w.testBit k = true) := by
  unfold vbit
  rw [Nat.testBit_eq_decide_div_mod_eq, decide_eq_true_eq]
theorem vb_or (s t k : Nat) : (vbit (s ||| t) k = 1) = (vbit s k = 1 ∨ vbit t k = 1) := by
  rw [vb_tb, vb_tb, vb_tb, Nat.testBit_or, Bool.or_eq_true]
theorem vb_pw (j k : Nat) : (vbit (2 ^ j) k = 1) = (j = k) := by
  rw [vb_tb, Nat.testBit_two_pow, decide_eq_true_eq]
theorem vb_big {s : Nat} (hs : s < 64) {k : Nat} (hk : 6 ≤ k) : ¬ vbit s k = 1 := by
  rw [vb_tb, Nat.testBit_lt_two_pow (Nat.lt_of_lt_of_le hs (show 2 ^ 6 ≤ 2 ^ k from Nat.pow_le_pow_right (by decide) hk))]
  simp
theorem vb_ext {s t : Nat} (hs : s < 64) (ht : t < 64) (h : ∀ j, j < 6 → (vbit s j = 1 ↔ vbit t j = 1)) : s = t := by
  apply Nat.eq_of_testBit_eq
  intro i
  rw [Bool.eq_iff_iff, ← vb_tb, ← vb_tb]
  by_cases c : i < 6
  · exact h i c
  · exact ⟨fun z => absurd z (vb_big hs (by omega)), fun z => absurd z (vb_big ht (by omega))⟩
theorem or64 {s t : Nat} (hs : s < 64) (ht : t < 64) : s ||| t < 64 := Nat.or_lt_two_pow (n := 6) hs ht
theorem pw64 {k : Nat} (hk : k < 6) : 2 ^ k < 64 := show 2 ^ k < 2 ^ 6 from Nat.pow_lt_pow_right (a := 2) (by decide) hk
theorem or_fin : ∀ s, s < 64 → ∀ t, t < 64 → nI s ||| nI t = nI (s ||| t) := by decide +kernel
theorem pw_fin : ∀ k, k < 6 → (1 : Int32) <<< (nI k &&& 31) = nI (2 ^ k) := by decide +kernel
abbrev vNear (v : VT) (j p : Nat) : Prop := vbit (v 7 0) j = 1 ∧ vab (vdS v j) (vdS v p) ≤ 2
def vclo (v : VT) (i : Nat) : Nat → Nat → Nat → Nat
  | 0, _, acc => acc
  | m + 1, k, acc => vclo v i m (k + 1) (if vNear v k i then acc ||| 2 ^ k else acc)
theorem vclo_lt (v : VT) (i : Nat) : ∀ m k acc, k + m ≤ 6 → acc < 64 → vclo v i m k acc < 64 := by
  intro m
  induction m with
  | zero => intro k acc _ h; exact h
  | succ m ih =>
    intro k acc hk h
    refine ih (k + 1) _ (by omega) ?_
    split
    · exact or64 h (pw64 (by omega))
    · exact h
theorem vclo_bit (v : VT) (i j : Nat) : ∀ m k acc, vbit (vclo v i m k acc) j = 1 ↔ vbit acc j = 1 ∨ (k ≤ j ∧ j < k + m ∧ vNear v j i) := by
  intro m
  induction m with
  | zero =>
    intro k acc
    exact ⟨Or.inl, fun h => h.elim id (fun z => by omega)⟩
  | succ m ih =>
    intro k acc
    show vbit (vclo v i m (k + 1) _) j = 1 ↔ _
    rw [ih]
    by_cases c : vNear v k i
    · rw [if_pos c, vb_or, vb_pw]
      constructor
      · rintro ((h | h) | h)
        · exact Or.inl h
        · subst h
          exact Or.inr ⟨by omega, by omega, c⟩
        · exact Or.inr ⟨by omega, by omega, h.2.2⟩
      · rintro (h | h)
        · exact Or.inl (Or.inl h)
        · by_cases e : k = j
          · exact Or.inl (Or.inr e)
          · exact Or.inr ⟨by omega, by omega, h.2.2⟩
    · rw [if_neg c]
      constructor
      · rintro (h | h)
        · exact Or.inl h
        · exact Or.inr ⟨by omega, by omega, h.2.2⟩
      · rintro (h | h)
        · exact Or.inl h
        · by_cases e : k = j
          · subst e; exact absurd h.2.2 c
          · exact Or.inr ⟨by omega, by omega, h.2.2⟩
def vC (v : VT) (p : Nat) : Nat := vclo v p (v 13 0) 0 0
theorem vC_lt (hv : vOK v) (p : Nat) : vC v p < 64 := vclo_lt v p _ _ _ (by have := hv.1; omega) (by decide)
theorem vb_0 (j : Nat) : ¬ vbit 0 j = 1 := by unfold vbit; simp
theorem vC_bit (v : VT) (p j : Nat) : vbit (vC v p) j = 1 ↔ j < v 13 0 ∧ vNear v j p := by
  unfold vC
  rw [vclo_bit]
  exact ⟨fun h => h.elim (fun z => absurd z (vb_0 j)) (fun z => ⟨by omega, z.2.2⟩), fun h => Or.inr ⟨by omega, by omega, h.2⟩⟩
theorem ec_close_l (hT : twC τ 100 v pr) (hv : vOK v) {p : Nat} (hp : p < v 13 0) : ∀ m k n acc, k + m = v 13 0 → m < n → acc < 64 → fc_to_closeTo_l4 τ n (nI p) (nI acc) (nI k) = some (nI (vclo v p m k acc)) := by
  have b6 := hv.1
  intro m
  induction m with
  | zero =>
    intro k n acc hk hn ha
    obtain ⟨q, rfl⟩ : ∃ q, n = q + 1 := ⟨n - 1, by omega⟩
    unfold fc_to_closeTo_l4
    rw [show τ.1 113 0 = _ from hT.1, if_pos (show nI (v 13 0) ≤ nI k by rw [pb_le (by omega) (by omega)]; omega)]
    rfl
  | succ m ih =>
    intro k n acc hk hn ha
    obtain ⟨q, rfl⟩ : ∃ q, n = q + 1 := ⟨n - 1, by omega⟩
    have hbt := vbit_lt (v 7 0) k
    have hd := vdS_le (v := v) (o := k) (by omega) hv
    have hd2 := vdS_le hp hv
    have v1 := vab_le (n := 99) (show vdS v k ≤ 99 by omega) (show vdS v p ≤ 99 by omega)
    rw [show vclo v p (m + 1) k acc = vclo v p m (k + 1) (if vNear v k p then acc ||| 2 ^ k else acc) from rfl]
    have IH1 := ih (k + 1) q acc (by omega) (by omega) ha
    have IH2 := ih (k + 1) q (acc ||| 2 ^ k) (by omega) (by omega) (or64 ha (pw64 (by omega)))
    unfold fc_to_closeTo_l4 fc_to_closeTo_b48
    rw [show τ.1 113 0 = _ from hT.1, if_neg (show ¬ nI (v 13 0) ≤ nI k by rw [pb_le (by omega) (by omega)]; omega), show τ.1 107 0 = _ from hT.2.2.2.2.2.1, ec_bit _ (vW64 hv).1 _ (by omega), ec_dueS hT (by omega) hv, ec_dueS hT hp hv, pw_fin _ (by omega), or_fin _ ha _ (pw64 (by omega))]
    simp only [qbs, qhl]
    rw [pb_habs _ (by omega) _ (by omega), show (1 : Int32) = nI 1 from rfl, pb_add]
    by_cases c : vbit (v 7 0) k = 1
    · rw [if_neg (show ¬ ¬ nI (vbit (v 7 0) k) = nI 1 from fun z => z (by rw [c]))]
      by_cases c2 : vab (vdS v k) (vdS v p) ≤ 2
      · rw [if_neg (show ¬ (2 : Int32) < nI (vab (vdS v k) (vdS v p)) by rw [show (2 : Int32) = nI 2 from rfl, pb_lt (by omega) (by omega)]; omega), if_pos (show vNear v k p from ⟨c, c2⟩)]
        exact IH2
      · rw [if_pos (show (2 : Int32) < nI (vab (vdS v k) (vdS v p)) by rw [show (2 : Int32) = nI 2 from rfl, pb_lt (by omega) (by omega)]; omega), if_neg (show ¬ vNear v k p from fun z => c2 z.2)]
        exact IH1
    · rw [if_pos (show ¬ nI (vbit (v 7 0) k) = nI 1 by rw [pb_eq (by omega) (by omega)]; exact c), if_neg (show ¬ vNear v k p from fun z => c z.1)]
      exact IH1
theorem ec_close (hT : twC τ 100 v pr) (hv : vOK v) {p : Nat} (hp : p < v 13 0) : fc_to_closeTo τ (nI p) = some (nI (vC v p)) := by
  have b6 := hv.1
  exact ec_close_l hT hv hp (v 13 0) 0 hFU 0 (by omega) (by unfold hFU; omega) (by decide)
def vSt (v : VT) (p s : Nat) : Nat := if vbit s p = 1 then s ||| vC v p else s
theorem vSt_lt (hv : vOK v) {s : Nat} (hs : s < 64) (p : Nat) : vSt v p s < 64 := by
  unfold vSt
  split
  · exact or64 hs (vC_lt hv p)
  · exact hs
def vRd (v : VT) : Nat → Nat → Nat → Nat
  | 0, _, s => s
  | m + 1, k, s => vRd v m (k + 1) (vSt v k s)
theorem vRd_lt (hv : vOK v) : ∀ m k s, s < 64 → vRd v m k s < 64 := by
  intro m
  induction m with
  | zero => intro k s h; exact h
  | succ m ih => intro k s h; exact ih _ _ (vSt_lt hv h k)
theorem ec_round (hT : twC τ 100 v pr) (hv : vOK v) (K11 : Int32 → Int32 → Option Int32) (K56 : Int32 → Int32 → Option Int32) (x3 : Int32) : ∀ m k n s, k + m = v 13 0 → m < n → s < 64 → fc_to_queueOf_l22 τ K11 K56 n (nI s) x3 (nI k) = K56 (nI (vRd v m k s)) x3 := by
  have b6 := hv.1
  intro m
  induction m with
  | zero =>
    intro k n s hk hn hs
    obtain ⟨q, rfl⟩ : ∃ q, n = q + 1 := ⟨n - 1, by omega⟩
    unfold fc_to_queueOf_l22
    rw [show τ.1 113 0 = _ from hT.1, if_pos (show nI (v 13 0) ≤ nI k by rw [pb_le (by omega) (by omega)]; omega)]
    rfl
  | succ m ih =>
    intro k n s hk hn hs
    obtain ⟨q, rfl⟩ : ∃ q, n = q + 1 := ⟨n - 1, by omega⟩
    have hbt := vbit_lt s k
    have IH := ih (k + 1) q (vSt v k s) (by omega) (by omega) (vSt_lt hv hs k)
    rw [show vRd v (m + 1) k s = vRd v m (k + 1) (vSt v k s) from rfl, ← IH]
    rw [show fc_to_queueOf_l22 τ K11 K56 (q + 1) (nI s) x3 (nI k) = (if (τ.1 113 0) ≤ nI k then (K56 (nI s) x3) else (Option.bind (fc_hh_bit (nI s) (nI k)) fun q2 => (if ¬ q2 = (1 : Int32) then (fc_to_queueOf_b50 τ K11 K56 (fc_to_queueOf_l22 τ K11 K56 q) (nI s) x3 (nI k)) else (Option.bind (fc_to_closeTo τ (nI k)) fun q3 => (hl (nI s ||| q3) fun v4 => (fc_to_queueOf_b50 τ K11 K56 (fc_to_queueOf_l22 τ K11 K56 q) v4 x3 (nI k))))))) from rfl]
    unfold fc_to_queueOf_b50
    rw [show τ.1 113 0 = _ from hT.1, if_neg (show ¬ nI (v 13 0) ≤ nI k by rw [pb_le (by omega) (by omega)]; omega), ec_bit _ hs _ (by omega), ec_close hT hv (by omega), qbs, qbs, qhl, or_fin _ hs _ (vC_lt hv k), show (1 : Int32) = nI 1 from rfl, pb_add]
    unfold vSt
    by_cases c : vbit s k = 1
    · rw [if_neg (show ¬ ¬ nI (vbit s k) = nI 1 from fun z => z (by rw [c])), if_pos c]
    · rw [if_pos (show ¬ nI (vbit s k) = nI 1 by rw [pb_eq (by omega) (by omega)]; exact c), if_neg c]
def vIt (v : VT) : Nat → Nat → Nat
  | 0, s => s
  | n + 1, s => vIt v n (vRd v (v 13 0) 0 s)
theorem vIt_lt (hv : vOK v) : ∀ n s, s < 64 → vIt v n s < 64 := by
  intro n
  induction n with
  | zero => intro s h; exact h
  | succ n ih => intro s h; exact ih _ (vRd_lt hv _ _ _ h)
theorem ec_queue_l (hT : twC τ 100 v pr) (hv : vOK v) : ∀ m k n s, k + m = v 13 0 → m < n → s < 64 → fc_to_queueOf_l11 τ n (nI s) (nI k) = some (nI (vIt v m s)) := by
  have b6 := hv.1
  have hF : v 13 0 < hFU := by unfold hFU; omega
  intro m
  induction m with
  | zero =>
    intro k n s hk hn hs
    obtain ⟨q, rfl⟩ : ∃ q, n = q + 1 := ⟨n - 1, by omega⟩
    unfold fc_to_queueOf_l11
    rw [show τ.1 113 0 = _ from hT.1, if_pos (show nI (v 13 0) ≤ nI k by rw [pb_le (by omega) (by omega)]; omega)]
    rfl
  | succ m ih =>
    intro k n s hk hn hs
    obtain ⟨q, rfl⟩ : ∃ q, n = q + 1 := ⟨n - 1, by omega⟩
    have IH := ih (k + 1) q (vRd v (v 13 0) 0 s) (by omega) (by omega) (vRd_lt hv _ _ _ hs)
    rw [show vIt v (m + 1) s = vIt v m (vRd v (v 13 0) 0 s) from rfl]
    unfold fc_to_queueOf_l11
    rw [show τ.1 113 0 = _ from hT.1, if_neg (show ¬ nI (v 13 0) ≤ nI k by rw [pb_le (by omega) (by omega)]; omega), show (0 : Int32) = nI 0 from rfl, ec_round hT hv _ _ _ (v 13 0) 0 hFU s (Nat.zero_add _) hF hs, show (1 : Int32) = nI 1 from rfl, pb_add]
    exact IH
theorem wb_fin : ∀ w, w < 64 → ∀ k, k < 6 → nI w &&& ((1 : Int32) <<< (nI k &&& 31)) = nI (vbit w k * 2 ^ k) ∧ nI (vbit w k) <<< (nI k &&& 31) = nI (vbit w k * 2 ^ k) ∧ vbit w k * 2 ^ k < 64 := by decide +kernel
theorem ec_queueOf (hT : twC τ 100 v pr) (hv : vOK v) (ho : o < v 13 0) : fc_to_queueOf τ (nI o) = some (nI (vIt v (v 13 0) (vbit (v 7 0) o * 2 ^ o))) := by
  have b6 := hv.1
  have hF : v 13 0 < hFU := by unfold hFU; omega
  obtain ⟨w1, w2, w3⟩ := wb_fin _ (vW64 hv).1 o (by omega)
  unfold fc_to_queueOf
  rw [show τ.1 107 0 = _ from hT.2.2.2.2.2.1, w1, qhl, show (0 : Int32) = nI 0 from rfl]
  exact ec_queue_l hT hv (v 13 0) 0 hFU _ (Nat.zero_add _) hF w3
end S18
