/-! PURE: step of errands -/
section S17
variable {τ : SC} {σ : SM} {v : VT} {pr : List RU} {o : Nat}
theorem bt_fin : ∀ w, w < 64 → ∀ k, k < 6 → (nI w >>> (nI k &&& 31)) &&& (1 : Int32) = nI (vbit w k) := by decide +kernel
theorem lmin {a b : Nat} (ha : a < 2147483648) (hb : b < 2147483648) : fm_least (nI a) (nI b) = some (nI (min a b)) := by
  unfold fm_least
  simp (disch := omega) only [pb_le]
  by_cases c : b ≤ a
  · rw [if_pos c, Nat.min_eq_right c]
  · rw [if_neg c, Nat.min_eq_left (by omega)]
theorem lmax {a b : Nat} (ha : a < 2147483648) (hb : b < 2147483648) : fm_greatest (nI a) (nI b) = some (nI (max a b)) := by
  rw [great_eq]
  simp (disch := omega) only [pb_le]
  by_cases c : b ≤ a
  · rw [if_pos c, Nat.max_eq_left c]
  · rw [if_neg c, Nat.max_eq_right (by omega)]
theorem cmin {a b : Nat} (ha : a < 2147483648) (hb : b < 2147483648) : hmin (nI a) (nI b) = nI (min a b) := by
  unfold hmin
  simp (disch := omega) only [pb_lt]
  by_cases c : b < a
  · rw [if_pos c, Nat.min_eq_right (by omega)]
  · rw [if_neg c, Nat.min_eq_left (by omega)]
theorem cmax {a b : Nat} (ha : a < 2147483648) (hb : b < 2147483648) : hmax (nI a) (nI b) = nI (max a b) := by
  unfold hmax
  simp (disch := omega) only [pb_lt]
  by_cases c : a < b
  · rw [if_pos c, Nat.max_eq_right (by omega)]
  · rw [if_neg c, Nat.max_eq_left (by omega)]
theorem wf1 : ∀ d, d < 100 → fm_least (99 : Int32) (nI d) = some (nI d) ∧ fm_greatest (-1 : Int32) (nI d) = some (nI d) ∧ hmin (2147483647 : Int32) (nI d) = nI d ∧ hmax (-1 : Int32) (nI d) = nI d := by decide +kernel
/-- the least and the greatest place of a set's first k -/
def LH (v : VT) (S k lo hi : Nat) : Prop := (∀ j, j < k → vbit S j = 1 → lo ≤ vdS v j ∧ vdS v j ≤ hi) ∧ (∃ j, j < k ∧ vbit S j = 1 ∧ vdS v j = lo) ∧ (∃ j, j < k ∧ vbit S j = 1 ∧ vdS v j = hi)
def LhS (I : Int32) (v : VT) (S k : Nat) (A B : Int32) : Prop := (A = I ∧ B = -1 ∧ ∀ j, j < k → ¬ vbit S j = 1) ∨ ∃ lo hi, A = nI lo ∧ B = nI hi ∧ LH v S k lo hi
theorem LH_le {S k lo hi : Nat} (hv : vOK v) (hk : k ≤ v 13 0) (h : LH v S k lo hi) : lo ≤ hi ∧ hi ≤ 69 := by
  obtain ⟨h1, ⟨j, hj, hb, e⟩, ⟨i, hi', hb', e'⟩⟩ := h
  have := (h1 j hj hb).2
  have := vdS_le (v := v) (o := i) (by omega) hv
  omega
theorem LhS_skip {I : Int32} {S k : Nat} {A B : Int32} (h : LhS I v S k A B) (hb : ¬ vbit S k = 1) : LhS I v S (k + 1) A B := by
  rcases h with ⟨h1, h2, h3⟩ | ⟨lo, hi, h1, h2, h3, ⟨j, hj, hbj, e⟩, ⟨i, hi', hbi, e'⟩⟩
  · refine Or.inl ⟨h1, h2, fun j hj => ?_⟩
    by_cases e : j = k
    · subst e; exact hb
    · exact h3 j (by omega)
  · refine Or.inr ⟨lo, hi, h1, h2, fun j hj hbj => ?_, ⟨j, by omega, hbj, e⟩, ⟨i, by omega, hbi, e'⟩⟩
    by_cases e : j = k
    · subst e; exact absurd hbj hb
    · exact h3 j (by omega) hbj
theorem LH_one {S k : Nat} (h : ∀ j, j < k → ¬ vbit S j = 1) (hb : vbit S k = 1) : LH v S (k + 1) (vdS v k) (vdS v k) := by
  refine ⟨fun j hj hbj => ?_, ⟨k, by omega, hb, rfl⟩, ⟨k, by omega, hb, rfl⟩⟩
  by_cases e : j = k
  · subst e; omega
  · exact absurd hbj (h j (by omega))
theorem LH_more {S k lo hi : Nat} (h : LH v S k lo hi) (hb : vbit S k = 1) : LH v S (k + 1) (min lo (vdS v k)) (max hi (vdS v k)) := by
  obtain ⟨h3, ⟨j, hj, hbj, e⟩, ⟨i, hi', hbi, e'⟩⟩ := h
  refine ⟨fun q hq hbq => ?_, ?_, ?_⟩
  · by_cases e : q = k
    · subst e; omega
    · have := h3 q (by omega) hbq
      omega
  · by_cases c : lo ≤ vdS v k
    · exact ⟨j, by omega, hbj, by omega⟩
    · exact ⟨k, by omega, hb, by omega⟩
  · by_cases c : vdS v k ≤ hi
    · exact ⟨i, by omega, hbi, by omega⟩
    · exact ⟨k, by omega, hb, by omega⟩
theorem em_way_l (hT : twM (σ 0) v pr) (hv : vOK v) {S : Nat} (hS : S < 64) (K : Int32 → Int32 → Int32 → Int32 → Option Int32) (x2 : Int32) : ∀ (m k n : Nat) (A B : Int32), k + m = v 13 0 → m < n → LhS 99 v S k A B → ∃ A' B', fm_wayTo_l9 σ K n (nI S) x2 A B (nI k) = K (nI S) x2 A' B' ∧ LhS 99 v S (v 13 0) A' B' := by
  have b6 := hv.1
  intro m
  induction m with
  | zero =>
    intro k n A B hk hn h
    obtain ⟨q, rfl⟩ : ∃ q, n = q + 1 := ⟨n - 1, by omega⟩
    unfold fm_wayTo_l9
    rw [hT.1, if_pos (show nI (v 13 0) ≤ nI k by rw [pb_le (by omega) (by omega)]; omega)]
    exact ⟨A, B, rfl, by rw [show v 13 0 = k by omega]; exact h⟩
  | succ m ih =>
    intro k n A B hk hn h
    obtain ⟨q, rfl⟩ : ∃ q, n = q + 1 := ⟨n - 1, by omega⟩
    have hbt := vbit_lt S k
    have hd := vdS_le (v := v) (o := k) (by omega) hv
    unfold fm_wayTo_l9
    rw [hT.1, if_neg (show ¬ nI (v 13 0) ≤ nI k by rw [pb_le (by omega) (by omega)]; omega), bt_fin S hS k (by omega), em_place hT (by omega) hv, qbs]
    unfold fm_wayTo_b44 fm_wayTo_b71
    rw [bt_fin S hS k (by omega), em_place hT (by omega) hv, qbs, show (1 : Int32) = nI 1 from rfl, pb_add]
    by_cases c : vbit S k = 1
    · simp only [if_neg (show ¬ ¬ nI (vbit S k) = nI 1 from fun z => z (by rw [c])), qbs]
      rcases h with ⟨h1, h2, h3⟩ | ⟨lo, hi, h1, h2, h3⟩
      · rw [h1, h2, (wf1 _ (by omega)).1, (wf1 _ (by omega)).2.1, qbs, qbs]
        exact ih (k + 1) q _ _ (by omega) (by omega) (Or.inr ⟨_, _, rfl, rfl, LH_one h3 c⟩)
      · have := LH_le hv (by omega) h3
        rw [h1, h2, lmin (by omega) (by omega), lmax (by omega) (by omega), qbs, qbs]
        exact ih (k + 1) q _ _ (by omega) (by omega) (Or.inr ⟨_, _, rfl, rfl, LH_more h3 c⟩)
    · simp only [if_pos (show ¬ nI (vbit S k) = nI 1 by rw [pb_eq (by omega) (by omega)]; exact c)]
      exact ih (k + 1) q A B (by omega) (by omega) (LhS_skip h c)
theorem ec_way_l (hT : twC τ 100 v pr) (hv : vOK v) {S : Nat} (hS : S < 64) (K : Int32 → Int32 → Int32 → Option Int32) (x1 : Int32) : ∀ (m k n : Nat) (A B : Int32), k + m = v 13 0 → m < n → LhS 2147483647 v S k A B → ∃ A' B', fc_to_wayFrom_l9 τ K n x1 (nI S) A B (nI k) = K x1 A' B' ∧ LhS 2147483647 v S (v 13 0) A' B' := by
  have b6 := hv.1
  intro m
  induction m with
  | zero =>
    intro k n A B hk hn h
    obtain ⟨q, rfl⟩ : ∃ q, n = q + 1 := ⟨n - 1, by omega⟩
    unfold fc_to_wayFrom_l9
    rw [show τ.1 113 0 = _ from hT.1, if_pos (show nI (v 13 0) ≤ nI k by rw [pb_le (by omega) (by omega)]; omega)]
    exact ⟨A, B, rfl, by rw [show v 13 0 = k by omega]; exact h⟩
  | succ m ih =>
    intro k n A B hk hn h
    obtain ⟨q, rfl⟩ : ∃ q, n = q + 1 := ⟨n - 1, by omega⟩
    have hbt := vbit_lt S k
    have hd := vdS_le (v := v) (o := k) (by omega) hv
    unfold fc_to_wayFrom_l9
    rw [show τ.1 113 0 = _ from hT.1, if_neg (show ¬ nI (v 13 0) ≤ nI k by rw [pb_le (by omega) (by omega)]; omega), ec_bit S hS k (by omega), ec_dueS hT (by omega) hv]
    simp only [qbs, qhl]
    unfold fc_to_wayFrom_b52
    rw [show (1 : Int32) = nI 1 from rfl, pb_add]
    by_cases c : vbit S k = 1
    · rw [if_neg (show ¬ ¬ nI (vbit S k) = nI 1 from fun z => z (by rw [c]))]
      rcases h with ⟨h1, h2, h3⟩ | ⟨lo, hi, h1, h2, h3⟩
      · rw [h1, h2, (wf1 _ (by omega)).2.2.1, (wf1 _ (by omega)).2.2.2]
        exact ih (k + 1) q _ _ (by omega) (by omega) (Or.inr ⟨_, _, rfl, rfl, LH_one h3 c⟩)
      · have := LH_le hv (by omega) h3
        rw [h1, h2, cmin (by omega) (by omega), cmax (by omega) (by omega)]
        exact ih (k + 1) q _ _ (by omega) (by omega) (Or.inr ⟨_, _, rfl, rfl, LH_more h3 c⟩)
    · rw [if_pos (show ¬ nI (vbit S k) = nI 1 by rw [pb_eq (by omega) (by omega)]; exact c)]
      exact ih (k + 1) q A B (by omega) (by omega) (LhS_skip h c)
theorem LH_uni {S k lo hi lo' hi' : Nat} (h : LH v S k lo hi) (h' : LH v S k lo' hi') : lo = lo' ∧ hi = hi' := by
  obtain ⟨a1, ⟨j, hj, hb, e⟩, ⟨i, hi2, hbi, ei⟩⟩ := h
  obtain ⟨b1, ⟨j', hj', hb', e'⟩, ⟨i', hi2', hbi', ei'⟩⟩ := h'
  have := a1 j' hj' hb'
  have := a1 i' hi2' hbi'
  have := b1 j hj hb
  have := b1 i hi2 hbi
  omega
theorem set0 : ∀ n, n < 7 → ∀ S, S < 2 ^ n → (∀ j, j < n → ¬ vbit S j = 1) → S = 0 := by decide +kernel
theorem no0 : ∀ S, S < 64 → ∀ j, j < 6 → vbit S j = 1 → ¬ S = 0 := by decide +kernel
/-- the way: 0, or by the least and the greatest place -/
def vWay (q lo hi : Nat) : Nat := hi - lo + min (vab q lo) (vab q hi)
theorem vab_le {a b n : Nat} (ha : a ≤ n) (hb : b ≤ n) : vab a b ≤ n := by unfold vab; split <;> omega
theorem em_wayTo (hT : twM (σ 0) v pr) (hv : vOK v) {S q : Nat} (hS : S < 2 ^ v 13 0) (hq : q ≤ 99) : (S = 0 ∧ fm_wayTo σ (nI S) (nI q) = some (nI 0)) ∨ ∃ lo hi, LH v S (v 13 0) lo hi ∧ fm_wayTo σ (nI S) (nI q) = some (nI (vWay q lo hi)) := by
  have b6 := hv.1
  have h64 : S < 64 := Nat.lt_of_lt_of_le hS (Nat.pow_le_pow_right (by decide) b6)
  unfold fm_wayTo
  obtain ⟨A, B, e, h⟩ := em_way_l hT hv h64 (fun x1 x2 x3 x4 => (if ¬ x1 = 0 then (Option.bind (fm_apart x2 x3) fun q5 => (Option.bind (fm_apart x2 x4) fun q6 => (Option.bind (fm_least q5 q6) fun q7 => (some ((x4 - x3) + q7))))) else (some (0 : Int32)))) (nI q) (v 13 0) 0 hFU 99 (-1) (by omega) (by unfold hFU; omega) (Or.inl ⟨rfl, rfl, fun j hj => by omega⟩)
  rw [show (0 : Int32) = nI 0 from rfl] at e ⊢
  rw [e]
  rcases h with ⟨h1, h2, h3⟩ | ⟨lo, hi, h1, h2, h3⟩
  · left
    have s0 := set0 _ (by omega) S hS h3
    refine ⟨s0, ?_⟩
    rw [s0]
    rfl
  · right
    refine ⟨lo, hi, h3, ?_⟩
    have hl := LH_le hv (Nat.le_refl _) h3
    obtain ⟨-, ⟨j, hj, hb, -⟩, -⟩ := h3
    have v1 := vab_le (n := 99) hq (show lo ≤ 99 by omega)
    have v2 := vab_le (n := 99) hq (show hi ≤ 99 by omega)
    rw [h1, h2, if_pos (show ¬ nI S = nI 0 by rw [pb_eq (by omega) (by omega)]; exact no0 S h64 j (by omega) hb), em_apart (by omega) (by omega), em_apart (by omega) (by omega), qbs, qbs, lmin (by omega) (by omega), qbs, pb_sub hl.1, pb_add]
    rfl
theorem ec_wayFrom (hT : twC τ 100 v pr) (hv : vOK v) {S q : Nat} (hS : S < 2 ^ v 13 0) (hq : q ≤ 99) : (S = 0 ∧ fc_to_wayFrom τ (nI q) (nI S) = some (nI 0)) ∨ ∃ lo hi, LH v S (v 13 0) lo hi ∧ fc_to_wayFrom τ (nI q) (nI S) = some (nI (vWay q lo hi)) := by
  have b6 := hv.1
  have h64 : S < 64 := Nat.lt_of_lt_of_le hS (Nat.pow_le_pow_right (by decide) b6)
  unfold fc_to_wayFrom
  obtain ⟨A, B, e, h⟩ := ec_way_l hT hv h64 (fun x1 x3 x4 => (if 0 ≤ x4 then (some ((x4 - x3) + (hmin (habs (x1 - x3)) (habs (x1 - x4))))) else (some (0 : Int32)))) (nI q) (v 13 0) 0 hFU 2147483647 (-1) (by omega) (by unfold hFU; omega) (Or.inl ⟨rfl, rfl, fun j hj => by omega⟩)
  rw [show nI 0 = (0 : Int32) from rfl] at e
  rw [e]
  rcases h with ⟨h1, h2, h3⟩ | ⟨lo, hi, h1, h2, h3⟩
  · left
    have s0 := set0 _ (by omega) S hS h3
    refine ⟨s0, ?_⟩
    rw [h2]
    rfl
  · right
    refine ⟨lo, hi, h3, ?_⟩
    have hl := LH_le hv (Nat.le_refl _) h3
    have v1 := vab_le (n := 99) hq (show lo ≤ 99 by omega)
    have v2 := vab_le (n := 99) hq (show hi ≤ 99 by omega)
    rw [h1, h2, if_pos (show 0 ≤ nI hi from nI_pos' (by omega)), pb_habs _ (by omega) _ (by omega), pb_habs _ (by omega) _ (by omega), cmin (by omega) (by omega), pb_sub hl.1, pb_add]
    rfl
theorem vab_comm (a b : Nat) : vab a b = vab b a := by unfold vab; split <;> split <;> omega
theorem way_eq (t1 : twM (σ 0) v pr) (t2 : twC τ 100 v pr) (hv : vOK v) {S q : Nat} (hS : S < 2 ^ v 13 0) (hq : q ≤ 99) : ∃ W, W ≤ 300 ∧ fm_wayTo σ (nI S) (nI q) = some (nI W) ∧ fc_to_wayFrom τ (nI q) (nI S) = some (nI W) := by
  have b6 := hv.1
  have h64 : S < 64 := Nat.lt_of_lt_of_le hS (Nat.pow_le_pow_right (by decide) b6)
  rcases em_wayTo t1 hv hS hq with ⟨h1, h2⟩ | ⟨lo, hi, h1, h2⟩
  · rcases ec_wayFrom t2 hv hS hq with ⟨h3, h4⟩ | ⟨lo', hi', h3, h4⟩
    · exact ⟨0, by decide, h2, h4⟩
    · obtain ⟨-, ⟨j, hj, hb, -⟩, -⟩ := h3
      exact absurd h1 (no0 S h64 j (by omega) hb)
  · rcases ec_wayFrom t2 hv hS hq with ⟨h3, h4⟩ | ⟨lo', hi', h3, h4⟩
    · obtain ⟨-, ⟨j, hj, hb, -⟩, -⟩ := h1
      exact absurd h3 (no0 S h64 j (by omega) hb)
    · obtain ⟨e1, e2⟩ := LH_uni h1 h3
      have hl := LH_le hv (Nat.le_refl _) h1
      have v1 := vab_le (n := 99) hq (show lo ≤ 99 by omega)
      refine ⟨vWay q lo hi, ?_, h2, by rw [e1, e2]; exact h4⟩
      unfold vWay
      omega
theorem del_fin : ∀ S, S < 64 → ∀ k, k < 6 → nI S &&& (((1 : Int32) <<< (nI k &&& 31)) ^^^ (-1 : Int32)) = nI (vclr S k) := by decide +kernel
theorem del_bit : ∀ S, S < 64 → ∀ k, k < 6 → ∀ j, j < 6 → vbit (vclr S k) j = if j = k then 0 else vbit S j := vclr_bit
theorem LH_del {S k lo hi : Nat} (hv : vOK v) (hS : S < 64) (hk : k < v 13 0) (hb : vbit S k = 1) (h : LH v (vclr S k) (v 13 0) lo hi) : LH v S (v 13 0) (min lo (vdS v k)) (max hi (vdS v k)) := by
  have b6 := hv.1
  obtain ⟨h3, ⟨j, hj, hbj, e⟩, ⟨i, hi', hbi, e'⟩⟩ := h
  have bj : vbit S j = 1 := by
    rw [vclr_bit S hS k (by omega) j (by omega)] at hbj
    by_cases c : j = k
    · rw [if_pos c] at hbj; omega
    · rw [if_neg c] at hbj; exact hbj
  have bi : vbit S i = 1 := by
    rw [vclr_bit S hS k (by omega) i (by omega)] at hbi
    by_cases c : i = k
    · rw [if_pos c] at hbi; omega
    · rw [if_neg c] at hbi; exact hbi
  refine ⟨fun q hq hbq => ?_, ?_, ?_⟩
  · by_cases c : q = k
    · subst c; omega
    · have := h3 q hq (by rw [vclr_bit S hS k (by omega) q (by omega), if_neg c]; exact hbq)
      omega
  · by_cases c : lo ≤ vdS v k
    · exact ⟨j, by omega, bj, by omega⟩
    · exact ⟨k, by omega, hb, by omega⟩
  · by_cases c : vdS v k ≤ hi
    · exact ⟨i, by omega, bi, by omega⟩
    · exact ⟨k, by omega, hb, by omega⟩
theorem vWay_del {d lo hi : Nat} (h : lo ≤ hi) : vWay d (min lo d) (max hi d) = vWay d lo hi := by
  unfold vWay vab
  split <;> split <;> split <;> split <;> omega
theorem way_del (t1 : twM (σ 0) v pr) (t2 : twC τ 100 v pr) (hv : vOK v) {S k : Nat} (hS : S < 2 ^ v 13 0) (hk : k < v 13 0) (hb : vbit S k = 1) : ∃ W, W ≤ 300 ∧ fm_wayTo σ (nI (vclr S k)) (nI (vdS v k)) = some (nI W) ∧ fc_to_wayFrom τ (nI (vdS v k)) (nI S) = some (nI W) := by
  have b6 := hv.1
  have h64 : S < 64 := Nat.lt_of_lt_of_le hS (Nat.pow_le_pow_right (by decide) b6)
  have hd := vdS_le hk hv
  have hS2 := vclr_lt _ (by omega) S hS k hk
  rcases ec_wayFrom t2 hv hS (show vdS v k ≤ 99 by omega) with ⟨h3, h4⟩ | ⟨lo', hi', h3, h4⟩
  · exact absurd h3 (no0 S h64 k (by omega) hb)
  · have hl' := LH_le hv (Nat.le_refl _) h3
    rcases em_wayTo t1 hv hS2 (show vdS v k ≤ 99 by omega) with ⟨h1, h2⟩ | ⟨lo, hi, h1, h2⟩
    · have L : LH v S (v 13 0) (vdS v k) (vdS v k) := by
        refine ⟨fun j hj hbj => ?_, ⟨k, hk, hb, rfl⟩, ⟨k, hk, hb, rfl⟩⟩
        by_cases c : j = k
        · subst c; omega
        · have z : vbit (vclr S k) j = 1 := by rw [vclr_bit S h64 k (by omega) j (by omega), if_neg c]; exact hbj
          exact absurd h1 (no0 _ (Nat.lt_of_lt_of_le hS2 (Nat.pow_le_pow_right (by decide) b6)) j (by omega) z)
      obtain ⟨e1, e2⟩ := LH_uni h3 L
      refine ⟨0, by decide, h2, ?_⟩
      rw [h4, e1, e2]
      unfold vWay vab
      simp
    · have hl := LH_le hv (Nat.le_refl _) h1
      obtain ⟨e1, e2⟩ := LH_uni h3 (LH_del hv h64 hk hb h1)
      refine ⟨vWay (vdS v k) lo hi, ?_, h2, ?_⟩
      · have v1 := vab_le (n := 99) (show vdS v k ≤ 99 by omega) (show lo ≤ 99 by omega)
        unfold vWay
        omega
      · rw [h4, e1, e2, vWay_del hl.1]
theorem er_l (t1 : twM (σ 0) v pr) (t2 : twC τ 100 v pr) (hv : vOK v) {S q W : Nat} (hS : S < 2 ^ v 13 0) (hq : q ≤ 99) (hW : W ≤ 300) : ∀ m k n1 n2, k + m = v 13 0 → m < n1 → m < n2 → st1 (fc_hh_firstErrand_l3 τ n1 (nI q) (nI S) (nI W) (nI k)) (fm_errands_l61 σ n2 (nI q) (nI S) (nI W) (nI k)) := by
  have b6 := hv.1
  have h64 : S < 64 := Nat.lt_of_lt_of_le hS (Nat.pow_le_pow_right (by decide) b6)
  intro m
  induction m with
  | zero =>
    intro k n1 n2 hk h1 h2
    obtain ⟨q1, rfl⟩ : ∃ q, n1 = q + 1 := ⟨n1 - 1, by omega⟩
    obtain ⟨q2, rfl⟩ : ∃ q, n2 = q + 1 := ⟨n2 - 1, by omega⟩
    unfold fc_hh_firstErrand_l3 fm_errands_l61
    rw [t1.1, show τ.1 113 0 = _ from t2.1, if_pos (show nI (v 13 0) ≤ nI k by rw [pb_le (by omega) (by omega)]; omega), if_pos (show nI (v 13 0) ≤ nI k by rw [pb_le (by omega) (by omega)]; omega)]
    exact ⟨_, rfl, rfl⟩
  | succ m ih =>
    intro k n1 n2 hk h1 h2
    obtain ⟨q1, rfl⟩ : ∃ q, n1 = q + 1 := ⟨n1 - 1, by omega⟩
    obtain ⟨q2, rfl⟩ : ∃ q, n2 = q + 1 := ⟨n2 - 1, by omega⟩
    have IH := ih (k + 1) q1 q2 (by omega) (by omega) (by omega)
    have hbt := vbit_lt S k
    have hd := vdS_le (v := v) (o := k) (by omega) hv
    unfold fc_hh_firstErrand_l3 fm_errands_l61 fc_hh_firstErrand_b61 fm_errands_b119
    rw [t1.1, show τ.1 113 0 = _ from t2.1, if_neg (show ¬ nI (v 13 0) ≤ nI k by rw [pb_le (by omega) (by omega)]; omega), if_neg (show ¬ nI (v 13 0) ≤ nI k by rw [pb_le (by omega) (by omega)]; omega), bt_fin S h64 k (by omega), ec_bit S h64 k (by omega), qbs, em_place t1 (by omega) hv, ec_dueS t2 (by omega) hv, del_fin S h64 k (by omega)]
    simp only [qbs]
    by_cases c : vbit S k = 1
    · simp only [if_neg (show ¬ ¬ nI (vbit S k) = (1 : Int32) from fun z => z (by rw [c]; rfl))]
      obtain ⟨X, hX, e1, e2⟩ := way_del t1 t2 hv hS (show k < v 13 0 by omega) c
      have v1 := vab_le (n := 99) hq (show vdS v k ≤ 99 by omega)
      rw [e1, e2, em_apart (by omega) (by omega), pb_habs _ (by omega) _ (by omega), qbs, qbs, qbs, vab_comm (vdS v k) q, pb_add]
      rw [show (1 : Int32) = nI 1 from rfl, pb_add]
      by_cases c2 : nI (vab q (vdS v k) + X) = nI W
      · simp only [if_neg (show ¬ ¬ nI (vab q (vdS v k) + X) = nI W from fun z => z c2)]
        exact ⟨_, rfl, rfl⟩
      · simp only [if_pos (show ¬ nI (vab q (vdS v k) + X) = nI W from c2)]
        exact IH
    · simp only [if_pos (show ¬ nI (vbit S k) = (1 : Int32) by rw [show (1 : Int32) = nI 1 from rfl, pb_eq (by omega) (by omega)]; exact c)]
      rw [show (1 : Int32) = nI 1 from rfl, pb_add]
      exact IH
theorem gone_fin : ∀ n, n < 7 → ∀ w, w < 2 ^ n → nI (2 ^ n - 1) &&& (nI w ^^^ (-1 : Int32)) = nI (2 ^ n - 1 - w) := by decide +kernel
theorem st_errands (h : Inv τ σ) (x1 x2 : Int32) : st1 (fc_hh_errands τ x1 x2) (fm_errands σ x1 x2) := by
  obtain ⟨⟨v, pr, t1, t2, t3, -⟩, -⟩ := id h
  have b6 := t3.1
  have bw := t3.2.2.2.2.2.2.1
  unfold fc_hh_errands fm_errands fc_hh_firstErrand
  rw [rg_within, rg_within, ri_0_99, ri_0_1]
  by_cases c1 : (0 : Int32) ≤ x1 ∧ x1 ≤ 99
  · obtain ⟨q, -, hq, rfl⟩ := rk_0_99 c1
    by_cases c2 : (0 : Int32) ≤ x2 ∧ x2 ≤ 1
    · simp only [if_pos c1, if_pos c2, qbs, one0, if_false, not_false_eq_true, if_true]
      rw [em_those4 t1 t3, ec_every t2 t3, qbs, qbs, t1.1, every_fin _ (by omega), show τ.1 107 0 = _ from t2.2.2.2.2.2.1, gone_fin _ (by omega) _ bw, qhl, qhl]
      have hS : 2 ^ v 13 0 - 1 - v 7 0 < 2 ^ v 13 0 := by omega
      obtain ⟨W, hW, e1, e2⟩ := way_eq t1 t2 t3 hS hq
      rw [e1, e2, qbs, qbs]
      by_cases c3 : x2 = 0
      · simp only [if_neg (show ¬ ¬ x2 = 0 from fun z => z c3)]
        exact ⟨_, rfl, rfl⟩
      · simp only [if_pos (show ¬ x2 = 0 from c3)]
        have hF : v 13 0 < hFU := by unfold hFU; omega
        obtain ⟨r, r1, r2⟩ := er_l t1 t2 t3 hS hq hW (v 13 0) 0 hFU hFU (Nat.zero_add _) hF hF
        rw [show (0 : Int32) = nI 0 from rfl, r1, r2]
        exact ⟨_, rfl, rfl⟩
    · simp only [if_pos c1, if_neg c2, qbs, one0, zer0, if_false, not_true_eq_false, if_true]
      exact ⟨_, rfl, rfl⟩
  · simp only [if_neg c1, qbs, zer0, if_true]
    exact ⟨_, rfl, rfl⟩
end S17
