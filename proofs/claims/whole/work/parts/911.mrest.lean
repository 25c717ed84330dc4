/-! PURE: the act of the rest -/
def vRestA (v : VT) : Nat → Nat → Nat
  | 0, _ => 0
  | m + 1, k => if vbit (v 7 0) k = 1 ∧ vTime v k = true then k + 1 else vRestA v m (k + 1)
def vRest (v : VT) : Nat := vRestA v (v 13 0) 0
theorem vRestA_le (v : VT) : ∀ m k, vRestA v m k ≤ k + m := by
  intro m
  induction m with
  | zero => intro k; exact Nat.zero_le _
  | succ m ih =>
    intro k
    unfold vRestA
    split
    · omega
    · have := ih (k + 1)
      omega
theorem vRest_le (v : VT) : vRest v ≤ v 13 0 := by
  have := vRestA_le v (v 13 0) 0
  unfold vRest
  omega
theorem em_restAct_l {σ : SM} {v : VT} {pr : List RU} (hT : twM (σ 0) v pr) (hv : vOK v) : ∀ m k n, k + m = v 13 0 → m < n → fm_restAct_l2 σ n (nI k) = some (nI (vRestA v m k)) := by
  have h0 := hv.1
  intro m
  induction m with
  | zero =>
    intro k n hk hn
    obtain ⟨q, rfl⟩ : ∃ q, n = q + 1 := ⟨n - 1, by omega⟩
    unfold fm_restAct_l2
    rw [hT.1, if_pos (show nI (v 13 0) ≤ nI k by rw [pb_le (by omega) (by omega)]; omega)]
    rfl
  | succ m ih =>
    intro k n hk hn
    obtain ⟨q, rfl⟩ : ∃ q, n = q + 1 := ⟨n - 1, by omega⟩
    have hko : k < v 13 0 := by omega
    have IH := ih (k + 1) q (by omega) (by omega)
    have hb : fm_restAct_b34 σ (fm_restAct_l2 σ q) (nI k) = some (nI (vRestA v m (k + 1))) := by
      unfold fm_restAct_b34
      rw [show (1 : Int32) = nI 1 from rfl, pb_add]
      exact IH
    have hbt := vbit_lt (v 7 0) k
    unfold fm_restAct_l2
    rw [hT.1, if_neg (show ¬ nI (v 13 0) ≤ nI k by rw [pb_le (by omega) (by omega)]; omega), em_its4 hT hko hv, pb_bs, em_isInTime hT hko hv, pb_bs, hb, show vRestA v (m + 1) k = if vbit (v 7 0) k = 1 ∧ vTime v k = true then k + 1 else vRestA v m (k + 1) from rfl]
    by_cases e1 : vbit (v 7 0) k = 1
    · rw [if_neg (show ¬ ¬ nI (vbit (v 7 0) k) = (1 : Int32) by rw [e1]; exact fun z => z rfl)]
      by_cases e2 : vTime v k = true
      · rw [if_pos e2, if_neg (by decide), if_pos ⟨e1, e2⟩, show (1 : Int32) = nI 1 from rfl, pb_add]
      · rw [if_neg e2, if_pos (by decide), if_neg (fun z => e2 z.2)]
    · rw [if_pos (show ¬ nI (vbit (v 7 0) k) = (1 : Int32) by rw [show (1 : Int32) = nI 1 from rfl, pb_eq (by omega) (by decide)]; exact e1), if_neg (fun z => e1 z.1)]
theorem em_restAct {σ : SM} {v : VT} {pr : List RU} (hT : twM (σ 0) v pr) (hv : vOK v) : fm_restAct σ = some (nI (vRest v)) := by
  have h0 := hv.1
  exact em_restAct_l hT hv (v 13 0) 0 hFU (by omega) (by unfold hFU; omega)
