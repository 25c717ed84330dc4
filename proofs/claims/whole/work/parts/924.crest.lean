/-! PURE: the class's rest, moment, recall -/
section CRS
variable {τ : SC} {v : VT} {pr : List RU}
def vGo (v : VT) (pr : List RU) (a : Nat) : Nat × VT := if a = 0 then (0, vOn v) else ((vCalls v pr (a - 1)).1, vOn (vCalls v pr (a - 1)).2)
set_option maxHeartbeats 4000000 in
theorem ec_rest_l (hT : twC τ 100 v pr) (hv : vOK v) (hp : pOK pr) (hpc : vclen pr ≤ 200) : ∀ m k n, k + m = v 13 0 → m < n → ∃ υ, fc_to_passAsInTheRest_l20 n (nI 0) (nI k) τ = some (nI (vGo v pr (vRestA v m k)).1, υ) ∧ twC υ 100 (vGo v pr (vRestA v m k)).2 pr ∧ eqC τ υ := by
  have h0 := hv.1
  have hw : v 7 0 < 64 := Nat.lt_of_lt_of_le hv.2.2.2.2.2.2.1 (Nat.pow_le_pow_right (by decide) h0)
  have e113 : τ.1 113 0 = nI (v 13 0) := hT.1
  have e107 : τ.1 107 0 = nI (v 7 0) := hT.2.2.2.2.2.1
  intro m
  induction m with
  | zero =>
    intro k n hk hn
    obtain ⟨q, rfl⟩ : ∃ q, n = q + 1 := ⟨n - 1, by omega⟩
    obtain ⟨u, u1, u2, u3⟩ := ec_goOn hT hv
    unfold fc_to_passAsInTheRest_l20
    rw [e113, if_pos (show nI (v 13 0) ≤ nI k by rw [pb_le (by omega) (by omega)]; omega), u1, pb_bs]
    exact ⟨u, rfl, u2, u3⟩
  | succ m ih =>
    intro k n hk hn
    obtain ⟨q, rfl⟩ : ∃ q, n = q + 1 := ⟨n - 1, by omega⟩
    have hko : k < v 13 0 := by omega
    have IH := ih (k + 1) q (by omega) (by omega)
    have hb : fc_to_passAsInTheRest_b57 (fc_to_passAsInTheRest_l20 q) (nI 0) (nI k) τ = fc_to_passAsInTheRest_l20 q (nI 0) (nI (k + 1)) τ := by
      unfold fc_to_passAsInTheRest_b57
      rw [show (1 : Int32) = nI 1 from rfl, pb_add]
    have hbt := vbit_lt (v 7 0) k
    unfold fc_to_passAsInTheRest_l20
    rw [e113, if_neg (show ¬ nI (v 13 0) ≤ nI k by rw [pb_le (by omega) (by omega)]; omega), e107, ec_bit _ hw k (by omega), pb_bs, ec_isInTime hT hko hv, pb_bs, hb, show vRestA v (m + 1) k = if vbit (v 7 0) k = 1 ∧ vTime v k = true then k + 1 else vRestA v m (k + 1) from rfl]
    by_cases e1 : vbit (v 7 0) k = 1
    · rw [if_neg (show ¬ ¬ nI (vbit (v 7 0) k) = (1 : Int32) by rw [e1]; exact fun z => z rfl)]
      by_cases e2 : vTime v k = true
      · rw [if_pos e2, if_neg (by decide), if_pos ⟨e1, e2⟩]
        obtain ⟨x, x1, x2, x3⟩ := ec_calls hT hko hv hp hpc e1
        obtain ⟨w1, w2⟩ := vCalls_ok (pr := pr) (o := k) hv hko
        obtain ⟨j, j1, j2, j3⟩ := ec_goOn x2 w1
        rw [x1]
        simp only [pb_bs, pb_hl]
        rw [j1, pb_bs]
        exact ⟨j, rfl, j2, x3.tr j3⟩
      · rw [if_neg e2, if_pos (by decide), if_neg (fun z => e2 z.2)]
        exact IH
    · rw [if_pos (show ¬ nI (vbit (v 7 0) k) = (1 : Int32) by rw [show (1 : Int32) = nI 1 from rfl, pb_eq (by omega) (by decide)]; exact e1), if_neg (fun z => e1 z.1)]
      exact IH
theorem vRestA_bit (v : VT) : ∀ m k, vRestA v m k = 0 ∨ (1 ≤ vRestA v m k ∧ vbit (v 7 0) (vRestA v m k - 1) = 1) := by
  intro m
  induction m with
  | zero => intro k; exact Or.inl rfl
  | succ m ih =>
    intro k
    rw [show vRestA v (m + 1) k = if vbit (v 7 0) k = 1 ∧ vTime v k = true then k + 1 else vRestA v m (k + 1) from rfl]
    split
    · rename_i h
      exact Or.inr ⟨by omega, h.1⟩
    · exact ih (k + 1)
theorem vRestA_mood (v : VT) (x : Nat) : ∀ m k, vRestA (vs v 5 x) m k = vRestA v m k := by
  intro m
  induction m with
  | zero => intro k; rfl
  | succ m ih =>
    intro k
    show (if vbit (v 7 0) k = 1 ∧ vTime v k = true then k + 1 else vRestA (vs v 5 x) m (k + 1)) = _
    rw [ih (k + 1)]
    rfl
theorem vGo_pass (v : VT) (pr : List RU) : vGo (vs v 5 (vNews (v 10 (v 2 0)) (v 5 0))) pr (vRest v) = vPass v pr (vRest v) := by
  unfold vGo vPass
  rcases vRestA_bit v (v 13 0) 0 with h | ⟨h1, h2⟩
  · have h : vRest v = 0 := h
    rw [if_pos h, if_neg (fun z => by have := z.1; omega)]
  · have h1 : 1 ≤ vRest v := h1
    have h2 : vbit (v 7 0) (vRest v - 1) = 1 := h2
    rw [if_neg (by omega), if_pos ⟨h1, h2⟩]
theorem ec_rest (hT : twC τ 100 v pr) (hv : vOK v) (hp : pOK pr) (hpc : vclen pr ≤ 200) (hh : v 2 0 < v 3 0) : ∃ υ, fc_to_passAsInTheRest τ = some (nI (vPass v pr (vRest v)).1, υ) ∧ twC υ 100 (vPass v pr (vRest v)).2 pr ∧ eqC τ υ := by
  have h0 := hv.1
  have h1 := hv.2.2.2.1
  have h5 := hv.2.2.2.2.1
  have e105 : τ.1 105 0 = nI (v 5 0) := hT.2.2.2.1
  have e102 : τ.1 102 0 = nI (v 2 0) := hT.2.1
  unfold fc_to_passAsInTheRest
  rw [e102, e105, ec_news hT hv (by omega) h5, pb_bs, pb_hl]
  have hv3 := vOK_mood hv (vNews_le hv hh)
  have hT3 := tc_mood hT (vNews (v 10 (v 2 0)) (v 5 0))
  have q3 : eqC τ (sc τ 105 (fun _ => nI (vNews (v 10 (v 2 0)) (v 5 0)))) := eqC_sc (by omega)
  obtain ⟨u, u1, u2, u3⟩ := ec_rest_l hT3 hv3 hp hpc (v 13 0) 0 hFU (show 0 + v 13 0 = v 13 0 by omega) (by unfold hFU; omega)
  rw [show vRestA (vs v 5 (vNews (v 10 (v 2 0)) (v 5 0))) (v 13 0) 0 = vRest v from vRestA_mood v _ _ _, vGo_pass] at u1 u2
  exact ⟨u, u1, u2, q3.tr u3⟩
/-! moment and recall -/
def vMom (v : VT) : Nat := v 2 0 * 8388608 + v 5 0 * 524288 + v 6 0 * 4096 + v 7 0 * 64 + v 8 0
theorem ec_moment (hT : twC τ 100 v pr) (hv : vOK v) : fc_to_moment τ = some (nI (vMom v)) := by
  have h0 := hv.1
  have h2 := hv.2.1
  have h3 := hv.2.2.2.1
  have h5 := hv.2.2.2.2.1
  have h6 := hv.2.2.2.2.2.1
  have hw : v 7 0 < 64 := Nat.lt_of_lt_of_le hv.2.2.2.2.2.2.1 (Nat.pow_le_pow_right (by decide) h0)
  have hdn : v 8 0 < 64 := Nat.lt_of_lt_of_le hv.2.2.2.2.2.2.2.1 (Nat.pow_le_pow_right (by decide) h0)
  have e102 : τ.1 102 0 = nI (v 2 0) := hT.2.1
  have e105 : τ.1 105 0 = nI (v 5 0) := hT.2.2.2.1
  have e106 : τ.1 106 0 = nI (v 6 0) := hT.2.2.2.2.1
  have e107 : τ.1 107 0 = nI (v 7 0) := hT.2.2.2.2.2.1
  have e108 : τ.1 108 0 = nI (v 8 0) := hT.2.2.2.2.2.2.1
  unfold fc_to_moment
  rw [e102, e105, e106, e107, e108, pk_shlN ((23 : Int32) &&& 31) 23 (by decide) (by omega), pk_shlN ((19 : Int32) &&& 31) 19 (by decide) (by omega), pk_shlN ((12 : Int32) &&& 31) 12 (by decide) (by omega), pk_shlN ((6 : Int32) &&& 31) 6 (by decide) (by omega)]
  rw [show v 2 0 * 2 ^ 23 = 2 ^ 23 * v 2 0 from Nat.mul_comm _ _, fa_or_sum (k := 23) (v 2 0) (show v 5 0 * 2 ^ 19 < 2 ^ 23 by omega)]
  rw [show 2 ^ 23 * v 2 0 + v 5 0 * 2 ^ 19 = 2 ^ 19 * (16 * v 2 0 + v 5 0) by omega, fa_or_sum (k := 19) _ (show v 6 0 * 2 ^ 12 < 2 ^ 19 by omega)]
  rw [show 2 ^ 19 * (16 * v 2 0 + v 5 0) + v 6 0 * 2 ^ 12 = 2 ^ 12 * (128 * (16 * v 2 0 + v 5 0) + v 6 0) by omega, fa_or_sum (k := 12) _ (show v 7 0 * 2 ^ 6 < 2 ^ 12 by omega)]
  rw [show 2 ^ 12 * (128 * (16 * v 2 0 + v 5 0) + v 6 0) + v 7 0 * 2 ^ 6 = 2 ^ 6 * (64 * (128 * (16 * v 2 0 + v 5 0) + v 6 0) + v 7 0) by omega, fa_or_sum (k := 6) _ (show v 8 0 < 2 ^ 6 by omega)]
  congr 2
  unfold vMom
  omega
def vBack (v u : VT) : VT := vs (vs (vs (vs (vs v 2 (u 2 0)) 5 (u 5 0)) 6 (u 6 0)) 7 (u 7 0)) 8 (u 8 0)
theorem ec_recall {u : VT} (hT : twC τ 100 v pr) (hu : vOK u) : ∃ υ, fc_to_recall (nI (vMom u)) τ = some υ ∧ twC υ 100 (vBack v u) pr ∧ eqC τ υ := by
  have h0 := hu.1
  have h2 := hu.2.1
  have h3 := hu.2.2.2.1
  have h5 := hu.2.2.2.2.1
  have h6 := hu.2.2.2.2.2.1
  have hw : u 7 0 < 64 := Nat.lt_of_lt_of_le hu.2.2.2.2.2.2.1 (Nat.pow_le_pow_right (by decide) h0)
  have hdn : u 8 0 < 64 := Nat.lt_of_lt_of_le hu.2.2.2.2.2.2.2.1 (Nat.pow_le_pow_right (by decide) h0)
  have hM : vMom u < 4294967296 := by unfold vMom; omega
  have m23 : hushr (nI (vMom u)) 23 = nI (u 2 0) := by
    unfold hushr
    rw [pk_ushrN (by omega) 23 23 (by decide)]
    congr 1
    unfold vMom
    omega
  have m19 : hushr (nI (vMom u)) 19 &&& (15 : Int32) = nI (u 5 0) := by
    unfold hushr
    rw [pk_ushrN (by omega) 19 19 (by decide), show (15 : Int32) = nI (2 ^ 4 - 1) from rfl, fa_mask]
    congr 1
    unfold vMom
    omega
  have m12 : hushr (nI (vMom u)) 12 &&& (127 : Int32) = nI (u 6 0) := by
    unfold hushr
    rw [pk_ushrN (by omega) 12 12 (by decide), show (127 : Int32) = nI (2 ^ 7 - 1) from rfl, fa_mask]
    congr 1
    unfold vMom
    omega
  have m6 : hushr (nI (vMom u)) 6 &&& (63 : Int32) = nI (u 7 0) := by
    unfold hushr
    rw [pk_ushrN (by omega) 6 6 (by decide), show (63 : Int32) = nI (2 ^ 6 - 1) from rfl, fa_mask]
    congr 1
    unfold vMom
    omega
  have m0 : nI (vMom u) &&& (63 : Int32) = nI (u 8 0) := by
    rw [show (63 : Int32) = nI (2 ^ 6 - 1) from rfl, fa_mask]
    congr 1
    unfold vMom
    omega
  unfold fc_to_recall
  simp only [pb_hl]
  rw [m23, m19, m12, m6, m0]
  exact ⟨_, rfl, tc_done (tc_waits (tc_hands (tc_mood (tc_hour hT _) _) _) _) _, ((((eqC_sc (by omega)).tr (eqC_sc (by omega))).tr (eqC_sc (by omega))).tr (eqC_sc (by omega))).tr (eqC_sc (by omega))⟩
/-- only the moving numbers differ -/
def vSame (u v : VT) : Prop := ∀ k, k ≠ 2 → k ≠ 5 → k ≠ 6 → k ≠ 7 → k ≠ 8 → v k = u k
theorem vSame.rf {u : VT} : vSame u u := fun _ _ _ _ _ _ => rfl
theorem vSame.tr {a b c : VT} (h1 : vSame a b) (h2 : vSame b c) : vSame a c := fun k a1 a2 a3 a4 a5 => (h2 k a1 a2 a3 a4 a5).trans (h1 k a1 a2 a3 a4 a5)
theorem vSame_vs {u : VT} {k x : Nat} (h : k = 2 ∨ k = 5 ∨ k = 6 ∨ k = 7 ∨ k = 8) : vSame u (vs u k x) := fun j a1 a2 a3 a4 a5 => vs_ne u x (by omega)
theorem vCalls_sm (v : VT) (pr : List RU) (k : Nat) : vSame v (vCalls v pr k).2 := by
  unfold vCalls
  split
  · exact vSame.rf
  · split
    · exact vSame_vs (by omega)
    · split
      · exact ((vSame_vs (by omega)).tr (vSame_vs (by omega))).tr (vSame_vs (by omega))
      · exact (vSame_vs (by omega)).tr (vSame_vs (by omega))
theorem vPass_sm (v : VT) (pr : List RU) (a : Nat) : vSame v (vPass v pr a).2 := by
  unfold vPass
  split
  · exact ((vSame_vs (k := 5) (by omega)).tr (vCalls_sm _ _ _)).tr ((vSame_vs (k := 6) (by omega)).tr (vSame_vs (k := 2) (by omega)))
  · exact (vSame_vs (k := 5) (by omega)).tr ((vSame_vs (k := 6) (by omega)).tr (vSame_vs (k := 2) (by omega)))
theorem tc_back {u : VT} (hs : vSame u v) (h : twC τ 100 (vBack v u) pr) : twC τ 100 u pr := by
  have e : ∀ k, k ≠ 2 → k ≠ 5 → k ≠ 6 → k ≠ 7 → k ≠ 8 → v k = u k := hs
  have e13 := e 13 (by decide) (by decide) (by decide) (by decide) (by decide)
  have e3 := e 3 (by decide) (by decide) (by decide) (by decide) (by decide)
  have e10 := e 10 (by decide) (by decide) (by decide) (by decide) (by decide)
  have e11 := e 11 (by decide) (by decide) (by decide) (by decide) (by decide)
  have e12 := e 12 (by decide) (by decide) (by decide) (by decide) (by decide)
  have e14 := e 14 (by decide) (by decide) (by decide) (by decide) (by decide)
  have e15 := e 15 (by decide) (by decide) (by decide) (by decide) (by decide)
  have e16 := e 16 (by decide) (by decide) (by decide) (by decide) (by decide)
  have e17 := e 17 (by decide) (by decide) (by decide) (by decide) (by decide)
  have e18 := e 18 (by decide) (by decide) (by decide) (by decide) (by decide)
  have e19 := e 19 (by decide) (by decide) (by decide) (by decide) (by decide)
  obtain ⟨h1, h2, h3, h4, h5, h6, h7, h8, h9, h10, h11, h12, h13, h14⟩ := h
  refine ⟨h1.trans (by rw [← e13]; rfl), h2, h3.trans (by rw [← e3]; rfl), h4, h5, h6, h7, fun o ho => ?_, fun j hj => ?_, fun j hj => ?_, h11.trans (by rw [← e18]; rfl), fun r hr i hi => ?_, h13, h14⟩
  · have ho2 : o < vBack v u 13 0 := by show o < v 13 0; rw [e13]; exact ho
    obtain ⟨a1, a2, a3, a4⟩ := h8 o ho2
    exact ⟨a1.trans (by rw [← e14]; rfl), a2.trans (by rw [← e15]; rfl), a3.trans (by rw [← e16]; rfl), a4.trans (by rw [← e17]; rfl)⟩
  · exact ⟨(h9 j hj).1.trans (by rw [← e11]; rfl), (h9 j hj).2.trans (by rw [← e12]; rfl)⟩
  · exact (h10 j hj).trans (by rw [← e10]; rfl)
  · have hr2 : r < vBack v u 18 0 := by show r < v 18 0; rw [e18]; exact hr
    exact (h12 r hr2 i hi).trans (by rw [← e19]; rfl)
end CRS
