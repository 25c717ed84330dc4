/-! PURE: an hour of the class -/
theorem sc_sc (τ : SC) (k : Nat) (f g : Nat → Int32) : sc (sc τ k f) k g = sc τ k g := by
  unfold sc
  rw [pb_sfsf]
theorem sc_at (τ : SC) (k : Nat) (f : Nat → Int32) : (sc τ k f).1 k = f := if_pos rfl
section CPS
variable {τ : SC} {v : VT} {pr : List RU} {o : Nat}
theorem ec_will (hT : twC τ 100 v pr) (ho : o < v 13 0) (hv : vOK v) (hp : pOK pr) (hpc : vclen pr ≤ 200) : ∃ g, fc_to_will (nI o) τ = some (nI (vWill v pr o), sc τ 126 g) := by
  have h0 := hv.1
  have h1 := hv.2.2.2.2.2.2.2.2.1 o ho
  have e102 : τ.1 102 0 = nI (v 2 0) := hT.2.1
  have e105 : τ.1 105 0 = nI (v 5 0) := hT.2.2.2.1
  have e116 : τ.1 116 o = nI (v 16 o) := (hT.2.2.2.2.2.2.2.1 o ho).2.2.1
  have e114 : τ.1 114 o = nI (v 14 o) := (hT.2.2.2.2.2.2.2.1 o ho).1
  unfold fc_to_will
  rw [pb_in (by omega) (by omega), pb_oc, ec_late hT ho hv, pb_bs, pb_cl (by omega), e102, e105, e116]
  unfold fc_ru_learn_R0
  simp only [pb_hl, pb_bs, pb_oc, sc_sc, sc_at]
  rw [show (sc τ 126 (upd (upd (upd (upd (upd (τ.1 126) 0 (nI (v 2 0))) 1 (nI (v 16 o))) 2 (nI (vLate v o))) 3 (nI (v 5 0))) 4 (nI o))).1 114 o = nI (v 14 o) from e114]
  have hF : ∀ i, i < 5 → (sc τ 126 (upd (upd (upd (upd (upd (τ.1 126) 0 (nI (v 2 0))) 1 (nI (v 16 o))) 2 (nI (vLate v o))) 3 (nI (v 5 0))) 4 (nI o))).1 126 i = nI (vfact v o i) := by
    intro i hi
    rw [sc_at]
    rcases (show i = 0 ∨ i = 1 ∨ i = 2 ∨ i = 3 ∨ i = 4 by omega) with rfl | rfl | rfl | rfl | rfl <;> rfl
  have ht := ec_tell_l hF (vfact_le ho hv) (kd := v 14 o) (by omega) pr 0 0 hFU hT.2.2.2.2.2.2.2.2.2.2.2.2.2 (by rw [Nat.zero_add]; exact hT.2.2.2.2.2.2.2.2.2.2.2.2.1) (by have := hp.1; omega) (by omega) hp.2.2 (by have := hp.1; unfold hFU; omega)
  unfold fc_ru_tell_R0
  rw [show (0 : Int32) = nI 0 from rfl, ht]
  exact ⟨_, rfl⟩
set_option maxHeartbeats 4000000 in
theorem ec_calls (hT : twC τ 100 v pr) (ho : o < v 13 0) (hv : vOK v) (hp : pOK pr) (hpc : vclen pr ≤ 200) (hb : vbit (v 7 0) o = 1) : ∃ υ, fc_to_calls (nI o) τ = some (nI (vCalls v pr o).1, υ) ∧ twC υ 100 (vCalls v pr o).2 pr ∧ eqC τ υ := by
  have h0 := hv.1
  have h1 := hv.2.2.2.2.2.2.2.2.1 o ho
  have h2 := hv.2.1
  have h3 := hv.2.2.2.1
  have h5 := hv.2.2.2.2.1
  have hw : v 7 0 < 64 := Nat.lt_of_lt_of_le hv.2.2.2.2.2.2.1 (Nat.pow_le_pow_right (by decide) h0)
  have hdn : v 8 0 < 64 := Nat.lt_of_lt_of_le hv.2.2.2.2.2.2.2.1 (Nat.pow_le_pow_right (by decide) h0)
  have hwl : vWill v pr o ≤ 2 := vwill_le pr hp.2.2
  have hc := vclr_lt (v 13 0) (by omega) (v 7 0) hv.2.2.2.2.2.2.1 o ho
  have e107 : τ.1 107 0 = nI (v 7 0) := hT.2.2.2.2.2.1
  obtain ⟨g, hg⟩ := ec_will hT ho hv hp hpc
  unfold fc_to_calls
  rw [e107, ec_bit _ hw o (by omega), hb, pb_bs, if_pos (by decide), hg]
  simp only [pb_bs, pb_hl]
  have hT3 : twC (sc τ 126 g) 100 v pr := tc_facts hT g
  have q3 : eqC τ (sc τ 126 g) := eqC_sc (by omega)
  unfold vCalls
  by_cases e1 : vWill v pr o = 1
  · rw [if_pos e1, e1, if_neg (by decide)]
    exact ⟨_, rfl, hT3, q3⟩
  rw [if_neg e1, if_pos (show ¬ nI (vWill v pr o) = (1 : Int32) by rw [show (1 : Int32) = nI 1 from rfl, pb_eq (by omega) (by decide)]; exact e1), show (sc τ 126 g).1 107 0 = nI (v 7 0) from e107, ec_clr _ hw o (by omega), pb_bs]
  have hT5 := tc_waits hT3 (vclr (v 7 0) o)
  have hv5 := vOK_waits hv hc
  have q5 : eqC τ (sc (sc τ 126 g) 107 (fun _ => nI (vclr (v 7 0) o))) := q3.tr (eqC_sc (by omega))
  generalize sc (sc τ 126 g) 107 (fun _ => nI (vclr (v 7 0) o)) = τ5 at hT5 q5 ⊢
  by_cases e2 : vWill v pr o = 2
  · rw [if_pos e2, e2, if_neg (by decide)]
    exact ⟨_, rfl, hT5, q5⟩
  rw [if_neg e2, if_pos (show ¬ nI (vWill v pr o) = (2 : Int32) by rw [show (2 : Int32) = nI 2 from rfl, pb_eq (by omega) (by decide)]; exact e2)]
  obtain ⟨c1, c2, c3⟩ := em_cheersBy (v 14 o) (by omega) (v 16 o) (by omega) (v 2 0) (by omega)
  have hch : fc_to_cheersOf τ5 (nI o) = some (vCh (v 14 o) (v 16 o) (v 2 0)) := by
    have e114 : τ5.1 114 o = nI (v 14 o) := (hT5.2.2.2.2.2.2.2.1 o ho).1
    have e116 : τ5.1 116 o = nI (v 16 o) := (hT5.2.2.2.2.2.2.2.1 o ho).2.2.1
    have e102 : τ5.1 102 0 = nI (v 2 0) := hT5.2.1
    unfold fc_to_cheersOf
    simp (disch := omega) only [pb_in, pb_oc, pb_cl, e114, e116, e102]
    rw [ec_Ncheers (v 14 o) (by omega) h1.1.1 (v 16 o) (by omega) (v 2 0) (by omega)]
    rfl
  have e105 : τ5.1 105 0 = nI (v 5 0) := hT5.2.2.2.1
  rw [hch, pb_bs, e105, c2, ec_held (v 5 0) (by omega) _ c3, pb_bs]
  have hT8 : twC (sc τ5 105 (fun _ => nI (vW (v 5 0) (vChN (v 14 o) (v 16 o) (v 2 0))))) 100 (vs (vs v 7 (vclr (v 7 0) o)) 5 (vMood (v 14 o) (v 16 o) (v 2 0) (v 5 0))) pr := tc_mood hT5 _
  have hv8 := vOK_mood hv5 (x := vMood (v 14 o) (v 16 o) (v 2 0) (v 5 0)) (by have := (em_within (v 5 0) (by omega) _ c3).2; unfold vMood; omega)
  have q8 : eqC τ (sc τ5 105 (fun _ => nI (vW (v 5 0) (vChN (v 14 o) (v 16 o) (v 2 0))))) := q5.tr (eqC_sc (by omega))
  generalize sc τ5 105 (fun _ => nI (vW (v 5 0) (vChN (v 14 o) (v 16 o) (v 2 0)))) = τ8 at hT8 q8 ⊢
  rw [ec_isInTime hT8 ho hv8, pb_bs, show vTime (vs (vs v 7 (vclr (v 7 0) o)) 5 (vMood (v 14 o) (v 16 o) (v 2 0) (v 5 0))) o = vTime v o from rfl]
  by_cases e3 : vTime v o = true
  · have e108 : τ8.1 108 0 = nI (v 8 0) := hT8.2.2.2.2.2.2.1
    rw [if_pos e3, if_pos e3, if_pos (by decide), e108, ec_set _ hdn o (by omega), pb_bs]
    have hT11 := tc_done hT8 (vset (v 8 0) o)
    have hv11 := vOK_done hv8 (x := vset (v 8 0) o) (vset_lt (v 13 0) (by omega) (v 8 0) hv.2.2.2.2.2.2.2.1 o ho)
    have q11 : eqC τ (sc τ8 108 (fun _ => nI (vset (v 8 0) o))) := q8.tr (eqC_sc (by omega))
    generalize sc τ8 108 (fun _ => nI (vset (v 8 0) o)) = τ11 at hT11 q11 ⊢
    have hpy : fc_to_paysOf τ11 (nI o) = some (nI (vPays (v 14 o) o)) := by
      have e114 : τ11.1 114 o = nI (v 14 o) := (hT11.2.2.2.2.2.2.2.1 o ho).1
      unfold fc_to_paysOf
      simp (disch := omega) only [pb_in, pb_oc, pb_cl, e114]
      rw [ec_Npays (v 14 o) (by omega) h1.1.1 o (by omega)]
      rfl
    have hl := vLate_le ho hv
    rw [hpy, pb_bs, ec_late hT11 ho hv11, pb_bs, show vLate (vs (vs (vs v 7 (vclr (v 7 0) o)) 5 (vMood (v 14 o) (v 16 o) (v 2 0) (v 5 0))) 8 (vset (v 8 0) o)) o = vLate v o from rfl, ec_nine _ (by omega), pb_add]
    exact ⟨_, rfl, hT11, q11⟩
  · rw [if_neg e3, if_neg e3, if_neg (by decide)]
    exact ⟨_, rfl, hT8, q8⟩
theorem ec_calls0 (hT : twC τ 100 v pr) (ho : o < v 13 0) (hv : vOK v) (hb : ¬ vbit (v 7 0) o = 1) : fc_to_calls (nI o) τ = some (nI 0, τ) := by
  have h0 := hv.1
  have hw : v 7 0 < 64 := Nat.lt_of_lt_of_le hv.2.2.2.2.2.2.1 (Nat.pow_le_pow_right (by decide) h0)
  have e107 : τ.1 107 0 = nI (v 7 0) := hT.2.2.2.2.2.1
  have := vbit_lt (v 7 0) o
  unfold fc_to_calls
  rw [e107, ec_bit _ hw o (by omega), show vbit (v 7 0) o = 0 by omega, pb_bs, if_neg (by decide)]
  rfl
theorem ec_goOn (hT : twC τ 100 v pr) (hv : vOK v) : ∃ υ, fc_to_goOn τ = some υ ∧ twC υ 100 (vOn v) pr ∧ eqC τ υ := by
  have h5 := hv.2.2.2.2.1
  have h6 := hv.2.2.2.2.2.1
  have e106 : τ.1 106 0 = nI (v 6 0) := hT.2.2.2.2.1
  have e105 : τ.1 105 0 = nI (v 5 0) := hT.2.2.2.1
  have e102 : τ.1 102 0 = nI (v 2 0) := hT.2.1
  unfold fc_to_goOn
  rw [e106, e105, ec_handsAfter _ (by omega) _ (by omega), pb_bs]
  simp only [pb_hl]
  rw [show (sc τ 106 (fun _ => nI (min 99 (v 6 0 + 6 - v 5 0 / 2)))).1 102 0 = nI (v 2 0) from e102, show (1 : Int32) = nI 1 from rfl, pb_add]
  exact ⟨_, rfl, tc_hour (tc_hands hT _) _, (eqC_sc (by omega)).tr (eqC_sc (by omega))⟩
set_option maxHeartbeats 4000000 in
theorem ec_pass (hT : twC τ 100 v pr) (hv : vOK v) (hp : pOK pr) (hpc : vclen pr ≤ 200) (hh : v 2 0 < v 3 0) {act : Nat} (ha : act ≤ v 13 0) : ∃ υ, fc_to_pass (nI act) τ = some (nI (vPass v pr act).1, υ) ∧ twC υ 100 (vPass v pr act).2 pr ∧ eqC τ υ := by
  have h0 := hv.1
  have h1 := hv.2.2.2.1
  have h5 := hv.2.2.2.2.1
  have e105 : τ.1 105 0 = nI (v 5 0) := hT.2.2.2.1
  have e102 : τ.1 102 0 = nI (v 2 0) := hT.2.1
  unfold fc_to_pass
  rw [e102, e105, ec_news hT hv (by omega) h5, pb_bs, pb_hl]
  have hv3 := vOK_mood hv (vNews_le hv hh)
  have hT3 := tc_mood hT (vNews (v 10 (v 2 0)) (v 5 0))
  have q3 : eqC τ (sc τ 105 (fun _ => nI (vNews (v 10 (v 2 0)) (v 5 0)))) := eqC_sc (by omega)
  generalize sc τ 105 (fun _ => nI (vNews (v 10 (v 2 0)) (v 5 0))) = τ3 at hT3 q3 ⊢
  have e113 : τ3.1 113 0 = nI (v 13 0) := hT3.1
  obtain ⟨υ, u1, u2, u3⟩ := ec_goOn hT3 hv3
  unfold vPass fc_to_has
  by_cases e1 : 1 ≤ act
  · rw [show (1 : Int32) = nI 1 from rfl, pb_sub e1, if_neg (nI_pos (by omega)), e113, if_neg (show ¬ nI (v 13 0) ≤ nI (act - 1) by rw [pb_le (by omega) (by omega)]; omega), pb_bs, if_neg (by decide)]
    by_cases e2 : vbit (v 7 0) (act - 1) = 1
    · rw [if_pos ⟨e1, e2⟩]
      obtain ⟨k, k1, k2, k3⟩ := ec_calls hT3 (o := act - 1) (show act - 1 < v 13 0 by omega) hv3 hp hpc e2
      obtain ⟨w1, w2⟩ := vCalls_ok (pr := pr) (o := act - 1) hv3 (show act - 1 < v 13 0 by omega)
      obtain ⟨j, j1, j2, j3⟩ := ec_goOn k2 w1
      rw [k1]
      simp only [pb_bs, pb_hl]
      rw [j1, pb_bs]
      exact ⟨j, rfl, j2, (q3.tr k3).tr j3⟩
    · rw [if_neg (fun z => e2 z.2), ec_calls0 hT3 (o := act - 1) (show act - 1 < v 13 0 by omega) hv3 e2]
      simp only [pb_bs, pb_hl]
      rw [u1, pb_bs]
      exact ⟨υ, rfl, u2, q3.tr u3⟩
  · have : act = 0 := by omega
    subst this
    rw [if_pos (show nI 0 - (1 : Int32) < 0 by decide), pb_bs, if_pos rfl, u1, pb_bs, if_neg (fun z => e1 z.1)]
    exact ⟨υ, rfl, u2, q3.tr u3⟩
end CPS
