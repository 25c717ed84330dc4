/-! PURE: calls, goesWith, restAct of the reference -/
theorem sf_id (σ : SM) (k : Nat) : sf σ k (σ k) = σ := by
  funext i
  unfold sf
  by_cases h : i = k
  · rw [if_pos h, h]
  · rw [if_neg h]
section MC
variable {σ : SM} {v : VT} {pr : List RU} {o : Nat}
theorem vCalls_ok (hv : vOK v) (ho : o < v 13 0) : vOK (vCalls v pr o).2 ∧ (vCalls v pr o).1 ≤ 99 := by
  have h0 := hv.1
  have h1 := hv.2.2.2.2.2.2.2.2.1 o ho
  have h2 := hv.2.1
  have h3 := hv.2.2.2.1
  have h5 := hv.2.2.2.2.1
  have hc := vclr_lt (v 13 0) (by omega) (v 7 0) hv.2.2.2.2.2.2.1 o ho
  have hs := vset_lt (v 13 0) (by omega) (v 8 0) hv.2.2.2.2.2.2.2.1 o ho
  have hm : vMood (v 14 o) (v 16 o) (v 2 0) (v 5 0) ≤ 9 := by
    have e := (em_cheersBy (v 14 o) (by omega) (v 16 o) (by omega) (v 2 0) (by omega)).2.2
    have e2 := (em_within (v 5 0) (by omega) _ e).2
    unfold vMood
    omega
  have hp : vPays (v 14 o) o ≤ 18 := by
    unfold vPays
    repeat' split
    all_goals omega
  unfold vCalls
  split
  · exact ⟨hv, by simp⟩
  · split
    · exact ⟨vOK_waits hv hc, by simp⟩
    · split
      · exact ⟨vOK_done (vOK_mood (vOK_waits hv hc) hm) hs, by show _ + _ ≤ _; omega⟩
      · exact ⟨vOK_mood (vOK_waits hv hc) hm, by simp⟩
set_option maxHeartbeats 4000000 in
theorem em_calls (hT : twM (σ 0) v pr) (ho : o < v 13 0) (hv : vOK v) (hp : pOK pr) : ∃ f, fm_calls (nI o) σ = some (nI (vCalls v pr o).1, sf σ 0 f) ∧ twM f (vCalls v pr o).2 pr ∧ f 3 = σ 0 3 ∧ f 4 = σ 0 4 ∧ ∀ k, 46 ≤ k → f k = σ 0 k := by
  have h0 := hv.1
  have h1 := hv.2.2.2.2.2.2.2.2.1 o ho
  have h2 := hv.2.1
  have h3 := hv.2.2.2.1
  have h5 := hv.2.2.2.2.1
  have hwl : vWill v pr o ≤ 2 := vwill_le pr hp.2.2
  have hc := vclr_lt (v 13 0) (by omega) (v 7 0) hv.2.2.2.2.2.2.1 o ho
  unfold fm_calls
  rw [em_will hT ho hv hp]
  simp (disch := omega) only [pb_bs, pb_lit, pb_mul, pb_add, pb_in, pb_oc, pb_cl, pb_hl, pb_eq]
  rw [show 10 + 6 * o + 4 = 14 + 6 * o by omega, show 10 + 6 * o + 5 = 15 + 6 * o by omega]
  unfold vCalls
  by_cases e1 : vWill v pr o = 1
  · rw [if_pos e1, if_neg (fun z => z e1)]
    exact ⟨σ 0, by rw [sf_id], hT, rfl, rfl, fun _ _ => rfl⟩
  rw [if_neg e1, if_pos e1]
  have hT2 : twM ((sf σ 0 (upd (σ 0) (14 + 6 * o) (nI 0))) 0) (vs v 7 (vclr (v 7 0) o)) pr := tw_clr hT hv ho
  have hv2 := vOK_waits hv hc
  by_cases e2 : vWill v pr o = 2
  · rw [if_pos e2, if_neg (fun z => z e2)]
    exact ⟨_, rfl, hT2, up_ne (by omega), up_ne (by omega), fun k hk => up_ne (by omega)⟩
  rw [if_neg e2, if_pos e2, em_cheers hT2 ho hv2]
  simp only [pb_bs]
  obtain ⟨c1, c2, c3⟩ := em_cheersBy (v 14 o) (by omega) (v 16 o) (by omega) (v 2 0) (by omega)
  obtain ⟨d1, d2⟩ := em_within (v 5 0) (by omega) _ c3
  rw [hT2.2.2.2.1, show vCh (vs v 7 (vclr (v 7 0) o) 14 o) (vs v 7 (vclr (v 7 0) o) 16 o) (vs v 7 (vclr (v 7 0) o) 2 0) = vCh (v 14 o) (v 16 o) (v 2 0) from rfl, c2, show vs v 7 (vclr (v 7 0) o) 5 0 = v 5 0 from rfl, d1]
  simp only [pb_bs, pb_sfsf, pb_sf0]
  have hT5 : twM ((sf σ 0 (upd (upd (σ 0) (14 + 6 * o) (nI 0)) 8 (nI (vW (v 5 0) (vChN (v 14 o) (v 16 o) (v 2 0)))))) 0) (vs (vs v 7 (vclr (v 7 0) o)) 5 (vMood (v 14 o) (v 16 o) (v 2 0) (v 5 0))) pr := tw_mood hT2 _
  have hv5 := vOK_mood hv2 (x := vMood (v 14 o) (v 16 o) (v 2 0) (v 5 0)) (by unfold vMood; omega)
  rw [em_isInTime hT5 ho hv5, show vTime (vs (vs v 7 (vclr (v 7 0) o)) 5 (vMood (v 14 o) (v 16 o) (v 2 0) (v 5 0))) o = vTime v o from rfl]
  by_cases e3 : vTime v o = true
  · rw [if_pos e3, if_pos e3, pb_bs, if_pos (by decide)]
    have hT7 : twM ((sf σ 0 (upd (upd (upd (σ 0) (14 + 6 * o) (nI 0)) 8 (nI (vW (v 5 0) (vChN (v 14 o) (v 16 o) (v 2 0))))) (15 + 6 * o) (nI 1))) 0) (vs (vs (vs v 7 (vclr (v 7 0) o)) 5 (vMood (v 14 o) (v 16 o) (v 2 0) (v 5 0))) 8 (vset (v 8 0) o)) pr := tw_set hT5 hv5 ho
    have hv7 := vOK_done hv5 (x := vset (v 8 0) o) (vset_lt (v 13 0) (by omega) (v 8 0) hv.2.2.2.2.2.2.2.1 o ho)
    rw [em_pays hT7 ho hv7, em_late hT7 ho hv7]
    simp only [pb_bs]
    have e9 := em_nine (l := vLate v o) (vLate_le ho hv)
    rw [show nI 0 = (0 : Int32) from rfl, show nI 9 = (9 : Int32) from rfl, show vLate (vs (vs (vs v 7 (vclr (v 7 0) o)) 5 (vMood (v 14 o) (v 16 o) (v 2 0) (v 5 0))) 8 (vset (v 8 0) o)) o = vLate v o from rfl, e9, pb_bs, pb_add]
    exact ⟨_, rfl, hT7, (up_ne (by omega)).trans ((up_ne (by omega)).trans (up_ne (by omega))), (up_ne (by omega)).trans ((up_ne (by omega)).trans (up_ne (by omega))), fun k hk => (up_ne (by omega)).trans ((up_ne (by omega)).trans (up_ne (by omega)))⟩
  · rw [if_neg e3, if_neg e3, pb_bs, if_neg (by decide)]
    exact ⟨_, rfl, hT5, (up_ne (by omega)).trans (up_ne (by omega)), (up_ne (by omega)).trans (up_ne (by omega)), fun k hk => (up_ne (by omega)).trans (up_ne (by omega))⟩
end MC
/-- the hour's end: the hands, the hour -/
def vOn (v : VT) : VT := vs (vs v 6 (min 99 (v 6 0 + 6 - v 5 0 / 2))) 2 (v 2 0 + 1)
def vPass (v : VT) (pr : List RU) (act : Nat) : Nat × VT :=
  if 1 ≤ act ∧ vbit (v 7 0) (act - 1) = 1 then ((vCalls (vs v 5 (vNews (v 10 (v 2 0)) (v 5 0))) pr (act - 1)).1, vOn (vCalls (vs v 5 (vNews (v 10 (v 2 0)) (v 5 0))) pr (act - 1)).2)
  else (0, vOn (vs v 5 (vNews (v 10 (v 2 0)) (v 5 0))))
theorem em_hands : ∀ m, m < 10 → ∀ h, h < 100 → fm_least (99 : Int32) ((nI h + (6 : Int32)) - nI m / (2 : Int32)) = some (nI (min 99 (h + 6 - m / 2))) := by decide +kernel
section MG
variable {σ : SM} {v : VT} {pr : List RU} {o : Nat}
theorem em_b58 (hT : twM (σ 0) v pr) (hv : vOK v) (y : Int32) : ∃ f, fm_goesWith_b58 y σ = some (y, sf σ 0 f) ∧ twM f (vOn v) pr ∧ f 3 = σ 0 3 + y ∧ f 4 = σ 0 4 ∧ ∀ k, 46 ≤ k → f k = σ 0 k := by
  have h5 := hv.2.2.2.2.1
  have h6 := hv.2.2.2.2.2.1
  unfold fm_goesWith_b58
  rw [hT.2.2.2.2.1, hT.2.2.2.1, em_hands (v 5 0) (by omega) (v 6 0) (by omega)]
  simp only [pb_bs, pb_hl, pb_sfsf, pb_sf0]
  refine ⟨_, rfl, ?_, ?_, ?_, fun k hk => (up_ne (by omega)).trans ((up_ne (by omega)).trans (up_ne (by omega)))⟩
  · have hA := tw_hands hT (min 99 (v 6 0 + 6 - v 5 0 / 2))
    have e1 : upd (σ 0) 9 (nI (min 99 (v 6 0 + 6 - v 5 0 / 2))) 1 + (1 : Int32) = nI (v 2 0 + 1) := by
      rw [up_ne (by decide), hT.2.1, show (1 : Int32) = nI 1 from rfl, pb_add]
    rw [e1]
    exact tw_score (tw_hour hA (v 2 0 + 1)) _
  · rw [up_eq, up_ne (by decide), up_ne (by decide)]
  · rw [up_ne (by decide), up_ne (by decide), up_ne (by decide)]
theorem vNews_le (hv : vOK v) (hh : v 2 0 < v 3 0) : vNews (v 10 (v 2 0)) (v 5 0) ≤ 9 := by
  have h1 := hv.2.2.2.1
  have h2 := hv.2.2.2.2.2.2.2.2.2.2.1 (v 2 0) (by omega)
  have h5 := hv.2.2.2.2.1
  have := (em_told (v 5 0) (by omega) (v 10 (v 2 0)) (by omega)).2
  omega
theorem vOn_ok (hv : vOK v) (hh : v 2 0 < v 3 0) : vOK (vOn v) := vOK_hour (vOK_hands hv (Nat.min_le_left _ _)) (show v 2 0 + 1 ≤ v 3 0 by omega)
theorem vCalls_same (k : Nat) : (vCalls v pr k).2 2 = v 2 ∧ (vCalls v pr k).2 3 = v 3 ∧ (vCalls v pr k).2 13 = v 13 ∧ (vCalls v pr k).2 6 = v 6 := by
  unfold vCalls
  split
  · exact ⟨rfl, rfl, rfl, rfl⟩
  · split
    · exact ⟨rfl, rfl, rfl, rfl⟩
    · split <;> exact ⟨rfl, rfl, rfl, rfl⟩
theorem vPass_ok (hv : vOK v) (hh : v 2 0 < v 3 0) {act : Nat} (ha : act ≤ v 13 0) : vOK (vPass v pr act).2 ∧ (vPass v pr act).1 ≤ 99 := by
  have hv2 := vOK_mood hv (vNews_le hv hh)
  unfold vPass
  split
  · obtain ⟨g1, g2⟩ := vCalls_ok (pr := pr) (o := act - 1) hv2 (show act - 1 < v 13 0 by omega)
    refine ⟨vOn_ok g1 ?_, g2⟩
    rw [(vCalls_same _).1, (vCalls_same _).2.1]
    exact hh
  · exact ⟨vOn_ok hv2 hh, by simp⟩
set_option maxHeartbeats 4000000 in
theorem em_goesWith (hT : twM (σ 0) v pr) (hv : vOK v) (hp : pOK pr) (hh : v 2 0 < v 3 0) {act : Nat} (ha : act ≤ v 13 0) : ∃ f, fm_goesWith (nI act) σ = some (nI (vPass v pr act).1, sf σ 0 f) ∧ twM f (vPass v pr act).2 pr ∧ f 3 = σ 0 3 + nI (vPass v pr act).1 ∧ f 4 = σ 0 4 ∧ ∀ k, 46 ≤ k → f k = σ 0 k := by
  have h0 := hv.1
  have h1 := hv.2.2.2.1
  have h2 := hv.2.2.2.2.2.2.2.2.2.2.1 (v 2 0) (by omega)
  have h5 := hv.2.2.2.2.1
  unfold fm_goesWith
  rw [hT.2.1, hT.2.2.2.1]
  simp (disch := omega) only [pb_lit, pb_add, pb_in, pb_oc, pb_cl, pb_hl]
  rw [hT.2.2.2.2.2.2.2.1 (v 2 0) (by omega), (em_told (v 5 0) (by omega) (v 10 (v 2 0)) (by omega)).1, pb_bs]
  have hv3 := vOK_mood hv (vNews_le hv hh)
  have hT3 : twM ((sf σ 0 (upd (σ 0) 8 (nI (vNews (v 10 (v 2 0)) (v 5 0))))) 0) (vs v 5 (vNews (v 10 (v 2 0)) (v 5 0))) pr := tw_mood hT _
  have hz : fm_goesWith_b57 (sf σ 0 (upd (σ 0) 8 (nI (vNews (v 10 (v 2 0)) (v 5 0))))) = fm_goesWith_b58 0 (sf σ 0 (upd (σ 0) 8 (nI (vNews (v 10 (v 2 0)) (v 5 0))))) := rfl
  obtain ⟨g, g1, g2, g3, g4, g5⟩ := em_b58 hT3 hv3 0
  have idle : ∃ f, fm_goesWith_b57 (sf σ 0 (upd (σ 0) 8 (nI (vNews (v 10 (v 2 0)) (v 5 0))))) = some (nI 0, sf σ 0 f) ∧ twM f (vOn (vs v 5 (vNews (v 10 (v 2 0)) (v 5 0)))) pr ∧ f 3 = σ 0 3 + nI 0 ∧ f 4 = σ 0 4 ∧ ∀ k, 46 ≤ k → f k = σ 0 k := by
    refine ⟨g, ?_, g2, g3, g4, fun k hk => (g5 k hk).trans (up_ne (by omega))⟩
    rw [hz, g1, pb_sfsf]
    rfl
  unfold vPass
  by_cases e1 : 1 ≤ act
  · rw [pb_sub e1, if_neg (show ¬ nI (act - 1) < nI 0 by rw [pb_lt (by omega) (by decide)]; omega)]
    have e4 := em_its4 hT3 (o := act - 1) (show act - 1 < v 13 0 by omega) hv3
    rw [show nI 4 = (4 : Int32) from rfl, e4, pb_bs, show vs v 5 (vNews (v 10 (v 2 0)) (v 5 0)) 7 0 = v 7 0 from rfl]
    have hb := vbit_lt (v 7 0) (act - 1)
    by_cases e2 : vbit (v 7 0) (act - 1) = 1
    · rw [e2, if_neg (fun z => z rfl), if_pos ⟨e1, rfl⟩]
      obtain ⟨k, k1, k2, k3, k4, k5⟩ := em_calls hT3 (o := act - 1) (show act - 1 < v 13 0 by omega) hv3 hp
      obtain ⟨w1, w2⟩ := vCalls_ok (pr := pr) (o := act - 1) hv3 (show act - 1 < v 13 0 by omega)
      rw [k1]
      simp only [pb_bs, pb_hl, pb_sfsf]
      have hTk : twM ((sf σ 0 k) 0) (vCalls (vs v 5 (vNews (v 10 (v 2 0)) (v 5 0))) pr (act - 1)).2 pr := k2
      obtain ⟨q, q1, q2, q3, q4, q5⟩ := em_b58 hTk w1 (nI (vCalls (vs v 5 (vNews (v 10 (v 2 0)) (v 5 0))) pr (act - 1)).1)
      refine ⟨q, ?_, q2, ?_, ?_, fun j hj => (q5 j hj).trans ((k5 j hj).trans (up_ne (by omega)))⟩
      · rw [q1, pb_sfsf]
      · rw [q3]
        show k 3 + _ = _
        rw [k3]
        rfl
      · rw [q4]
        show k 4 = _
        rw [k4]
        rfl
    · rw [if_pos (show ¬ nI (vbit (v 7 0) (act - 1)) = nI 1 by rw [pb_eq (by omega) (by decide)]; exact e2), if_neg (fun z => e2 z.2)]
      exact idle
  · rw [if_pos (show nI act - nI 1 < nI 0 by rw [show act = 0 by omega]; decide), if_neg (fun z => e1 z.1)]
    exact idle
end MG
