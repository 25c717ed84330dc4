/-! PURE: steps of anew, report -/
section S5
variable {τ : SC} {σ : SM} {f : Nat → Int32} {v : VT} {pr : List RU} {o : Nat}
theorem vs_vs (v : VT) (k x y : Nat) : vs (vs v k x) k y = vs v k y := by
  funext i
  unfold vs
  by_cases h : i = k <;> simp [h]
theorem vs_swap (v : VT) {k j : Nat} (x y : Nat) (h : k ≠ j) : vs (vs v k x) j y = vs (vs v j y) k x := by
  funext i
  unfold vs
  by_cases h1 : i = k
  · subst h1
    simp [h]
  · simp [h1]
theorem all1 : ∀ n, n < 7 → ∀ w, w < 2 ^ n → (∀ j, j < n → vbit w j = 1) → w = 2 ^ n - 1 := by decide +kernel
theorem all0 : ∀ n, n < 7 → ∀ w, w < 2 ^ n → (∀ j, j < n → vbit w j = 0) → w = 0 := by decide +kernel
theorem every_fin : ∀ n, n < 7 → ((1 : Int32) <<< (nI n &&& 31)) - (1 : Int32) = nI (2 ^ n - 1) := by decide +kernel
theorem ec_every (hT : twC τ 100 v pr) (hv : vOK v) : fc_to_everyGuild τ = some (nI (2 ^ v 13 0 - 1)) := by
  have h := hv.1
  unfold fc_to_everyGuild
  rw [show τ.1 113 0 = _ from hT.1, every_fin _ (by omega)]
theorem em_anew_l (hv : vOK v) (K : SM → Option (Int32 × SM)) : ∀ (m k n w d : Nat) (f : Nat → Int32), k + m = v 13 0 → m < n → w < 2 ^ v 13 0 → d < 2 ^ v 13 0 → twM f (vs (vs v 7 w) 8 d) pr → (∀ j, j < k → vbit w j = 1) → (∀ j, j < k → vbit d j = 0) → ∃ f2, fm_anew_l2 K n (nI k) (sf σ 0 f) = K (sf σ 0 f2) ∧ twM f2 (vs (vs v 7 (2 ^ v 13 0 - 1)) 8 0) pr ∧ f2 3 = f 3 ∧ f2 4 = f 4 := by
  have h0 := hv.1
  intro m
  induction m with
  | zero =>
    intro k n w d f hk hn hw hd hT h1 h2
    obtain ⟨q, rfl⟩ : ∃ q, n = q + 1 := ⟨n - 1, by omega⟩
    unfold fm_anew_l2
    rw [pb_sf0, show f 0 = nI (v 13 0) from hT.1, if_pos (show nI (v 13 0) ≤ nI k by rw [pb_le (by omega) (by omega)]; omega)]
    refine ⟨f, rfl, ?_, rfl, rfl⟩
    rw [all1 _ (by omega) w hw (fun j hj => h1 j (by omega)), all0 _ (by omega) d hd (fun j hj => h2 j (by omega))] at hT
    exact hT
  | succ m ih =>
    intro k n w d f hk hn hw hd hT h1 h2
    obtain ⟨q, rfl⟩ : ∃ q, n = q + 1 := ⟨n - 1, by omega⟩
    have h26 : 2 ^ v 13 0 ≤ 2 ^ 6 := Nat.pow_le_pow_right (by decide) h0
    unfold fm_anew_l2
    rw [pb_sf0, show f 0 = nI (v 13 0) from hT.1, if_neg (show ¬ nI (v 13 0) ≤ nI k by rw [pb_le (by omega) (by omega)]; omega)]
    simp only [show (10 : Int32) = nI 10 from rfl, show (6 : Int32) = nI 6 from rfl, show (4 : Int32) = nI 4 from rfl, show (5 : Int32) = nI 5 from rfl, show (1 : Int32) = nI 1 from rfl, show (0 : Int32) = nI 0 from rfl]
    simp (disch := omega) only [pb_mul, pb_add, pb_in, pb_oc, pb_cl, pb_hl, pb_sfsf, pb_sf0]
    have w1 := vput_lt 1 (by decide) _ (show v 13 0 < 7 by omega) _ hw k (by omega)
    have d1 := vput_lt 0 (by decide) _ (show v 13 0 < 7 by omega) _ hd k (by omega)
    have T1 : twM (upd f (14 + 6 * k) (nI 1)) (vs (vs v 7 (vput w k 1)) 8 d) pr := by
      have T := tw_wait (q := k) (x := 1) hT (vOK_done (vOK_waits hv hw) hd) (show k < v 13 0 by omega) (by decide)
      rw [vs_swap _ _ _ (show 8 ≠ 7 by decide), vs_vs] at T
      exact T
    have T2 : twM (upd (upd f (14 + 6 * k) (nI 1)) (15 + 6 * k) (nI 0)) (vs (vs v 7 (vput w k 1)) 8 (vput d k 0)) pr := by
      have T := tw_dn (q := k) (x := 0) T1 (vOK_done (vOK_waits hv w1) hd) (show k < v 13 0 by omega) (by decide)
      rw [vs_vs] at T
      exact T
    have B1 : ∀ j, j < k + 1 → vbit (vput w k 1) j = 1 := fun j hj => by
      rw [vput_bit 1 (by decide) _ (by omega) _ (by omega) _ (by omega)]
      by_cases e : j = k
      · rw [if_pos e]
      · rw [if_neg e]; exact h1 j (by omega)
    have B0 : ∀ j, j < k + 1 → vbit (vput d k 0) j = 0 := fun j hj => by
      rw [vput_bit 0 (by decide) _ (by omega) _ (by omega) _ (by omega)]
      by_cases e : j = k
      · rw [if_pos e]
      · rw [if_neg e]; exact h2 j (by omega)
    obtain ⟨f2, g1, g2, g3, g4⟩ := ih (k + 1) q (vput w k 1) (vput d k 0) _ (by omega) (by omega) w1 d1 T2 B1 B0
    rw [show 10 + 6 * k + 4 = 14 + 6 * k by omega, show 10 + 6 * k + 5 = 15 + 6 * k by omega]
    refine ⟨f2, g1, g2, ?_, ?_⟩
    · rw [g3]; simp (disch := omega) only [up_ne]
    · rw [g4]; simp (disch := omega) only [up_ne]
def vAnew (v : VT) : VT := vs (vs (vs (vs (vs v 7 (2 ^ v 13 0 - 1)) 8 0) 5 5) 6 0) 2 0
theorem vs_id (v : VT) (k : Nat) (h : ∀ j, v k j = v k 0) : vs v k (v k 0) = v := by
  funext i j
  unfold vs
  by_cases e : i = k
  · subst e
    simp only [if_true]
    exact (h j).symm
  · simp [e]
theorem twM_ext {u : VT} (h : twM f v pr) (e1 : u 13 0 = v 13 0) (e2 : u 2 0 = v 2 0) (e3 : u 3 0 = v 3 0) (e5 : u 5 0 = v 5 0) (e6 : u 6 0 = v 6 0) (e7 : u 7 0 = v 7 0) (e8 : u 8 0 = v 8 0) (er : ∀ k, 10 ≤ k → k ≠ 13 → k ≠ 18 → u k = v k) (e18 : u 18 0 = v 18 0) : twM f u pr := by
  obtain ⟨h0, h1, h2, h8, h9, ho, hs, hn, h6, hr, h5, hru⟩ := h
  refine ⟨by rw [e1]; exact h0, by rw [e2]; exact h1, by rw [e3]; exact h2, by rw [e5]; exact h8, by rw [e6]; exact h9, fun o q => ?_, fun j hj => ?_, fun j hj => ?_, by rw [e18]; exact h6, fun r q i hi => ?_, h5, hru⟩
  · rw [er 14 (by decide) (by decide) (by decide), er 15 (by decide) (by decide) (by decide), er 16 (by decide) (by decide) (by decide), er 17 (by decide) (by decide) (by decide), e7, e8]
    exact ho o (by omega)
  · rw [er 11 (by decide) (by decide) (by decide), er 12 (by decide) (by decide) (by decide)]
    exact hs j hj
  · rw [er 10 (by decide) (by decide) (by decide)]
    exact hn j hj
  · rw [er 19 (by decide) (by decide) (by decide)]
    exact hr r (by omega) i hi
theorem vAnew_ok (hv : vOK v) : vOK (vAnew v) := by
  have h : 0 < 2 ^ v 13 0 := Nat.two_pow_pos _
  exact vOK_hour (vOK_hands (vOK_mood (vOK_done (vOK_waits hv (by omega)) h) (by decide)) (by decide)) (Nat.zero_le _)
theorem st_anew (h : Inv τ σ) : stp (fc_hh_anew τ) (fm_anew σ) := by
  obtain ⟨⟨v, pr, t1, t2, t3, t4, t5, t6, t7⟩, -⟩ := id h
  have b6 := t3.1
  have A : fc_hh_anew τ = some (nI (v 2 0), sc (sc (sc (sc (sc (sc τ 102 (fun _ => 0)) 104 (fun _ => 0)) 105 (fun _ => 5)) 106 (fun _ => 0)) 107 (fun _ => nI (2 ^ v 13 0 - 1))) 108 (fun _ => 0)) := by
    unfold fc_hh_anew fc_to_startOver fc_to_everyGuild
    simp (disch := omega) only [pb_hl, pb_bs, sc_ne]
    rw [show τ.1 113 0 = _ from t2.1, every_fin _ (by omega), show τ.1 102 0 = _ from t2.2.1]
  rw [A]
  unfold fm_anew
  obtain ⟨f2, g1, g2, g3, g4⟩ := em_anew_l (σ := σ) t3 (fun σ => (hl (sf σ 0 (upd (σ 0) 3 (0 : Int32))) fun σ3 => (hl (sf σ3 0 (upd (σ3 0) 8 (5 : Int32))) fun σ4 => (hl (sf σ4 0 (upd (σ4 0) 9 (0 : Int32))) fun σ5 => (Option.bind (fm_becomes (1 : Int32) (0 : Int32) σ5) fun p_ => hl p_.1 fun q6 => hl p_.2 fun σ7 => (some (q6, σ7))))))) (v 13 0) 0 hFU (v 7 0) (v 8 0) (σ 0) (by omega) (by unfold hFU; omega) t3.2.2.2.2.2.2.1 t3.2.2.2.2.2.2.2.1 (twM_ext t1 rfl rfl rfl rfl rfl rfl rfl (fun k h1 h2 h3 => by rw [vs_ne _ _ (by omega), vs_ne _ _ (by omega)]) rfl) (fun j hj => by omega) (fun j hj => by omega)
  rw [sf_id] at g1
  rw [show (0 : Int32) = nI 0 from rfl] at g1 ⊢
  rw [g1]
  simp only [pb_hl, pb_sfsf, pb_sf0]
  rw [show (1 : Int32) = nI 1 from rfl, em_becomes (by omega)]
  simp only [pb_bs, pb_hl, pb_sfsf, pb_sf0]
  have T := tw_hour (tw_hands (tw_mood (tw_score g2 0) 5) 0) 0
  have e1 : upd (upd (upd f2 3 (nI 0)) 8 5) 9 (nI 0) 1 = nI (v 2 0) := by
    simp (disch := omega) only [up_ne]
    exact g2.2.1
  rw [e1]
  refine ⟨_, _, _, rfl, rfl, Inv_fr h frM_0 ?_ ⟨vAnew v, pr, T, ?_, vAnew_ok t3, t4, t5, ?_, ?_⟩⟩
  · exact (frC_sc (by unfold rlC; omega)).tr ((frC_sc (by unfold rlC; omega)).tr ((frC_sc (by unfold rlC; omega)).tr ((frC_sc (by unfold rlC; omega)).tr ((frC_sc (by unfold rlC; omega)).tr (frC_sc (by unfold rlC; omega))))))
  · obtain ⟨h1, h2, h3, h4, h5, h6, h7, h8, h9, h10, h11, h12, h13, h14⟩ := t2
    exact ⟨h1, rfl, h3, rfl, rfl, rfl, rfl, h8, h9, h10, h11, h12, h13, h14⟩
  · rfl
  · exact t7.trans g4.symm
end S5
