/-! PURE: step of times -/
section S16
variable {τ : SC} {σ : SM} {v : VT} {pr : List RU}
theorem ti_l {f0 : Nat → Int32} {ρ : SM} (hv : vOK v) (hp : pOK pr) (hpc : vclen pr ≤ 200) (K57 : Int32 → Int32 → Int32 → Int32 → Int32 → Int32 → Int32 → SC → Option (Int32 × SC)) (K94 : Int32 → Int32 → Int32 → Int32 → Int32 → Int32 → Int32 → Int32 → SC → Option (Int32 × SC)) (K36 : Int32 → Int32 → Int32 → Int32 → SM → Option (Int32 × SM)) (K99 : Int32 → Int32 → Int32 → Int32 → Int32 → SM → Option (Int32 × SM)) (y1 y2 y3 y4 y6 y7 w1 w2 w3 w4 : Int32) : ∀ (m k n1 n2 : Nat) (x : Int32) (τ' : SC) (f' : Nat → Int32) (v' : VT) (z : Int32), ML τ f0 v pr τ' f' v' z → v' 2 0 = v 2 0 + k → k + m = v 3 0 - v 2 0 → m < n1 → m < n2 → ∃ X τ2 f2 v2 z2, fc_hh_times_l69 K57 K94 n1 y1 y2 y3 y4 (nI (v 3 0 - v 2 0)) y6 y7 x (nI k) τ' = K94 y1 y2 y3 y4 (nI (v 3 0 - v 2 0)) y6 y7 X τ2 ∧ fm_times_l80 K36 K99 n2 w1 w2 w3 w4 x (sf ρ 0 f') = K99 w1 w2 w3 w4 X (sf ρ 0 f2) ∧ ML τ f0 v pr τ2 f2 v2 z2 := by
  have b1 := hv.2.1
  have b2 := hv.2.2.2.1
  intro m
  induction m with
  | zero =>
    intro k n1 n2 x τ' f' v' z h hk hm h1 h2
    obtain ⟨q1, rfl⟩ : ∃ q, n1 = q + 1 := ⟨n1 - 1, by omega⟩
    obtain ⟨q2, rfl⟩ : ∃ q, n2 = q + 1 := ⟨n2 - 1, by omega⟩
    obtain ⟨⟨q, hq, hh⟩, hz⟩ := id h
    have h30 : v' 3 0 = v 3 0 := congrFun (hh.2.2.1.at (by decide)) 0
    unfold fc_hh_times_l69 fm_times_l80
    rw [if_pos (show nI (v 3 0 - v 2 0) ≤ nI k by rw [pb_le (by omega) (by omega)]; omega), mv_over hh, if_neg (show ¬ v' 2 0 < v' 3 0 by omega)]
    exact ⟨x, τ', f', v', z, rfl, rfl, h⟩
  | succ m ih =>
    intro k n1 n2 x τ' f' v' z h hk hm h1 h2
    obtain ⟨q1, rfl⟩ : ∃ q, n1 = q + 1 := ⟨n1 - 1, by omega⟩
    obtain ⟨q2, rfl⟩ : ∃ q, n2 = q + 1 := ⟨n2 - 1, by omega⟩
    obtain ⟨⟨q, hq, hh⟩, hz⟩ := id h
    have h30 : v' 3 0 = v 3 0 := congrFun (hh.2.2.1.at (by decide)) 0
    obtain ⟨a, z2, τ2, f2, ha, e1, e3, e4, -⟩ := ml_go (ρ := ρ) h hp hpc (by omega)
    have IH := ih (k + 1) q1 q2 (x + nI (vPass v' pr a).1) τ2 f2 _ z2 e4 (by rw [vPass_hour]; omega) (by omega) (by omega) (by omega)
    unfold fc_hh_times_l69 fm_times_l80
    rw [if_neg (show ¬ nI (v 3 0 - v 2 0) ≤ nI k by rw [pb_le (by omega) (by omega)]; omega), mv_over hh, if_pos (show v' 2 0 < v' 3 0 by omega), e1, e3]
    simp only [qbs, qhl, zer0, not_true_eq_false, if_false]
    rw [show (1 : Int32) = nI 1 from rfl, pb_add]
    exact IH
theorem to_l {g : Nat → Int32} (t1 : twM (σ 0) v pr) (hv : vOK v) (hp : pOK pr) (hpc : vclen pr ≤ 200) (hg : ∀ j, j < 46 → g j = σ 0 j) {n : Nat} (hn : n ≤ 40) (x2 z0 : Int32) : ∀ (m k n1 n2 : Nat) (c : Int32) (τ' : SC) (f' : Nat → Int32) (z : Int32), twC τ' 100 v pr → (∃ q : Nat → Int32, q 0 = z ∧ eqC (sc τ 109 q) τ') → f' 4 = z → (k = 0 → z = σ 0 4) → (∀ j, 46 ≤ j → f' j = σ 0 j) → k + m = n → m < n1 → m < n2 → ∃ r τ2 q, fc_hh_times_l57 n1 (nI n) x2 (nI (vMom v)) z0 (nI (v 3 0 - v 2 0)) c (nI k) τ' = some (r, sc τ2 109 (fun _ => z0)) ∧ twC τ2 100 v pr ∧ eqC (sc τ 109 q) τ2 ∧ fm_times_l36 n2 (nI n) x2 c (nI k) (sf (sf σ 3 g) 0 f') = some (r, sf σ 3 g) := by
  have b1 := hv.2.1
  have b2 := hv.2.2.2.1
  intro m
  induction m with
  | zero =>
    intro k n1 n2 c τ' f' z hT hq hz hk0 hf hm h1 h2
    obtain ⟨q1, rfl⟩ : ∃ q, n1 = q + 1 := ⟨n1 - 1, by omega⟩
    obtain ⟨q2, rfl⟩ : ∃ q, n2 = q + 1 := ⟨n2 - 1, by omega⟩
    obtain ⟨q, -, hq⟩ := hq
    unfold fc_hh_times_l57 fm_times_l36
    rw [if_pos (show nI n ≤ nI k by rw [pb_le (by omega) (by omega)]; omega), if_pos (show nI n ≤ nI k by rw [pb_le (by omega) (by omega)]; omega), em_back0 hg hf]
    exact ⟨c, τ', q, rfl, hT, hq, rfl⟩
  | succ m ih =>
    intro k n1 n2 c τ' f' z hT hq hz hk0 hf hm h1 h2
    obtain ⟨q1, rfl⟩ : ∃ q, n1 = q + 1 := ⟨n1 - 1, by omega⟩
    obtain ⟨q2, rfl⟩ : ∃ q, n2 = q + 1 := ⟨n2 - 1, by omega⟩
    obtain ⟨q, hq0, hq⟩ := hq
    have hF : v 3 0 - v 2 0 < hFU := by unfold hFU; omega
    have M0 : ML τ (σ 0) v pr τ' (upd (σ 0) 4 z) v z := ⟨⟨q, hq0, hT, hq, vSame.rf, hv, tw_zed t1 z, fun j hj => up_ne (by omega)⟩, up_eq⟩
    have EM : fm_times_l36 (q2 + 1) (nI n) x2 c (nI k) (sf (sf σ 3 g) 0 f') = fm_times_l80 (fm_times_l36 q2) (fun x1 x2 x3 x4 x6 σ => (if x6 < x2 then (fm_times_b111 (fm_times_l36 q2) x1 x2 x4 (0 : Int32) x3 σ) else (fm_times_b111 (fm_times_l36 q2) x1 x2 x4 (1 : Int32) x3 σ))) hFU (nI n) x2 c (nI k) (nI 0) (sf (sf σ 3 g) 0 (upd (σ 0) 4 z)) := by
      rw [show fm_times_l36 (q2 + 1) (nI n) x2 c (nI k) (sf (sf σ 3 g) 0 f') = (if nI n ≤ nI k then (Option.bind (fm_laysBack (0 : Int32) (sf (sf σ 3 g) 0 f')) fun σ6 => (some (c, σ6))) else (hl ((sf (sf σ 3 g) 0 f') 0 4) fun v7 => (Option.bind (fm_laysBack (0 : Int32) (sf (sf σ 3 g) 0 f')) fun σ9 => (if ¬ nI k = 0 then (fm_times_b76 (fm_times_l36 q2) (nI n) x2 c (nI k) v7 (4 : Int32) σ9) else (fm_times_b76 (fm_times_l36 q2) (nI n) x2 c (nI k) (σ9 0 4) (4 : Int32) σ9))))) from rfl]
      rw [if_neg (show ¬ nI n ≤ nI k by rw [pb_le (by omega) (by omega)]; omega), em_back0 hg hf, pb_sf0, hz, qhl, qbs]
      have E : fm_times_b76 (fm_times_l36 q2) (nI n) x2 c (nI k) z (4 : Int32) (sf σ 3 g) = fm_times_l80 (fm_times_l36 q2) (fun x1 x2 x3 x4 x6 σ => (if x6 < x2 then (fm_times_b111 (fm_times_l36 q2) x1 x2 x4 (0 : Int32) x3 σ) else (fm_times_b111 (fm_times_l36 q2) x1 x2 x4 (1 : Int32) x3 σ))) hFU (nI n) x2 c (nI k) (nI 0) (sf (sf σ 3 g) 0 (upd (σ 0) 4 z)) := by
        unfold fm_times_b76
        rw [show hin (4 : Int32) 580 = true by decide, pb_oc, qhl]
        rfl
      by_cases ck : k = 0
      · rw [if_neg (show ¬ ¬ nI k = 0 from fun w => w (by rw [ck]; rfl)), show (sf σ 3 g) 0 4 = z from (hk0 ck).symm]
        exact E
      · rw [if_pos (show ¬ nI k = 0 by rw [pb_ez (by omega)]; exact ck)]
        exact E
    rw [EM]
    unfold fc_hh_times_l57
    rw [if_neg (show ¬ nI n ≤ nI k by rw [pb_le (by omega) (by omega)]; omega)]
    obtain ⟨X, τ2, f2, v2, z2, e1, e2, ⟨⟨q', hq0', hh⟩, hz2⟩⟩ := ti_l (ρ := sf σ 3 g) hv hp hpc (fc_hh_times_l57 q1) (fun x1 x2 x3 x4 x5 x6 x7 x8 τ => (if x8 < x2 then (fc_hh_times_b103 (fc_hh_times_l57 q1) x1 x2 x3 x4 x5 x6 x7 τ) else (fc_hh_times_b103 (fc_hh_times_l57 q1) x1 x2 x3 x4 x5 (x6 + (1 : Int32)) x7 τ))) (fm_times_l36 q2) (fun x1 x2 x3 x4 x6 σ => (if x6 < x2 then (fm_times_b111 (fm_times_l36 q2) x1 x2 x4 (0 : Int32) x3 σ) else (fm_times_b111 (fm_times_l36 q2) x1 x2 x4 (1 : Int32) x3 σ))) (nI n) x2 (nI (vMom v)) z0 c (nI k) (nI n) x2 c (nI k) (v 3 0 - v 2 0) 0 hFU hFU (nI 0) τ' (upd (σ 0) 4 z) v z M0 (Nat.add_zero _).symm (Nat.zero_add _) hF hF
    rw [show nI 0 = (0 : Int32) from rfl] at e1
    rw [e1, e2]
    obtain ⟨hh1, hh2, hh3, hh4, hh5, hh6⟩ := hh
    obtain ⟨υ, u1, u2, u3⟩ := ec_recall hh1 hv
    have U := tc_back hh3 u2
    unfold fc_hh_times_b103 fm_times_b111
    simp only [qhl, u1, qbs]
    rw [show (1 : Int32) = nI 1 from rfl, pb_add]
    by_cases cc : X < x2
    · simp only [if_pos cc]
      rw [show c + (0 : Int32) = c from Int32.add_zero c]
      exact ih (k + 1) q1 q2 c υ f2 z2 U ⟨q', hq0', hh2.tr u3⟩ hz2 (fun w => by omega) hh6 (by omega) (by omega) (by omega)
    · simp only [if_neg cc]
      exact ih (k + 1) q1 q2 (c + nI 1) υ f2 z2 U ⟨q', hq0', hh2.tr u3⟩ hz2 (fun w => by omega) hh6 (by omega) (by omega) (by omega)
theorem st_times (h : Inv τ σ) (x1 x2 : Int32) : stp (fc_hh_times x1 x2 τ) (fm_times x1 x2 σ) := by
  obtain ⟨⟨v, pr, tt⟩, -⟩ := id h
  obtain ⟨t1, t2, t3, t4, t5, t6, t7⟩ := id tt
  have b1 := t3.2.1
  have b2 := t3.2.2.2.1
  unfold fc_hh_times fm_times
  rw [rg_within, ri_1_40, ri_0_999, qbs, qbs, qbs]
  by_cases c1 : (1 : Int32) ≤ x1 ∧ x1 ≤ 40
  · rw [if_neg (show ¬ x1 < 1 by rw [rg_nlt]; exact c1.1), if_neg (show ¬ (40 : Int32) < x1 by rw [rg_nlt]; exact c1.2)]
    obtain ⟨n, hn1, hn, rfl⟩ := rk_1_40 c1
    by_cases c2 : (0 : Int32) ≤ x2 ∧ x2 ≤ 999
    · simp only [if_pos c1, if_pos c2, one0, not_false_eq_true, if_true, if_false]
      obtain ⟨g, g1, g2⟩ := aside0 σ
      have hF : n < hFU := by unfold hFU; omega
      obtain ⟨r, τ2, q, e1, e2, e3, e4⟩ := to_l (τ := τ) (g := g) t1 t3 t4 t5 g2 hn x2 (σ 0 4) n 0 hFU hFU (nI 0) τ (σ 0) (σ 0 4) t2 ⟨τ.1 109, t7, by rw [sc_id]; exact eqC.rf⟩ rfl (fun _ => rfl) (fun _ _ => rfl) (Nat.zero_add _) hF hF
      rw [show sf (sf σ 3 g) 0 (σ 0) = sf σ 3 g from sf_id (sf σ 3 g) 0] at e4
      rw [ec_moment t2 t3, show (16 : Int32) = nI 16 from rfl, ec_hoursOf t2 t3 (by decide), show min 16 (v 3 0 - v 2 0) = v 3 0 - v 2 0 by omega, g1, qbs, qhl, qbs, qbs, show τ.1 109 0 = σ 0 4 from t7, show (0 : Int32) = nI 0 from rfl, e1, e4]
      have F : frC τ (sc τ2 109 fun _ => σ 0 4) := ((frC_sc (show ¬ rlC 109 by unfold rlC; omega)).tr e3.fr).tr (frC_sc (show ¬ rlC 109 by unfold rlC; omega))
      refine ⟨_, _, _, rfl, rfl, Inv_fr h frM_3 F ⟨v, pr, t1, tc_zed e2 _, t3, t4, t5, ?_, rfl⟩⟩
      show τ2.1 104 0 = σ 0 3
      rw [e3.1 104 (by decide) (by decide) (by decide) (by decide) (by decide) (by decide), sc_ne (by decide)]
      exact t6
    · simp only [if_pos c1, if_neg c2, one0, zer0, not_true_eq_false, if_true, if_false]
      exact ⟨_, τ, σ, rfl, rfl, h⟩
  · simp only [if_neg c1, zer0, if_true]
    by_cases d1 : x1 < 1
    · rw [if_pos d1]
      exact ⟨_, τ, σ, rfl, rfl, h⟩
    · rw [if_neg d1, if_pos (show (40 : Int32) < x1 by rw [← rg_nle]; exact fun w => c1 ⟨rg_nlt ▸ d1, w⟩)]
      exact ⟨_, τ, σ, rfl, rfl, h⟩
end S16
