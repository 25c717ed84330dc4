/-! PURE: steps of shows, right -/
section S14
variable {τ : SC} {σ : SM} {v : VT} {pr : List RU}
theorem shows_l {g : Nat → Int32} (hv : vOK v) (hp : pOK pr) (hpc : vclen pr ≤ 200) (hg : ∀ j, j < 46 → g j = σ 0 j) {a : Nat} (ha : a ≤ 99) : ∀ (m k n1 n2 : Nat) (τ' : SC) (f' : Nat → Int32) (v' : VT), MV τ (σ 0) v pr τ' f' v' → v' 2 0 = v 2 0 + k → k + m = v 3 0 - v 2 0 → m + 1 < n1 → m + 1 < n2 → RD τ σ v pr (fc_to_hourThatShows_l19 n1 (nI a) (nI (vMom v)) (nI (v 3 0 - v 2 0)) (-3 : Int32) (nI k) τ') (fm_shows_l22 n2 (nI a) (-3 : Int32) (sf (sf σ 3 g) 0 f')) := by
  have b1 := hv.2.1
  have b2 := hv.2.2.2.1
  have b6 := hv.1
  intro m
  induction m with
  | zero =>
    intro k n1 n2 τ' f' v' h hk hm h1 h2
    obtain ⟨q1, rfl⟩ : ∃ q, n1 = q + 1 := ⟨n1 - 1, by omega⟩
    obtain ⟨q2, rfl⟩ : ∃ q, n2 = q + 1 := ⟨n2 - 1, by omega⟩
    obtain ⟨υ, e1, e2, e3, e4⟩ := mv_end h hv hg
    have h30 : v' 3 0 = v 3 0 := congrFun (h.2.2.1.at (by decide)) 0
    unfold fc_to_hourThatShows_l19 fm_shows_l22
    rw [if_pos (show nI (v 3 0 - v 2 0) ≤ nI k by rw [pb_le (by omega) (by omega)]; omega), e1, mv_over h, if_neg (show ¬ v' 2 0 < v' 3 0 by omega), e4]
    exact ⟨_, υ, g, rfl, rfl, e2, e3⟩
  | succ m ih =>
    intro k n1 n2 τ' f' v' h hk hm h1 h2
    obtain ⟨q1, rfl⟩ : ∃ q, n1 = q + 1 := ⟨n1 - 1, by omega⟩
    obtain ⟨q2, rfl⟩ : ∃ q, n2 = q + 1 := ⟨n2 - 1, by omega⟩
    have h30 : v' 3 0 = v 3 0 := congrFun (h.2.2.1.at (by decide)) 0
    obtain ⟨τ2, f2, e1, e3, e4, -⟩ := mv_pass (ρ := sf σ 3 g) h hp hpc (by omega) (act := 0) (Nat.zero_le _)
    rw [show nI 0 = (0 : Int32) from rfl] at e1 e3
    have H2 : (vPass v' pr 0).2 2 0 = v 2 0 + (k + 1) := by rw [vPass_hour]; omega
    have h30' : (vPass v' pr 0).2 3 0 = v 3 0 := congrFun (e4.2.2.1.at (by decide)) 0
    have h6 := e4.2.2.2.1.2.2.2.2.2.1
    unfold fc_to_hourThatShows_l19 fm_shows_l22
    rw [if_neg (show ¬ nI (v 3 0 - v 2 0) ≤ nI k by rw [pb_le (by omega) (by omega)]; omega), if_neg (show ¬ ¬ (-3 : Int32) = -3 from fun z => z rfl), mv_over h, if_pos (show v' 2 0 < v' 3 0 by omega), e1, if_neg (show ¬ (0 : Int32) ≤ -3 by decide), e3]
    simp only [qbs, qhl, zer0, not_true_eq_false, if_false]
    rw [show τ2.1 106 0 = _ from e4.1.2.2.2.2.1, pb_sf0, e4.2.2.2.2.1.2.2.2.2.1]
    unfold fc_to_hourThatShows_b54 fm_shows_b63
    by_cases c : (vPass v' pr 0).2 6 0 < a
    · have IH := ih (k + 1) q1 q2 τ2 f2 _ e4 H2 (by omega) (by omega) (by omega)
      rw [if_pos (show nI ((vPass v' pr 0).2 6 0) < nI a by rw [pb_lt (by omega) (by omega)]; exact c), if_pos (show nI ((vPass v' pr 0).2 6 0) < nI a by rw [pb_lt (by omega) (by omega)]; exact c), show (1 : Int32) = nI 1 from rfl, pb_add]
      exact IH
    · obtain ⟨p1, rfl⟩ : ∃ q, q1 = q + 1 := ⟨q1 - 1, by omega⟩
      obtain ⟨p2, rfl⟩ : ∃ q, q2 = q + 1 := ⟨q2 - 1, by omega⟩
      obtain ⟨υ, u1, u2, u3, u4⟩ := mv_end e4 hv hg
      rw [if_neg (show ¬ nI ((vPass v' pr 0).2 6 0) < nI a by rw [pb_lt (by omega) (by omega)]; exact c), if_neg (show ¬ nI ((vPass v' pr 0).2 6 0) < nI a by rw [pb_lt (by omega) (by omega)]; exact c), show τ2.1 102 0 = _ from e4.1.2.1, e4.2.2.2.2.1.2.1, H2, show (1 : Int32) = nI 1 from rfl, pb_sub (by omega), pb_add]
      unfold fc_to_hourThatShows_l19 fm_shows_l22
      rw [u1, u4, if_pos (nI_m3 (by omega)), mv_over e4, if_pos (show (0 : Int32) ≤ nI (v 2 0 + (k + 1) - 1) from nI_pos' (by omega))]
      simp only [qbs, ite_self]
      exact ⟨_, υ, g, rfl, rfl, u2, u3⟩
theorem st_shows (h : Inv τ σ) (x1 : Int32) : stp (fc_hh_shows x1 τ) (fm_shows x1 σ) := by
  obtain ⟨⟨v, pr, tt⟩, -⟩ := id h
  obtain ⟨t1, t2, t3, t4, t5, t6, t7⟩ := id tt
  have b1 := t3.2.1
  have b2 := t3.2.2.2.1
  unfold fc_hh_shows fm_shows
  rw [rg_within, ri_0_99, qbs, qbs]
  by_cases c1 : (0 : Int32) ≤ x1 ∧ x1 ≤ 99
  · obtain ⟨a, -, ha, rfl⟩ := rk_0_99 c1
    simp only [if_pos c1, one0, not_false_eq_true, if_true, if_false]
    obtain ⟨g, g1, g2⟩ := aside0 σ
    have hF : v 3 0 - v 2 0 + 1 < hFU := by unfold hFU; omega
    have R := shows_l (g := g) t3 t4 t5 g2 ha (v 3 0 - v 2 0) 0 hFU hFU τ (σ 0) v (MV.rf t1 t2 t3) (Nat.add_zero _).symm (Nat.zero_add _) hF hF
    rw [show sf (sf σ 3 g) 0 (σ 0) = sf σ 3 g from sf_id (sf σ 3 g) 0] at R
    unfold fc_to_hourThatShows
    rw [ec_moment t2 t3, show (16 : Int32) = nI 16 from rfl, ec_hoursOf t2 t3 (by decide), show min 16 (v 3 0 - v 2 0) = v 3 0 - v 2 0 by omega, g1, qbs, qbs, qbs, show (0 : Int32) = nI 0 from rfl]
    obtain ⟨r, υ, g', e1, e2, e3, e4⟩ := R
    rw [e1, e2, qbs]
    exact RD.stp h tt ⟨r, υ, g', rfl, rfl, e3, e4⟩
  · simp only [if_neg c1, zer0, not_true_eq_false, if_false, if_true]
    exact ⟨_, τ, σ, rfl, rfl, h⟩
theorem right_l {g : Nat → Int32} (hv : vOK v) (hp : pOK pr) (hpc : vclen pr ≤ 200) (hg : ∀ j, j < 46 → g j = σ 0 j) {a : Nat} (ha : a ≤ 1) : ∀ (m k n1 n2 : Nat) (y z : Int32) (τ' : SC) (f' : Nat → Int32) (v' : VT), MV τ (σ 0) v pr τ' f' v' → v' 2 0 = v 2 0 + k → k + m = v 3 0 - v 2 0 → m < n1 → m < n2 → RD τ σ v pr (fc_hh_right_l37 (fun x1 x2 x4 x5 τ => (Option.bind (fc_to_recall x2 τ) fun τ9 => (if ¬ x1 = 0 then (some (x5, τ9)) else (some (x4, τ9))))) n1 (nI a) (nI (vMom v)) (nI (v 3 0 - v 2 0)) y z (nI k) τ') (fm_right_l19 n2 (nI a) (if a = 1 then z else y) (sf (sf σ 3 g) 0 f')) := by
  have b1 := hv.2.1
  have b2 := hv.2.2.2.1
  have b6 := hv.1
  intro m
  induction m with
  | zero =>
    intro k n1 n2 y z τ' f' v' h hk hm h1 h2
    obtain ⟨q1, rfl⟩ : ∃ q, n1 = q + 1 := ⟨n1 - 1, by omega⟩
    obtain ⟨q2, rfl⟩ : ∃ q, n2 = q + 1 := ⟨n2 - 1, by omega⟩
    obtain ⟨υ, e1, e2, e3, e4⟩ := mv_end h hv hg
    have h30 : v' 3 0 = v 3 0 := congrFun (h.2.2.1.at (by decide)) 0
    unfold fc_hh_right_l37 fm_right_l19
    rw [if_pos (show nI (v 3 0 - v 2 0) ≤ nI k by rw [pb_le (by omega) (by omega)]; omega), e1, mv_over h, if_neg (show ¬ v' 2 0 < v' 3 0 by omega), e4]
    rcases (show a = 0 ∨ a = 1 by omega) with rfl | rfl
    · exact ⟨_, υ, g, rfl, rfl, e2, e3⟩
    · exact ⟨_, υ, g, rfl, rfl, e2, e3⟩
  | succ m ih =>
    intro k n1 n2 y z τ' f' v' h hk hm h1 h2
    obtain ⟨q1, rfl⟩ : ∃ q, n1 = q + 1 := ⟨n1 - 1, by omega⟩
    obtain ⟨q2, rfl⟩ : ∃ q, n2 = q + 1 := ⟨n2 - 1, by omega⟩
    have h30 : v' 3 0 = v 3 0 := congrFun (h.2.2.1.at (by decide)) 0
    obtain ⟨τ2, f2, e1, e2, e3, e4⟩ := mv_rest (ρ := sf σ 3 g) h hp hpc (by omega)
    have H2 : (vPass v' pr (vRest v')).2 2 0 = v 2 0 + (k + 1) := by rw [vPass_hour]; omega
    have h30' : (vPass v' pr (vRest v')).2 3 0 = v 3 0 := congrFun (e4.2.2.1.at (by decide)) 0
    have h6 := e4.2.2.2.1.2.2.2.2.2.1
    have IH := fun y z => ih (k + 1) q1 q2 y z τ2 f2 _ e4 H2 (by omega) (by omega) (by omega)
    unfold fc_hh_right_l37 fm_right_l19
    rw [if_neg (show ¬ nI (v 3 0 - v 2 0) ≤ nI k by rw [pb_le (by omega) (by omega)]; omega), mv_over h, if_pos (show v' 2 0 < v' 3 0 by omega), e1, e2]
    simp only [qbs, qhl, zer0, not_true_eq_false, if_false]
    rw [e3]
    simp only [qbs, qhl]
    rw [show τ2.1 106 0 = _ from e4.1.2.2.2.2.1, show τ2.1 102 0 = _ from e4.1.2.1, pb_sf0, e4.2.2.2.2.1.2.2.2.2.1, e4.2.2.2.2.1.2.1, H2, show (4 : Int32) = nI 4 from rfl, pb_mul, em_apart (by omega) (by omega), pb_habs _ (by omega) _ (by omega), qbs]
    unfold fc_hh_right_b88 fm_right_b76
    simp only [qhl]
    rw [show (1 : Int32) = nI 1 from rfl, pb_add]
    rcases (show a = 0 ∨ a = 1 by omega) with rfl | rfl
    · rw [if_pos (show ¬ nI 0 = nI 1 by decide), if_neg (show ¬ (0 : Nat) = 1 by decide)]
      by_cases c : nI (vab ((vPass v' pr (vRest v')).2 6 0) (4 * (v 2 0 + (k + 1)))) = 0
      · rw [if_neg (show ¬ ¬ nI (vab ((vPass v' pr (vRest v')).2 6 0) (4 * (v 2 0 + (k + 1)))) = 0 from fun q => q c), if_neg (show ¬ ¬ nI (vab ((vPass v' pr (vRest v')).2 6 0) (4 * (v 2 0 + (k + 1)))) = 0 from fun q => q c)]
        exact IH (y + nI 1) (z + nI (vab ((vPass v' pr (vRest v')).2 6 0) (4 * (v 2 0 + (k + 1)))))
      · rw [if_pos (show ¬ nI (vab ((vPass v' pr (vRest v')).2 6 0) (4 * (v 2 0 + (k + 1)))) = 0 from c), if_pos (show ¬ nI (vab ((vPass v' pr (vRest v')).2 6 0) (4 * (v 2 0 + (k + 1)))) = 0 from c), show y + (0 : Int32) = y from Int32.add_zero y]
        exact IH y (z + nI (vab ((vPass v' pr (vRest v')).2 6 0) (4 * (v 2 0 + (k + 1)))))
    · rw [if_neg (show ¬ ¬ nI 1 = nI 1 from fun q => q rfl), if_pos (show (1 : Nat) = 1 from rfl)]
      by_cases c : nI (vab ((vPass v' pr (vRest v')).2 6 0) (4 * (v 2 0 + (k + 1)))) = 0
      · rw [if_neg (show ¬ ¬ nI (vab ((vPass v' pr (vRest v')).2 6 0) (4 * (v 2 0 + (k + 1)))) = 0 from fun q => q c)]
        exact IH (y + nI 1) (z + nI (vab ((vPass v' pr (vRest v')).2 6 0) (4 * (v 2 0 + (k + 1)))))
      · rw [if_pos (show ¬ nI (vab ((vPass v' pr (vRest v')).2 6 0) (4 * (v 2 0 + (k + 1)))) = 0 from c)]
        exact IH y (z + nI (vab ((vPass v' pr (vRest v')).2 6 0) (4 * (v 2 0 + (k + 1)))))
theorem st_right (h : Inv τ σ) (x1 : Int32) : stp (fc_hh_right x1 τ) (fm_right x1 σ) := by
  obtain ⟨⟨v, pr, tt⟩, -⟩ := id h
  obtain ⟨t1, t2, t3, t4, t5, t6, t7⟩ := id tt
  have b1 := t3.2.1
  have b2 := t3.2.2.2.1
  unfold fc_hh_right fm_right
  rw [rg_within, ri_0_1, qbs, qbs]
  by_cases c1 : (0 : Int32) ≤ x1 ∧ x1 ≤ 1
  · obtain ⟨a, -, ha, rfl⟩ := rk_0_1 c1
    simp only [if_pos c1, one0, not_false_eq_true, if_true, if_false]
    obtain ⟨g, g1, g2⟩ := aside0 σ
    have hF : v 3 0 - v 2 0 < hFU := by unfold hFU; omega
    have R := right_l (g := g) t3 t4 t5 g2 ha (v 3 0 - v 2 0) 0 hFU hFU (nI 0) (nI 0) τ (σ 0) v (MV.rf t1 t2 t3) (Nat.add_zero _).symm (Nat.zero_add _) hF hF
    rw [show sf (sf σ 3 g) 0 (σ 0) = sf σ 3 g from sf_id (sf σ 3 g) 0, ite_self] at R
    rw [ec_moment t2 t3, show (16 : Int32) = nI 16 from rfl, ec_hoursOf t2 t3 (by decide), show min 16 (v 3 0 - v 2 0) = v 3 0 - v 2 0 by omega, g1, qbs, qbs, qbs, show (0 : Int32) = nI 0 from rfl]
    exact RD.stp h tt R
  · simp only [if_neg c1, zer0, not_true_eq_false, if_false, if_true]
    exact ⟨_, τ, σ, rfl, rfl, h⟩
end S14
