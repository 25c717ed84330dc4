/-! PURE: steps of when, shows, right -/
section S13
variable {τ : SC} {σ : SM} {v : VT} {pr : List RU}
theorem nI_m3 {k : Nat} (hk : k < 2147483648) : ¬ nI k = (-3 : Int32) := by
  intro e
  have := congrArg Int32.toInt e
  rw [nI_toInt (by omega), show (-3 : Int32).toInt = -3 by decide] at this
  omega
theorem aside0 (σ : SM) : ∃ g, fm_laysAside (0 : Int32) σ = some (sf σ 3 g) ∧ (∀ j, j < 46 → g j = σ 0 j) := by
  obtain ⟨g, g1, g2, g3⟩ := em_laysAside (σ := σ) (l := 0) (by decide)
  exact ⟨g, g1, fun j hj => by have := g2 j hj; rw [Nat.mul_zero, Nat.zero_add] at this; exact this⟩
theorem when_l {g : Nat → Int32} (hv : vOK v) (hp : pOK pr) (hpc : vclen pr ≤ 200) (hg : ∀ j, j < 46 → g j = σ 0 j) {a : Nat} (ha : a < v 13 0) : ∀ (m k n1 n2 : Nat) (τ' : SC) (f' : Nat → Int32) (v' : VT), MV τ (σ 0) v pr τ' f' v' → vbit (v' 7 0) a = 1 → v' 2 0 = v 2 0 + k → k + m = v 3 0 - v 2 0 → m + 1 < n1 → m + 1 < n2 → RD τ σ v pr (fc_to_hourOfLeaving_l19 n1 (nI a) (nI (vMom v)) (nI (v 3 0 - v 2 0)) (-3 : Int32) (nI k) τ') (fm_when_l27 (fun x1 σ => (fm_when_b56 x1 σ)) n2 (nI a) (sf (sf σ 3 g) 0 f')) := by
  have b1 := hv.2.1
  have b2 := hv.2.2.2.1
  have b6 := hv.1
  have FIN : ∀ (k : Nat) (τ' : SC) (f' : Nat → Int32) (v' : VT), MV τ (σ 0) v pr τ' f' v' → ∃ υ, fc_to_recall (nI (vMom v)) τ' = some υ ∧ twC υ 100 v pr ∧ eqC τ υ ∧ fm_when_b56 (nI a) (sf (sf σ 3 g) 0 f') = some (if vbit (v' 7 0) a = 1 then -3 else nI (v' 2 0) - 1, sf σ 3 g) := by
    intro k τ' f' v' h
    obtain ⟨υ, e1, e2, e3, e4⟩ := mv_end h hv hg
    obtain ⟨h1, h2, h3, h4, h5, h6⟩ := h
    have h13 : v' 13 0 = v 13 0 := congrFun (h3.at (by decide)) 0
    have hbt := vbit_lt (v' 7 0) a
    refine ⟨υ, e1, e2, e3, ?_⟩
    unfold fm_when_b56
    rw [em_its4 (σ := sf (sf σ 3 g) 0 f') h5 (by omega) h4, e4]
    simp only [qbs, qhl]
    by_cases c : vbit (v' 7 0) a = 1
    · rw [c, if_pos rfl]
      rfl
    · rw [if_neg c, if_pos (show ¬ nI (vbit (v' 7 0) a) = (1 : Int32) by rw [show (1 : Int32) = nI 1 from rfl, pb_eq (by omega) (by omega)]; exact c)]
      rw [pb_sf0, h5.2.1]
  intro m
  induction m with
  | zero =>
    intro k n1 n2 τ' f' v' h hb hk hm h1 h2
    obtain ⟨q1, rfl⟩ : ∃ q, n1 = q + 1 := ⟨n1 - 1, by omega⟩
    obtain ⟨q2, rfl⟩ : ∃ q, n2 = q + 1 := ⟨n2 - 1, by omega⟩
    obtain ⟨υ, e1, e2, e3, e4⟩ := FIN k τ' f' v' h
    have h30 : v' 3 0 = v 3 0 := congrFun (h.2.2.1.at (by decide)) 0
    unfold fc_to_hourOfLeaving_l19 fm_when_l27
    rw [if_pos (show nI (v 3 0 - v 2 0) ≤ nI k by rw [pb_le (by omega) (by omega)]; omega), e1, mv_over h, if_neg (show ¬ v' 2 0 < v' 3 0 by omega), e4, if_pos hb]
    exact ⟨_, υ, g, rfl, rfl, e2, e3⟩
  | succ m ih =>
    intro k n1 n2 τ' f' v' h hb hk hm h1 h2
    obtain ⟨q1, rfl⟩ : ∃ q, n1 = q + 1 := ⟨n1 - 1, by omega⟩
    obtain ⟨q2, rfl⟩ : ∃ q, n2 = q + 1 := ⟨n2 - 1, by omega⟩
    have h30 : v' 3 0 = v 3 0 := congrFun (h.2.2.1.at (by decide)) 0
    have h13 : v' 13 0 = v 13 0 := congrFun (h.2.2.1.at (by decide)) 0
    obtain ⟨τ2, f2, e1, e2, e3, e4⟩ := mv_rest (ρ := sf σ 3 g) h hp hpc (by omega)
    have H2 : (vPass v' pr (vRest v')).2 2 0 = v 2 0 + (k + 1) := by rw [vPass_hour]; omega
    have h30' : (vPass v' pr (vRest v')).2 3 0 = v 3 0 := congrFun (e4.2.2.1.at (by decide)) 0
    have w64 := (vW64 e4.2.2.2.1).1
    have hbt := vbit_lt ((vPass v' pr (vRest v')).2 7 0) a
    unfold fc_to_hourOfLeaving_l19 fm_when_l27
    rw [if_neg (show ¬ nI (v 3 0 - v 2 0) ≤ nI k by rw [pb_le (by omega) (by omega)]; omega), if_neg (show ¬ ¬ (-3 : Int32) = -3 from fun z => z rfl), mv_over h, if_pos (show v' 2 0 < v' 3 0 by omega), e1, e2, em_its4 (σ := sf (sf σ 3 g) 0 f') h.2.2.2.2.1 (by omega) h.2.2.2.1, hb]
    simp only [qbs, qhl, zer0, not_true_eq_false, if_false]
    rw [if_neg (show ¬ ¬ nI 1 = (1 : Int32) from fun z => z rfl), e3]
    simp only [qbs, qhl]
    rw [show τ2.1 107 0 = _ from e4.1.2.2.2.2.2.1, ec_bit _ w64 _ (by omega), qbs]
    unfold fc_to_hourOfLeaving_b56
    by_cases c : vbit ((vPass v' pr (vRest v')).2 7 0) a = 1
    · have IH := ih (k + 1) q1 q2 τ2 f2 _ e4 c H2 (by omega) (by omega) (by omega)
      rw [c, if_pos (show ¬ nI 1 = 0 by decide), show (1 : Int32) = nI 1 from rfl, pb_add]
      exact IH
    · obtain ⟨p1, rfl⟩ : ∃ q, q1 = q + 1 := ⟨q1 - 1, by omega⟩
      obtain ⟨p2, rfl⟩ : ∃ q, q2 = q + 1 := ⟨q2 - 1, by omega⟩
      have c0 : vbit ((vPass v' pr (vRest v')).2 7 0) a = 0 := by omega
      obtain ⟨υ, u1, u2, u3, u4⟩ := FIN k τ2 f2 _ e4
      rw [c0, if_neg (show ¬ ¬ nI 0 = 0 from fun z => z rfl), show τ2.1 102 0 = _ from e4.1.2.1, H2]
      rw [show (1 : Int32) = nI 1 from rfl, pb_sub (by omega), pb_add]
      rw [if_neg c, H2, show (1 : Int32) = nI 1 from rfl, pb_sub (by omega)] at u4
      unfold fc_to_hourOfLeaving_l19 fm_when_l27
      rw [u1, if_pos (nI_m3 (by omega)), mv_over e4, em_its4 (σ := sf (sf σ 3 g) 0 f2) e4.2.2.2.2.1 (by have : (vPass v' pr (vRest v')).2 13 0 = v 13 0 := congrFun (e4.2.2.1.at (by decide)) 0; omega) e4.2.2.2.1, c0]
      simp only [qbs, ite_self]
      rw [if_pos (show ¬ nI 0 = (1 : Int32) by decide), u4]
      simp only [ite_self]
      exact ⟨_, υ, g, rfl, rfl, u2, u3⟩
theorem st_when (h : Inv τ σ) (x1 : Int32) : stp (fc_hh_when x1 τ) (fm_when x1 σ) := by
  obtain ⟨⟨v, pr, tt⟩, -⟩ := id h
  obtain ⟨t1, t2, t3, t4, t5, t6, t7⟩ := id tt
  have b6 := t3.1
  have b1 := t3.2.1
  have b2 := t3.2.2.2.1
  unfold fc_hh_when fm_when
  rw [rg_has τ (by omega) t2.1, rg_isOne σ (by omega) t1.1, qbs, qbs]
  by_cases c1 : 0 ≤ x1 ∧ x1 < nI (v 13 0)
  · obtain ⟨a, ha, rfl⟩ := rg_one (by omega) c1
    have hbt := vbit_lt (v 7 0) a
    simp only [if_pos c1, one0, not_false_eq_true, if_true]
    rw [show τ.1 107 0 = _ from t2.2.2.2.2.2.1, ec_bit _ (vW64 t3).1 _ (by omega), em_its4 t1 ha t3, qbs, qbs]
    by_cases c : vbit (v 7 0) a = 1
    · rw [c, if_pos (show ¬ nI 1 = 0 by decide), if_pos (show ¬ nI 1 = 0 by decide)]
      obtain ⟨g, g1, g2⟩ := aside0 σ
      have hF : v 3 0 - v 2 0 + 1 < hFU := by unfold hFU; omega
      have R := when_l (g := g) t3 t4 t5 g2 ha (v 3 0 - v 2 0) 0 hFU hFU τ (σ 0) v (MV.rf t1 t2 t3) c (Nat.add_zero _).symm (Nat.zero_add _) hF hF
      rw [show sf (sf σ 3 g) 0 (σ 0) = sf σ 3 g from sf_id (sf σ 3 g) 0] at R
      unfold fc_to_hourOfLeaving
      rw [ec_moment t2 t3, show (16 : Int32) = nI 16 from rfl, ec_hoursOf t2 t3 (by decide), show min 16 (v 3 0 - v 2 0) = v 3 0 - v 2 0 by omega, g1, qbs, qbs, qbs, show (0 : Int32) = nI 0 from rfl]
      obtain ⟨r, υ, g', e1, e2, e3, e4⟩ := R
      rw [e1, e2, qbs]
      exact RD.stp h tt ⟨r, υ, g', rfl, rfl, e3, e4⟩
    · rw [show vbit (v 7 0) a = 0 by omega, if_neg (show ¬ ¬ nI 0 = 0 from fun z => z rfl), if_neg (show ¬ ¬ nI 0 = 0 from fun z => z rfl)]
      exact ⟨_, τ, σ, rfl, rfl, h⟩
  · simp only [if_neg c1, zer0, not_true_eq_false, if_false]
    exact ⟨_, τ, σ, rfl, rfl, h⟩
end S13
