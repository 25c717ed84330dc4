/-! PURE: step of prove -/
section PV
variable {τ : SC} {σ : SM} {v : VT} {pr : List RU}
theorem pS_acts : ∀ m v, ∀ j, (pS pr m v).2.2.getD j 0 ≤ v 13 0 := by
  intro m
  induction m with
  | zero => intro v j; exact Nat.zero_le _
  | succ m ih =>
    intro v
    have key : ∀ a, a ≤ v 13 0 → ∀ j, (pI pr m v a).2.2.getD j 0 ≤ v 13 0 := by
      intro a ha j
      cases j with
      | zero => exact ha
      | succ j =>
        show (pS pr m (vPass v pr a).2).2.2.getD j 0 ≤ v 13 0
        have := ih (vPass v pr a).2 j
        rwa [vPass_13] at this
    rw [pS_s]
    refine pf_ind _ (fun x : P3 => ∀ j, x.2.2.getD j 0 ≤ v 13 0) _ _ _ (key 0 (Nat.zero_le _)) (fun y b h1 h2 hy => ?_)
    have kb := key b (by omega)
    show ∀ j, (pcomb y (pI pr m v b)).2.2.getD j 0 ≤ v 13 0
    unfold pcomb
    split
    · exact kb
    · split
      · exact hy
      · exact hy
theorem tc_lo (h : twC τ 100 v pr) {k : Nat} (hk : k < 100) (f : Nat → Int32) : twC (sc τ k f) 100 v pr := twC_cg (fun j _ _ => sc_ne (by omega)) h
theorem sf_sw (σ : SM) (r r' g f : Nat → Int32) : sf (sf (sf (sf σ 26 r) 3 g) 0 f) 26 r' = sf (sf (sf σ 26 r') 3 g) 0 f := by
  funext i
  unfold sf
  by_cases e0 : i = 0
  · subst e0
    rfl
  · by_cases e3 : i = 3
    · subst e3
      rfl
    · by_cases e26 : i = 26
      · subst e26
        rfl
      · simp only [if_neg e0, if_neg e3, if_neg e26]
theorem eqP_cong {a b : SC} {k : Nat} {f : Nat → Int32} (h : eqP a b) : eqP (sc a k f) (sc b k f) := by
  refine ⟨fun j a1 a2 a3 a4 a5 a6 a7 a8 => ?_, h.2⟩
  by_cases e : j = k
  · subst e
    rw [sc_at, sc_at]
  · rw [sc_ne e, sc_ne e, h.1 j a1 a2 a3 a4 a5 a6 a7 a8]
theorem pv_l {τ1 : SC} {σ1 : SM} {g : Nat → Int32} {as : List Nat} {m : Nat} (hv : vOK v) (hp : pOK pr) (hpc : vclen pr ≤ 200) (hm : m ≤ 4) (hh : v 2 0 + m ≤ v 3 0) (hac : ∀ j, as.getD j 0 ≤ v 13 0) (h9 : τ1.1 9 0 = nI m) (hca : ∀ j, j < m → τ1.1 (410 + m) j = nI (as.getD j 0)) (h17 : σ1 17 0 = nI m) (h14 : ∀ j, j < m → σ1 14 j = nI (as.getD j 0)) (hg : ∀ j, j < 46 → g j = σ1 0 j) : ∀ (q k n1 n2 : Nat) (r r2 : Nat → Int32) (τ' : SC) (f' : Nat → Int32) (v' : VT), k + q = m → q < n1 → q < n2 → (∀ j, j < 12 → r j = r2 j) → v' 2 0 = v 2 0 + k → MV (sc τ1 8 r) (σ1 0) v pr τ' f' v' → ∃ r' r2' υ, (∀ j, j < 12 → r' j = r2' j) ∧ fc_hh_prove_l44 (fun x2 τ => (Option.bind (fc_to_recall x2 τ) fun τ14 => (some ((τ14.1 9 0), τ14)))) n1 (nI (vMom v)) (nI k) τ' = some (nI m, υ) ∧ fm_prove_l22 (fun σ => (Option.bind (fm_laysBack (0 : Int32) σ) fun σ13 => (hl (sf σ13 27 (fun _ => (σ13 17 0))) fun σ14 => (some ((σ14 27 0), σ14))))) n2 (nI k) (sf (sf (sf σ1 26 r2) 3 g) 0 f') = some (nI m, sf (sf (sf σ1 26 r2') 3 g) 27 (fun _ => nI m)) ∧ twC υ 100 v pr ∧ eqC (sc τ1 8 r') υ := by
  have E9 : ∀ r τ', eqC (sc τ1 8 r) τ' → τ'.1 9 0 = nI m := fun r τ' h => by
    rw [h.1 9 (by decide) (by decide) (by decide) (by decide) (by decide) (by decide), sc_ne (by decide)]
    exact h9
  have E8 : ∀ r τ', eqC (sc τ1 8 r) τ' → τ'.1 8 = r := fun r τ' h => by
    rw [h.1 8 (by decide) (by decide) (by decide) (by decide) (by decide) (by decide), sc_at]
  intro q
  induction q with
  | zero =>
    intro k n1 n2 r r2 τ' f' v' hq h1 h2 hr hk hM
    obtain ⟨q1, rfl⟩ : ∃ q, n1 = q + 1 := ⟨n1 - 1, by omega⟩
    obtain ⟨q2, rfl⟩ : ∃ q, n2 = q + 1 := ⟨n2 - 1, by omega⟩
    obtain ⟨υ, u1, u2, u3, u4⟩ := mv_end (σ := sf σ1 26 r2) (g := g) hM hv hg
    unfold fc_hh_prove_l44 fm_prove_l22
    rw [E9 r τ' hM.2.1, if_pos (show nI m ≤ nI k by rw [pb_le (by omega) (by omega)]; omega), show (sf (sf (sf σ1 26 r2) 3 g) 0 f') 17 0 = nI m from h17, if_pos (show nI m ≤ nI k by rw [pb_le (by omega) (by omega)]; omega), u1, u4, qbs, qbs, qhl, E9 r υ u3]
    rw [show (sf (sf σ1 26 r2) 3 g) 17 0 = nI m from h17]
    exact ⟨r, r2, υ, hr, rfl, rfl, u2, u3⟩
  | succ q ih =>
    intro k n1 n2 r r2 τ' f' v' hq h1 h2 hr hk hM
    obtain ⟨q1, rfl⟩ : ∃ q, n1 = q + 1 := ⟨n1 - 1, by omega⟩
    obtain ⟨q2, rfl⟩ : ∃ q, n2 = q + 1 := ⟨n2 - 1, by omega⟩
    obtain ⟨m1, m2, m3, m4, m5, m6⟩ := id hM
    have h30 : v' 3 0 = v 3 0 := congrFun (m3.at (by decide)) 0
    have h13 : v' 13 0 = v 13 0 := congrFun (m3.at (by decide)) 0
    have IH := fun r r2 τ' f' v' => ih (k + 1) q1 q2 r r2 τ' f' v' (by omega) (by omega) (by omega)
    rw [fc_hh_prove_l44, fm_prove_l22]
    generalize fc_hh_prove_l44 (fun x2 τ => (Option.bind (fc_to_recall x2 τ) fun τ14 => (some ((τ14.1 9 0), τ14)))) q1 = KC at IH ⊢
    generalize fm_prove_l22 (fun σ => (Option.bind (fm_laysBack (0 : Int32) σ) fun σ13 => (hl (sf σ13 27 (fun _ => (σ13 17 0))) fun σ14 => (some ((σ14 27 0), σ14))))) q2 = KM at IH ⊢
    rw [E9 r τ' m2, if_neg (show ¬ nI m ≤ nI k by rw [pb_le (by omega) (by omega)]; omega), show (sf (sf (sf σ1 26 r2) 3 g) 0 f') 17 0 = nI m from h17, if_neg (show ¬ nI m ≤ nI k by rw [pb_le (by omega) (by omega)]; omega)]
    have ea : τ'.1 (410 + m) k = nI (as.getD k 0) := by
      rw [eqC_hi m2 (by omega), sc_ne (by omega)]
      exact hca k (by omega)
    have em : σ1 14 k = nI (as.getD k 0) := h14 k (by omega)
    have ha := hac k
    generalize as.getD k 0 = a at ea em ha
    simp only [show (3 : Int32) = nI 3 from rfl, show (2 : Int32) = nI 2 from rfl, nI_a1, pb_mul, pb_add, Nat.mul_comm k 3]
    rw [pb_in (show m < 2147483648 by omega) (show m < 5 by omega), pb_in (show k < 2147483648 by omega) (show k < 4 by omega), pb_in (show 3 * k < 2147483648 by omega) (show 3 * k < 12 by omega), pb_in (show 3 * k + 1 < 2147483648 by omega) (show 3 * k + 1 < 12 by omega), pb_in (show 3 * k + 2 < 2147483648 by omega) (show 3 * k + 2 < 12 by omega)]
    rw [pb_cl (show m < 2147483648 by omega), pb_cl (show k < 2147483648 by omega), pb_cl (show 3 * k < 2147483648 by omega), pb_cl (show 3 * k + 1 < 2147483648 by omega), pb_cl (show 3 * k + 2 < 2147483648 by omega), show decide (m < 5) = true from decide_eq_true (by omega)]
    simp only [pb_oc, qhl]
    rw [ea, E8 r τ' m2, show (sf (sf (sf σ1 26 r2) 3 g) 0 f') 14 k = nI a from em, show (sf (sf (sf σ1 26 r2) 3 g) 0 f') 26 = r2 from rfl, sf_sw]
    have hMA : MV (sc τ1 8 (upd r (3 * k) (nI a))) (σ1 0) v pr (sc τ' 8 (upd r (3 * k) (nI a))) f' v' := ⟨tc_lo m1 (by decide) _, eqC_cong m2, m3, m4, m5, m6⟩
    obtain ⟨τ2, f2, e1, e3, e4, -⟩ := mv_pass (ρ := sf (sf σ1 26 (upd r2 (3 * k) (nI a))) 3 g) hMA hp hpc (show v' 2 0 < v' 3 0 by omega) (show a ≤ v' 13 0 by omega)
    rw [show (sf (sf (sf σ1 26 (upd r2 (3 * k) (nI a))) 3 g) 0 f') 14 k = nI a from em, e1, e3]
    simp only [qbs, qhl]
    obtain ⟨w1, w2, w3, w4, w5, w6⟩ := id e4
    rw [E8 _ τ2 w2, show (sf (sf (sf σ1 26 (upd r2 (3 * k) (nI a))) 3 g) 0 f2) 26 = upd r2 (3 * k) (nI a) from rfl, sf_sw, em_done (σ := sf (sf (sf σ1 26 (upd (upd r2 (3 * k) (nI a)) (3 * k + 1) (nI (vPass v' pr a).1))) 3 g) 0 f2) w5 w4, qbs, show (sf (sf (sf σ1 26 (upd (upd r2 (3 * k) (nI a)) (3 * k + 1) (nI (vPass v' pr a).1))) 3 g) 0 f2) 26 = upd (upd r2 (3 * k) (nI a)) (3 * k + 1) (nI (vPass v' pr a).1) from rfl, sf_sw, sc_at, sc_sc, show (sc τ2 8 (upd (upd r (3 * k) (nI a)) (3 * k + 1) (nI (vPass v' pr a).1))).1 108 0 = nI ((vPass v' pr a).2 8 0) from w1.2.2.2.2.2.2.1]
    refine IH _ _ _ f2 (vPass v' pr a).2 (fun j hj => ?_) (by rw [vPass_hour]; omega) ⟨tc_lo w1 (by decide) _, eqC_cong w2, w3, w4, w5, w6⟩
    by_cases j2 : j = 3 * k + 2
    · rw [j2, up_eq, up_eq]
    · rw [up_ne j2, up_ne j2]
      by_cases j1 : j = 3 * k + 1
      · rw [j1, up_eq, up_eq]
      · rw [up_ne j1, up_ne j1]
        by_cases j0 : j = 3 * k
        · rw [j0, up_eq, up_eq]
        · rw [up_ne j0, up_ne j0]
          exact hr j hj
theorem Inv_rows {r r2 c c2 : Nat → Int32} {m : Nat} (h : Inv τ σ) (hm : m ≤ 4) (hr : ∀ j, j < 12 → r j = r2 j) (hc : c 0 = nI m) (hc2 : c2 0 = nI m) : Inv (sc (sc τ 9 c) 8 r) (sf (sf σ 26 r2) 27 c2) := by
  obtain ⟨⟨v, pr, t1, t2, t3, t4, t5, t6, t7⟩, ⟨k1, k2⟩, i3, i4, i5, i6, i7⟩ := h
  refine ⟨⟨v, pr, t1, twC_cg (fun k a1 a2 => ?_) t2, t3, t4, t5, t6, t7⟩, ⟨k1, ?_⟩, i3, ⟨m, hm, hc2, hc, hr⟩, i5, i6, i7⟩
  · rw [sc_ne (by omega), sc_ne (by omega)]
  · rcases k2 with k2 | ⟨k2, w, qr, s1, s2, s3, s4, s5, s6, s7⟩
    · exact Or.inl k2
    · exact Or.inr ⟨k2, w, qr, s1, twC_cg (fun k a1 a2 => by rw [sc_ne (by omega), sc_ne (by omega)]) s2, s3, s4, s5, s6, s7⟩
theorem st_prove (h : Inv τ σ) (x1 : Int32) : stp (fc_hh_prove x1 τ) (fm_prove x1 σ) := by
  obtain ⟨⟨v, pr, tt⟩, -, -, ⟨rn, hrn, ro1, ro2, ro3⟩, -⟩ := id h
  obtain ⟨t1, t2, t3, t4, t5, t6, t7⟩ := id tt
  have b1 := t3.2.1
  unfold fc_hh_prove fm_prove
  rw [rg_within, rl_long, qbs, qbs]
  by_cases c1 : (0 : Int32) ≤ x1 ∧ x1 ≤ 4
  · simp only [if_pos c1, one0, not_false_eq_true, if_true]
    obtain ⟨n, -, hn, rfl⟩ := rk_0_4 c1
    obtain ⟨m, hm⟩ : ∃ m, m = min n (v 3 0 - v 2 0) := ⟨_, rfl⟩
    obtain ⟨σ1, f1, f2, f3⟩ := fp_ok (w := 0) t1 t3 t4 hn
    rw [show nI 0 = (0 : Int32) from rfl] at f1
    have hl := (pS_ok (pr := pr) (min n (v 3 0 - v 2 0)) v t3 (by omega)).2.2
    obtain ⟨τ1, s1, s2, s3, s4, s5, s6⟩ := se_ok t4 t5 (min n (v 3 0 - v 2 0)) 8 (by omega) (by omega) (sc τ 9 fun _ => nI (min n (v 3 0 - v 2 0))) v (tc_lo t2 (by decide) _) t3 (by omega)
    rw [ec_moment t2 t3, ec_hoursOf t2 t3 (by omega), qbs, qbs, qhl, sc_at, s1, f1, qbs, qhl, qhl, qbs]
    rw [← hm] at s1 s4 s5 hl f3
    obtain ⟨g, g1, g2⟩ := aside0 σ1
    rw [g1, qbs]
    have e9 : τ1.1 9 0 = nI m := by
      rw [s3.1 9 (by decide) (by decide) (by decide) (by decide) (by decide) (by decide) (by decide) (by decide), sc_at, hm]
    have e8 : τ1.1 8 = τ.1 8 := by
      rw [s3.1 8 (by decide) (by decide) (by decide) (by decide) (by decide) (by decide) (by decide) (by decide), sc_ne (by decide)]
    have hF : m < hFU := by unfold hFU; omega
    obtain ⟨r', r2', υ, u1, u2, u3, u4, u5⟩ := pv_l (τ1 := τ1) (σ1 := σ1) (g := g) (as := (pS pr m v).2.2) t3 t4 t5 (show m ≤ 4 by omega) (by omega) (pS_acts m v) e9 s5 (by rw [f3.2.2.1, hl]) (fun j hj => f3.2.2.2.1 j (by omega)) g2 m 0 hFU hFU (τ1.1 8) (σ1 26) τ1 (σ1 0) v (Nat.zero_add _) hF hF (fun j hj => by rw [e8, f2 26 (by decide) (by decide) (by decide) (by decide) (by decide) (by decide) (by decide) (by decide) (by decide)]; exact ro3 j hj) (Nat.add_zero _).symm (by rw [sc_id]; exact MV.rf (by rw [f2.z]; exact t1) s2 t3)
    rw [sf_id, show sf (sf σ1 3 g) 0 (σ1 0) = sf σ1 3 g from sf_id (sf σ1 3 g) 0, show nI 0 = (0 : Int32) from rfl] at u3
    rw [show nI 0 = (0 : Int32) from rfl] at u2
    rw [u2, u3]
    obtain ⟨a1, a2, a3, a4, a5, a6, a7, a8, a9, a10, a11, a12, a13, a14⟩ := f2.fr
    refine ⟨_, υ, _, rfl, rfl, ?_⟩
    have I := Inv_rows (c := fun _ => nI m) (c2 := fun _ => nI m) h (show m ≤ 4 by omega) u1 rfl rfl
    have TT : ivTown (sc (sc τ 9 fun _ => nI m) 8 r') 100 ((sf (sf σ 26 r2') 27 fun _ => nI m) 0) v pr := ⟨t1, tc_lo (tc_lo t2 (by decide) _) (by decide) _, t3, t4, t5, t6, t7⟩
    rw [← hm] at s3
    exact pl_fin I TT u4 ((eqP_cong s3).tr u5.p) ⟨a1, a2, a3, a4, rfl, rfl, a7, a8, a9, a10, a11, a12, a13, a14⟩ f2.z
  · simp only [if_neg c1, zer0, not_true_eq_false, if_false]
    exact ⟨_, τ, σ, rfl, rfl, h⟩
end PV
