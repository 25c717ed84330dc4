/-! PURE: steps of hour, on, when, shows, right, lot -/
theorem qbs {α β : Type} (x : α) (f : α → Option β) : Option.bind (some x) f = f x := Eq.symm (Eq.symm (Eq.trans rfl rfl))
theorem qhl {α β : Type} (x : α) (f : α → β) : hl x f = f x := Eq.symm (Eq.symm (Eq.trans rfl rfl))
section S12
variable {τ : SC} {σ : SM} {f0 : Nat → Int32} {v : VT} {pr : List RU}
theorem hours_fin : ∀ n, n < 17 → ∀ a, a < 17 → ∀ b, b < 17 → hmin (nI n) (hmax (0 : Int32) (nI a - nI b)) = nI (min n (a - b)) := by decide +kernel
theorem ec_hoursOf (hT : twC τ 100 v pr) (hv : vOK v) {n : Nat} (hn : n ≤ 16) : fc_to_hoursOf τ (nI n) = some (nI (min n (v 3 0 - v 2 0))) := by
  have h1 := hv.2.1
  have h2 := hv.2.2.2.1
  unfold fc_to_hoursOf
  rw [show τ.1 103 0 = _ from hT.2.2.1, show τ.1 102 0 = _ from hT.2.1, hours_fin _ (by omega) _ (by omega) _ (by omega)]
theorem vPass_hour (v : VT) (pr : List RU) (a : Nat) : (vPass v pr a).2 2 0 = v 2 0 + 1 := by
  unfold vPass
  split
  · show (vCalls _ _ _).2 2 0 + 1 = _
    rw [(vCalls_same _).1]
    rfl
  · rfl
theorem vSame.at {u v : VT} (h : vSame u v) {k : Nat} (hk : k ≠ 2 ∧ k ≠ 5 ∧ k ≠ 6 ∧ k ≠ 7 ∧ k ≠ 8) : v k = u k := h k hk.1 hk.2.1 hk.2.2.1 hk.2.2.2.1 hk.2.2.2.2
/-- the town of both has moved on from the same: v' -/
def MV (τ : SC) (f0 : Nat → Int32) (v : VT) (pr : List RU) (τ' : SC) (f' : Nat → Int32) (v' : VT) : Prop := twC τ' 100 v' pr ∧ eqC τ τ' ∧ vSame v v' ∧ vOK v' ∧ twM f' v' pr ∧ (∀ k, 46 ≤ k → f' k = f0 k)
theorem MV.rf (t1 : twM f0 v pr) (t2 : twC τ 100 v pr) (t3 : vOK v) : MV τ f0 v pr τ f0 v := ⟨t2, eqC.rf, vSame.rf, t3, t1, fun _ _ => rfl⟩
theorem mv_go {ρ : SM} {f' : Nat → Int32} {v' : VT} (h5 : twM f' v' pr) (h4 : vOK v') (hp : pOK pr) (hh : v' 2 0 < v' 3 0) {act : Nat} (ha : act ≤ v' 13 0) : ∃ f2, fm_goesWith (nI act) (sf ρ 0 f') = some (nI (vPass v' pr act).1, sf ρ 0 f2) ∧ twM f2 (vPass v' pr act).2 pr ∧ f2 3 = f' 3 + nI (vPass v' pr act).1 ∧ f2 4 = f' 4 ∧ ∀ k, 46 ≤ k → f2 k = f' k := by
  obtain ⟨f2, g1, g2, g3, g4, g5⟩ := em_goesWith (σ := sf ρ 0 f') h5 h4 hp hh ha
  rw [pb_sfsf] at g1
  exact ⟨f2, g1, g2, g3, g4, g5⟩
theorem mv_pass {ρ : SM} {τ' : SC} {f' : Nat → Int32} {v' : VT} (h : MV τ f0 v pr τ' f' v') (hp : pOK pr) (hpc : vclen pr ≤ 200) (hh : v' 2 0 < v' 3 0) {act : Nat} (ha : act ≤ v' 13 0) : ∃ τ2 f2, fc_to_pass (nI act) τ' = some (nI (vPass v' pr act).1, τ2) ∧ fm_goesWith (nI act) (sf ρ 0 f') = some (nI (vPass v' pr act).1, sf ρ 0 f2) ∧ MV τ f0 v pr τ2 f2 (vPass v' pr act).2 ∧ f2 4 = f' 4 := by
  obtain ⟨h1, h2, h3, h4, h5, h6⟩ := h
  obtain ⟨τ2, q1, q2, q3⟩ := ec_pass h1 h4 hp hpc hh ha
  obtain ⟨f2, g1, g2, g3, g4, g5⟩ := mv_go (ρ := ρ) h5 h4 hp hh ha
  exact ⟨τ2, f2, q1, g1, ⟨q2, h2.tr q3, h3.tr (vPass_sm _ _ _), (vPass_ok h4 hh ha).1, g2, fun k hk => (g5 k hk).trans (h6 k hk)⟩, g4⟩
theorem mv_rest {ρ : SM} {τ' : SC} {f' : Nat → Int32} {v' : VT} (h : MV τ f0 v pr τ' f' v') (hp : pOK pr) (hpc : vclen pr ≤ 200) (hh : v' 2 0 < v' 3 0) : ∃ τ2 f2, fc_to_passAsInTheRest τ' = some (nI (vPass v' pr (vRest v')).1, τ2) ∧ fm_restAct (sf ρ 0 f') = some (nI (vRest v')) ∧ fm_goesWith (nI (vRest v')) (sf ρ 0 f') = some (nI (vPass v' pr (vRest v')).1, sf ρ 0 f2) ∧ MV τ f0 v pr τ2 f2 (vPass v' pr (vRest v')).2 := by
  obtain ⟨h1, h2, h3, h4, h5, h6⟩ := h
  obtain ⟨τ2, q1, q2, q3⟩ := ec_rest h1 h4 hp hpc hh
  obtain ⟨f2, g1, g2, g3, g4, g5⟩ := mv_go (ρ := ρ) h5 h4 hp hh (vRest_le v')
  exact ⟨τ2, f2, q1, em_restAct (σ := sf ρ 0 f') h5 h4, g1, q2, h2.tr q3, h3.tr (vPass_sm _ _ _), (vPass_ok h4 hh (vRest_le v')).1, g2, fun k hk => (g5 k hk).trans (h6 k hk)⟩
theorem em_back0 {g f' : Nat → Int32} (hg : ∀ j, j < 46 → g j = σ 0 j) (hf : ∀ k, 46 ≤ k → f' k = σ 0 k) : fm_laysBack (0 : Int32) (sf (sf σ 3 g) 0 f') = some (sf σ 3 g) := by
  obtain ⟨f2, g1, g2, g3⟩ := em_laysBack (σ := sf (sf σ 3 g) 0 f') (l := 0) (by decide)
  rw [show (0 : Int32) = nI 0 from rfl, g1, pb_sfsf]
  have e : f2 = σ 0 := by
    funext j
    by_cases c : j < 46
    · rw [g2 j c, Nat.mul_zero, Nat.zero_add]
      exact hg j c
    · rw [g3 j (by omega)]
      exact hf j (by omega)
  rw [e]
  exact congrArg some (sf_id (sf σ 3 g) 0)
theorem mv_end {g : Nat → Int32} {τ' : SC} {f' : Nat → Int32} {v' : VT} (h : MV τ (σ 0) v pr τ' f' v') (hv : vOK v) (hg : ∀ j, j < 46 → g j = σ 0 j) : ∃ υ, fc_to_recall (nI (vMom v)) τ' = some υ ∧ twC υ 100 v pr ∧ eqC τ υ ∧ fm_laysBack (0 : Int32) (sf (sf σ 3 g) 0 f') = some (sf σ 3 g) := by
  obtain ⟨h1, h2, h3, h4, h5, h6⟩ := h
  obtain ⟨υ, q1, q2, q3⟩ := ec_recall h1 hv
  exact ⟨υ, q1, tc_back h3 q2, h2.tr q3, em_back0 hg h6⟩
/-- both end where they were -/
def RD (τ : SC) (σ : SM) (v : VT) (pr : List RU) (a : Option (Int32 × SC)) (b : Option (Int32 × SM)) : Prop := ∃ r υ g, a = some (r, υ) ∧ b = some (r, sf σ 3 g) ∧ twC υ 100 v pr ∧ eqC τ υ
theorem Inv_same {υ : SC} {ω : SM} (h : Inv τ σ) (ht : ivTown τ 100 (σ 0) v pr) (hω : frM σ ω) (h0 : ω 0 = σ 0) (hυ : frC τ υ) (h4 : υ.1 104 = τ.1 104) (h9 : υ.1 109 = τ.1 109) (hT : twC υ 100 v pr) : Inv υ ω := by
  obtain ⟨t1, t2, t3, t4, t5, t6, t7⟩ := ht
  exact Inv_fr h hω hυ ⟨v, pr, by rw [h0]; exact t1, hT, t3, t4, t5, by rw [h0]; exact (congrFun h4 0).trans t6, by rw [h0]; exact (congrFun h9 0).trans t7⟩
theorem RD.stp {a : Option (Int32 × SC)} {b : Option (Int32 × SM)} (h : Inv τ σ) (ht : ivTown τ 100 (σ 0) v pr) (q : RD τ σ v pr a b) : stp a b := by
  obtain ⟨r, υ, g, h1, h2, h3, h4⟩ := q
  exact ⟨r, υ, _, h1, h2, Inv_same h ht frM_3 rfl h4.fr (h4.1 104 (by decide) (by decide) (by decide) (by decide) (by decide) (by decide)) (h4.1 109 (by decide) (by decide) (by decide) (by decide) (by decide) (by decide)) h3⟩
theorem mv_over {ρ : SM} {τ' : SC} {f' : Nat → Int32} {v' : VT} (h : MV τ f0 v pr τ' f' v') : fm_isOver (sf ρ 0 f') = some (if v' 2 0 < v' 3 0 then 0 else 1) := em_over (σ := sf ρ 0 f') h.2.2.2.2.1 h.2.2.2.1
theorem on_l {g : Nat → Int32} (hv : vOK v) (hp : pOK pr) (hpc : vclen pr ≤ 200) (hg : ∀ j, j < 46 → g j = σ 0 j) {n : Nat} (hn : n ≤ 16) : ∀ (m k n1 n2 : Nat) (x : Int32) (τ' : SC) (f' : Nat → Int32) (v' : VT), MV τ (σ 0) v pr τ' f' v' → v' 2 0 = v 2 0 + k → k + m = min n (v 3 0 - v 2 0) → m < n1 → m < n2 → RD τ σ v pr (fc_hh_on_l34 n1 (nI (vMom v)) (nI (min n (v 3 0 - v 2 0))) x (nI k) τ') (fm_onBy_l9 n2 (nI n) x (nI k) (sf (sf σ 3 g) 0 f')) := by
  have b1 := hv.2.1
  have b2 := hv.2.2.2.1
  intro m
  induction m with
  | zero =>
    intro k n1 n2 x τ' f' v' h hk hm h1 h2
    obtain ⟨q1, rfl⟩ : ∃ q, n1 = q + 1 := ⟨n1 - 1, by omega⟩
    obtain ⟨q2, rfl⟩ : ∃ q, n2 = q + 1 := ⟨n2 - 1, by omega⟩
    obtain ⟨υ, e1, e2, e3, e4⟩ := mv_end h hv hg
    have h30 : v' 3 0 = v 3 0 := congrFun (h.2.2.1.at (by decide)) 0
    unfold fc_hh_on_l34 fm_onBy_l9
    rw [if_pos (show nI (min n (v 3 0 - v 2 0)) ≤ nI k by rw [pb_le (by omega) (by omega)]; omega), e1, e4, mv_over h]
    by_cases c : n ≤ k
    · rw [if_pos (show nI n ≤ nI k by rw [pb_le (by omega) (by omega)]; exact c)]
      exact ⟨x, υ, g, rfl, rfl, e2, e3⟩
    · rw [if_neg (show ¬ nI n ≤ nI k by rw [pb_le (by omega) (by omega)]; exact c), if_neg (show ¬ v' 2 0 < v' 3 0 by omega)]
      exact ⟨x, υ, g, rfl, rfl, e2, e3⟩
  | succ m ih =>
    intro k n1 n2 x τ' f' v' h hk hm h1 h2
    obtain ⟨q1, rfl⟩ : ∃ q, n1 = q + 1 := ⟨n1 - 1, by omega⟩
    obtain ⟨q2, rfl⟩ : ∃ q, n2 = q + 1 := ⟨n2 - 1, by omega⟩
    have h30 : v' 3 0 = v 3 0 := congrFun (h.2.2.1.at (by decide)) 0
    obtain ⟨τ2, f2, e1, e2, e3, e4⟩ := mv_rest (ρ := sf σ 3 g) h hp hpc (by omega)
    have IH := ih (k + 1) q1 q2 (x + nI (vPass v' pr (vRest v')).1) τ2 f2 _ e4 (by rw [vPass_hour]; omega) (by omega) (by omega) (by omega)
    unfold fc_hh_on_l34 fm_onBy_l9
    rw [if_neg (show ¬ nI (min n (v 3 0 - v 2 0)) ≤ nI k by rw [pb_le (by omega) (by omega)]; omega), if_neg (show ¬ nI n ≤ nI k by rw [pb_le (by omega) (by omega)]; omega), mv_over h, if_pos (show v' 2 0 < v' 3 0 by omega), e1, e2]
    simp only [pb_bs, pb_hl, zer0, not_true_eq_false, if_false]
    rw [e3]
    simp only [pb_bs, pb_hl]
    rw [show (1 : Int32) = nI 1 from rfl, pb_add]
    exact IH
theorem on_by (t1 : twM (σ 0) v pr) (t2 : twC τ 100 v pr) (hv : vOK v) (hp : pOK pr) (hpc : vclen pr ≤ 200) {n : Nat} (hn : n ≤ 16) : RD τ σ v pr (fc_hh_on_l34 hFU (nI (vMom v)) (nI (min n (v 3 0 - v 2 0))) 0 0 τ) (fm_onBy (nI n) σ) := by
  have b2 := hv.2.2.2.1
  have hF : min n (v 3 0 - v 2 0) < hFU := Nat.lt_of_le_of_lt (Nat.min_le_left _ _) (Nat.lt_of_le_of_lt hn (by unfold hFU; decide))
  unfold fm_onBy
  obtain ⟨g, g1, g2, g3⟩ := em_laysAside (σ := σ) (l := 0) (by decide)
  rw [show (0 : Int32) = nI 0 from rfl, g1, pb_bs]
  have h := on_l (g := g) hv hp hpc (fun j hj => by have := g2 j hj; rw [Nat.mul_zero, Nat.zero_add] at this; exact this) hn (min n (v 3 0 - v 2 0)) 0 hFU hFU (nI 0) τ (σ 0) v (MV.rf t1 t2 hv) (Nat.add_zero _).symm (Nat.zero_add _) hF hF
  rw [show sf (sf σ 3 g) 0 (σ 0) = sf σ 3 g from sf_id (sf σ 3 g) 0] at h
  exact h
theorem st_on (h : Inv τ σ) (x1 : Int32) : stp (fc_hh_on x1 τ) (fm_on x1 σ) := by
  obtain ⟨⟨v, pr, tt⟩, -⟩ := id h
  obtain ⟨t1, t2, t3, t4, t5, t6, t7⟩ := id tt
  unfold fc_hh_on fm_on
  rw [rg_within, ri_0_16]
  by_cases c1 : (0 : Int32) ≤ x1 ∧ x1 ≤ 16
  · simp only [if_pos c1, qbs, one0, not_false_eq_true, if_true, if_false]
    obtain ⟨n, -, hn, rfl⟩ := rk_0_16 c1
    rw [ec_moment t2 t3, ec_hoursOf t2 t3 hn, qbs, qbs]
    obtain ⟨r, υ, g, e1, e2, e3, e4⟩ := on_by t1 t2 t3 t4 t5 hn
    rw [e1, e2]
    simp only [qbs, qhl]
    exact RD.stp h tt ⟨r, υ, g, rfl, rfl, e3, e4⟩
  · simp only [if_neg c1, qbs, zer0, not_true_eq_false, if_true, if_false]
    exact ⟨_, τ, σ, rfl, rfl, h⟩
theorem tc_score (h : twC τ 100 v pr) (f : Nat → Int32) : twC (sc τ 104 f) 100 v pr := h
theorem sc_fin {τ2 : SC} {f2 : Nat → Int32} {v2 : VT} (h : Inv τ σ) (tt : ivTown τ 100 (σ 0) v pr) {r : Nat} (hT : twC τ2 100 v2 pr) (he : eqC τ τ2) (hv2 : vOK v2) (g2 : twM f2 v2 pr) (g3 : f2 3 = σ 0 3 + nI r) (g4 : f2 4 = σ 0 4) : stp (fc_hh_scored (nI r) τ2) (some (nI r, sf σ 0 f2)) := by
  obtain ⟨t1, t2, t3, t4, t5, t6, t7⟩ := id tt
  unfold fc_hh_scored
  refine ⟨_, _, _, rfl, rfl, Inv_fr h frM_0 (he.fr.tr (frC_sc (by unfold rlC; omega))) ⟨v2, pr, g2, tc_score hT _, hv2, t4, t5, ?_, ?_⟩⟩
  · show τ2.1 104 0 + nI r = f2 3
    rw [g3, he.1 104 (by decide) (by decide) (by decide) (by decide) (by decide) (by decide), show τ.1 104 0 = _ from t6]
  · show τ2.1 109 0 = f2 4
    rw [g4, he.1 109 (by decide) (by decide) (by decide) (by decide) (by decide) (by decide)]
    exact t7
theorem st_hour (h : Inv τ σ) : stp (fc_hh_hour τ) (fm_hour σ) := by
  obtain ⟨⟨v, pr, tt⟩, -⟩ := id h
  obtain ⟨t1, t2, t3, t4, t5, t6, t7⟩ := id tt
  unfold fc_hh_hour fm_hour
  rw [em_over t1 t3, ec_over t2 t3, pb_bs, pb_bs]
  by_cases c : v 2 0 < v 3 0
  · simp only [if_pos c, zer0, if_true]
    obtain ⟨τ2, q1, q2, q3⟩ := ec_rest t2 t3 t4 t5 c
    obtain ⟨f2, g1, g2, g3, g4, g5⟩ := em_goesWith t1 t3 t4 c (vRest_le v)
    rw [q1, em_restAct t1 t3, pb_bs, pb_bs, g1]
    have E := sc_fin h tt q2 q3 (vPass_ok t3 c (vRest_le v)).1 g2 g3 g4
    simp only [pb_bs, pb_hl]
    unfold fc_hh_scored at E ⊢
    exact E
  · simp only [if_neg c, one0, if_false]
    exact ⟨_, τ, σ, rfl, rfl, h⟩
theorem lot_fin : ∀ n, n < 7 → (nI n + (1 : Int32) = 0) = False := by
  intro n hn
  rw [show (1 : Int32) = nI 1 from rfl, pb_add, show (0 : Int32) = nI 0 from rfl, pb_eq (by omega) (by omega)]
  simp
theorem ushr16 (z : Int32) : ∃ b, b < 65536 ∧ hushr z (16 : Int32) = nI b := by
  have h : z.toBitVec.toNat < 2 ^ 32 := z.toBitVec.isLt
  have h2 : z.toBitVec.toNat / 2 ^ 16 < 65536 := by omega
  refine ⟨z.toBitVec.toNat / 2 ^ 16, h2, ?_⟩
  apply Int32.toBitVec_inj.mp
  apply BitVec.eq_of_toNat_eq
  unfold hushr
  rw [pk_ushr z 16 16 (by decide), pk_tn (by omega)]
theorem lot_act (z : Int32) {n : Nat} (hn : n ≤ 6) : ∃ a, a ≤ n ∧ hrem (hushr z (16 : Int32)) (nI n + (1 : Int32)) = nI a := by
  obtain ⟨b, hb, e⟩ := ushr16 z
  have h := Nat.mod_lt b (show 0 < n + 1 by omega)
  refine ⟨b % (n + 1), by omega, ?_⟩
  rw [e, show (1 : Int32) = nI 1 from rfl, pb_add, pb_rem (by omega) (by omega) (by omega)]
theorem eqC_cong {a b : SC} {k : Nat} {f g : Nat → Int32} (h : eqC (sc a k f) b) : eqC (sc a k g) (sc b k g) := by
  refine ⟨fun j a1 a2 a3 a4 a5 a6 => ?_, h.2⟩
  by_cases e : j = k
  · subst e
    rw [sc_at, sc_at]
  · rw [sc_ne e, sc_ne e, h.1 j a1 a2 a3 a4 a5 a6, sc_ne e]
/-- the same, with a lot z -/
def ML (τ : SC) (f0 : Nat → Int32) (v : VT) (pr : List RU) (τ' : SC) (f' : Nat → Int32) (v' : VT) (z : Int32) : Prop := (∃ q : Nat → Int32, q 0 = z ∧ MV (sc τ 109 q) f0 v pr τ' f' v') ∧ f' 4 = z
theorem tc_zed (h : twC τ 100 v pr) (f : Nat → Int32) : twC (sc τ 109 f) 100 v pr := h
theorem ml_go {ρ : SM} {τ' : SC} {f' : Nat → Int32} {v' : VT} {z : Int32} (h : ML τ f0 v pr τ' f' v' z) (hp : pOK pr) (hpc : vclen pr ≤ 200) (hh : v' 2 0 < v' 3 0) : ∃ (a : Nat) (z2 : Int32) (τ2 : SC) (f2 : Nat → Int32), a ≤ v' 13 0 ∧ fc_to_passByLot τ' = some (nI (vPass v' pr a).1, τ2) ∧ fm_goesByLot (sf ρ 0 f') = some (nI (vPass v' pr a).1, sf ρ 0 f2) ∧ ML τ f0 v pr τ2 f2 (vPass v' pr a).2 z2 ∧ f2 3 = f' 3 + nI (vPass v' pr a).1 := by
  obtain ⟨⟨q, hq, h1, h2, h3, h4, h5, h6⟩, h7⟩ := h
  have b6 := h4.1
  obtain ⟨a, ha, e⟩ := lot_act (z * 1103515245 + 12345) b6
  have e9 : τ'.1 109 0 = z := by
    rw [h2.1 109 (by decide) (by decide) (by decide) (by decide) (by decide) (by decide), sc_at, hq]
  obtain ⟨τ2, q1, q2, q3⟩ := ec_pass (tc_zed h1 (fun _ => z * 1103515245 + 12345)) h4 hp hpc hh ha
  obtain ⟨f2, g1, g2, g3, g4, g5⟩ := mv_go (ρ := ρ) (tw_zed h5 (z * 1103515245 + 12345)) h4 hp hh ha
  refine ⟨a, z * 1103515245 + 12345, τ2, f2, ha, ?_, ?_, ⟨⟨fun _ => z * 1103515245 + 12345, rfl, q2, (eqC_cong h2).tr q3, h3.tr (vPass_sm _ _ _), (vPass_ok h4 hh ha).1, g2, fun k hk => ?_⟩, g4⟩, g3⟩
  · unfold fc_to_passByLot
    have l0 := lot_fin (v' 13 0) (by omega)
    have e13 : (sc τ' 109 fun _ => z * 1103515245 + 12345).1 113 0 = nI (v' 13 0) := h1.1
    simp only [qhl, e9, sc_at, e13, l0, not_false_eq_true, decide_true, pb_oc, e, q1, qbs]
  · unfold fm_goesByLot
    have l0 := lot_fin (v' 13 0) (by omega)
    have e13 : upd f' 4 (z * 1103515245 + 12345) 0 = nI (v' 13 0) := h5.1
    simp only [qhl, pb_sfsf, pb_sf0, h7, up_eq, e13, l0, not_false_eq_true, decide_true, pb_oc, e, g1, qbs]
  · rw [g5 k hk, up_ne (by omega)]
    exact h6 k hk
theorem sc_id (τ : SC) (k : Nat) : sc τ k (τ.1 k) = τ := by
  refine Prod.ext (funext fun i => ?_) rfl
  show (if i = k then _ else _) = _
  by_cases e : i = k
  · rw [if_pos e, e]
  · rw [if_neg e]
theorem ML.rf (t1 : twM f0 v pr) (t2 : twC τ 100 v pr) (t3 : vOK v) (t7 : τ.1 109 0 = f0 4) : ML τ f0 v pr τ f0 v (f0 4) := ⟨⟨τ.1 109, t7, by rw [sc_id]; exact MV.rf t1 t2 t3⟩, rfl⟩
theorem st_lot (h : Inv τ σ) : stp (fc_hh_lot τ) (fm_lot σ) := by
  obtain ⟨⟨v, pr, tt⟩, -⟩ := id h
  obtain ⟨t1, t2, t3, t4, t5, t6, t7⟩ := id tt
  unfold fc_hh_lot fm_lot
  rw [em_over t1 t3, ec_over t2 t3, pb_bs, pb_bs]
  by_cases c : v 2 0 < v 3 0
  · simp only [if_pos c, zer0, if_true]
    obtain ⟨a, z2, τ2, f2, ha, q1, g1, ⟨⟨q, hq, q2, q3, q4, q5, q6, q7⟩, q8⟩, g3⟩ := ml_go (ρ := σ) (ML.rf t1 t2 t3 t7) t4 t5 c
    rw [sf_id] at g1
    rw [q1, g1]
    simp only [pb_bs, pb_hl]
    unfold fc_hh_scored
    simp only [pb_bs, pb_hl]
    have F : frC τ τ2 := (frC_sc (show ¬ rlC 109 by unfold rlC; omega)).tr q3.fr
    refine ⟨_, _, _, rfl, rfl, Inv_fr h frM_0 (F.tr (frC_sc (by unfold rlC; omega))) ⟨_, pr, q6, tc_score q2 _, q5, t4, t5, ?_, ?_⟩⟩
    · show τ2.1 104 0 + _ = f2 3
      rw [g3, q3.1 104 (by decide) (by decide) (by decide) (by decide) (by decide) (by decide), sc_ne (by decide), show τ.1 104 0 = _ from t6]
    · show τ2.1 109 0 = f2 4
      rw [q8, q3.1 109 (by decide) (by decide) (by decide) (by decide) (by decide) (by decide), sc_at, hq]
  · simp only [if_neg c, one0, if_false]
    exact ⟨_, τ, σ, rfl, rfl, h⟩
end S12
