/-! PURE: steps of giftFor, dueFor -/
section S15
variable {τ : SC} {σ : SM} {v : VT} {pr : List RU}
/-- nothing but what is scratch has changed, beside the moving numbers of the town -/
def fr2 (τ υ : SC) : Prop := frC τ υ ∧ υ.1 104 = τ.1 104 ∧ υ.1 109 = τ.1 109
theorem fr2.rf : fr2 τ τ := ⟨frC.rf, rfl, rfl⟩
theorem fr2.tr {a b c : SC} (h1 : fr2 a b) (h2 : fr2 b c) : fr2 a c := ⟨h1.1.tr h2.1, h2.2.1.trans h1.2.1, h2.2.2.trans h1.2.2⟩
theorem eqC.fr2 {υ : SC} (h : eqC τ υ) : fr2 τ υ := ⟨h.fr, h.1 104 (by decide) (by decide) (by decide) (by decide) (by decide) (by decide), h.1 109 (by decide) (by decide) (by decide) (by decide) (by decide) (by decide)⟩
theorem fr2_sc {k : Nat} {f : Nat → Int32} (h : ¬ rlC k) (h4 : k ≠ 104) (h9 : k ≠ 109) : fr2 τ (sc τ k f) := ⟨frC_sc h, sc_ne (Ne.symm h4), sc_ne (Ne.symm h9)⟩
/-- both end where they were, the class but for scratch -/
def RF (τ : SC) (σ : SM) (v : VT) (pr : List RU) (a : Option (Int32 × SC)) (b : Option (Int32 × SM)) : Prop := ∃ r υ g, a = some (r, υ) ∧ b = some (r, sf σ 3 g) ∧ twC υ 100 v pr ∧ fr2 τ υ
theorem va_va (v : VT) (k j x y : Nat) : va (va v k j x) k j y = va v k j y := by
  funext i q
  unfold va
  by_cases e : i = k
  · subst e
    simp only [if_true]
    by_cases e2 : q = j
    · simp only [if_pos e2]
    · simp only [if_neg e2]
  · simp only [if_neg e]
theorem va_id (v : VT) (k j : Nat) : va v k j (v k j) = v := by
  funext i q
  unfold va
  by_cases e : i = k
  · subst e
    simp only [if_true]
    by_cases e2 : q = j
    · rw [if_pos e2, e2]
    · rw [if_neg e2]
  · simp only [if_neg e]
theorem up_up (f : Nat → Int32) (k : Nat) (x y : Int32) : upd (upd f k x) k y = upd f k y := by
  funext j
  unfold upd
  by_cases e : j = k
  · simp only [if_pos e]
  · simp only [if_neg e]
theorem up_id (f : Nat → Int32) (k : Nat) : upd f k (f k) = f := by
  funext j
  unfold upd
  by_cases e : j = k
  · rw [if_pos e, e]
  · rw [if_neg e]
theorem sf_swap (σ : SM) (f g : Nat → Int32) (h : Nat → Int32) : sf (sf (sf σ 3 f) 0 g) 3 h = sf (sf σ 3 h) 0 g := by
  funext i
  unfold sf
  by_cases e : i = 3
  · subst e
    simp
  · by_cases e0 : i = 0
    · simp [e0]
    · simp [e, e0]
theorem great_eq (x y : Int32) : fm_greatest x y = some (if y ≤ x then x else y) := by
  rw [em_great]
  by_cases c : y < x
  · rw [if_pos c, if_pos (Int32.le_of_lt c)]
  · rw [if_neg c]
    by_cases d : y ≤ x
    · rw [if_pos d]
      rw [rg_nlt] at c
      exact congrArg some (Int32.le_antisymm d c)
    · rw [if_neg d]
theorem mw_l116 {g : Nat → Int32} (hv : vOK v) (hp : pOK pr) (hpc : vclen pr ≤ 200) (hg : ∀ j, j < 46 → g j = σ 0 j) (K34 : Int32 → Int32 → Int32 → Int32 → Int32 → Int32 → Int32 → Int32 → SC → Option (Int32 × SC)) (K76 : Int32 → Int32 → Int32 → Int32 → Int32 → Int32 → Int32 → Int32 → Int32 → SC → Option (Int32 × SC)) (x2 x3 x4 x5 x7 x8 x9 : Int32) : ∀ (m k n1 n2 : Nat) (x : Int32) (τ' : SC) (f' : Nat → Int32) (v' : VT), MV τ (σ 0) v pr τ' f' v' → v' 2 0 = v 2 0 + k → k + m = v 3 0 - v 2 0 → m < n1 → m < n2 → ∃ (X : Int32) (τ2 υ : SC), fc_hh_mostWorthy_a116_l51 K34 K76 n1 x2 x3 x4 x5 (nI (v 3 0 - v 2 0)) x7 x8 x9 x (nI k) τ' = K76 x2 x3 x4 x5 (nI (v 3 0 - v 2 0)) x7 x8 x9 X τ2 ∧ fc_to_recall (nI (vMom v)) τ2 = some υ ∧ twC υ 100 v pr ∧ eqC τ υ ∧ fm_onBy_l9 n2 (nI 16) x (nI k) (sf (sf σ 3 g) 0 f') = some (X, sf σ 3 g) := by
  have b1 := hv.2.1
  have b2 := hv.2.2.2.1
  intro m
  induction m with
  | zero =>
    intro k n1 n2 x τ' f' v' h hk hm h1 h2
    obtain ⟨q1, rfl⟩ : ∃ q, n1 = q + 1 := ⟨n1 - 1, by omega⟩
    obtain ⟨q2, rfl⟩ : ∃ q, n2 = q + 1 := ⟨n2 - 1, by omega⟩
    obtain ⟨υ, e1, e2, e3, e4⟩ := mv_end h hv hg
    have h30 : v' 3 0 = v 3 0 := congrFun (h.2.2.1.at (by decide)) 0
    unfold fc_hh_mostWorthy_a116_l51 fm_onBy_l9
    rw [if_pos (show nI (v 3 0 - v 2 0) ≤ nI k by rw [pb_le (by omega) (by omega)]; omega), e4, mv_over h, if_neg (show ¬ v' 2 0 < v' 3 0 by omega)]
    refine ⟨x, τ', υ, rfl, e1, e2, e3, ?_⟩
    simp only [qbs, one0, not_false_eq_true, if_true, ite_self]
  | succ m ih =>
    intro k n1 n2 x τ' f' v' h hk hm h1 h2
    obtain ⟨q1, rfl⟩ : ∃ q, n1 = q + 1 := ⟨n1 - 1, by omega⟩
    obtain ⟨q2, rfl⟩ : ∃ q, n2 = q + 1 := ⟨n2 - 1, by omega⟩
    have h30 : v' 3 0 = v 3 0 := congrFun (h.2.2.1.at (by decide)) 0
    obtain ⟨τ2, f2, e1, e2, e3, e4⟩ := mv_rest (ρ := sf σ 3 g) h hp hpc (by omega)
    have IH := ih (k + 1) q1 q2 (x + nI (vPass v' pr (vRest v')).1) τ2 f2 _ e4 (by rw [vPass_hour]; omega) (by omega) (by omega) (by omega)
    unfold fc_hh_mostWorthy_a116_l51 fm_onBy_l9
    rw [if_neg (show ¬ nI (v 3 0 - v 2 0) ≤ nI k by rw [pb_le (by omega) (by omega)]; omega), if_neg (show ¬ nI 16 ≤ nI k by rw [pb_le (by omega) (by omega)]; omega), mv_over h, if_pos (show v' 2 0 < v' 3 0 by omega), e1, e2]
    simp only [qbs, qhl, zer0, not_true_eq_false, if_false]
    rw [e3]
    simp only [qbs, qhl]
    rw [show (1 : Int32) = nI 1 from rfl, pb_add]
    exact IH
theorem mw_o116 (t1 : twM (σ 0) v pr) (t3 : vOK v) (hp : pOK pr) (hpc : vclen pr ≤ 200) {a : Nat} (ha : a < v 13 0) : ∀ (m y n1 n2 y0 : Nat) (b w : Int32) (τ' : SC) (g : Nat → Int32), y0 ≤ 9 → twC τ' 100 (va v 16 a y0) pr → fr2 τ τ' → y + m = 9 + 1 → m < n1 → m < n2 → RF τ σ v pr (fc_hh_mostWorthy_a116_l34 n1 (nI a) (nI 9) (nI (v 16 a)) (nI (vMom v)) (nI (v 3 0 - v 2 0)) b w (nI y) τ') (fm_valueFor_l27 n2 (nI 2) (nI (12 + 6 * a)) (nI (v 16 a)) b w (nI y) (sf (sf σ 3 g) 0 (upd (σ 0) (12 + 6 * a) (nI y0)))) := by
  have b6 := t3.1
  have b1 := t3.2.1
  have b2 := t3.2.2.2.1
  have bk := t3.2.2.2.2.2.2.2.2.1 a ha
  intro m
  induction m with
  | zero =>
    intro y n1 n2 y0 b w τ' g hy0 hT hf hm h1 h2
    obtain ⟨q1, rfl⟩ : ∃ q, n1 = q + 1 := ⟨n1 - 1, by omega⟩
    obtain ⟨q2, rfl⟩ : ∃ q, n2 = q + 1 := ⟨n2 - 1, by omega⟩
    unfold fc_hh_mostWorthy_a116_l34 fm_valueFor_l27
    rw [if_pos (show nI 9 < nI y by rw [pb_lt (by omega) (by omega)]; omega), show fm_greatestOf (nI 2) = some (nI 9) from rfl, qbs, if_pos (show nI 9 < nI y by rw [pb_lt (by omega) (by omega)]; omega)]
    simp (disch := omega) only [pb_in, pb_oc, pb_cl, qhl, pb_sfsf, pb_sf0, up_up]
    have T := tc_gift hT (a := a) (v 16 a)
    rw [va_va, va_id] at T
    refine ⟨b, _, g, rfl, ?_, T, hf.tr (fr2_sc (by unfold rlC; omega) (by decide) (by decide))⟩
    rw [show nI (v 16 a) = σ 0 (12 + 6 * a) from ((t1.2.2.2.2.2.1 a ha).2.2.1).symm, up_id, show sf (sf σ 3 g) 0 (σ 0) = sf σ 3 g from sf_id (sf σ 3 g) 0]
  | succ m ih =>
    intro y n1 n2 y0 b w τ' g hy0 hT hf hm h1 h2
    obtain ⟨q1, rfl⟩ : ∃ q, n1 = q + 1 := ⟨n1 - 1, by omega⟩
    obtain ⟨q2, rfl⟩ : ∃ q, n2 = q + 1 := ⟨n2 - 1, by omega⟩
    have T := tc_gift hT (a := a) y
    rw [va_va] at T
    have TM := tw_gift t1 (a := a) (by omega) t3.1 y
    have TO := vOK_gift t3 (a := a) (x := y) (by omega)
    unfold fc_hh_mostWorthy_a116_l34 fm_valueFor_l27
    rw [if_neg (show ¬ nI 9 < nI y by rw [pb_lt (by omega) (by omega)]; omega), show fm_greatestOf (nI 2) = some (nI 9) from rfl, qbs, if_neg (show ¬ nI 9 < nI y by rw [pb_lt (by omega) (by omega)]; omega)]
    simp (disch := omega) only [pb_in, pb_oc, pb_cl, qhl, pb_sfsf, pb_sf0, up_up]
    obtain ⟨g', g1, g2⟩ := aside0 (sf (sf σ 3 g) 0 (upd (σ 0) (12 + 6 * a) (nI y)))
    have hF : v 3 0 - v 2 0 < hFU := by unfold hFU; omega
    have L := mw_l116 (σ := sf (sf σ 3 g) 0 (upd (σ 0) (12 + 6 * a) (nI y))) (v := va v 16 a y) (g := g') TO hp hpc g2 (fc_hh_mostWorthy_a116_l34 q1) (fun x2 x3 x4 x5 x6 x7 x8 x9 x10 τ => (Option.bind (fc_to_recall x5 τ) fun τ10 => (if x10 ≤ x8 then (fc_hh_mostWorthy_a116_b100 (fc_hh_mostWorthy_a116_l34 q1) x2 x3 x4 x5 x6 x7 x8 x9 τ10) else (fc_hh_mostWorthy_a116_b100 (fc_hh_mostWorthy_a116_l34 q1) x2 x3 x4 x5 x6 x9 x10 x9 τ10)))) (nI a) (nI 9) (nI (v 16 a)) (nI (vMom v)) b w (nI y) (v 3 0 - v 2 0) 0 hFU hFU (nI 0) _ _ _ (MV.rf TM T TO) (Nat.add_zero _).symm (Nat.zero_add _) hF hF
    obtain ⟨X, τ2, υ, e1, e2, e3, e4, e5⟩ := L
    rw [pb_sf0, sf_swap, pb_sfsf] at e5
    rw [sf_swap] at g1
    rw [show nI (va v 16 a y 3 0 - va v 16 a y 2 0) = nI (v 3 0 - v 2 0) from rfl] at e1
    have EM : fm_onBy (16 : Int32) (sf (sf σ 3 g) 0 (upd (σ 0) (12 + 6 * a) (nI y))) = some (X, sf (sf σ 3 g') 0 (upd (σ 0) (12 + 6 * a) (nI y))) := by
      unfold fm_onBy
      rw [g1, qbs, show (16 : Int32) = nI 16 from rfl, show (0 : Int32) = nI 0 from rfl]
      exact e5
    rw [EM, show (0 : Int32) = nI 0 from rfl, e1, show fc_to_recall (nI (vMom v)) τ2 = some υ from e2]
    simp only [qbs, qhl]
    unfold fc_hh_mostWorthy_a116_b100 fm_valueFor_b66
    rw [great_eq, qbs, show (1 : Int32) = nI 1 from rfl, pb_add]
    have F2 : fr2 τ υ := (hf.tr (fr2_sc (by unfold rlC; omega) (by decide) (by decide))).tr e4.fr2
    by_cases c : X ≤ w
    · simp only [if_pos c]
      exact ih (y + 1) q1 q2 y b w υ g' (by omega) e3 F2 (by omega) (by omega) (by omega)
    · simp only [if_neg c]
      exact ih (y + 1) q1 q2 y (nI y) X υ g' (by omega) e3 F2 (by omega) (by omega) (by omega)
theorem st_giftFor (h : Inv τ σ) (x1 : Int32) : stp (fc_hh_giftFor x1 τ) (fm_giftFor x1 σ) := by
  obtain ⟨⟨v, pr, tt⟩, -⟩ := id h
  obtain ⟨t1, t2, t3, t4, t5, t6, t7⟩ := id tt
  have b6 := t3.1
  have b1 := t3.2.1
  have b2 := t3.2.2.2.1
  unfold fc_hh_giftFor fm_giftFor
  rw [rg_has τ (by omega) t2.1, rg_isOne σ (by omega) t1.1, qbs, qbs]
  by_cases c1 : 0 ≤ x1 ∧ x1 < nI (v 13 0)
  · obtain ⟨a, ha, rfl⟩ := rg_one (by omega) c1
    have bk := t3.2.2.2.2.2.2.2.2.1 a ha
    simp only [if_pos c1, one0, if_false]
    have hF : 9 + 1 < hFU := by unfold hFU; decide
    have e0 : τ.1 116 a = nI (v 16 a) := (t2.2.2.2.2.2.2.2.1 a ha).2.2.1
    have m0 : σ 0 (12 + 6 * a) = nI (v 16 a) := (t1.2.2.2.2.2.1 a ha).2.2.1
    have R := mw_o116 (τ := τ) t1 t3 t4 t5 ha (9 + 1) 0 hFU hFU (v 16 a) (nI 0) (-1) τ (σ 3) (by omega) (by rw [va_id]; exact t2) fr2.rf (Nat.zero_add _) hF hF
    rw [← m0, up_id, sf_id, sf_id, m0] at R
    unfold fc_hh_mostWorthy_a116 fm_valueFor
    simp (disch := omega) only [pb_in, pb_oc, pb_cl, show (10 : Int32) = nI 10 from rfl, show (6 : Int32) = nI 6 from rfl, show (2 : Int32) = nI 2 from rfl, pb_mul, pb_add, qhl]
    rw [show 10 + 6 * a + 2 = 12 + 6 * a by omega, m0, e0, ec_moment t2 t3, show (16 : Int32) = nI 16 from rfl, ec_hoursOf t2 t3 (by decide), show min 16 (v 3 0 - v 2 0) = v 3 0 - v 2 0 by omega, qbs, qbs, show (0 : Int32) = nI 0 from rfl, show (9 : Int32) = nI 9 from rfl]
    obtain ⟨r, υ, g', e1, e2, e3, e4⟩ := R
    rw [e1, e2]
    simp only [qbs]
    exact ⟨r, υ, _, rfl, rfl, Inv_same h tt frM_3 rfl e4.1 e4.2.1 e4.2.2 e3⟩
  · simp only [if_neg c1, zer0, if_true]
    exact ⟨_, τ, σ, rfl, rfl, h⟩
theorem mw_l115 {g : Nat → Int32} (hv : vOK v) (hp : pOK pr) (hpc : vclen pr ≤ 200) (hg : ∀ j, j < 46 → g j = σ 0 j) (K34 : Int32 → Int32 → Int32 → Int32 → Int32 → Int32 → Int32 → Int32 → SC → Option (Int32 × SC)) (K76 : Int32 → Int32 → Int32 → Int32 → Int32 → Int32 → Int32 → Int32 → Int32 → SC → Option (Int32 × SC)) (x2 x3 x4 x5 x7 x8 x9 : Int32) : ∀ (m k n1 n2 : Nat) (x : Int32) (τ' : SC) (f' : Nat → Int32) (v' : VT), MV τ (σ 0) v pr τ' f' v' → v' 2 0 = v 2 0 + k → k + m = v 3 0 - v 2 0 → m < n1 → m < n2 → ∃ (X : Int32) (τ2 υ : SC), fc_hh_mostWorthy_a115_l51 K34 K76 n1 x2 x3 x4 x5 (nI (v 3 0 - v 2 0)) x7 x8 x9 x (nI k) τ' = K76 x2 x3 x4 x5 (nI (v 3 0 - v 2 0)) x7 x8 x9 X τ2 ∧ fc_to_recall (nI (vMom v)) τ2 = some υ ∧ twC υ 100 v pr ∧ eqC τ υ ∧ fm_onBy_l9 n2 (nI 16) x (nI k) (sf (sf σ 3 g) 0 f') = some (X, sf σ 3 g) := by
  have b1 := hv.2.1
  have b2 := hv.2.2.2.1
  intro m
  induction m with
  | zero =>
    intro k n1 n2 x τ' f' v' h hk hm h1 h2
    obtain ⟨q1, rfl⟩ : ∃ q, n1 = q + 1 := ⟨n1 - 1, by omega⟩
    obtain ⟨q2, rfl⟩ : ∃ q, n2 = q + 1 := ⟨n2 - 1, by omega⟩
    obtain ⟨υ, e1, e2, e3, e4⟩ := mv_end h hv hg
    have h30 : v' 3 0 = v 3 0 := congrFun (h.2.2.1.at (by decide)) 0
    unfold fc_hh_mostWorthy_a115_l51 fm_onBy_l9
    rw [if_pos (show nI (v 3 0 - v 2 0) ≤ nI k by rw [pb_le (by omega) (by omega)]; omega), e4, mv_over h, if_neg (show ¬ v' 2 0 < v' 3 0 by omega)]
    refine ⟨x, τ', υ, rfl, e1, e2, e3, ?_⟩
    simp only [qbs, one0, not_false_eq_true, if_true, ite_self]
  | succ m ih =>
    intro k n1 n2 x τ' f' v' h hk hm h1 h2
    obtain ⟨q1, rfl⟩ : ∃ q, n1 = q + 1 := ⟨n1 - 1, by omega⟩
    obtain ⟨q2, rfl⟩ : ∃ q, n2 = q + 1 := ⟨n2 - 1, by omega⟩
    have h30 : v' 3 0 = v 3 0 := congrFun (h.2.2.1.at (by decide)) 0
    obtain ⟨τ2, f2, e1, e2, e3, e4⟩ := mv_rest (ρ := sf σ 3 g) h hp hpc (by omega)
    have IH := ih (k + 1) q1 q2 (x + nI (vPass v' pr (vRest v')).1) τ2 f2 _ e4 (by rw [vPass_hour]; omega) (by omega) (by omega) (by omega)
    unfold fc_hh_mostWorthy_a115_l51 fm_onBy_l9
    rw [if_neg (show ¬ nI (v 3 0 - v 2 0) ≤ nI k by rw [pb_le (by omega) (by omega)]; omega), if_neg (show ¬ nI 16 ≤ nI k by rw [pb_le (by omega) (by omega)]; omega), mv_over h, if_pos (show v' 2 0 < v' 3 0 by omega), e1, e2]
    simp only [qbs, qhl, zer0, not_true_eq_false, if_false]
    rw [e3]
    simp only [qbs, qhl]
    rw [show (1 : Int32) = nI 1 from rfl, pb_add]
    exact IH
theorem mw_o115 (t1 : twM (σ 0) v pr) (t3 : vOK v) (hp : pOK pr) (hpc : vclen pr ≤ 200) {a : Nat} (ha : a < v 13 0) : ∀ (m y n1 n2 y0 : Nat) (b w : Int32) (τ' : SC) (g : Nat → Int32), y0 ≤ 60 → twC τ' 100 (va v 15 a y0) pr → fr2 τ τ' → y + m = 60 + 1 → m < n1 → m < n2 → RF τ σ v pr (fc_hh_mostWorthy_a115_l34 n1 (nI a) (nI 60) (nI (v 15 a)) (nI (vMom v)) (nI (v 3 0 - v 2 0)) b w (nI y) τ') (fm_valueFor_l27 n2 (nI 1) (nI (11 + 6 * a)) (nI (v 15 a)) b w (nI y) (sf (sf σ 3 g) 0 (upd (σ 0) (11 + 6 * a) (nI y0)))) := by
  have b6 := t3.1
  have b1 := t3.2.1
  have b2 := t3.2.2.2.1
  have bk := t3.2.2.2.2.2.2.2.2.1 a ha
  intro m
  induction m with
  | zero =>
    intro y n1 n2 y0 b w τ' g hy0 hT hf hm h1 h2
    obtain ⟨q1, rfl⟩ : ∃ q, n1 = q + 1 := ⟨n1 - 1, by omega⟩
    obtain ⟨q2, rfl⟩ : ∃ q, n2 = q + 1 := ⟨n2 - 1, by omega⟩
    unfold fc_hh_mostWorthy_a115_l34 fm_valueFor_l27
    rw [if_pos (show nI 60 < nI y by rw [pb_lt (by omega) (by omega)]; omega), show fm_greatestOf (nI 1) = some (nI 60) from rfl, qbs, if_pos (show nI 60 < nI y by rw [pb_lt (by omega) (by omega)]; omega)]
    simp (disch := omega) only [pb_in, pb_oc, pb_cl, qhl, pb_sfsf, pb_sf0, up_up]
    have T := tc_due hT (a := a) (v 15 a)
    rw [va_va, va_id] at T
    refine ⟨b, _, g, rfl, ?_, T, hf.tr (fr2_sc (by unfold rlC; omega) (by decide) (by decide))⟩
    rw [show nI (v 15 a) = σ 0 (11 + 6 * a) from ((t1.2.2.2.2.2.1 a ha).2.1).symm, up_id, show sf (sf σ 3 g) 0 (σ 0) = sf σ 3 g from sf_id (sf σ 3 g) 0]
  | succ m ih =>
    intro y n1 n2 y0 b w τ' g hy0 hT hf hm h1 h2
    obtain ⟨q1, rfl⟩ : ∃ q, n1 = q + 1 := ⟨n1 - 1, by omega⟩
    obtain ⟨q2, rfl⟩ : ∃ q, n2 = q + 1 := ⟨n2 - 1, by omega⟩
    have T := tc_due hT (a := a) y
    rw [va_va] at T
    have TM := tw_due t1 (a := a) (by omega) t3.1 y
    have TO := vOK_due t3 (a := a) (x := y) (by omega)
    unfold fc_hh_mostWorthy_a115_l34 fm_valueFor_l27
    rw [if_neg (show ¬ nI 60 < nI y by rw [pb_lt (by omega) (by omega)]; omega), show fm_greatestOf (nI 1) = some (nI 60) from rfl, qbs, if_neg (show ¬ nI 60 < nI y by rw [pb_lt (by omega) (by omega)]; omega)]
    simp (disch := omega) only [pb_in, pb_oc, pb_cl, qhl, pb_sfsf, pb_sf0, up_up]
    obtain ⟨g', g1, g2⟩ := aside0 (sf (sf σ 3 g) 0 (upd (σ 0) (11 + 6 * a) (nI y)))
    have hF : v 3 0 - v 2 0 < hFU := by unfold hFU; omega
    have L := mw_l115 (σ := sf (sf σ 3 g) 0 (upd (σ 0) (11 + 6 * a) (nI y))) (v := va v 15 a y) (g := g') TO hp hpc g2 (fc_hh_mostWorthy_a115_l34 q1) (fun x2 x3 x4 x5 x6 x7 x8 x9 x10 τ => (Option.bind (fc_to_recall x5 τ) fun τ10 => (if x10 ≤ x8 then (fc_hh_mostWorthy_a115_b100 (fc_hh_mostWorthy_a115_l34 q1) x2 x3 x4 x5 x6 x7 x8 x9 τ10) else (fc_hh_mostWorthy_a115_b100 (fc_hh_mostWorthy_a115_l34 q1) x2 x3 x4 x5 x6 x9 x10 x9 τ10)))) (nI a) (nI 60) (nI (v 15 a)) (nI (vMom v)) b w (nI y) (v 3 0 - v 2 0) 0 hFU hFU (nI 0) _ _ _ (MV.rf TM T TO) (Nat.add_zero _).symm (Nat.zero_add _) hF hF
    obtain ⟨X, τ2, υ, e1, e2, e3, e4, e5⟩ := L
    rw [pb_sf0, sf_swap, pb_sfsf] at e5
    rw [sf_swap] at g1
    rw [show nI (va v 15 a y 3 0 - va v 15 a y 2 0) = nI (v 3 0 - v 2 0) from rfl] at e1
    have EM : fm_onBy (16 : Int32) (sf (sf σ 3 g) 0 (upd (σ 0) (11 + 6 * a) (nI y))) = some (X, sf (sf σ 3 g') 0 (upd (σ 0) (11 + 6 * a) (nI y))) := by
      unfold fm_onBy
      rw [g1, qbs, show (16 : Int32) = nI 16 from rfl, show (0 : Int32) = nI 0 from rfl]
      exact e5
    rw [EM, show (0 : Int32) = nI 0 from rfl, e1, show fc_to_recall (nI (vMom v)) τ2 = some υ from e2]
    simp only [qbs, qhl]
    unfold fc_hh_mostWorthy_a115_b100 fm_valueFor_b66
    rw [great_eq, qbs, show (1 : Int32) = nI 1 from rfl, pb_add]
    have F2 : fr2 τ υ := (hf.tr (fr2_sc (by unfold rlC; omega) (by decide) (by decide))).tr e4.fr2
    by_cases c : X ≤ w
    · simp only [if_pos c]
      exact ih (y + 1) q1 q2 y b w υ g' (by omega) e3 F2 (by omega) (by omega) (by omega)
    · simp only [if_neg c]
      exact ih (y + 1) q1 q2 y (nI y) X υ g' (by omega) e3 F2 (by omega) (by omega) (by omega)
theorem st_dueFor (h : Inv τ σ) (x1 : Int32) : stp (fc_hh_dueFor x1 τ) (fm_dueFor x1 σ) := by
  obtain ⟨⟨v, pr, tt⟩, -⟩ := id h
  obtain ⟨t1, t2, t3, t4, t5, t6, t7⟩ := id tt
  have b6 := t3.1
  have b1 := t3.2.1
  have b2 := t3.2.2.2.1
  unfold fc_hh_dueFor fm_dueFor
  rw [rg_has τ (by omega) t2.1, rg_isOne σ (by omega) t1.1, qbs, qbs]
  by_cases c1 : 0 ≤ x1 ∧ x1 < nI (v 13 0)
  · obtain ⟨a, ha, rfl⟩ := rg_one (by omega) c1
    have bk := t3.2.2.2.2.2.2.2.2.1 a ha
    simp only [if_pos c1, one0, if_false]
    have hF : 60 + 1 < hFU := by unfold hFU; decide
    have e0 : τ.1 115 a = nI (v 15 a) := (t2.2.2.2.2.2.2.2.1 a ha).2.1
    have m0 : σ 0 (11 + 6 * a) = nI (v 15 a) := (t1.2.2.2.2.2.1 a ha).2.1
    have R := mw_o115 (τ := τ) t1 t3 t4 t5 ha (60 + 1) 0 hFU hFU (v 15 a) (nI 0) (-1) τ (σ 3) (by omega) (by rw [va_id]; exact t2) fr2.rf (Nat.zero_add _) hF hF
    rw [← m0, up_id, sf_id, sf_id, m0] at R
    unfold fc_hh_mostWorthy_a115 fm_valueFor
    simp (disch := omega) only [pb_in, pb_oc, pb_cl, show (10 : Int32) = nI 10 from rfl, show (6 : Int32) = nI 6 from rfl, show (1 : Int32) = nI 1 from rfl, pb_mul, pb_add, qhl]
    rw [show 10 + 6 * a + 1 = 11 + 6 * a by omega, m0, e0, ec_moment t2 t3, show (16 : Int32) = nI 16 from rfl, ec_hoursOf t2 t3 (by decide), show min 16 (v 3 0 - v 2 0) = v 3 0 - v 2 0 by omega, qbs, qbs, show (0 : Int32) = nI 0 from rfl, show (60 : Int32) = nI 60 from rfl]
    rw [show (-nI 1 : Int32) = -1 from rfl]
    obtain ⟨r, υ, g', e1, e2, e3, e4⟩ := R
    rw [e1, e2]
    simp only [qbs]
    exact ⟨r, υ, _, rfl, rfl, Inv_same h tt frM_3 rfl e4.1 e4.2.1 e4.2.2 e3⟩
  · simp only [if_neg c1, zer0, if_true]
    exact ⟨_, τ, σ, rfl, rfl, h⟩
end S15
