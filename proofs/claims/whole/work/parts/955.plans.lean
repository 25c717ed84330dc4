/-! PURE: plans, as numbers; the class's search -/
theorem pQ {P Q : Prop} (e : P = Q) (h : Q) : P := Eq.mpr e h
theorem pN {P Q : Prop} (e : P = Q) (h : ¬ Q) : ¬ P := fun z => h (Eq.mp e z)
theorem pNN {P Q : Prop} (e : P = Q) (h : Q) : ¬ ¬ P := fun z => z (Eq.mpr e h)
abbrev P3 : Type := Nat × Nat × List Nat
def pcomb (a b : P3) : P3 := if a.1 < b.1 then b else if a.1 = b.1 then (a.1, a.2.1 + b.2.1, a.2.2) else a
def pf {α : Type} (f : α → Nat → α) : Nat → Nat → α → α
  | 0, _, x => x
  | m + 1, a, x => pf f m (a + 1) (f x a)
theorem pf_ind {α : Type} (f : α → Nat → α) (P : α → Prop) : ∀ m a x, P x → (∀ y b, a ≤ b → b < a + m → P y → P (f y b)) → P (pf f m a x) := by
  intro m
  induction m with
  | zero => intro a x h _; exact h
  | succ m ih =>
    intro a x h hs
    exact ih (a + 1) (f x a) (hs x a (Nat.le_refl _) (by omega) h) (fun y b h1 h2 => hs y b (by omega) (by omega))
def pS (pr : List RU) : Nat → VT → P3
  | 0, _ => (1, 1, [])
  | m + 1, v => pf (fun x a => pcomb x ((vPass v pr a).1 + (pS pr m (vPass v pr a).2).1, (pS pr m (vPass v pr a).2).2.1, a :: (pS pr m (vPass v pr a).2).2.2)) (v 13 0) 1 ((vPass v pr 0).1 + (pS pr m (vPass v pr 0).2).1, (pS pr m (vPass v pr 0).2).2.1, 0 :: (pS pr m (vPass v pr 0).2).2.2)
def pI (pr : List RU) (m : Nat) (v : VT) (a : Nat) : P3 := ((vPass v pr a).1 + (pS pr m (vPass v pr a).2).1, (pS pr m (vPass v pr a).2).2.1, a :: (pS pr m (vPass v pr a).2).2.2)
theorem pS_s (pr : List RU) (m : Nat) (v : VT) : pS pr (m + 1) v = pf (fun x a => pcomb x (pI pr m v a)) (v 13 0) 1 (pI pr m v 0) := rfl
section PP
variable {v : VT} {pr : List RU}
theorem vPass_13 (a : Nat) : (vPass v pr a).2 13 0 = v 13 0 := congrFun ((vPass_sm v pr a).at (by decide)) 0
theorem vPass_3 (a : Nat) : (vPass v pr a).2 3 0 = v 3 0 := congrFun ((vPass_sm v pr a).at (by decide)) 0
theorem pS_ok : ∀ m v, vOK v → v 2 0 + m ≤ v 3 0 → 1 ≤ (pS pr m v).1 ∧ (pS pr m v).1 ≤ 1 + 99 * m ∧ (pS pr m v).2.2.length = m := by
  intro m
  induction m with
  | zero => intro v _ _; exact ⟨Nat.le_refl _, Nat.le_refl _, rfl⟩
  | succ m ih =>
    intro v hv hh
    have key : ∀ a, a ≤ v 13 0 → 1 ≤ (pI pr m v a).1 ∧ (pI pr m v a).1 ≤ 1 + 99 * (m + 1) ∧ (pI pr m v a).2.2.length = m + 1 := by
      intro a ha
      obtain ⟨h1, h2⟩ := vPass_ok (pr := pr) hv (show v 2 0 < v 3 0 by omega) ha
      obtain ⟨h3, h4, h5⟩ := ih (vPass v pr a).2 h1 (by rw [vPass_hour, vPass_3]; omega)
      refine ⟨?_, ?_, ?_⟩
      · show 1 ≤ (vPass v pr a).1 + (pS pr m (vPass v pr a).2).1
        omega
      · show (vPass v pr a).1 + (pS pr m (vPass v pr a).2).1 ≤ _
        omega
      · show (pS pr m (vPass v pr a).2).2.2.length + 1 = _
        omega
    rw [pS_s]
    refine pf_ind _ (fun x : P3 => 1 ≤ x.1 ∧ x.1 ≤ 1 + 99 * (m + 1) ∧ x.2.2.length = m + 1) _ _ _ (key 0 (by omega)) (fun y b h1 h2 hy => ?_)
    have kb := key b (by omega)
    show 1 ≤ (pcomb y (pI pr m v b)).1 ∧ (pcomb y (pI pr m v b)).1 ≤ 1 + 99 * (m + 1) ∧ (pcomb y (pI pr m v b)).2.2.length = m + 1
    unfold pcomb
    split
    · exact kb
    · split
      · exact hy
      · exact hy
theorem pI_ok {m a : Nat} (hv : vOK v) (hh : v 2 0 + (m + 1) ≤ v 3 0) (ha : a ≤ v 13 0) : 1 ≤ (pI pr m v a).1 ∧ (pI pr m v a).1 ≤ 1 + 99 * (m + 1) := by
  obtain ⟨h1, h2⟩ := vPass_ok (pr := pr) hv (show v 2 0 < v 3 0 by omega) ha
  obtain ⟨h3, h4, h5⟩ := pS_ok (pr := pr) m (vPass v pr a).2 h1 (by rw [vPass_hour, vPass_3]; omega)
  refine ⟨?_, ?_⟩
  · show 1 ≤ (vPass v pr a).1 + (pS pr m (vPass v pr a).2).1
    omega
  · show (vPass v pr a).1 + (pS pr m (vPass v pr a).2).1 ≤ _
    omega
theorem pcomb_bot {x : P3} (h : 1 ≤ x.1) : pcomb (0, 0, []) x = x := if_pos h
theorem vMom_lt (hv : vOK v) : vMom v < 2147483648 := by
  have h0 := hv.1
  have h2 := hv.2.1
  have h3 := hv.2.2.2.1
  have h5 := hv.2.2.2.2.1
  have h6 := hv.2.2.2.2.2.1
  have hw : v 7 0 < 64 := Nat.lt_of_lt_of_le hv.2.2.2.2.2.2.1 (Nat.pow_le_pow_right (by decide) h0)
  have hdn : v 8 0 < 64 := Nat.lt_of_lt_of_le hv.2.2.2.2.2.2.2.1 (Nat.pow_le_pow_right (by decide) h0)
  unfold vMom
  omega
theorem vMom_7 {u w : VT} (hu : vOK u) (hw : vOK w) (e : vMom u = vMom w) : u 7 0 = w 7 0 := by
  have a0 := hu.1
  have a5 := hu.2.2.2.2.1
  have a6 := hu.2.2.2.2.2.1
  have a7 : u 7 0 < 64 := Nat.lt_of_lt_of_le hu.2.2.2.2.2.2.1 (Nat.pow_le_pow_right (by decide) a0)
  have a8 : u 8 0 < 64 := Nat.lt_of_lt_of_le hu.2.2.2.2.2.2.2.1 (Nat.pow_le_pow_right (by decide) a0)
  have b0 := hw.1
  have b5 := hw.2.2.2.2.1
  have b6 := hw.2.2.2.2.2.1
  have b7 : w 7 0 < 64 := Nat.lt_of_lt_of_le hw.2.2.2.2.2.2.1 (Nat.pow_le_pow_right (by decide) b0)
  have b8 : w 8 0 < 64 := Nat.lt_of_lt_of_le hw.2.2.2.2.2.2.2.1 (Nat.pow_le_pow_right (by decide) b0)
  unfold vMom at e
  omega
theorem vclr_ne {w k : Nat} (h : vbit w k = 1) : vclr w k ≠ w := by
  intro e
  unfold vclr at e
  rw [h, Nat.one_mul] at e
  have hp : 0 < 2 ^ k := Nat.two_pow_pos k
  have hw : w = 0 := by omega
  rw [hw] at h
  unfold vbit at h
  rw [Nat.zero_div] at h
  exact absurd h (by decide)
/-- an act that moves nobody is act 0 -/
theorem vIdle (hv : vOK v) (hh : v 2 0 < v 3 0) {a : Nat} (ha : a ≤ v 13 0) (e : vMom (vPass v pr a).2 = vMom (vPass v pr 0).2) : vPass v pr a = vPass v pr 0 := by
  have e7 := vMom_7 (vPass_ok hv hh ha).1 (vPass_ok hv hh (Nat.zero_le _)).1 e
  have e0 : vPass v pr 0 = (0, vOn (vs v 5 (vNews (v 10 (v 2 0)) (v 5 0)))) := by
    unfold vPass
    rw [if_neg (fun z => by have := z.1; omega)]
  rw [e0] at e7 ⊢
  by_cases c : 1 ≤ a ∧ vbit (v 7 0) (a - 1) = 1
  · have ea : vPass v pr a = ((vCalls (vs v 5 (vNews (v 10 (v 2 0)) (v 5 0))) pr (a - 1)).1, vOn (vCalls (vs v 5 (vNews (v 10 (v 2 0)) (v 5 0))) pr (a - 1)).2) := by
      unfold vPass
      rw [if_pos c]
    rw [ea] at e7 ⊢
    have n7 := vclr_ne c.2
    unfold vCalls at e7 ⊢
    by_cases c1 : vWill (vs v 5 (vNews (v 10 (v 2 0)) (v 5 0))) pr (a - 1) = 1
    · rw [if_pos c1]
    · rw [if_neg c1] at e7
      exfalso
      by_cases c2 : vWill (vs v 5 (vNews (v 10 (v 2 0)) (v 5 0))) pr (a - 1) = 2
      · rw [if_pos c2] at e7
        exact n7 e7
      · rw [if_neg c2] at e7
        split at e7
        · exact n7 e7
        · exact n7 e7
  · unfold vPass
    rw [if_neg c]
end PP
def nM (x : Nat) : Int32 := nI x - 1
theorem nM_toInt {x : Nat} (h : x < 1000000) : (nM x).toInt = (x : Int) - 1 := by
  unfold nM
  rw [Int32.toInt_sub, pb_toInt (by omega), show (1 : Int32).toInt = 1 from by decide]
  exact Int.bmod_eq_of_le (by omega) (by omega)
theorem nM_le {x y : Nat} (hx : x < 1000000) (hy : y < 1000000) : (nM x ≤ nM y) = (x ≤ y) := propext (by rw [Int32.le_iff_toInt_le, nM_toInt hx, nM_toInt hy]; omega)
theorem nM_eq {x y : Nat} (hx : x < 1000000) (hy : y < 1000000) : (nM x = nM y) = (x = y) := propext (by rw [← Int32.toInt_inj, nM_toInt hx, nM_toInt hy]; omega)
theorem nM_add (w b : Nat) : nI w + nM b = nM (w + b) := by
  unfold nM
  rw [← pb_add, Int32.sub_eq_add_neg, Int32.sub_eq_add_neg, Int32.add_assoc]
theorem nM_s (b : Nat) : nM (b + 1) = nI b := by
  unfold nM
  rw [← pb_add, show nI 1 = (1 : Int32) from rfl, Int32.add_sub_cancel]
theorem nI_s (b : Nat) : nI (b + 1) - (1 : Int32) = nI b := nM_s b
theorem nI_a1 (b : Nat) : nI b + (1 : Int32) = nI (b + 1) := pb_add b 1
def eqP (τ υ : SC) : Prop := (∀ k, k ≠ 102 → k ≠ 105 → k ≠ 106 → k ≠ 107 → k ≠ 108 → k ≠ 126 → k ≠ 401 → (k < 410 ∨ 415 ≤ k) → υ.1 k = τ.1 k) ∧ υ.2 = τ.2
theorem eqP.rf {τ : SC} : eqP τ τ := ⟨fun _ _ _ _ _ _ _ _ _ => rfl, rfl⟩
theorem eqP.tr {a b c : SC} (h1 : eqP a b) (h2 : eqP b c) : eqP a c := ⟨fun k a1 a2 a3 a4 a5 a6 a7 a8 => (h2.1 k a1 a2 a3 a4 a5 a6 a7 a8).trans (h1.1 k a1 a2 a3 a4 a5 a6 a7 a8), h2.2.trans h1.2⟩
theorem eqC.p {τ υ : SC} (h : eqC τ υ) : eqP τ υ := ⟨fun k a1 a2 a3 a4 a5 a6 _ _ => h.1 k a1 a2 a3 a4 a5 a6, h.2⟩
theorem eqP_sc {τ : SC} {k : Nat} {f : Nat → Int32} (h : k = 401 ∨ (410 ≤ k ∧ k < 415)) : eqP τ (sc τ k f) := ⟨fun j a1 a2 a3 a4 a5 a6 a7 a8 => sc_ne (by omega), rfl⟩
theorem eqP.fr {τ υ : SC} (h : eqP τ υ) : frC τ υ := ⟨fun k hk => by
  unfold rlC at hk
  exact h.1 k (by omega) (by omega) (by omega) (by omega) (by omega) (by omega) (by omega) (by omega), h.2⟩
theorem tc_P {τ : SC} {v : VT} {pr : List RU} (h : twC τ 100 v pr) {k : Nat} (hk : 200 ≤ k) (f : Nat → Int32) : twC (sc τ k f) 100 v pr := twC_cg (fun j _ _ => sc_ne (by omega)) h
theorem eqC_hi {τ υ : SC} (h : eqC τ υ) {k : Nat} (hk : 200 ≤ k) : υ.1 k = τ.1 k := h.1 k (by omega) (by omega) (by omega) (by omega) (by omega) (by omega)
section SE
variable {pr : List RU}
def SR (pr : List RU) (m : Nat) (Rc : Int32 → SC → Option (Int32 × SC)) : Prop := ∀ (τ : SC) (v : VT), twC τ 100 v pr → vOK v → v 2 0 + m ≤ v 3 0 → ∃ τ', Rc (nI m) τ = some (nM (pS pr m v).1, τ') ∧ twC τ' 100 v pr ∧ eqP τ τ' ∧ τ'.1 401 m = nI (pS pr m v).2.1 ∧ (∀ j, j < m → τ'.1 (410 + m) j = nI ((pS pr m v).2.2.getD j 0)) ∧ (∀ j, m < j → τ'.1 401 j = τ.1 401 j) ∧ (∀ j, m < j → τ'.1 (410 + j) = τ.1 (410 + j))
/-- at the head of the loop: what was found so far -/
def SH (m : Nat) (τ0 τ : SC) (v : VT) (pr : List RU) (acc : P3) : Prop := twC τ 100 v pr ∧ eqP τ0 τ ∧ (∀ j, m < j → τ.1 401 j = τ0.1 401 j) ∧ (∀ j, m < j → τ.1 (410 + j) = τ0.1 (410 + j)) ∧ (0 < acc.1 → τ.1 401 m = nI acc.2.1 ∧ ∀ j, j < m → τ.1 (410 + m) j = nI (acc.2.2.getD j 0))
theorem nb_ok {τ : SC} {m a : Nat} (hm : m < 4) : ∃ f, fc_pl_noteBetter (nI (m + 1)) (nI a) τ = some (sc τ (410 + (m + 1)) f) ∧ f 0 = nI a ∧ ∀ j, j < m → f (j + 1) = τ.1 (410 + m) j := by
  unfold fc_pl_noteBetter
  rw [nI_s, pb_in (by omega) (by omega), pb_in (by omega) (by omega), pb_cl (by omega), pb_cl (by omega)]
  simp only [pb_oc, qhl, sc_sc, sc_at]
  rw [show decide (m + 1 < 5) = true from decide_eq_true (by omega), pb_oc]
  rw [show decide ((m < 5) ∧ (m + 1 < 5) ∧ (¬ m = m + 1) ∧ (¬ nI m < 0) ∧ ((Int32.toNatClampNeg (0 : Int32)) + m ≤ 4) ∧ ((Int32.toNatClampNeg (1 : Int32)) + m ≤ 4)) = true from decide_eq_true ⟨by omega, by omega, by omega, nI_pos (by omega), by rw [show Int32.toNatClampNeg (0 : Int32) = 0 from by decide]; omega, by rw [show Int32.toNatClampNeg (1 : Int32) = 1 from by decide]; omega⟩, pb_oc]
  refine ⟨_, rfl, ?_, fun j hj => ?_⟩
  · show va_cpy _ _ (Int32.toNatClampNeg (0 : Int32)) (Int32.toNatClampNeg (1 : Int32)) m 0 = _
    rw [show Int32.toNatClampNeg (0 : Int32) = 0 from by decide, show Int32.toNatClampNeg (1 : Int32) = 1 from by decide]
    unfold va_cpy
    rw [if_neg (by omega)]
    exact up_eq
  · show va_cpy _ _ (Int32.toNatClampNeg (0 : Int32)) (Int32.toNatClampNeg (1 : Int32)) m (j + 1) = _
    rw [show Int32.toNatClampNeg (0 : Int32) = 0 from by decide, show Int32.toNatClampNeg (1 : Int32) = 1 from by decide]
    unfold va_cpy
    rw [if_pos (by omega), show 0 + (j + 1 - 1) = j by omega, sc_ne (by omega)]
theorem se_l (hp : pOK pr) (hpc : vclen pr ≤ 200) {m : Nat} (hm : m < 4) {Rc : Int32 → SC → Option (Int32 × SC)} (hR : SR pr m Rc) {τ0 : SC} {v : VT} (hv : vOK v) (hh : v 2 0 + (m + 1) ≤ v 3 0) : ∀ (q a n : Nat) (acc : P3) (x4 x5 x6 : Int32) (τ : SC), a + q = v 13 0 + 1 → q < n → SH (m + 1) τ0 τ v pr acc → acc.1 ≤ 1 + 99 * (m + 1) → ((a = 0 ∧ x4 = -1 ∧ acc = (0, 0, [])) ∨ (0 < a ∧ x4 = nI (vMom (vPass v pr 0).2) ∧ x5 = nM (pI pr m v 0).1 ∧ x6 = nI (pI pr m v 0).2.1 ∧ (pI pr m v 0).1 ≤ acc.1)) → ∃ τ', fc_pl_search_l41 Rc n (nI (m + 1)) (nI (vMom v)) (nM acc.1) x4 x5 x6 (nI a) τ = some (nM (pf (fun x a => pcomb x (pI pr m v a)) q a acc).1, τ') ∧ SH (m + 1) τ0 τ' v pr (pf (fun x a => pcomb x (pI pr m v a)) q a acc) := by
  have b6 := hv.1
  have hlt : v 2 0 < v 3 0 := by omega
  intro q
  induction q with
  | zero =>
    intro a n acc x4 x5 x6 τ hq hn hs hb hd
    obtain ⟨n', rfl⟩ : ∃ q, n = q + 1 := ⟨n - 1, by omega⟩
    unfold fc_pl_search_l41
    rw [show τ.1 113 0 = nI (v 13 0) from hs.1.1, if_pos (show nI (v 13 0) < nI a by rw [pb_lt (by omega) (by omega)]; omega)]
    exact ⟨τ, rfl, hs⟩
  | succ q ih =>
    intro a n acc x4 x5 x6 τ hq hn hs hb hd
    obtain ⟨n', rfl⟩ : ∃ q, n = q + 1 := ⟨n - 1, by omega⟩
    obtain ⟨s1, s2, s3, s4, s5⟩ := id hs
    have ha : a ≤ v 13 0 := by omega
    obtain ⟨i1, i2⟩ := pI_ok (pr := pr) (a := a) hv hh ha
    obtain ⟨τ4, p1, p2, p3⟩ := ec_pass s1 hv hp hpc hlt ha
    have hv4 := (vPass_ok (pr := pr) hv hlt ha).1
    have IH := fun acc x4 x5 x6 τ => ih (a + 1) n' acc x4 x5 x6 τ (by omega) (by omega)
    rw [fc_pl_search_l41]
    generalize fc_pl_search_l41 Rc n' = K at IH ⊢
    rw [show τ.1 113 0 = nI (v 13 0) from s1.1, if_neg (show ¬ nI (v 13 0) < nI a by rw [pb_lt (by omega) (by omega)]; omega), p1]
    simp only [qbs, qhl]
    rw [ec_moment p2 hv4, qbs]
    have BACK : ∀ (τ9 : SC) (acc' : P3) (y4 y5 y6 : Int32), twC τ9 100 (vPass v pr a).2 pr → eqP τ0 τ9 → (∀ j, m + 1 < j → τ9.1 401 j = τ0.1 401 j) → (∀ j, m + 1 < j → τ9.1 (410 + j) = τ0.1 (410 + j)) → (0 < acc'.1 → τ9.1 401 (m + 1) = nI acc'.2.1 ∧ ∀ j, j < m + 1 → τ9.1 (410 + (m + 1)) j = nI (acc'.2.2.getD j 0)) → acc'.1 ≤ 1 + 99 * (m + 1) → (0 < a + 1 ∧ y4 = nI (vMom (vPass v pr 0).2) ∧ y5 = nM (pI pr m v 0).1 ∧ y6 = nI (pI pr m v 0).2.1 ∧ (pI pr m v 0).1 ≤ acc'.1) → acc' = pcomb acc (pI pr m v a) → ∃ τ', fc_pl_search_b189 Rc K (nI (m + 1)) (nI (vMom v)) (nM acc'.1) y4 y5 y6 (nI a) τ9 = some (nM (pf (fun x a => pcomb x (pI pr m v a)) (q + 1) a acc).1, τ') ∧ SH (m + 1) τ0 τ' v pr (pf (fun x a => pcomb x (pI pr m v a)) (q + 1) a acc) := by
      intro τ9 acc' y4 y5 y6 h1 h2 h3 h4 h5 h6 h7 h8
      obtain ⟨υ, u1, u2, u3⟩ := ec_recall h1 hv
      have U := tc_back (vPass_sm v pr a) u2
      unfold fc_pl_search_b189
      rw [u1, qbs, nI_a1]
      have R := IH acc' y4 y5 y6 υ ⟨U, h2.tr u3.p, fun j hj => (congrFun (eqC_hi u3 (by omega)) j).trans (h3 j hj), fun j hj => (eqC_hi u3 (by omega)).trans (h4 j hj), fun h0 => ⟨(congrFun (eqC_hi u3 (by omega)) _).trans (h5 h0).1, fun j hj => (congrFun (eqC_hi u3 (by omega)) j).trans ((h5 h0).2 j hj)⟩⟩ h6 (Or.inr h7)
      rw [show pf (fun x a => pcomb x (pI pr m v a)) (q + 1) a acc = pf (fun x a => pcomb x (pI pr m v a)) q (a + 1) acc' by rw [h8]; rfl]
      exact R
    by_cases c : nI (vMom (vPass v pr a).2) = x4
    · -- the same as act 0
      rw [if_neg (fun z => z c)]
      rcases hd with ⟨-, hx4, -⟩ | ⟨d1, d2, d3, d4, d5⟩
      · rw [hx4] at c
        exact absurd c (nI_m1 (vMom_lt hv4))
      · have hid := vIdle hv hlt ha (by rwa [d2, pb_eq (vMom_lt hv4) (vMom_lt (vPass_ok (pr := pr) hv hlt (Nat.zero_le _)).1)] at c)
        have j1 : (pI pr m v a).1 = (pI pr m v 0).1 := by unfold pI; rw [hid]
        have j2 : (pI pr m v a).2.1 = (pI pr m v 0).2.1 := by unfold pI; rw [hid]
        have k0 := (pI_ok (pr := pr) (a := 0) hv hh (Nat.zero_le _)).1
        obtain ⟨s5a, s5b⟩ := s5 (by omega)
        rw [pb_in (by omega) (by omega), pb_oc, d3]
        unfold fc_pl_search_b99
        rw [pb_in (by omega) (by omega), pb_oc, pb_oc, pb_cl (by omega), eqC_hi p3 (by omega), s5a]
        by_cases c3 : (pI pr m v 0).1 = acc.1
        · rw [if_neg (pNN (nM_eq (by omega) (by omega)) c3), d4, pb_add, qhl]
          have hacc : pcomb acc (pI pr m v a) = (acc.1, acc.2.1 + (pI pr m v 0).2.1, acc.2.2) := by
            unfold pcomb
            rw [if_neg (by omega), if_pos (by omega), j2]
          rw [show nM acc.1 = nM ((acc.1, acc.2.1 + (pI pr m v 0).2.1, acc.2.2) : P3).1 from rfl]
          refine BACK _ _ _ _ _ (tc_P p2 (by omega) _) ((s2.tr p3.p).tr (eqP_sc (by omega))) (fun j hj => ?_) (fun j hj => ?_) (fun _ => ⟨?_, fun j hj => ?_⟩) hb ⟨by omega, d2, rfl, rfl, d5⟩ hacc.symm
          · rw [sc_at, up_ne (by omega)]
            exact s3 j hj
          · rw [sc_ne (by omega), eqC_hi p3 (by omega)]
            exact s4 j hj
          · rw [sc_at, up_eq]
          · rw [sc_ne (by omega), eqC_hi p3 (by omega)]
            exact s5b j hj
        · rw [if_pos (pN (nM_eq (by omega) (by omega)) c3), show nI acc.2.1 + (0 : Int32) = nI acc.2.1 from Int32.add_zero _, qhl]
          have hacc : pcomb acc (pI pr m v a) = acc := by
            unfold pcomb
            rw [if_neg (by omega), if_neg (by omega)]
          refine BACK _ acc _ _ _ (tc_P p2 (by omega) _) ((s2.tr p3.p).tr (eqP_sc (by omega))) (fun j hj => ?_) (fun j hj => ?_) (fun _ => ⟨?_, fun j hj => ?_⟩) hb ⟨by omega, d2, rfl, d4, d5⟩ hacc.symm
          · rw [sc_at, up_ne (by omega)]
            exact s3 j hj
          · rw [sc_ne (by omega), eqC_hi p3 (by omega)]
            exact s4 j hj
          · rw [sc_at, up_eq]
          · rw [sc_ne (by omega), eqC_hi p3 (by omega)]
            exact s5b j hj
    · rw [if_pos c, nI_s]
      obtain ⟨τ7, r1, r2, r3, r4, r5, r6, r7⟩ := hR τ4 (vPass v pr a).2 p2 hv4 (by rw [vPass_hour, vPass_3]; omega)
      rw [r1]
      simp only [qbs, qhl]
      rw [nM_add, show nM ((vPass v pr a).1 + (pS pr m (vPass v pr a).2).1) = nM (pI pr m v a).1 from rfl]
      -- from b164 on
      have FIN : ∀ (τ8 : SC) (acc' : P3) (y0 y1 : Int32), twC τ8 100 (vPass v pr a).2 pr → eqP τ0 τ8 → (∀ j, m + 1 < j → τ8.1 401 j = τ0.1 401 j) → (∀ j, m + 1 < j → τ8.1 (410 + j) = τ0.1 (410 + j)) → y1 + y0 = nI acc'.2.1 → τ8.1 401 m = nI (pI pr m v a).2.1 → (∀ j, j < m + 1 → τ8.1 (410 + (m + 1)) j = nI (acc'.2.2.getD j 0)) → acc'.1 ≤ 1 + 99 * (m + 1) → acc.1 ≤ acc'.1 → (pI pr m v a).1 ≤ acc'.1 → acc' = pcomb acc (pI pr m v a) → ∃ τ', fc_pl_search_b164 Rc K (nI (m + 1)) (nI (vMom v)) (nM acc'.1) x4 x5 x6 (nI a) (nI (vMom (vPass v pr a).2)) (nM (pI pr m v a).1) y0 y1 (nI (m + 1)) τ8 = some (nM (pf (fun x a => pcomb x (pI pr m v a)) (q + 1) a acc).1, τ') ∧ SH (m + 1) τ0 τ' v pr (pf (fun x a => pcomb x (pI pr m v a)) (q + 1) a acc) := by
        intro τ8 acc' y0 y1 h1 h2 h3 h4 h5 h6 h7 h8 h9 h10 h11
        unfold fc_pl_search_b164
        rw [pb_in (by omega) (by omega), pb_oc, qhl, pb_cl (by omega), h5, nI_s, pb_in (by omega) (by omega), pb_oc, pb_cl (by omega), qhl, sc_at, up_ne (by omega), h6]
        have G3 : ∀ j, m + 1 < j → (sc τ8 401 (upd (τ8.1 401) (m + 1) (nI acc'.2.1))).1 401 j = τ0.1 401 j := fun j hj => by
          rw [sc_at, up_ne (by omega)]
          exact h3 j hj
        have G4 : ∀ j, m + 1 < j → (sc τ8 401 (upd (τ8.1 401) (m + 1) (nI acc'.2.1))).1 (410 + j) = τ0.1 (410 + j) := fun j hj => by
          rw [sc_ne (by omega)]
          exact h4 j hj
        have G5 : 0 < acc'.1 → (sc τ8 401 (upd (τ8.1 401) (m + 1) (nI acc'.2.1))).1 401 (m + 1) = nI acc'.2.1 ∧ ∀ j, j < m + 1 → (sc τ8 401 (upd (τ8.1 401) (m + 1) (nI acc'.2.1))).1 (410 + (m + 1)) j = nI (acc'.2.2.getD j 0) := fun _ => ⟨by rw [sc_at, up_eq], fun j hj => by
          rw [sc_ne (by omega)]
          exact h7 j hj⟩
        by_cases ca : a = 0
        · rw [if_neg (pNN (pb_ez (by omega)) ca)]
          subst ca
          exact BACK _ acc' _ _ _ (tc_P h1 (by omega) _) (h2.tr (eqP_sc (by omega))) G3 G4 G5 h8 ⟨by omega, rfl, rfl, rfl, h10⟩ h11
        · rw [if_pos (pN (pb_ez (by omega)) ca)]
          rcases hd with ⟨d0, -, -⟩ | ⟨d1, d2, d3, d4, d5⟩
          · exact absurd d0 ca
          · exact BACK _ acc' _ _ _ (tc_P h1 (by omega) _) (h2.tr (eqP_sc (by omega))) G3 G4 G5 h8 ⟨by omega, d2, d3, d4, by omega⟩ h11
      have F3 : ∀ j, m + 1 < j → τ7.1 401 j = τ0.1 401 j := fun j hj => by
        rw [r6 j (by omega), eqC_hi p3 (by omega)]
        exact s3 j hj
      have F4 : ∀ j, m + 1 < j → τ7.1 (410 + j) = τ0.1 (410 + j) := fun j hj => by
        rw [r7 j (by omega), eqC_hi p3 (by omega)]
        exact s4 j hj
      by_cases c2 : (pI pr m v a).1 ≤ acc.1
      · rw [if_pos (pQ (nM_le (by omega) (by omega)) c2)]
        obtain ⟨s5a, s5b⟩ := s5 (by omega)
        unfold fc_pl_search_b139
        rw [nI_s, pb_in (by omega) (by omega), pb_in (by omega) (by omega), pb_oc, pb_oc, pb_cl (by omega), pb_cl (by omega), r6 (m + 1) (by omega), eqC_hi p3 (by omega), s5a, r4]
        have A7 : ∀ j, j < m + 1 → τ7.1 (410 + (m + 1)) j = nI (acc.2.2.getD j 0) := fun j hj => by
          rw [r7 (m + 1) (by omega), eqC_hi p3 (by omega)]
          exact s5b j hj
        by_cases c3 : (pI pr m v a).1 = acc.1
        · rw [if_neg (pNN (nM_eq (by omega) (by omega)) c3)]
          have hacc : pcomb acc (pI pr m v a) = (acc.1, acc.2.1 + (pI pr m v a).2.1, acc.2.2) := by
            unfold pcomb
            rw [if_neg (by omega), if_pos c3.symm]
          exact FIN τ7 (acc.1, acc.2.1 + (pI pr m v a).2.1, acc.2.2) _ _ r2 ((s2.tr p3.p).tr r3) F3 F4 (pb_add _ _) r4 A7 hb (Nat.le_refl _) c2 hacc.symm
        · rw [if_pos (pN (nM_eq (by omega) (by omega)) c3)]
          have hacc : pcomb acc (pI pr m v a) = acc := by
            unfold pcomb
            rw [if_neg (by omega), if_neg (fun z => c3 z.symm)]
          exact FIN τ7 acc _ _ r2 ((s2.tr p3.p).tr r3) F3 F4 (Int32.add_zero _) r4 A7 hb (Nat.le_refl _) c2 hacc.symm
      · rw [if_neg (pN (nM_le (by omega) (by omega)) c2), pb_in (by omega) (by omega), pb_oc, pb_cl (by omega)]
        obtain ⟨f, n1, n2, n3⟩ := nb_ok (τ := sc τ7 401 (upd (τ7.1 401) (m + 1) (0 : Int32))) (a := a) hm
        rw [n1, qbs]
        have hacc : pcomb acc (pI pr m v a) = pI pr m v a := by
          unfold pcomb
          rw [if_pos (by omega)]
        unfold fc_pl_search_b139
        rw [nI_s, pb_in (by omega) (by omega), pb_in (by omega) (by omega), pb_oc, pb_oc, pb_cl (by omega), pb_cl (by omega), if_neg (fun z => z rfl), sc_ne (by omega), sc_at, up_eq, up_ne (by omega), r4]
        refine FIN _ (pI pr m v a) _ _ (tc_P (tc_P r2 (by omega) _) (by omega) _) ((((s2.tr p3.p).tr r3).tr (eqP_sc (by omega))).tr (eqP_sc (by omega))) (fun j hj => ?_) (fun j hj => ?_) (Int32.zero_add _) ?_ (fun j hj => ?_) i2 (by omega) (Nat.le_refl _) hacc.symm
        · rw [sc_ne (by omega), sc_at, up_ne (by omega)]
          exact F3 j hj
        · rw [sc_ne (by omega), sc_ne (by omega)]
          exact F4 j hj
        · rw [sc_ne (by omega), sc_at, up_ne (by omega)]
          exact r4
        · rw [sc_at]
          rcases (show j = 0 ∨ ∃ i, j = i + 1 from by
            cases j with
            | zero => exact Or.inl rfl
            | succ i => exact Or.inr ⟨i, rfl⟩) with rfl | ⟨i, rfl⟩
          · rw [n2]
            rfl
          · rw [n3 i (by omega), sc_ne (by omega), r5 i (by omega)]
            rfl
theorem se_ok (hp : pOK pr) (hpc : vclen pr ≤ 200) : ∀ m d, m < d → m ≤ 4 → SR pr m (fc_pl_searchD d) := by
  intro m
  induction m with
  | zero =>
    intro d hd _ τ v hT hv hh
    obtain ⟨e, rfl⟩ : ∃ q, d = q + 1 := ⟨d - 1, by omega⟩
    show ∃ τ', fc_pl_search (fc_pl_searchD e) (nI 0) τ = _ ∧ _
    unfold fc_pl_search
    rw [if_pos (show nI 0 < (1 : Int32) by decide), qhl]
    refine ⟨sc τ 401 (upd (τ.1 401) 0 (1 : Int32)), by rw [show nM (pS pr 0 v).1 = (0 : Int32) from (by show nM 1 = 0; decide)], tc_P hT (by decide) _, eqP_sc (Or.inl rfl), ?_, fun j hj => absurd hj (Nat.not_lt_zero j), fun j hj => ?_, fun j hj => sc_ne (by omega)⟩
    · rw [sc_at, up_eq]
      rfl
    · rw [sc_at, up_ne (by omega)]
  | succ m ih =>
    intro d hd hm τ v hT hv hh
    obtain ⟨e, rfl⟩ : ∃ q, d = q + 1 := ⟨d - 1, by omega⟩
    have hR := ih e (by omega) (by omega)
    show ∃ τ', fc_pl_search (fc_pl_searchD e) (nI (m + 1)) τ = _ ∧ _
    generalize fc_pl_searchD e = Rc at hR
    have b6 := hv.1
    unfold fc_pl_search
    rw [if_neg (show ¬ nI (m + 1) < (1 : Int32) by rw [show (1 : Int32) = nI 1 from rfl, pb_lt (by omega) (by omega)]; omega), if_pos (show nI (m + 1) ≤ (4 : Int32) by rw [show (4 : Int32) = nI 4 from rfl, pb_le (by omega) (by omega)]; omega), ec_moment hT hv, qbs]
    obtain ⟨τ', e1, e2, e3, e4, e5, e6⟩ := se_l (τ0 := τ) hp hpc (show m < 4 by omega) hR hv hh (v 13 0 + 1) 0 hFU (0, 0, []) (-1) 0 0 τ (by omega) (by unfold hFU; omega) ⟨hT, eqP.rf, fun _ _ => rfl, fun _ _ => rfl, fun z => absurd z (Nat.lt_irrefl _)⟩ (Nat.zero_le _) (Or.inl ⟨rfl, rfl, rfl⟩)
    have hS : pf (fun x a => pcomb x (pI pr m v a)) (v 13 0 + 1) 0 (0, 0, []) = pS pr (m + 1) v := by
      rw [pS_s]
      show pf _ (v 13 0) (0 + 1) (pcomb (0, 0, []) (pI pr m v 0)) = _
      rw [pcomb_bot (pI_ok (pr := pr) hv hh (Nat.zero_le _)).1]
    rw [hS] at e1 e6
    have h1 := (pS_ok (pr := pr) (m + 1) v hv hh).1
    obtain ⟨g1, g2⟩ := e6 (by omega)
    exact ⟨τ', e1, e2, e3, g1, g2, e4, e5⟩
end SE
