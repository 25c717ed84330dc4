/-! PURE: the game -/
def gst (b : Bool) (x : Nat × Nat) (y a : Nat) : Nat × Nat := if (b = true ∧ x.1 < y) ∨ (b = false ∧ y < x.1) then (y, a) else x
def pG (pr : List RU) : Nat → Bool → VT → Nat × Nat
  | 0, _, _ => (0, 0)
  | m + 1, b, v => pf (fun x a => if a = 0 then ((vPass v pr 0).1 + (pG pr m (!b) (vPass v pr 0).2).1, 0) else gst b x ((vPass v pr a).1 + (pG pr m (!b) (vPass v pr a).2).1) a) (v 13 0 + 1) 0 (0, 0)
def gX (pr : List RU) (m : Nat) (b : Bool) (v : VT) (a : Nat) : Nat := (vPass v pr a).1 + (pG pr m (!b) (vPass v pr a).2).1
def gF (pr : List RU) (m : Nat) (b : Bool) (v : VT) (x : Nat × Nat) (a : Nat) : Nat × Nat := if a = 0 then (gX pr m b v 0, 0) else gst b x (gX pr m b v a) a
theorem pG_s (pr : List RU) (m : Nat) (b : Bool) (v : VT) : pG pr (m + 1) b v = pf (gF pr m b v) (v 13 0 + 1) 0 (0, 0) := rfl
def bI (b : Bool) : Int32 := if b = true then 1 else 0
section GA
variable {pr : List RU}
theorem pG_le : ∀ m b v, vOK v → v 2 0 + m ≤ v 3 0 → (pG pr m b v).1 ≤ 99 * m := by
  intro m
  induction m with
  | zero => intro b v _ _; exact Nat.le_refl _
  | succ m ih =>
    intro b v hv hh
    have key : ∀ a, a ≤ v 13 0 → gX pr m b v a ≤ 99 * (m + 1) := by
      intro a ha
      obtain ⟨h1, h2⟩ := vPass_ok (pr := pr) hv (show v 2 0 < v 3 0 by omega) ha
      have h3 := ih (!b) (vPass v pr a).2 h1 (by rw [vPass_hour, vPass_3]; omega)
      unfold gX
      omega
    rw [pG_s]
    refine pf_ind _ (fun x : Nat × Nat => x.1 ≤ 99 * (m + 1)) _ _ _ (Nat.zero_le _) (fun y c h1 h2 hy => ?_)
    show (gF pr m b v y c).1 ≤ _
    unfold gF gst
    split
    · exact key 0 (Nat.zero_le _)
    · split
      · exact key c (by omega)
      · exact hy
theorem gX_le {m a : Nat} {b : Bool} {v : VT} (hv : vOK v) (hh : v 2 0 + (m + 1) ≤ v 3 0) (ha : a ≤ v 13 0) : gX pr m b v a ≤ 99 * (m + 1) := by
  obtain ⟨h1, h2⟩ := vPass_ok (pr := pr) hv (show v 2 0 < v 3 0 by omega) ha
  have h3 := pG_le (pr := pr) m (!b) (vPass v pr a).2 h1 (by rw [vPass_hour, vPass_3]; omega)
  unfold gX
  omega
def GS (pr : List RU) (m : Nat) (Rc : Int32 → Int32 → SC → Option (Int32 × SC)) : Prop := ∀ (b : Bool) (τ : SC) (v : VT), twC τ 100 v pr → vOK v → v 2 0 + m ≤ v 3 0 → ∃ τ', Rc (nI m) (bI b) τ = some (nI (pG pr m b v).1, τ') ∧ twC τ' 100 v pr ∧ eqP τ τ' ∧ (0 < m → τ'.1 (410 + m) 0 = nI (pG pr m b v).2) ∧ (∀ j, m < j → τ'.1 (410 + j) = τ.1 (410 + j))
def GH (m : Nat) (τ0 τ : SC) (v : VT) (pr : List RU) (acc : Nat × Nat) (a : Nat) : Prop := twC τ 100 v pr ∧ eqP τ0 τ ∧ (∀ j, m < j → τ.1 (410 + j) = τ0.1 (410 + j)) ∧ (0 < a → τ.1 (410 + m) 0 = nI acc.2)
theorem ga_l (hp : pOK pr) (hpc : vclen pr ≤ 200) {m : Nat} (hm : m < 4) {Rc : Int32 → Int32 → SC → Option (Int32 × SC)} (hR : GS pr m Rc) {τ0 : SC} {v : VT} {b : Bool} (hv : vOK v) (hh : v 2 0 + (m + 1) ≤ v 3 0) : ∀ (q a n : Nat) (acc : Nat × Nat) (x5 : Int32) (τ : SC), a + q = v 13 0 + 1 → q < n → GH (m + 1) τ0 τ v pr acc a → acc.1 ≤ 99 * (m + 1) → ((a = 0 ∧ x5 = -1) ∨ (0 < a ∧ x5 = nI (vMom (vPass v pr 0).2) ∧ ((b = true ∧ gX pr m b v 0 ≤ acc.1) ∨ (b = false ∧ acc.1 ≤ gX pr m b v 0)))) → ∃ τ', fc_pl_gameValue_l29 Rc n (nI (m + 1)) (bI b) (nI (vMom v)) (nI acc.1) x5 (nI a) τ = some (nI (pf (gF pr m b v) q a acc).1, τ') ∧ GH (m + 1) τ0 τ' v pr (pf (gF pr m b v) q a acc) (a + q) := by
  have b6 := hv.1
  have hlt : v 2 0 < v 3 0 := by omega
  intro q
  induction q with
  | zero =>
    intro a n acc x5 τ hq hn hs hb hd
    obtain ⟨n', rfl⟩ : ∃ q, n = q + 1 := ⟨n - 1, by omega⟩
    unfold fc_pl_gameValue_l29
    rw [show τ.1 113 0 = nI (v 13 0) from hs.1.1, if_pos (show nI (v 13 0) < nI a by rw [pb_lt (by omega) (by omega)]; omega)]
    exact ⟨τ, rfl, hs⟩
  | succ q ih =>
    intro a n acc x5 τ hq hn hs hb hd
    obtain ⟨n', rfl⟩ : ∃ q, n = q + 1 := ⟨n - 1, by omega⟩
    obtain ⟨s1, s2, s3, s4⟩ := id hs
    have ha : a ≤ v 13 0 := by omega
    have hx := gX_le (pr := pr) (b := b) hv hh ha
    obtain ⟨τ4, p1, p2, p3⟩ := ec_pass s1 hv hp hpc hlt ha
    have hv4 := (vPass_ok (pr := pr) hv hlt ha).1
    have IH := fun acc x5 τ => ih (a + 1) n' acc x5 τ (by omega) (by omega)
    rw [fc_pl_gameValue_l29]
    generalize fc_pl_gameValue_l29 Rc n' = K at IH ⊢
    rw [show τ.1 113 0 = nI (v 13 0) from s1.1, if_neg (show ¬ nI (v 13 0) < nI a by rw [pb_lt (by omega) (by omega)]; omega), p1]
    simp only [qbs, qhl]
    rw [ec_moment p2 hv4, qbs]
    have BACK : ∀ (τ9 : SC) (acc' : Nat × Nat) (y5 : Int32), twC τ9 100 (vPass v pr a).2 pr → eqP τ0 τ9 → (∀ j, m + 1 < j → τ9.1 (410 + j) = τ0.1 (410 + j)) → τ9.1 (410 + (m + 1)) 0 = nI acc'.2 → acc'.1 ≤ 99 * (m + 1) → y5 = nI (vMom (vPass v pr 0).2) → ((b = true ∧ gX pr m b v 0 ≤ acc'.1) ∨ (b = false ∧ acc'.1 ≤ gX pr m b v 0)) → acc' = gF pr m b v acc a → ∃ τ', fc_pl_gameValue_b138 Rc K (nI (m + 1)) (bI b) (nI (vMom v)) (nI acc'.1) y5 (nI a) τ9 = some (nI (pf (gF pr m b v) (q + 1) a acc).1, τ') ∧ GH (m + 1) τ0 τ' v pr (pf (gF pr m b v) (q + 1) a acc) (a + (q + 1)) := by
      intro τ9 acc' y5 h1 h2 h3 h4 h5 h6 h7 h8
      obtain ⟨υ, u1, u2, u3⟩ := ec_recall h1 hv
      unfold fc_pl_gameValue_b138
      rw [u1, qbs, nI_a1]
      have R := IH acc' y5 υ ⟨tc_back (vPass_sm v pr a) u2, h2.tr u3.p, fun j hj => (eqC_hi u3 (by omega)).trans (h3 j hj), fun _ => (congrFun (eqC_hi u3 (by omega)) 0).trans h4⟩ h5 (Or.inr ⟨by omega, h6, h7⟩)
      rw [show pf (gF pr m b v) (q + 1) a acc = pf (gF pr m b v) q (a + 1) acc' by rw [h8]; rfl, show a + (q + 1) = a + 1 + q by omega]
      exact R
    by_cases c : nI (vMom (vPass v pr a).2) = x5
    · rw [if_pos c]
      rcases hd with ⟨-, hx5⟩ | ⟨d1, d2, d3⟩
      · rw [hx5] at c
        exact absurd c (nI_m1 (vMom_lt hv4))
      · have hid := vIdle hv hlt ha (by rwa [d2, pb_eq (vMom_lt hv4) (vMom_lt (vPass_ok (pr := pr) hv hlt (Nat.zero_le _)).1)] at c)
        have j1 : gX pr m b v a = gX pr m b v 0 := by unfold gX; rw [hid]
        unfold fc_pl_gameValue_b129
        rw [if_pos (pN (pb_ez (by omega)) (show ¬ a = 0 by omega))]
        refine BACK τ4 acc x5 p2 (s2.tr p3.p) (fun j hj => (eqC_hi p3 (by omega)).trans (s3 j hj)) ((congrFun (eqC_hi p3 (by omega)) 0).trans (s4 d1)) hb d2 d3 ?_
        unfold gF gst
        rw [if_neg (show ¬ a = 0 by omega), if_neg]
        rw [j1]
        rintro (⟨z1, z2⟩ | ⟨z1, z2⟩)
        · rcases d3 with ⟨y1, y2⟩ | ⟨y1, y2⟩
          · omega
          · rw [z1] at y1
            cases y1
        · rcases d3 with ⟨y1, y2⟩ | ⟨y1, y2⟩
          · rw [z1] at y1
            cases y1
          · omega
    · rw [if_neg c, nI_s]
      obtain ⟨τ7, r1, r2, r3, r4, r5⟩ := hR (!b) τ4 (vPass v pr a).2 p2 hv4 (by rw [vPass_hour, vPass_3]; omega)
      have F3 : ∀ j, m + 1 < j → τ7.1 (410 + j) = τ0.1 (410 + j) := fun j hj => by
        rw [r5 j (by omega), eqC_hi p3 (by omega)]
        exact s3 j hj
      have TAKE : gF pr m b v acc a = (gX pr m b v a, a) → ((b = true ∧ gX pr m b v 0 ≤ gX pr m b v a) ∨ (b = false ∧ gX pr m b v a ≤ gX pr m b v 0)) → ∃ τ', fc_pl_gameValue_b115 Rc K (nI (m + 1)) (bI b) (nI (vMom v)) x5 (nI a) (nI (vMom (vPass v pr a).2)) (nI (gX pr m b v a)) τ7 = some (nI (pf (gF pr m b v) (q + 1) a acc).1, τ') ∧ GH (m + 1) τ0 τ' v pr (pf (gF pr m b v) (q + 1) a acc) (a + (q + 1)) := by
        intro h1 h2
        unfold fc_pl_gameValue_b115 fc_pl_gameValue_b129
        rw [pb_in (by omega) (by omega), pb_oc, pb_cl (by omega), show decide (m + 1 < 5) = true from decide_eq_true (by omega), pb_oc, qhl]
        have T : twC (sc τ7 (410 + (m + 1)) (upd (τ7.1 (410 + (m + 1))) 0 (nI a))) 100 (vPass v pr a).2 pr := tc_P r2 (by omega) _
        have Q : eqP τ0 (sc τ7 (410 + (m + 1)) (upd (τ7.1 (410 + (m + 1))) 0 (nI a))) := ((s2.tr p3.p).tr r3).tr (eqP_sc (by omega))
        have Z3 : ∀ j, m + 1 < j → (sc τ7 (410 + (m + 1)) (upd (τ7.1 (410 + (m + 1))) 0 (nI a))).1 (410 + j) = τ0.1 (410 + j) := fun j hj => by
          rw [sc_ne (by omega)]
          exact F3 j hj
        have Z4 : (sc τ7 (410 + (m + 1)) (upd (τ7.1 (410 + (m + 1))) 0 (nI a))).1 (410 + (m + 1)) 0 = nI a := by rw [sc_at, up_eq]
        by_cases ca : a = 0
        · rw [if_neg (pNN (pb_ez (by omega)) ca)]
          exact BACK _ (gX pr m b v a, a) _ T Q Z3 Z4 hx (by rw [ca]) h2 h1.symm
        · rw [if_pos (pN (pb_ez (by omega)) ca)]
          rcases hd with ⟨d0, -⟩ | ⟨d1, d2, d3⟩
          · exact absurd d0 ca
          · exact BACK _ (gX pr m b v a, a) _ T Q Z3 Z4 hx d2 h2 h1.symm
      have LEAVE : ¬ a = 0 → gF pr m b v acc a = acc → ∃ τ', fc_pl_gameValue_b129 Rc K (nI (m + 1)) (bI b) (nI (vMom v)) (nI acc.1) x5 (nI a) (nI (vMom (vPass v pr a).2)) τ7 = some (nI (pf (gF pr m b v) (q + 1) a acc).1, τ') ∧ GH (m + 1) τ0 τ' v pr (pf (gF pr m b v) (q + 1) a acc) (a + (q + 1)) := by
        intro ca h1
        unfold fc_pl_gameValue_b129
        rw [if_pos (pN (pb_ez (by omega)) ca)]
        rcases hd with ⟨d0, -⟩ | ⟨d1, d2, d3⟩
        · exact absurd d0 ca
        · refine BACK τ7 acc _ r2 ((s2.tr p3.p).tr r3) F3 ?_ hb d2 d3 h1.symm
          rw [r5 (m + 1) (by omega), eqC_hi p3 (by omega)]
          exact s4 d1
      have E83 : ∃ τ', fc_pl_gameValue_b83 Rc K (nI (m + 1)) (bI b) (nI (vMom v)) (nI acc.1) x5 (nI a) (nI (vMom (vPass v pr a).2)) (bI (!b)) (nI m) (nI (vPass v pr a).1) τ4 = some (nI (pf (gF pr m b v) (q + 1) a acc).1, τ') ∧ GH (m + 1) τ0 τ' v pr (pf (gF pr m b v) (q + 1) a acc) (a + (q + 1)) := by
        unfold fc_pl_gameValue_b83
        rw [r1]
        simp only [qbs, qhl]
        rw [pb_add, show (vPass v pr a).1 + (pG pr m (!b) (vPass v pr a).2).1 = gX pr m b v a from rfl]
        by_cases ca : a = 0
        · rw [if_pos (pQ (pb_ez (by omega)) ca)]
          refine TAKE (by unfold gF; rw [if_pos ca, ca]) ?_
          rw [ca]
          cases b
          · exact Or.inr ⟨rfl, Nat.le_refl _⟩
          · exact Or.inl ⟨rfl, Nat.le_refl _⟩
        · rw [if_neg (pN (pb_ez (by omega)) ca)]
          rcases hd with ⟨d0, -⟩ | ⟨d1, d2, d3⟩
          · exact absurd d0 ca
          · cases b
            · rw [if_pos (show bI false = 0 from rfl)]
              have d4 : acc.1 ≤ gX pr m false v 0 := by
                rcases d3 with ⟨y1, y2⟩ | ⟨y1, y2⟩
                · cases y1
                · exact y2
              by_cases c2 : acc.1 ≤ gX pr m false v a
              · rw [if_pos (pQ (pb_le (by omega) (by omega)) c2)]
                refine LEAVE ca ?_
                unfold gF gst
                rw [if_neg ca, if_neg]
                rintro (⟨z1, z2⟩ | ⟨z1, z2⟩)
                · cases z1
                · omega
              · rw [if_neg (pN (pb_le (by omega) (by omega)) c2)]
                refine TAKE ?_ (Or.inr ⟨rfl, by omega⟩)
                unfold gF gst
                rw [if_neg ca, if_pos (Or.inr ⟨rfl, by omega⟩)]
            · rw [if_neg (show ¬ bI true = 0 by decide)]
              have d4 : gX pr m true v 0 ≤ acc.1 := by
                rcases d3 with ⟨y1, y2⟩ | ⟨y1, y2⟩
                · exact y2
                · cases y1
              by_cases c2 : gX pr m true v a ≤ acc.1
              · rw [if_pos (pQ (pb_le (by omega) (by omega)) c2)]
                refine LEAVE ca ?_
                unfold gF gst
                rw [if_neg ca, if_neg]
                rintro (⟨z1, z2⟩ | ⟨z1, z2⟩)
                · omega
                · cases z1
              · rw [if_neg (pN (pb_le (by omega) (by omega)) c2)]
                refine TAKE ?_ (Or.inl ⟨rfl, by omega⟩)
                unfold gF gst
                rw [if_neg ca, if_pos (Or.inl ⟨rfl, by omega⟩)]
      cases b
      · rw [if_neg (show ¬ ¬ bI false = 0 from fun z => z rfl)]
        exact E83
      · rw [if_pos (show ¬ bI true = 0 by decide)]
        exact E83
theorem ga_ok (hp : pOK pr) (hpc : vclen pr ≤ 200) : ∀ m d, m < d → m ≤ 4 → GS pr m (fc_pl_gameValueD d) := by
  intro m
  induction m with
  | zero =>
    intro d hd _ b τ v hT hv hh
    obtain ⟨e, rfl⟩ : ∃ q, d = q + 1 := ⟨d - 1, by omega⟩
    show ∃ τ', fc_pl_gameValue (fc_pl_gameValueD e) (nI 0) (bI b) τ = _ ∧ _
    unfold fc_pl_gameValue
    rw [if_pos (show nI 0 < (1 : Int32) by decide)]
    exact ⟨τ, rfl, hT, eqP.rf, fun z => absurd z (Nat.lt_irrefl _), fun _ _ => rfl⟩
  | succ m ih =>
    intro d hd hm b τ v hT hv hh
    obtain ⟨e, rfl⟩ : ∃ q, d = q + 1 := ⟨d - 1, by omega⟩
    have hR := ih e (by omega) (by omega)
    show ∃ τ', fc_pl_gameValue (fc_pl_gameValueD e) (nI (m + 1)) (bI b) τ = _ ∧ _
    generalize fc_pl_gameValueD e = Rc at hR
    have b6 := hv.1
    unfold fc_pl_gameValue
    rw [if_neg (show ¬ nI (m + 1) < (1 : Int32) by rw [show (1 : Int32) = nI 1 from rfl, pb_lt (by omega) (by omega)]; omega), if_pos (show nI (m + 1) ≤ (4 : Int32) by rw [show (4 : Int32) = nI 4 from rfl, pb_le (by omega) (by omega)]; omega), ec_moment hT hv, qbs]
    obtain ⟨τ', e1, e2, e3, e4, e5⟩ := ga_l (τ0 := τ) (b := b) hp hpc (show m < 4 by omega) hR hv hh (v 13 0 + 1) 0 hFU (0, 0) (-1) τ (by omega) (by unfold hFU; omega) ⟨hT, eqP.rf, fun _ _ => rfl, fun z => absurd z (Nat.lt_irrefl _)⟩ (Nat.zero_le _) (Or.inl ⟨rfl, rfl⟩)
    exact ⟨τ', e1, e2, e3, fun _ => e5 (by omega), e4⟩
/-! the reference's game -/
def FV (k : Nat) (σ σ' : SM) : Prop := (∀ i, i ≠ 3 → i ≠ 21 → σ' i = σ i) ∧ (∀ j, j < 46 * k → σ' 3 j = σ 3 j)
def evn (k : Nat) : Bool := decide (k % 2 = 0)
theorem evn_s (k : Nat) : evn (k + 1) = !evn k := by
  unfold evn
  by_cases h : k % 2 = 0
  · rw [decide_eq_true h, decide_eq_false (by omega)]; rfl
  · rw [decide_eq_false h, decide_eq_true (by omega)]; rfl
def VR (pr : List RU) (m : Nat) (Rc : Int32 → Int32 → SM → Option (Int32 × SM)) : Prop := ∀ (k n : Nat) (σ : SM) (v : VT), twM (σ 0) v pr → vOK v → k ≤ n → n ≤ 4 → m = min (n - k) (v 3 0 - v 2 0) → ∃ σ', Rc (nI k) (nI n) σ = some (nI (pG pr m (evn k) v).1, σ') ∧ FV k σ σ' ∧ (0 < m → σ' 21 0 = nI (pG pr m (evn k) v).2)
theorem gr_l (hp : pOK pr) {m : Nat} {Rc : Int32 → Int32 → SM → Option (Int32 × SM)} (hR : VR pr m Rc) {k n : Nat} {σ0 : SM} {v : VT} (hT0 : twM (σ0 0) v pr) (hv : vOK v) (hk : k < n) (hn4 : n ≤ 4) (hm : m + 1 = min (n - k) (v 3 0 - v 2 0)) : ∀ (q a fu : Nat) (acc : Nat × Nat) (x4 : Int32) (σ : SM), a + q = v 13 0 + 1 → q < fu → FV k σ0 σ → (∀ j, j < 46 → σ 3 (46 * k + j) = σ0 0 j) → acc.1 ≤ 99 * (m + 1) → ((a = 0 ∧ x4 = -1) ∨ (0 < a ∧ x4 = nI acc.2 ∧ acc.2 ≤ 6)) → ∃ σ', fm_valueFrom_l27 Rc fu (nI k) (nI n) (nI acc.1) x4 (nI a) σ = some (nI (pf (gF pr m (evn k) v) q a acc).1, σ') ∧ FV k σ0 σ' ∧ (0 < a + q → σ' 21 0 = nI (pf (gF pr m (evn k) v) q a acc).2) := by
  have b6 := hv.1
  have hlt : v 2 0 < v 3 0 := by omega
  intro q
  induction q with
  | zero =>
    intro a fu acc x4 σ hq hf hfr h3 hA hd
    obtain ⟨n', rfl⟩ : ∃ q, fu = q + 1 := ⟨fu - 1, by omega⟩
    have e0 : σ 0 = σ0 0 := hfr.1 0 (by decide) (by decide)
    unfold fm_valueFrom_l27
    rw [e0, hT0.1, if_pos (show nI (v 13 0) < nI a by rw [pb_lt (by omega) (by omega)]; omega), qhl]
    refine ⟨_, rfl, ⟨fun i a1 a2 => by rw [sg_ne a2]; exact hfr.1 i a1 a2, fun j hj => by rw [sg_ne (by omega)]; exact hfr.2 j hj⟩, fun _ => ?_⟩
    rw [sg_at]
    rcases hd with ⟨d0, -⟩ | ⟨d1, d2, -⟩
    · omega
    · exact d2
  | succ q ih =>
    intro a fu acc x4 σ hq hf hfr h3 hA hd
    obtain ⟨n', rfl⟩ : ∃ q, fu = q + 1 := ⟨fu - 1, by omega⟩
    have e0 : σ 0 = σ0 0 := hfr.1 0 (by decide) (by decide)
    have ha : a ≤ v 13 0 := by omega
    have hx := gX_le (pr := pr) (m := m) (b := evn k) hv (by omega) ha
    have IH := fun acc x4 σ => ih (a + 1) n' acc x4 σ (by omega) (by omega)
    rw [fm_valueFrom_l27]
    generalize fm_valueFrom_l27 Rc n' = K at IH ⊢
    rw [e0, hT0.1, if_neg (show ¬ nI (v 13 0) < nI a by rw [pb_lt (by omega) (by omega)]; omega)]
    obtain ⟨f2, g1, g2, g3, g4, g5⟩ := em_goesWith (σ := σ) (pr := pr) (v := v) (by rw [e0]; exact hT0) hv hp hlt ha
    rw [g1]
    simp only [qbs, qhl]
    obtain ⟨hv4, hw4⟩ := vPass_ok (pr := pr) hv hlt ha
    obtain ⟨σ8, r1, r2, r3⟩ := hR (k + 1) n (sf σ 0 f2) (vPass v pr a).2 g2 hv4 (by omega) hn4 (by rw [vPass_hour, vPass_3]; omega)
    rw [nI_a1, r1]
    simp only [qbs, qhl]
    obtain ⟨f, b1, b2, b3⟩ := em_laysBack (σ := σ8) (l := k) (by omega)
    rw [b1, qbs, evn_s, pb_add, show (vPass v pr a).1 + (pG pr m (!evn k) (vPass v pr a).2).1 = gX pr m (evn k) v a from rfl]
    have e80 : σ8 0 = f2 := r2.1 0 (by decide) (by decide)
    have ef : f = σ0 0 := by
      funext j
      by_cases c : j < 46
      · rw [b2 j c, r2.2 _ (by omega)]
        exact h3 j c
      · rw [b3 j (by omega), e80, g5 j (by omega)]
        exact congrFun e0 j
    rw [ef]
    have hfr2 : FV k σ0 (sf σ8 0 (σ0 0)) := by
      refine ⟨fun i a1 a2 => ?_, fun j hj => ?_⟩
      · by_cases c : i = 0
        · rw [c, sg_at]
        · rw [sg_ne c, r2.1 i a1 a2, sg_ne c]
          exact hfr.1 i a1 a2
      · rw [sg_ne (by omega), r2.2 j (by omega)]
        exact hfr.2 j hj
    have h32 : ∀ j, j < 46 → (sf σ8 0 (σ0 0)) 3 (46 * k + j) = σ0 0 j := fun j hj => by
      rw [sg_ne (by omega), r2.2 _ (by omega)]
      exact h3 j hj
    have TAKE : gF pr m (evn k) v acc a = (gX pr m (evn k) v a, a) → ∃ σ', fm_valueFrom_b90 Rc K (nI k) (nI n) (nI a) (nI (gX pr m (evn k) v a)) (sf σ8 0 (σ0 0)) = some (nI (pf (gF pr m (evn k) v) (q + 1) a acc).1, σ') ∧ FV k σ0 σ' ∧ (0 < a + (q + 1) → σ' 21 0 = nI (pf (gF pr m (evn k) v) (q + 1) a acc).2) := by
      intro h1
      unfold fm_valueFrom_b90 fm_valueFrom_b97
      rw [nI_a1, show pf (gF pr m (evn k) v) (q + 1) a acc = pf (gF pr m (evn k) v) q (a + 1) (gX pr m (evn k) v a, a) by rw [← h1]; rfl, show a + (q + 1) = a + 1 + q by omega]
      exact IH (gX pr m (evn k) v a, a) (nI a) _ hfr2 h32 hx (Or.inr ⟨by omega, rfl, by show a ≤ 6; omega⟩)
    have LEAVE : ¬ a = 0 → gF pr m (evn k) v acc a = acc → ∃ σ', fm_valueFrom_b97 Rc K (nI k) (nI n) (nI acc.1) x4 (nI a) (sf σ8 0 (σ0 0)) = some (nI (pf (gF pr m (evn k) v) (q + 1) a acc).1, σ') ∧ FV k σ0 σ' ∧ (0 < a + (q + 1) → σ' 21 0 = nI (pf (gF pr m (evn k) v) (q + 1) a acc).2) := by
      intro ca h1
      unfold fm_valueFrom_b97
      rw [nI_a1, show pf (gF pr m (evn k) v) (q + 1) a acc = pf (gF pr m (evn k) v) q (a + 1) acc by rw [show pf (gF pr m (evn k) v) (q + 1) a acc = pf (gF pr m (evn k) v) q (a + 1) (gF pr m (evn k) v acc a) from rfl, h1], show a + (q + 1) = a + 1 + q by omega]
      rcases hd with ⟨d0, -⟩ | ⟨d1, d2, d3⟩
      · exact absurd d0 ca
      · exact IH acc x4 _ hfr2 h32 hA (Or.inr ⟨by omega, d2, d3⟩)
    rcases hd with ⟨d0, d00⟩ | ⟨d1, d2, d3⟩
    · rw [if_pos (show x4 < 0 by rw [d00]; decide)]
      exact TAKE (by unfold gF; rw [if_pos d0, d0])
    · have ca : ¬ a = 0 := by omega
      rw [if_neg (show ¬ x4 < 0 by rw [d2]; exact nI_pos (by omega)), show (2 : Int32) = nI 2 from rfl, pb_rem (by omega) (by omega) (by omega)]
      by_cases ck : k % 2 = 0
      · have ek : evn k = true := decide_eq_true ck
        rw [if_neg (pNN (pb_ez (by omega)) ck)]
        by_cases c2 : gX pr m (evn k) v a ≤ acc.1
        · rw [if_pos (pQ (pb_le (by omega) (by omega)) c2)]
          refine LEAVE ca ?_
          unfold gF gst
          rw [if_neg ca, if_neg]
          rw [ek] at c2 ⊢
          rintro (⟨z1, z2⟩ | ⟨z1, z2⟩)
          · omega
          · cases z1
        · rw [if_neg (pN (pb_le (by omega) (by omega)) c2)]
          refine TAKE ?_
          unfold gF gst
          rw [if_neg ca, if_pos (Or.inl ⟨ek, by omega⟩)]
      · have ek : evn k = false := decide_eq_false ck
        rw [if_pos (pN (pb_ez (by omega)) ck)]
        by_cases c2 : acc.1 ≤ gX pr m (evn k) v a
        · rw [if_pos (pQ (pb_le (by omega) (by omega)) c2)]
          refine LEAVE ca ?_
          unfold gF gst
          rw [if_neg ca, if_neg]
          rw [ek] at c2 ⊢
          rintro (⟨z1, z2⟩ | ⟨z1, z2⟩)
          · cases z1
          · omega
        · rw [if_neg (pN (pb_le (by omega) (by omega)) c2)]
          refine TAKE ?_
          unfold gF gst
          rw [if_neg ca, if_pos (Or.inr ⟨ek, by omega⟩)]
theorem gre_ok (hp : pOK pr) : ∀ m d, m < d → VR pr m (fm_valueFromD d) := by
  intro m
  induction m with
  | zero =>
    intro d hd k n σ v hT hv hk hn hm
    obtain ⟨e, rfl⟩ : ∃ q, d = q + 1 := ⟨d - 1, by omega⟩
    show ∃ σ', fm_valueFrom (fm_valueFromD e) (nI k) (nI n) σ = _ ∧ _
    unfold fm_valueFrom
    rw [em_over hT hv, qbs]
    have L : ∃ σ', some ((0 : Int32), σ) = some (nI (pG pr 0 (evn k) v).1, σ') ∧ FV k σ σ' ∧ (0 < 0 → σ' 21 0 = nI (pG pr 0 (evn k) v).2) := ⟨σ, rfl, ⟨fun _ _ _ => rfl, fun _ _ => rfl⟩, fun z => absurd z (Nat.lt_irrefl _)⟩
    by_cases c : k = n
    · rw [if_pos (pQ (pb_eq (by omega) (by omega)) c)]
      exact L
    · rw [if_neg (pN (pb_eq (by omega) (by omega)) c), if_neg (show ¬ v 2 0 < v 3 0 by omega), if_neg (by decide)]
      exact L
  | succ m ih =>
    intro d hd k n σ v hT hv hk hn hm
    obtain ⟨e, rfl⟩ : ∃ q, d = q + 1 := ⟨d - 1, by omega⟩
    have hR := ih e (by omega)
    show ∃ σ', fm_valueFrom (fm_valueFromD e) (nI k) (nI n) σ = _ ∧ _
    generalize fm_valueFromD e = Rc at hR
    have b6 := hv.1
    unfold fm_valueFrom
    rw [if_neg (pN (pb_eq (by omega) (by omega)) (show ¬ k = n by omega)), em_over hT hv, qbs, if_pos (show v 2 0 < v 3 0 by omega), if_pos rfl]
    obtain ⟨g, g1, g2, g3⟩ := em_laysAside (σ := σ) (l := k) (by omega)
    rw [g1, qbs]
    obtain ⟨σ', e1, e2, e3⟩ := gr_l (σ0 := σ) hp hR hT hv (show k < n by omega) hn hm (v 13 0 + 1) 0 hFU (0, 0) (-1) (sf σ 3 g) (by omega) (by unfold hFU; omega) ⟨fun i a1 a2 => sg_ne a1, fun j hj => by rw [sg_at]; exact g3 j (Or.inl hj)⟩ (fun j hj => by rw [sg_at]; exact g2 j hj) (Nat.zero_le _) (Or.inl ⟨rfl, rfl⟩)
    exact ⟨σ', e1, e2, fun _ => e3 (by omega)⟩
end GA
