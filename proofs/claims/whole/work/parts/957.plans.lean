/-! PURE: the class's fewest acts, those done by some; the game -/
section FE
variable {pr : List RU} {w : Nat}
theorem pF_le : ∀ m v, pF w pr m v ≤ 99 := by
  intro m v
  cases m with
  | zero =>
    unfold pF
    split <;> omega
  | succ m => exact pf_ind _ (fun x : Nat => x ≤ 99) _ _ _ (Nat.le_refl _) (fun y b _ _ hy => Nat.le_trans (Nat.min_le_left _ _) hy)
theorem vPass0_8 (v : VT) : (vPass v pr 0).2 8 0 = v 8 0 := by
  unfold vPass
  rw [if_neg (fun z => by have := z.1; omega)]
  rfl
theorem pF_zero : ∀ m v, (nI w &&& (nI (v 8 0) ^^^ (-1 : Int32))) = 0 → pF w pr m v = 0 := by
  intro m
  induction m with
  | zero => intro v h; exact if_pos h
  | succ m ih =>
    intro v h
    show pf (fun x a => min x (pF w pr m (vPass v pr a).2 + (if a = 0 then 0 else 1))) (v 13 0) (0 + 1) (min 99 (pF w pr m (vPass v pr 0).2 + (if (0 : Nat) = 0 then 0 else 1))) = 0
    rw [ih (vPass v pr 0).2 (by rw [vPass0_8]; exact h)]
    exact pf_ind _ (fun x : Nat => x = 0) _ _ _ rfl (fun y b _ _ hy => by
      show min y _ = 0
      omega)
def FS (pr : List RU) (w m : Nat) (Rc : Int32 → Int32 → SC → Option (Int32 × SC)) : Prop := ∀ (τ : SC) (v : VT), twC τ 100 v pr → vOK v → v 2 0 + m ≤ v 3 0 → ∃ τ', Rc (nI m) (nI w) τ = some (nI (pF w pr m v), τ') ∧ twC τ' 100 v pr ∧ eqC τ τ'
theorem fe_l (hp : pOK pr) (hpc : vclen pr ≤ 200) {m : Nat} (hm : m < 4) {Rc : Int32 → Int32 → SC → Option (Int32 × SC)} (hR : FS pr w m Rc) {τ0 : SC} {v : VT} (hv : vOK v) (hh : v 2 0 + (m + 1) ≤ v 3 0) : ∀ (q a n acc : Nat) (x5 : Int32) (τ : SC), a + q = v 13 0 + 1 → q < n → twC τ 100 v pr → eqC τ0 τ → acc ≤ 99 → ((a = 0 ∧ x5 = -1) ∨ (0 < a ∧ x5 = nI (vMom (vPass v pr 0).2) ∧ acc ≤ pF w pr m (vPass v pr 0).2)) → ∃ τ', fc_pl_fewestActs_l47 Rc n (nI (m + 1)) (nI w) (nI (vMom v)) (nI acc) x5 (nI a) τ = some (nI (pf (fun x a => min x (pF w pr m (vPass v pr a).2 + (if a = 0 then 0 else 1))) q a acc), τ') ∧ twC τ' 100 v pr ∧ eqC τ0 τ' := by
  have b6 := hv.1
  have hlt : v 2 0 < v 3 0 := by omega
  intro q
  induction q with
  | zero =>
    intro a n acc x5 τ hq hn hT he hb hd
    obtain ⟨n', rfl⟩ : ∃ q, n = q + 1 := ⟨n - 1, by omega⟩
    unfold fc_pl_fewestActs_l47
    rw [show τ.1 113 0 = nI (v 13 0) from hT.1, if_pos (show nI (v 13 0) < nI a by rw [pb_lt (by omega) (by omega)]; omega)]
    exact ⟨τ, rfl, hT, he⟩
  | succ q ih =>
    intro a n acc x5 τ hq hn hT he hb hd
    obtain ⟨n', rfl⟩ : ∃ q, n = q + 1 := ⟨n - 1, by omega⟩
    have ha : a ≤ v 13 0 := by omega
    obtain ⟨τ4, p1, p2, p3⟩ := ec_pass hT hv hp hpc hlt ha
    have hv4 := (vPass_ok (pr := pr) hv hlt ha).1
    have hl := pF_le (w := w) (pr := pr) m (vPass v pr a).2
    have IH := fun acc x5 τ => ih (a + 1) n' acc x5 τ (by omega) (by omega)
    rw [fc_pl_fewestActs_l47]
    generalize fc_pl_fewestActs_l47 Rc n' = K at IH ⊢
    rw [show τ.1 113 0 = nI (v 13 0) from hT.1, if_neg (show ¬ nI (v 13 0) < nI a by rw [pb_lt (by omega) (by omega)]; omega), p1]
    simp only [qbs, qhl]
    rw [ec_moment p2 hv4, qbs]
    have BACK : ∀ (τ9 : SC) (acc' : Nat) (y5 : Int32), twC τ9 100 (vPass v pr a).2 pr → eqC τ0 τ9 → acc' ≤ 99 → y5 = nI (vMom (vPass v pr 0).2) → acc' ≤ pF w pr m (vPass v pr 0).2 → acc' = min acc (pF w pr m (vPass v pr a).2 + (if a = 0 then 0 else 1)) → ∃ τ', fc_pl_fewestActs_b120 Rc K (nI (m + 1)) (nI w) (nI (vMom v)) (nI acc') y5 (nI a) τ9 = some (nI (pf (fun x a => min x (pF w pr m (vPass v pr a).2 + (if a = 0 then 0 else 1))) (q + 1) a acc), τ') ∧ twC τ' 100 v pr ∧ eqC τ0 τ' := by
      intro τ9 acc' y5 h1 h2 h3 h4 h5 h6
      obtain ⟨υ, u1, u2, u3⟩ := ec_recall h1 hv
      unfold fc_pl_fewestActs_b120
      rw [u1, qbs, nI_a1]
      have R := IH acc' y5 υ (tc_back (vPass_sm v pr a) u2) (h2.tr u3) h3 (Or.inr ⟨by omega, h4, h5⟩)
      rw [h6] at R
      rw [h6]
      exact R
    by_cases c : nI (vMom (vPass v pr a).2) = x5
    · rw [if_pos c]
      rcases hd with ⟨-, hx5⟩ | ⟨d1, d2, d3⟩
      · rw [hx5] at c
        exact absurd c (nI_m1 (vMom_lt hv4))
      · have hid := vIdle hv hlt ha (by rwa [d2, pb_eq (vMom_lt hv4) (vMom_lt (vPass_ok (pr := pr) hv hlt (Nat.zero_le _)).1)] at c)
        unfold fc_pl_fewestActs_b111
        rw [if_pos (pN (pb_ez (by omega)) (show ¬ a = 0 by omega))]
        exact BACK τ4 acc x5 p2 (he.tr p3) hb d2 d3 (by rw [hid, if_neg (by omega)]; omega)
    · rw [if_neg c, nI_s]
      obtain ⟨τ7, r1, r2, r3⟩ := hR τ4 (vPass v pr a).2 p2 hv4 (by rw [vPass_hour, vPass_3]; omega)
      rw [r1]
      simp only [qbs, qhl]
      unfold fc_pl_fewestActs_b105 fc_pl_fewestActs_b111
      by_cases ca : a = 0
      · rw [if_neg (pNN (pb_ez (by omega)) ca), qhl, if_neg (pNN (pb_ez (by omega)) ca), show nI (pF w pr m (vPass v pr a).2) + (0 : Int32) = nI (pF w pr m (vPass v pr a).2) from Int32.add_zero _, cmin (by omega) (by omega)]
        refine BACK τ7 _ _ r2 ((he.tr p3).tr r3) (by omega) (by rw [ca]) ?_ (by rw [if_pos ca]; rfl)
        rw [ca]
        exact Nat.min_le_right _ _
      · rw [if_pos (pN (pb_ez (by omega)) ca), qhl, if_pos (pN (pb_ez (by omega)) ca), nI_a1, cmin (by omega) (by omega)]
        rcases hd with ⟨d0, -⟩ | ⟨d1, d2, d3⟩
        · exact absurd d0 ca
        · exact BACK τ7 _ _ r2 ((he.tr p3).tr r3) (by omega) d2 (by omega) (by rw [if_neg ca])
theorem fe_ok (hp : pOK pr) (hpc : vclen pr ≤ 200) : ∀ m d, m < d → m ≤ 4 → FS pr w m (fc_pl_fewestActsD d) := by
  intro m
  induction m with
  | zero =>
    intro d hd _ τ v hT hv hh
    obtain ⟨e, rfl⟩ : ∃ q, d = q + 1 := ⟨d - 1, by omega⟩
    show ∃ τ', fc_pl_fewestActs (fc_pl_fewestActsD e) (nI 0) (nI w) τ = _ ∧ _
    unfold fc_pl_fewestActs
    rw [show τ.1 108 0 = nI (v 8 0) from hT.2.2.2.2.2.2.1]
    by_cases c : (nI w &&& (nI (v 8 0) ^^^ (-1 : Int32))) = 0
    · rw [if_neg (fun z => z c), pF_zero 0 v c]
      exact ⟨τ, rfl, hT, eqC.rf⟩
    · rw [if_pos c, if_pos (show nI 0 < (1 : Int32) by decide), show pF w pr 0 v = 99 from if_neg c]
      exact ⟨τ, rfl, hT, eqC.rf⟩
  | succ m ih =>
    intro d hd hm τ v hT hv hh
    obtain ⟨e, rfl⟩ : ∃ q, d = q + 1 := ⟨d - 1, by omega⟩
    have hR := ih e (by omega) (by omega)
    show ∃ τ', fc_pl_fewestActs (fc_pl_fewestActsD e) (nI (m + 1)) (nI w) τ = _ ∧ _
    generalize fc_pl_fewestActsD e = Rc at hR
    have b6 := hv.1
    unfold fc_pl_fewestActs
    rw [show τ.1 108 0 = nI (v 8 0) from hT.2.2.2.2.2.2.1]
    by_cases c : (nI w &&& (nI (v 8 0) ^^^ (-1 : Int32))) = 0
    · rw [if_neg (fun z => z c), pF_zero (m + 1) v c]
      exact ⟨τ, rfl, hT, eqC.rf⟩
    · rw [if_pos c, if_neg (show ¬ nI (m + 1) < (1 : Int32) by rw [show (1 : Int32) = nI 1 from rfl, pb_lt (by omega) (by omega)]; omega), if_pos (show nI (m + 1) ≤ (4 : Int32) by rw [show (4 : Int32) = nI 4 from rfl, pb_le (by omega) (by omega)]; omega), ec_moment hT hv, qbs]
      exact fe_l (τ0 := τ) hp hpc (show m < 4 by omega) hR hv hh (v 13 0 + 1) 0 hFU 99 (-1) τ (by omega) (by unfold hFU; omega) hT eqC.rf (Nat.le_refl _) (Or.inl ⟨rfl, rfl⟩)
/-! those done by some -/
def ES (pr : List RU) (m : Nat) (Rc : Int32 → SC → Option (Int32 × SC)) : Prop := ∀ (τ : SC) (v : VT), twC τ 100 v pr → vOK v → v 2 0 + m ≤ v 3 0 → ∃ τ', Rc (nI m) τ = some (nI (pE pr m v), τ') ∧ twC τ' 100 v pr ∧ eqC τ τ'
theorem or_ab {x y : Nat} (h : ∃ z, x = y ||| z) : x ||| y = x := by
  obtain ⟨z, rfl⟩ := h
  rw [Nat.or_comm (y ||| z) y, ← Nat.or_assoc, Nat.or_self]
theorem ds_l (hp : pOK pr) (hpc : vclen pr ≤ 200) {m : Nat} (hm : m < 4) {Rc : Int32 → SC → Option (Int32 × SC)} (hR : ES pr m Rc) {τ0 : SC} {v : VT} (hv : vOK v) (hh : v 2 0 + (m + 1) ≤ v 3 0) : ∀ (q a n acc : Nat) (x4 : Int32) (τ : SC), a + q = v 13 0 + 1 → q < n → twC τ 100 v pr → eqC τ0 τ → ((a = 0 ∧ x4 = -1) ∨ (0 < a ∧ x4 = nI (vMom (vPass v pr 0).2) ∧ ∃ z, acc = pE pr m (vPass v pr 0).2 ||| z)) → ∃ τ', fc_pl_doneBySome_l34 Rc n (nI (m + 1)) (nI (vMom v)) (nI acc) x4 (nI a) τ = some (nI (pf (fun x a => x ||| pE pr m (vPass v pr a).2) q a acc), τ') ∧ twC τ' 100 v pr ∧ eqC τ0 τ' := by
  have b6 := hv.1
  have hlt : v 2 0 < v 3 0 := by omega
  intro q
  induction q with
  | zero =>
    intro a n acc x4 τ hq hn hT he hd
    obtain ⟨n', rfl⟩ : ∃ q, n = q + 1 := ⟨n - 1, by omega⟩
    unfold fc_pl_doneBySome_l34
    rw [show τ.1 113 0 = nI (v 13 0) from hT.1, if_pos (show nI (v 13 0) < nI a by rw [pb_lt (by omega) (by omega)]; omega)]
    exact ⟨τ, rfl, hT, he⟩
  | succ q ih =>
    intro a n acc x4 τ hq hn hT he hd
    obtain ⟨n', rfl⟩ : ∃ q, n = q + 1 := ⟨n - 1, by omega⟩
    have ha : a ≤ v 13 0 := by omega
    obtain ⟨τ4, p1, p2, p3⟩ := ec_pass hT hv hp hpc hlt ha
    have hv4 := (vPass_ok (pr := pr) hv hlt ha).1
    have IH := fun acc x4 τ => ih (a + 1) n' acc x4 τ (by omega) (by omega)
    rw [fc_pl_doneBySome_l34]
    generalize fc_pl_doneBySome_l34 Rc n' = K at IH ⊢
    rw [show τ.1 113 0 = nI (v 13 0) from hT.1, if_neg (show ¬ nI (v 13 0) < nI a by rw [pb_lt (by omega) (by omega)]; omega), p1]
    simp only [qbs, qhl]
    rw [ec_moment p2 hv4, qbs]
    have BACK : ∀ (τ9 : SC) (acc' : Nat) (y4 : Int32), twC τ9 100 (vPass v pr a).2 pr → eqC τ0 τ9 → y4 = nI (vMom (vPass v pr 0).2) → (∃ z, acc' = pE pr m (vPass v pr 0).2 ||| z) → acc' = acc ||| pE pr m (vPass v pr a).2 → ∃ τ', fc_pl_doneBySome_b91 Rc K (nI (m + 1)) (nI (vMom v)) (nI acc') y4 (nI a) τ9 = some (nI (pf (fun x a => x ||| pE pr m (vPass v pr a).2) (q + 1) a acc), τ') ∧ twC τ' 100 v pr ∧ eqC τ0 τ' := by
      intro τ9 acc' y4 h1 h2 h4 h5 h6
      obtain ⟨υ, u1, u2, u3⟩ := ec_recall h1 hv
      unfold fc_pl_doneBySome_b91
      rw [u1, qbs, nI_a1]
      have R := IH acc' y4 υ (tc_back (vPass_sm v pr a) u2) (h2.tr u3) (Or.inr ⟨by omega, h4, h5⟩)
      rw [h6] at R
      rw [h6]
      exact R
    by_cases c : nI (vMom (vPass v pr a).2) = x4
    · rw [if_pos c]
      rcases hd with ⟨-, hx4⟩ | ⟨d1, d2, d3⟩
      · rw [hx4] at c
        exact absurd c (nI_m1 (vMom_lt hv4))
      · have hid := vIdle hv hlt ha (by rwa [d2, pb_eq (vMom_lt hv4) (vMom_lt (vPass_ok (pr := pr) hv hlt (Nat.zero_le _)).1)] at c)
        unfold fc_pl_doneBySome_b82
        rw [if_pos (pN (pb_ez (by omega)) (show ¬ a = 0 by omega))]
        exact BACK τ4 acc x4 p2 (he.tr p3) d2 d3 (by rw [hid, or_ab d3])
    · rw [if_neg c, nI_s]
      obtain ⟨τ7, r1, r2, r3⟩ := hR τ4 (vPass v pr a).2 p2 hv4 (by rw [vPass_hour, vPass_3]; omega)
      rw [r1]
      simp only [qbs, qhl]
      unfold fc_pl_doneBySome_b82
      rw [fa_or]
      by_cases ca : a = 0
      · rw [if_neg (pNN (pb_ez (by omega)) ca)]
        refine BACK τ7 _ _ r2 ((he.tr p3).tr r3) (by rw [ca]) ⟨acc, ?_⟩ rfl
        rw [ca]
        exact Nat.or_comm _ _
      · rw [if_pos (pN (pb_ez (by omega)) ca)]
        rcases hd with ⟨d0, -⟩ | ⟨d1, d2, z, d3⟩
        · exact absurd d0 ca
        · exact BACK τ7 _ _ r2 ((he.tr p3).tr r3) d2 ⟨z ||| pE pr m (vPass v pr a).2, by rw [d3, Nat.or_assoc]⟩ rfl
theorem ds_ok (hp : pOK pr) (hpc : vclen pr ≤ 200) : ∀ m d, m < d → m ≤ 4 → ES pr m (fc_pl_doneBySomeD d) := by
  intro m
  induction m with
  | zero =>
    intro d hd _ τ v hT hv hh
    obtain ⟨e, rfl⟩ : ∃ q, d = q + 1 := ⟨d - 1, by omega⟩
    show ∃ τ', fc_pl_doneBySome (fc_pl_doneBySomeD e) (nI 0) τ = _ ∧ _
    unfold fc_pl_doneBySome
    rw [if_pos (show nI 0 < (1 : Int32) by decide), show τ.1 108 0 = nI (v 8 0) from hT.2.2.2.2.2.2.1]
    exact ⟨τ, rfl, hT, eqC.rf⟩
  | succ m ih =>
    intro d hd hm τ v hT hv hh
    obtain ⟨e, rfl⟩ : ∃ q, d = q + 1 := ⟨d - 1, by omega⟩
    have hR := ih e (by omega) (by omega)
    show ∃ τ', fc_pl_doneBySome (fc_pl_doneBySomeD e) (nI (m + 1)) τ = _ ∧ _
    generalize fc_pl_doneBySomeD e = Rc at hR
    have b6 := hv.1
    unfold fc_pl_doneBySome
    rw [if_neg (show ¬ nI (m + 1) < (1 : Int32) by rw [show (1 : Int32) = nI 1 from rfl, pb_lt (by omega) (by omega)]; omega), if_pos (show nI (m + 1) ≤ (4 : Int32) by rw [show (4 : Int32) = nI 4 from rfl, pb_le (by omega) (by omega)]; omega), ec_moment hT hv, qbs]
    exact ds_l (τ0 := τ) hp hpc (show m < 4 by omega) hR hv hh (v 13 0 + 1) 0 hFU 0 (-1) τ (by omega) (by unfold hFU; omega) hT eqC.rf (Or.inl ⟨rfl, rfl⟩)
theorem pE_lt : ∀ m v, vOK v → v 2 0 + m ≤ v 3 0 → pE pr m v < 2 ^ v 13 0 := by
  intro m
  induction m with
  | zero => intro v hv _; exact hv.2.2.2.2.2.2.2.1
  | succ m ih =>
    intro v hv hh
    refine pf_ind _ (fun x : Nat => x < 2 ^ v 13 0) _ _ _ (Nat.two_pow_pos _) (fun y b h1 h2 hy => Nat.or_lt_two_pow hy ?_)
    have := ih (vPass v pr b).2 (vPass_ok hv (by omega) (show b ≤ v 13 0 by omega)).1 (by rw [vPass_hour, vPass_3]; omega)
    rwa [vPass_13] at this
end FE
