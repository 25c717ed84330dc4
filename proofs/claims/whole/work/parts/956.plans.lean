/-! PURE: the reference's plans -/
def pF (w : Nat) (pr : List RU) : Nat → VT → Nat
  | 0, v => if (nI w &&& (nI (v 8 0) ^^^ (-1 : Int32))) = 0 then 0 else 99
  | m + 1, v => pf (fun x a => min x (pF w pr m (vPass v pr a).2 + (if a = 0 then 0 else 1))) (v 13 0 + 1) 0 99
def pE (pr : List RU) : Nat → VT → Nat
  | 0, v => v 8 0
  | m + 1, v => pf (fun x a => x ||| pE pr m (vPass v pr a).2) (v 13 0 + 1) 0 0
def pL (W : Nat) (P : List Nat) (x : P3) : P3 := (W + x.1, x.2.1, P ++ x.2.2)
theorem pcomb_lt {a b : P3} (h : a.1 < b.1) : pcomb a b = b := if_pos h
theorem pcomb_eq {a b : P3} (h : a.1 = b.1) : pcomb a b = (a.1, a.2.1 + b.2.1, a.2.2) := by
  unfold pcomb
  rw [if_neg (by omega), if_pos h]
theorem pcomb_gt {a b : P3} (h : b.1 < a.1) : pcomb a b = a := by
  unfold pcomb
  rw [if_neg (by omega), if_neg (by omega)]
theorem pcomb_1 (a b : P3) : (pcomb a b).1 = max a.1 b.1 := by
  rcases Nat.lt_trichotomy a.1 b.1 with h | h | h
  · rw [pcomb_lt h]; omega
  · rw [pcomb_eq h]; show a.1 = _; omega
  · rw [pcomb_gt h]; omega
theorem pcomb_assoc (a b c : P3) : pcomb (pcomb a b) c = pcomb a (pcomb b c) := by
  have m2 := pcomb_1 b c
  rcases Nat.lt_trichotomy a.1 b.1 with h1 | h1 | h1
  · rw [pcomb_lt h1, pcomb_lt (show a.1 < (pcomb b c).1 by omega)]
  · rw [pcomb_eq h1]
    rcases Nat.lt_trichotomy b.1 c.1 with h2 | h2 | h2
    · rw [pcomb_lt h2, pcomb_lt (show a.1 < c.1 by omega), pcomb_lt (show ((a.1, a.2.1 + b.2.1, a.2.2) : P3).1 < c.1 by show a.1 < c.1; omega)]
    · rw [pcomb_eq h2, pcomb_eq (show ((a.1, a.2.1 + b.2.1, a.2.2) : P3).1 = c.1 by show a.1 = c.1; omega), pcomb_eq (show a.1 = ((b.1, b.2.1 + c.2.1, b.2.2) : P3).1 from h1)]
      show (a.1, (a.2.1 + b.2.1) + c.2.1, a.2.2) = (a.1, a.2.1 + (b.2.1 + c.2.1), a.2.2)
      rw [Nat.add_assoc]
    · rw [pcomb_gt h2, pcomb_eq h1, pcomb_gt (show c.1 < ((a.1, a.2.1 + b.2.1, a.2.2) : P3).1 by show c.1 < a.1; omega)]
  · rw [pcomb_gt h1]
    rcases Nat.lt_trichotomy b.1 c.1 with h2 | h2 | h2
    · rw [pcomb_lt h2]
    · rw [pcomb_eq h2, pcomb_gt (show c.1 < a.1 by omega), pcomb_gt (show ((b.1, b.2.1 + c.2.1, b.2.2) : P3).1 < a.1 from h1)]
    · rw [pcomb_gt h2, pcomb_gt (show c.1 < a.1 by omega), pcomb_gt h1]
theorem pL_comb (W : Nat) (P : List Nat) (x y : P3) : pL W P (pcomb x y) = pcomb (pL W P x) (pL W P y) := by
  have e : ∀ z, (pL W P z).1 = W + z.1 := fun _ => rfl
  rcases Nat.lt_trichotomy x.1 y.1 with h | h | h
  · rw [pcomb_lt h, pcomb_lt (by rw [e, e]; omega)]
  · rw [pcomb_eq h, pcomb_eq (by rw [e, e]; omega)]
    rfl
  · rw [pcomb_gt h, pcomb_gt (by rw [e, e]; omega)]
theorem pf_S (W : Nat) (P : List Nat) (A : P3) (it : Nat → P3) : ∀ q a x, pcomb A (pL W P (pf (fun x a => pcomb x (it a)) q a x)) = pf (fun x a => pcomb x (pL W P (it a))) q a (pcomb A (pL W P x)) := by
  intro q
  induction q with
  | zero => intro a x; rfl
  | succ q ih =>
    intro a x
    show pcomb A (pL W P (pf (fun x a => pcomb x (it a)) q (a + 1) (pcomb x (it a)))) = pf (fun x a => pcomb x (pL W P (it a))) q (a + 1) (pcomb (pcomb A (pL W P x)) (pL W P (it a)))
    rw [ih, pL_comb, pcomb_assoc]
theorem pf_F (F t : Nat) (it : Nat → Nat) : ∀ q a x, min F (t + pf (fun x a => min x (it a)) q a x) = pf (fun x a => min x (t + it a)) q a (min F (t + x)) := by
  intro q
  induction q with
  | zero => intro a x; rfl
  | succ q ih =>
    intro a x
    show min F (t + pf (fun x a => min x (it a)) q (a + 1) (min x (it a))) = pf (fun x a => min x (t + it a)) q (a + 1) (min (min F (t + x)) (t + it a))
    rw [ih, show min F (t + min x (it a)) = min (min F (t + x)) (t + it a) by omega]
theorem pf_E (E : Nat) (it : Nat → Nat) : ∀ q a x, E ||| pf (fun x a => x ||| it a) q a x = pf (fun x a => x ||| it a) q a (E ||| x) := by
  intro q
  induction q with
  | zero => intro a x; rfl
  | succ q ih =>
    intro a x
    show E ||| pf (fun x a => x ||| it a) q (a + 1) (x ||| it a) = pf (fun x a => x ||| it a) q (a + 1) ((E ||| x) ||| it a)
    rw [ih, Nat.or_assoc]
/-- the reference's finds -/
def AM (σ : SM) (A : P3) (F E : Nat) : Prop := σ 15 0 = nM A.1 ∧ σ 16 0 = nI A.2.1 ∧ σ 17 0 = nI A.2.2.length ∧ (∀ j, j < A.2.2.length → σ 14 j = nI (A.2.2.getD j 0)) ∧ σ 19 0 = nI F ∧ σ 20 0 = nI E
def FR (k : Nat) (σ σ' : SM) : Prop := (∀ i, i ≠ 3 → i ≠ 13 → i ≠ 14 → i ≠ 15 → i ≠ 16 → i ≠ 17 → i ≠ 19 → i ≠ 20 → σ' i = σ i) ∧ (∀ j, j < 46 * k → σ' 3 j = σ 3 j) ∧ (∀ j, j < k → σ' 13 j = σ 13 j)
theorem FR.rf {k : Nat} {σ : SM} : FR k σ σ := ⟨fun _ _ _ _ _ _ _ _ _ => rfl, fun _ _ => rfl, fun _ _ => rfl⟩
theorem FR.tr {k : Nat} {a b c : SM} (h1 : FR k a b) (h2 : FR k b c) : FR k a c := ⟨fun i a1 a2 a3 a4 a5 a6 a7 a8 => (h2.1 i a1 a2 a3 a4 a5 a6 a7 a8).trans (h1.1 i a1 a2 a3 a4 a5 a6 a7 a8), fun j hj => (h2.2.1 j hj).trans (h1.2.1 j hj), fun j hj => (h2.2.2 j hj).trans (h1.2.2 j hj)⟩
theorem sg_ne {σ : SM} {k i : Nat} {f : Nat → Int32} (h : i ≠ k) : sf σ k f i = σ i := if_neg h
theorem sg_at {σ : SM} {k : Nat} {f : Nat → Int32} : sf σ k f k = f := if_pos rfl
theorem FR_sf {k i : Nat} {σ : SM} {f : Nat → Int32} (h : i = 14 ∨ i = 15 ∨ i = 16 ∨ i = 17 ∨ i = 19 ∨ i = 20) : FR k σ (sf σ i f) := ⟨fun j a1 a2 a3 a4 a5 a6 a7 a8 => sg_ne (by omega), fun j _ => by rw [sg_ne (by omega)], fun j _ => by rw [sg_ne (by omega)]⟩
section RP
variable {pr : List RU} {w : Nat}
theorem rp_l38 {σ : SM} {Rc : Int32 → Int32 → Int32 → Int32 → SM → Option SM} {K : Int32 → Int32 → SM → Option SM} {x3 x4 : Int32} : ∀ (m k n : Nat) (g : Nat → Int32), k + m = 4 → m < n → (∀ j, j < k → g j = σ 13 j) → ∃ g2, fm_plans_l38 Rc K n x3 x4 (nI k) (sf σ 14 g) = K x3 x4 (sf σ 14 g2) ∧ ∀ j, j < 4 → g2 j = σ 13 j := by
  intro m
  induction m with
  | zero =>
    intro k n g hk hn hg
    obtain ⟨n', rfl⟩ : ∃ q, n = q + 1 := ⟨n - 1, by omega⟩
    unfold fm_plans_l38
    rw [if_pos (show (4 : Int32) ≤ nI k by rw [show (4 : Int32) = nI 4 from rfl, pb_le (by omega) (by omega)]; omega)]
    exact ⟨g, rfl, fun j hj => hg j (by omega)⟩
  | succ m ih =>
    intro k n g hk hn hg
    obtain ⟨n', rfl⟩ : ∃ q, n = q + 1 := ⟨n - 1, by omega⟩
    unfold fm_plans_l38
    rw [if_neg (show ¬ (4 : Int32) ≤ nI k by rw [show (4 : Int32) = nI 4 from rfl, pb_le (by omega) (by omega)]; omega), pb_in (by omega) (by omega), pb_oc, pb_oc, qhl, pb_cl (by omega), nI_a1, pb_sfsf, sg_at, sg_ne (by omega)]
    refine ih (k + 1) n' _ (by omega) (by omega) (fun j hj => ?_)
    by_cases e : j = k
    · rw [e, up_eq]
    · rw [up_ne e]
      exact hg j (by omega)
theorem rp_b82 {σ : SM} {Rc : Int32 → Int32 → Int32 → Int32 → SM → Option SM} {v : VT} {A : P3} {F E t c k : Nat} {y0 y1 : Int32} (hT : twM (σ 0) v pr) (hv : vOK v) (hF : F ≤ 9) (ht : t ≤ 4) (hw : σ 18 0 = nI w) (hy : y1 + y0 = nI c) (h5 : σ 15 0 = nM A.1) (h7 : σ 17 0 = nI A.2.2.length) (h4 : ∀ j, j < A.2.2.length → σ 14 j = nI (A.2.2.getD j 0)) (h9 : σ 19 0 = nI F) (h0 : σ 20 0 = nI E) : ∃ σ', fm_plans_b82 Rc (nI t) y0 y1 σ = some σ' ∧ FR k σ σ' ∧ AM σ' (A.1, c, A.2.2) (min F (t + pF w pr 0 v)) (E ||| v 8 0) := by
  unfold fm_plans_b82
  rw [qhl, em_done (σ := sf σ 16 fun _ => y1 + y0) hT hv, qbs, qhl]
  rw [show (sf (sf σ 16 fun _ => y1 + y0) 20 fun _ => (sf σ 16 fun _ => y1 + y0) 20 0 ||| nI (v 8 0)) 18 0 = nI w from hw, show (sf (sf σ 16 fun _ => y1 + y0) 20 fun _ => (sf σ 16 fun _ => y1 + y0) 20 0 ||| nI (v 8 0)) 19 0 = nI F from h9, hy, show (sf σ 16 fun _ => nI c) 20 0 = nI E from h0, fa_or]
  have G : ∀ z, z = min F (t + pF w pr 0 v) → ∃ σ', some (sf (sf (sf σ 16 fun _ => nI c) 20 fun _ => nI (E ||| v 8 0)) 19 fun _ => nI z) = some σ' ∧ FR k σ σ' ∧ AM σ' (A.1, c, A.2.2) (min F (t + pF w pr 0 v)) (E ||| v 8 0) := fun z hz => ⟨_, rfl, ((FR_sf (by omega)).tr (FR_sf (by omega))).tr (FR_sf (by omega)), h5, rfl, h7, h4, by rw [← hz]; rfl, rfl⟩
  by_cases c1 : (nI w &&& (nI (v 8 0) ^^^ (-1 : Int32))) = 0
  · have e : pF w pr 0 v = 0 := if_pos c1
    rw [if_neg (fun z => z c1)]
    by_cases c2 : F ≤ t
    · rw [if_pos (pQ (pb_le (by omega) (by omega)) c2)]
      exact G F (by rw [e]; omega)
    · rw [if_neg (pN (pb_le (by omega) (by omega)) c2)]
      exact G t (by rw [e]; omega)
  · have e : pF w pr 0 v = 99 := if_neg c1
    rw [if_pos c1]
    exact G F (by rw [e]; omega)
theorem rp_leaf {σ : SM} {Rc : Int32 → Int32 → Int32 → Int32 → SM → Option SM} {v : VT} {A : P3} {F E t W k : Nat} {P : List Nat} (hT : twM (σ 0) v pr) (hv : vOK v) (hk : k ≤ 4) (hP : P.length = k) (hPa : ∀ j, j < k → σ 13 j = nI (P.getD j 0)) (hW : W ≤ 99 * k) (hA : A.1 ≤ 397) (hF : F ≤ 9) (ht : t ≤ k) (hw : σ 18 0 = nI w) (hAM : AM σ A F E) : ∃ σ', fm_plans_b12 Rc (nI k) (nI W) (nI t) σ = some σ' ∧ FR k σ σ' ∧ AM σ' (pcomb A (pL W P (pS pr 0 v))) (min F (t + pF w pr 0 v)) (E ||| pE pr 0 v) := by
  obtain ⟨a1, a2, a3, a4, a5, a6⟩ := hAM
  have eL : pL W P (pS pr 0 v) = (W + 1, 1, P) := by
    show (W + 1, 1, P ++ []) = _
    rw [List.append_nil]
  rw [eL]
  show ∃ σ', fm_plans_b12 Rc (nI k) (nI W) (nI t) σ = some σ' ∧ FR k σ σ' ∧ AM σ' (pcomb A (W + 1, 1, P)) (min F (t + pF w pr 0 v)) (E ||| v 8 0)
  unfold fm_plans_b12
  rw [a1, ← nM_s W]
  by_cases c1 : W + 1 ≤ A.1
  · rw [if_pos (pQ (nM_le (by omega) (by omega)) c1)]
    unfold fm_plans_b64
    rw [a1, a2]
    by_cases c2 : W + 1 = A.1
    · rw [if_neg (pNN (nM_eq (by omega) (by omega)) c2), pcomb_eq (show A.1 = ((W + 1, 1, P) : P3).1 from c2.symm)]
      exact rp_b82 hT hv hF (by omega) hw (pb_add A.2.1 1) a1 a3 a4 a5 a6
    · rw [if_pos (pN (nM_eq (by omega) (by omega)) c2), pcomb_gt (show ((W + 1, 1, P) : P3).1 < A.1 by show W + 1 < A.1; omega)]
      exact rp_b82 (A := A) (c := A.2.1) hT hv hF (by omega) hw (Int32.add_zero _) a1 a3 a4 a5 a6
  · rw [if_neg (pN (nM_le (by omega) (by omega)) c1), pcomb_lt (show A.1 < ((W + 1, 1, P) : P3).1 by show A.1 < W + 1; omega)]
    simp only [qhl]
    obtain ⟨g, g1, g2⟩ := rp_l38 (σ := sf (sf (sf σ 15 fun _ => nM (W + 1)) 16 fun _ => (0 : Int32)) 17 fun _ => nI k) (Rc := Rc) (K := fun x3 x4 σ => fm_plans_b64 Rc x3 x4 σ) (x3 := nM (W + 1)) (x4 := nI t) 4 0 hFU (σ 14) (by omega) (by unfold hFU; omega) (fun j hj => absurd hj (Nat.not_lt_zero j))
    rw [show sf (sf (sf (sf σ 15 fun _ => nM (W + 1)) 16 fun _ => (0 : Int32)) 17 fun _ => nI k) 14 (σ 14) = sf (sf (sf σ 15 fun _ => nM (W + 1)) 16 fun _ => (0 : Int32)) 17 fun _ => nI k from sf_id (sf (sf (sf σ 15 fun _ => nM (W + 1)) 16 fun _ => (0 : Int32)) 17 fun _ => nI k) 14, show nI 0 = (0 : Int32) from rfl] at g1
    rw [g1]
    show ∃ σ', fm_plans_b64 Rc (nM (W + 1)) (nI t) (sf (sf (sf (sf σ 15 fun _ => nM (W + 1)) 16 fun _ => (0 : Int32)) 17 fun _ => nI k) 14 g) = some σ' ∧ _
    unfold fm_plans_b64
    rw [if_neg (fun z => z rfl)]
    obtain ⟨σ', e1, e2, e3⟩ := rp_b82 (σ := sf (sf (sf (sf σ 15 fun _ => nM (W + 1)) 16 fun _ => (0 : Int32)) 17 fun _ => nI k) 14 g) (Rc := Rc) (A := (W + 1, 1, P)) (c := 1) (F := F) (E := E) (t := t) (k := k) (y0 := 1) (y1 := 0) (w := w) hT hv hF (by omega) hw (by decide) rfl (by show nI k = nI P.length; rw [hP]) (fun j hj => by
      show g j = nI (P.getD j 0)
      have hj2 : j < k := by rw [← hP]; exact hj
      rw [g2 j (by omega)]
      exact hPa j hj2) a5 a6
    exact ⟨σ', e1, ((((FR_sf (by omega)).tr (FR_sf (by omega))).tr (FR_sf (by omega))).tr (FR_sf (by omega))).tr e2, e3⟩
def PR (pr : List RU) (w m : Nat) (Rc : Int32 → Int32 → Int32 → Int32 → SM → Option SM) : Prop := ∀ (k n W t : Nat) (P : List Nat) (σ : SM) (v : VT) (A : P3) (F E : Nat), twM (σ 0) v pr → vOK v → k ≤ n → n ≤ 4 → m = min (n - k) (v 3 0 - v 2 0) → P.length = k → (∀ j, j < k → σ 13 j = nI (P.getD j 0)) → W ≤ 99 * k → A.1 ≤ 397 → F ≤ 9 → t ≤ k → σ 18 0 = nI w → AM σ A F E → ∃ σ', Rc (nI k) (nI n) (nI W) (nI t) σ = some σ' ∧ FR k σ σ' ∧ AM σ' (pcomb A (pL W P (pS pr m v))) (min F (t + pF w pr m v)) (E ||| pE pr m v)
theorem rp_l (hp : pOK pr) {m : Nat} {Rc : Int32 → Int32 → Int32 → Int32 → SM → Option SM} (hR : PR pr w m Rc) {k n W t : Nat} {P : List Nat} {σ0 : SM} {v : VT} (hT0 : twM (σ0 0) v pr) (hv : vOK v) (hk : k < n) (hn4 : n ≤ 4) (hm : m + 1 = min (n - k) (v 3 0 - v 2 0)) (hP : P.length = k) (hW : W ≤ 99 * k) (ht : t ≤ k) (hw : σ0 18 0 = nI w) : ∀ (q a fu : Nat) (A : P3) (F E : Nat) (σ : SM), a + q = v 13 0 + 1 → q < fu → FR k σ0 σ → (∀ j, j < 46 → σ 3 (46 * k + j) = σ0 0 j) → (∀ j, j < k → σ 13 j = nI (P.getD j 0)) → A.1 ≤ 397 → F ≤ 9 → AM σ A F E → ∃ σ', fm_plans_l146 Rc fu (nI k) (nI n) (nI W) (nI t) (nI a) σ = some σ' ∧ FR k σ0 σ' ∧ AM σ' (pf (fun x a => pcomb x (pL W P (pI pr m v a))) q a A) (pf (fun x a => min x (t + (pF w pr m (vPass v pr a).2 + (if a = 0 then 0 else 1)))) q a F) (pf (fun x a => x ||| pE pr m (vPass v pr a).2) q a E) := by
  have b6 := hv.1
  have hlt : v 2 0 < v 3 0 := by omega
  intro q
  induction q with
  | zero =>
    intro a fu A F E σ hq hf hfr h3 h13 hA hF hAM
    obtain ⟨n', rfl⟩ : ∃ q, fu = q + 1 := ⟨fu - 1, by omega⟩
    have e0 : σ 0 = σ0 0 := hfr.1 0 (by decide) (by decide) (by decide) (by decide) (by decide) (by decide) (by decide) (by decide)
    unfold fm_plans_l146
    rw [e0, hT0.1, if_pos (show nI (v 13 0) < nI a by rw [pb_lt (by omega) (by omega)]; omega)]
    exact ⟨σ, rfl, hfr, hAM⟩
  | succ q ih =>
    intro a fu A F E σ hq hf hfr h3 h13 hA hF hAM
    obtain ⟨n', rfl⟩ : ∃ q, fu = q + 1 := ⟨fu - 1, by omega⟩
    have e0 : σ 0 = σ0 0 := hfr.1 0 (by decide) (by decide) (by decide) (by decide) (by decide) (by decide) (by decide) (by decide)
    have e18 : σ 18 0 = nI w := by
      rw [hfr.1 18 (by decide) (by decide) (by decide) (by decide) (by decide) (by decide) (by decide) (by decide)]
      exact hw
    have ha : a ≤ v 13 0 := by omega
    have IH := fun A F E σ => ih (a + 1) n' A F E σ (by omega) (by omega)
    rw [fm_plans_l146]
    generalize fm_plans_l146 Rc n' = K at IH ⊢
    rw [e0, hT0.1, if_neg (show ¬ nI (v 13 0) < nI a by rw [pb_lt (by omega) (by omega)]; omega), pb_in (by omega) (by omega), pb_oc, qhl, pb_cl (by omega)]
    obtain ⟨f2, g1, g2, g3, g4, g5⟩ := em_goesWith (σ := sf σ 13 (upd (σ 13) k (nI a))) (pr := pr) (v := v) (by show twM (σ 0) v pr; rw [e0]; exact hT0) hv hp hlt ha
    rw [g1]
    simp only [qbs, qhl]
    obtain ⟨hv4, hw4⟩ := vPass_ok (pr := pr) hv hlt ha
    have hT : ∀ t', t' = t + (if a = 0 then 0 else 1) → ∃ σ', fm_plans_b196 Rc K (nI k) (nI n) (nI W) (nI t) (nI a) (nI t') (nI W + nI (vPass v pr a).1) (nI n) (nI k + (1 : Int32)) (sf (sf σ 13 (upd (σ 13) k (nI a))) 0 f2) = some σ' ∧ FR k σ0 σ' ∧ AM σ' (pf (fun x a => pcomb x (pL W P (pI pr m v a))) (q + 1) a A) (pf (fun x a => min x (t + (pF w pr m (vPass v pr a).2 + (if a = 0 then 0 else 1)))) (q + 1) a F) (pf (fun x a => x ||| pE pr m (vPass v pr a).2) (q + 1) a E) := by
      intro t' ht'
      obtain ⟨σ8, r1, r2, r3⟩ := hR (k + 1) n (W + (vPass v pr a).1) t' (P ++ [a]) (sf (sf σ 13 (upd (σ 13) k (nI a))) 0 f2) (vPass v pr a).2 A F E g2 hv4 (by omega) hn4 (by rw [vPass_hour, vPass_3]; omega) (by rw [List.length_append, hP]; rfl) (fun j hj => by
        show upd (σ 13) k (nI a) j = _
        by_cases e : j = k
        · rw [e, up_eq, ← hP]
          simp
        · rw [up_ne e, h13 j (by omega)]
          rw [List.getD_eq_getElem?_getD, List.getD_eq_getElem?_getD, List.getElem?_append_left (by omega)]) (by omega) hA hF (by subst ht'; split <;> omega) e18 hAM
      unfold fm_plans_b196
      rw [pb_add, nI_a1, nI_a1, r1, qbs]
      obtain ⟨f, b1, b2, b3⟩ := em_laysBack (σ := σ8) (l := k) (by omega)
      rw [b1, qbs]
      have e80 : σ8 0 = f2 := r2.1 0 (by decide) (by decide) (by decide) (by decide) (by decide) (by decide) (by decide) (by decide)
      have ef : f = σ0 0 := by
        funext j
        by_cases c : j < 46
        · rw [b2 j c, r2.2.1 _ (by omega)]
          exact h3 j c
        · rw [b3 j (by omega), e80, g5 j (by omega)]
          exact congrFun e0 j
      rw [ef]
      have hfr2 : FR k σ0 (sf σ8 0 (σ0 0)) := by
        refine ⟨fun i a1 a2 a3 a4 a5 a6 a7 a8 => ?_, fun j hj => ?_, fun j hj => ?_⟩
        · by_cases c : i = 0
          · rw [c, sg_at]
          · rw [sg_ne c, r2.1 i a1 a2 a3 a4 a5 a6 a7 a8, sg_ne c, sg_ne a2]
            exact hfr.1 i a1 a2 a3 a4 a5 a6 a7 a8
        · rw [sg_ne (by omega), r2.2.1 j (by omega)]
          exact hfr.2.1 j hj
        · rw [sg_ne (by omega), r2.2.2 j (by omega), sg_ne (by omega), sg_at, up_ne (by omega)]
          exact hfr.2.2 j hj
      have hpm := pI_ok (pr := pr) (m := m) (a := a) hv (by omega) ha
      have R := IH (pcomb A (pL W P (pI pr m v a))) (min F (t + (pF w pr m (vPass v pr a).2 + (if a = 0 then 0 else 1)))) (E ||| pE pr m (vPass v pr a).2) (sf σ8 0 (σ0 0)) hfr2 (fun j hj => by
        rw [sg_ne (by omega), r2.2.1 _ (by omega)]
        exact h3 j hj) (fun j hj => by
        rw [sg_ne (by omega), r2.2.2 j (by omega), sg_ne (by omega), sg_at, up_ne (by omega)]
        exact h13 j hj) (by
        rw [pcomb_1]
        have : (pL W P (pI pr m v a)).1 = W + (pI pr m v a).1 := rfl
        omega) (by omega) (by
        have E1 : pL (W + (vPass v pr a).1) (P ++ [a]) (pS pr m (vPass v pr a).2) = pL W P (pI pr m v a) := by
          unfold pL pI
          rw [List.append_assoc, Nat.add_assoc]
          rfl
        rw [E1] at r3
        rw [show t' + pF w pr m (vPass v pr a).2 = t + (pF w pr m (vPass v pr a).2 + (if a = 0 then 0 else 1)) by rw [ht']; omega] at r3
        exact r3)
      exact R
    by_cases ca : a = 0
    · rw [if_neg (pNN (pb_ez (by omega)) ca)]
      exact hT t (by rw [if_pos ca]; rfl)
    · rw [if_pos (pN (pb_ez (by omega)) ca)]
      rw [nI_a1 t]
      exact hT (t + 1) (by rw [if_neg ca])
theorem rp_ok (hp : pOK pr) : ∀ m d, m < d → PR pr w m (fm_plansD d) := by
  intro m
  induction m with
  | zero =>
    intro d hd k n W t P σ v A F E hT hv hk hn hm hP hPa hW hA hF ht hw hAM
    obtain ⟨e, rfl⟩ : ∃ q, d = q + 1 := ⟨d - 1, by omega⟩
    show ∃ σ', fm_plans (fm_plansD e) (nI k) (nI n) (nI W) (nI t) σ = _ ∧ _
    unfold fm_plans
    have L := rp_leaf (Rc := fm_plansD e) (P := P) hT hv (by omega) hP hPa hW hA hF ht hw hAM
    rw [em_over hT hv, qbs]
    by_cases c : k = n
    · rw [if_pos (pQ (pb_eq (by omega) (by omega)) c)]
      exact L
    · rw [if_neg (pN (pb_eq (by omega) (by omega)) c), if_neg (show ¬ v 2 0 < v 3 0 by omega), if_neg (by decide)]
      exact L
  | succ m ih =>
    intro d hd k n W t P σ v A F E hT hv hk hn hm hP hPa hW hA hF ht hw hAM
    obtain ⟨e, rfl⟩ : ∃ q, d = q + 1 := ⟨d - 1, by omega⟩
    have hR := ih e (by omega)
    show ∃ σ', fm_plans (fm_plansD e) (nI k) (nI n) (nI W) (nI t) σ = _ ∧ _
    generalize fm_plansD e = Rc at hR
    have b6 := hv.1
    unfold fm_plans
    rw [if_neg (pN (pb_eq (by omega) (by omega)) (show ¬ k = n by omega)), em_over hT hv, qbs, if_pos (show v 2 0 < v 3 0 by omega), if_pos rfl]
    obtain ⟨g, g1, g2, g3⟩ := em_laysAside (σ := σ) (l := k) (by omega)
    rw [g1, qbs]
    obtain ⟨σ', e1, e2, e3⟩ := rp_l (w := w) (W := W) (t := t) (P := P) (σ0 := σ) hp hR hT hv (show k < n by omega) hn hm hP hW ht hw (v 13 0 + 1) 0 hFU A F E (sf σ 3 g) (by omega) (by unfold hFU; omega) ⟨fun i a1 a2 a3 a4 a5 a6 a7 a8 => sg_ne a1, fun j hj => by rw [sg_at]; exact g3 j (Or.inl hj), fun j hj => by rw [sg_ne (by omega)]⟩ (fun j hj => by rw [sg_at]; exact g2 j hj) (fun j hj => by rw [sg_ne (by omega)]; exact hPa j hj) hA hF hAM
    rw [show nI 0 = (0 : Int32) from rfl] at e1
    refine ⟨σ', e1, e2, ?_⟩
    rw [pS_s, pf_S]
    rw [show pF w pr (m + 1) v = pf (fun x a => min x (pF w pr m (vPass v pr a).2 + (if a = 0 then 0 else 1))) (v 13 0 + 1) 0 99 from rfl, pf_F, show min F (t + 99) = F by omega, show pE pr (m + 1) v = pf (fun x a => x ||| pE pr m (vPass v pr a).2) (v 13 0 + 1) 0 0 from rfl, pf_E, Nat.or_zero]
    exact e3
end RP
