/-! PURE: all -/
section AL
variable {b : Nat → Nat} {n cnt : Nat} {τ0 τ : SC} {σ0 σ : SM} {i o : Nat} {pr : List RU} {D : List RS}
theorem all_l (B : BAS b n cnt τ0 σ0) {k : Nat} {RcC : Int32 → SC → Option (Int32 × SC)} {RcM : SM → Option SM} (hO : CHs b n cnt τ0 σ0 o k (fc_rd_readOne RcC) (fm_oneHere RcM)) {i0 : Nat} (hS : SZ b n i0 pr D) : ∀ (m i j fu1 fu2 : Nat) (E : List RS) (τ : SC) (σ : SM), n - fr b n i ≤ m → m < fu1 → m < fu2 → i ≤ cnt → i0 < i → fr b n i0 + j ≤ fr b n i → PSc τ0 τ b n i pr (D ++ E) → PSm σ0 σ b n i o pr (D ++ E) → EX (k + 1) E → clen E + fr b n i0 ≤ fr b n i → 2 * E.length + fr b n i0 ≤ fr b n i → OUT b n cnt τ0 σ0 i0 o pr D (k + 1) (fc_rd_readAlls_b37 RcC (fc_rd_readAlls_l4 RcC fu1) (nI o) (nI j) τ) (fm_allHere_l4 RcM fu2 σ) := by
  have fn := fr_n (b := b) (n := n)
  have hn := B.1
  have IDLE : ∀ (i j fu1 fu2 : Nat) (E : List RS) (τ : SC) (σ : SM), 0 < fu1 → 0 < fu2 → i ≤ cnt → i0 < i → PSc τ0 τ b n i pr (D ++ E) → PSm σ0 σ b n i o pr (D ++ E) → EX (k + 1) E → clen E + fr b n i0 ≤ fr b n i → 2 * E.length + fr b n i0 ≤ fr b n i → ¬ (tk b n i).2.1 = 11 → OUT b n cnt τ0 σ0 i0 o pr D (k + 1) (fc_rd_readAlls_b37 RcC (fc_rd_readAlls_l4 RcC fu1) (nI o) (nI j) τ) (fm_allHere_l4 RcM fu2 σ) := by
    intro i j fu1 fu2 E τ σ h1 h2 h3 hlt hc hm hE e1 e2 c
    obtain ⟨q1, rfl⟩ : ∃ q, fu1 = q + 1 := ⟨fu1 - 1, by omega⟩
    obtain ⟨q2, rfl⟩ : ∃ q, fu2 = q + 1 := ⟨fu2 - 1, by omega⟩
    have hcd := tk_cd (b := b) (n := n) i B.by
    unfold fc_rd_readAlls_b37 fc_rd_readAlls_b51 fc_rd_readAlls_b60 fm_allHere_l4
    rw [hc.2.2.1, show (11 : Int32) = nI 11 from rfl, if_pos (pN (pb_eq (by omega) (by omega)) c), if_pos (show (0 : Int32) = 0 from rfl), if_neg (show ¬ ¬ σ 10 0 = 0 from fun z => z hm.2.1), pr_and (B.tp hm.1) B.1 hm.2.2.1 (tk_tf i), qbs, if_neg c, if_pos (show (0 : Int32) = 0 from rfl)]
    unfold fc_rd_readAlls_l4
    rw [if_pos (show (0 : Int32) = 0 from rfl), ite_self]
    exact Or.inl ⟨τ, σ, i, E, rfl, rfl, h3, hlt, hc, hm, hE, e1, e2⟩
  intro m
  induction m with
  | zero =>
    intro i j fu1 fu2 E τ σ h1 h2 h3 hi hlt hj hc hm hE e1 e2
    have f1 := fn (i + 1)
    refine IDLE i j fu1 fu2 E τ σ (by omega) (by omega) hi hlt hc hm hE e1 e2 (fun z => ?_)
    have := fr_3 (Or.inl z)
    omega
  | succ m ih =>
    intro i j fu1 fu2 E τ σ h1 h2 h3 hi hlt hj hc hm hE e1 e2
    by_cases c : (tk b n i).2.1 = 11
    · obtain ⟨q1, rfl⟩ : ∃ q, fu1 = q + 1 := ⟨fu1 - 1, by omega⟩
      obtain ⟨q2, rfl⟩ : ∃ q, fu2 = q + 1 := ⟨fu2 - 1, by omega⟩
      have hcd := tk_cd (b := b) (n := n) i B.by
      have f2 := fn (i + 1)
      have f3 := fr_3 (Or.inl c)
      have c20 : ¬ (tk b n i).2.1 = 20 := by omega
      obtain ⟨τ1, a1, a2⟩ := hc.ad B (B.lt hi c20)
      obtain ⟨σ1, m1, m2⟩ := hm.nt B
      have IH := fun i j E τ σ => ih i j q1 q2 E τ σ
      unfold fc_rd_readAlls_b37 fc_rd_readAlls_b51 fc_rd_readAlls_b60
      rw [fm_allHere_l4]
      generalize hKM : fm_allHere_l4 RcM q2 = KM at IH ⊢
      rw [hc.2.2.1, show (11 : Int32) = nI 11 from rfl, if_neg (pNN (pb_eq (by omega) (by omega)) c), if_neg (show ¬ (1 : Int32) = 0 by decide), a1, qbs, if_neg (show ¬ ¬ σ 10 0 = 0 from fun z => z hm.2.1), pr_and (B.tp hm.1) B.1 hm.2.2.1 (tk_tf i), qbs, if_pos c, if_neg (show ¬ (1 : Int32) = 0 by decide), m1, qbs, nI_a1, fc_rd_readAlls_l4]
      generalize fc_rd_readAlls_l4 RcC q1 = KC at IH ⊢
      rw [if_neg (show ¬ (200 : Int32) ≤ nI (j + 1) by rw [show (200 : Int32) = nI 200 from rfl, pb_le (by omega) (by omega)]; omega), if_neg (show ¬ (1 : Int32) = 0 by decide)]
      have l1 : clen (D ++ E) = clen D + clen E := clen_app D E
      have l2 : (D ++ E).length = D.length + E.length := List.length_append
      obtain ⟨S1, S2, S3⟩ := id hS
      rcases hO τ1 σ1 (i + 1) pr (D ++ E) (B.lt hi c20) a2 m2 ⟨S1, by omega, by omega⟩ with ⟨τ3, σ3, i3, F, r1, r2, r3, r4, r5, r6, r7, r8, r9⟩ | ⟨τ3, σ3, r1, r2, i3, r3, r4, r5, w⟩
      · have f4 := fn i3
        have l3 : clen (D ++ E ++ F) = clen D + clen E + clen F := by rw [clen_app, l1]
        have l4 : (D ++ E ++ F).length = D.length + E.length + F.length := by rw [List.length_append, l2]
        obtain ⟨τ4, σ4, t1, t2, t3, t4⟩ := emit1 B r5 r6 S1 (by omega) (by omega) (s := 4) (by decide)
        rw [r1, r2, qbs, qbs, qhl, qhl, if_pos (show ¬ (1 : Int32) = 0 by decide), if_neg (show ¬ nI (j + 1) ≤ 0 by rw [pb_lz (by omega)]; omega), show (1 : Int32) = nI (4 - 3) from rfl, t1, qbs]
        rw [show fm_steps (4 : Int32) (0 : Int32) (0 : Int32) σ3 = some σ4 from t2, qbs]
        rw [List.append_assoc, List.append_assoc] at t3 t4
        have c1 : clen (E ++ (F ++ [(4, 0, 0)])) = clen E + (clen F + 1) := by
          rw [clen_app, clen_app]
          rfl
        have c2 : (E ++ (F ++ [(4, 0, 0)])).length = E.length + (F.length + 1) := by
          rw [List.length_append, List.length_append]
          rfl
        exact IH i3 (j + 1) (E ++ (F ++ [(4, 0, 0)])) τ4 σ4 (by omega) (by omega) (by omega) r3 (by omega) (by omega) t3 t4 (EX_bin (Or.inl rfl) hE r7) (by omega) (by omega)
      · rw [r1, r2, qbs, qbs, qhl, qhl, if_neg (show ¬ ¬ (0 : Int32) = 0 from fun z => z rfl), w.st, qbs]
        refine Or.inr ⟨τ3, σ3, rfl, ?_, i3, r3, r4, r5, w⟩
        rw [← hKM]
        obtain ⟨q3, rfl⟩ : ∃ q, q2 = q + 1 := ⟨q2 - 1, by omega⟩
        unfold fm_allHere_l4
        rw [if_pos (show ¬ σ3 10 0 = 0 by rw [w.2.1]; decide)]
    · exact IDLE i j fu1 fu2 E τ σ (by omega) (by omega) hi hlt hc hm hE e1 e2 c
theorem all_ok (B : BAS b n cnt τ0 σ0) {k : Nat} {RcC : Int32 → SC → Option (Int32 × SC)} {RcM : SM → Option SM} (hO : CHs b n cnt τ0 σ0 o k (fc_rd_readOne RcC) (fm_oneHere RcM)) : CHs b n cnt τ0 σ0 o (k + 1) (fc_rd_readAlls RcC) (fm_allHere RcM) := by
  intro τ σ i pr D hi hc hm hS
  have hn := B.1
  unfold fc_rd_readAlls fm_allHere
  show OUT b n cnt τ0 σ0 i o pr D (k + 1) (fc_rd_readAlls_l4 RcC (999 + 1) (nI o) 1 0 τ) _
  unfold fc_rd_readAlls_l4
  rw [if_neg (show ¬ (200 : Int32) ≤ 0 by decide), if_neg (show ¬ (1 : Int32) = 0 by decide)]
  rcases hO τ σ i pr D hi hc hm hS with ⟨τ3, σ3, i3, F, r1, r2, r3, r4, r5, r6, r7, r8, r9⟩ | ⟨τ3, σ3, r1, r2, i3, r3, r4, r5, w⟩
  · have f4 := fr_n (b := b) (n := n) i3
    rw [r1, r2, qbs, qbs, qhl, qhl, if_pos (show ¬ (1 : Int32) = 0 by decide), if_pos (show (0 : Int32) ≤ 0 by decide)]
    exact all_l B hO hS (n - fr b n i3) i3 0 999 hFU F τ3 σ3 (Nat.le_refl _) (by omega) (by unfold hFU; omega) r3 r4 (by omega) r5 r6 (r7.mono (by omega)) r8 r9
  · rw [r1, r2, qbs, qbs, qhl, qhl, if_neg (show ¬ ¬ (0 : Int32) = 0 from fun z => z rfl)]
    refine Or.inr ⟨τ3, σ3, rfl, ?_, i3, r3, r4, r5, w⟩
    show fm_allHere_l4 RcM (999 + 1) σ3 = some σ3
    unfold fm_allHere_l4
    rw [if_pos (show ¬ σ3 10 0 = 0 by rw [w.2.1]; decide)]
end AL
/-! PURE: conditions -/
section CN
variable {b : Nat → Nat} {n cnt : Nat} {τ0 τ : SC} {σ0 σ : SM} {i o : Nat} {pr : List RU} {D : List RS}
theorem cond_l (B : BAS b n cnt τ0 σ0) {k : Nat} {RcC : Int32 → SC → Option (Int32 × SC)} {RcM : SM → Option SM} (hO : CHs b n cnt τ0 σ0 o k (fc_rd_readAlls RcC) (fm_allHere RcM)) {i0 : Nat} (hS : SZ b n i0 pr D) : ∀ (m i j fu1 fu2 : Nat) (E : List RS) (τ : SC) (σ : SM), n - fr b n i ≤ m → m < fu1 → m < fu2 → i ≤ cnt → i0 < i → fr b n i0 + j ≤ fr b n i → PSc τ0 τ b n i pr (D ++ E) → PSm σ0 σ b n i o pr (D ++ E) → EX (k + 1) E → clen E + fr b n i0 ≤ fr b n i → 2 * E.length + fr b n i0 ≤ fr b n i → OUT b n cnt τ0 σ0 i0 o pr D (k + 1) (fc_rd_readCondition_b37 RcC (fc_rd_readCondition_l4 RcC fu1) (nI o) (nI j) τ) (fm_condHere_l4 RcM fu2 σ) := by
  have fn := fr_n (b := b) (n := n)
  have hn := B.1
  have IDLE : ∀ (i j fu1 fu2 : Nat) (E : List RS) (τ : SC) (σ : SM), 0 < fu1 → 0 < fu2 → i ≤ cnt → i0 < i → PSc τ0 τ b n i pr (D ++ E) → PSm σ0 σ b n i o pr (D ++ E) → EX (k + 1) E → clen E + fr b n i0 ≤ fr b n i → 2 * E.length + fr b n i0 ≤ fr b n i → ¬ (tk b n i).2.1 = 10 → OUT b n cnt τ0 σ0 i0 o pr D (k + 1) (fc_rd_readCondition_b37 RcC (fc_rd_readCondition_l4 RcC fu1) (nI o) (nI j) τ) (fm_condHere_l4 RcM fu2 σ) := by
    intro i j fu1 fu2 E τ σ h1 h2 h3 hlt hc hm hE e1 e2 c
    obtain ⟨q1, rfl⟩ : ∃ q, fu1 = q + 1 := ⟨fu1 - 1, by omega⟩
    obtain ⟨q2, rfl⟩ : ∃ q, fu2 = q + 1 := ⟨fu2 - 1, by omega⟩
    have hcd := tk_cd (b := b) (n := n) i B.by
    unfold fc_rd_readCondition_b37 fc_rd_readCondition_b51 fc_rd_readCondition_b60 fm_condHere_l4
    rw [hc.2.2.1, show (10 : Int32) = nI 10 from rfl, if_pos (pN (pb_eq (by omega) (by omega)) c), if_pos (show (0 : Int32) = 0 from rfl), if_neg (show ¬ ¬ σ 10 0 = 0 from fun z => z hm.2.1), pr_or (B.tp hm.1) B.1 hm.2.2.1 (tk_tf i), qbs, if_neg c, if_pos (show (0 : Int32) = 0 from rfl)]
    unfold fc_rd_readCondition_l4
    rw [if_pos (show (0 : Int32) = 0 from rfl), ite_self]
    exact Or.inl ⟨τ, σ, i, E, rfl, rfl, h3, hlt, hc, hm, hE, e1, e2⟩
  intro m
  induction m with
  | zero =>
    intro i j fu1 fu2 E τ σ h1 h2 h3 hi hlt hj hc hm hE e1 e2
    have f1 := fn (i + 1)
    refine IDLE i j fu1 fu2 E τ σ (by omega) (by omega) hi hlt hc hm hE e1 e2 (fun z => ?_)
    have := fr_2 z
    omega
  | succ m ih =>
    intro i j fu1 fu2 E τ σ h1 h2 h3 hi hlt hj hc hm hE e1 e2
    by_cases c : (tk b n i).2.1 = 10
    · obtain ⟨q1, rfl⟩ : ∃ q, fu1 = q + 1 := ⟨fu1 - 1, by omega⟩
      obtain ⟨q2, rfl⟩ : ∃ q, fu2 = q + 1 := ⟨fu2 - 1, by omega⟩
      have hcd := tk_cd (b := b) (n := n) i B.by
      have f2 := fn (i + 1)
      have f3 := fr_2 c
      have c20 : ¬ (tk b n i).2.1 = 20 := by omega
      obtain ⟨τ1, a1, a2⟩ := hc.ad B (B.lt hi c20)
      obtain ⟨σ1, m1, m2⟩ := hm.nt B
      have IH := fun i j E τ σ => ih i j q1 q2 E τ σ
      unfold fc_rd_readCondition_b37 fc_rd_readCondition_b51 fc_rd_readCondition_b60
      rw [fm_condHere_l4]
      generalize hKM : fm_condHere_l4 RcM q2 = KM at IH ⊢
      rw [hc.2.2.1, show (10 : Int32) = nI 10 from rfl, if_neg (pNN (pb_eq (by omega) (by omega)) c), if_neg (show ¬ (1 : Int32) = 0 by decide), a1, qbs, if_neg (show ¬ ¬ σ 10 0 = 0 from fun z => z hm.2.1), pr_or (B.tp hm.1) B.1 hm.2.2.1 (tk_tf i), qbs, if_pos c, if_neg (show ¬ (1 : Int32) = 0 by decide), m1, qbs, nI_a1, fc_rd_readCondition_l4]
      generalize fc_rd_readCondition_l4 RcC q1 = KC at IH ⊢
      rw [if_neg (show ¬ (200 : Int32) ≤ nI (j + 1) by rw [show (200 : Int32) = nI 200 from rfl, pb_le (by omega) (by omega)]; omega), if_neg (show ¬ (1 : Int32) = 0 by decide)]
      have l1 : clen (D ++ E) = clen D + clen E := clen_app D E
      have l2 : (D ++ E).length = D.length + E.length := List.length_append
      obtain ⟨S1, S2, S3⟩ := id hS
      rcases hO τ1 σ1 (i + 1) pr (D ++ E) (B.lt hi c20) a2 m2 ⟨S1, by omega, by omega⟩ with ⟨τ3, σ3, i3, F, r1, r2, r3, r4, r5, r6, r7, r8, r9⟩ | ⟨τ3, σ3, r1, r2, i3, r3, r4, r5, w⟩
      · have f4 := fn i3
        have l3 : clen (D ++ E ++ F) = clen D + clen E + clen F := by rw [clen_app, l1]
        have l4 : (D ++ E ++ F).length = D.length + E.length + F.length := by rw [List.length_append, l2]
        obtain ⟨τ4, σ4, t1, t2, t3, t4⟩ := emit1 B r5 r6 S1 (by omega) (by omega) (s := 5) (by decide)
        rw [r1, r2, qbs, qbs, qhl, qhl, if_pos (show ¬ (1 : Int32) = 0 by decide), if_neg (show ¬ nI (j + 1) ≤ 0 by rw [pb_lz (by omega)]; omega), show (2 : Int32) = nI (5 - 3) from rfl, t1, qbs]
        rw [show fm_steps (5 : Int32) (0 : Int32) (0 : Int32) σ3 = some σ4 from t2, qbs]
        rw [List.append_assoc, List.append_assoc] at t3 t4
        have c1 : clen (E ++ (F ++ [(5, 0, 0)])) = clen E + (clen F + 1) := by
          rw [clen_app, clen_app]
          rfl
        have c2 : (E ++ (F ++ [(5, 0, 0)])).length = E.length + (F.length + 1) := by
          rw [List.length_append, List.length_append]
          rfl
        exact IH i3 (j + 1) (E ++ (F ++ [(5, 0, 0)])) τ4 σ4 (by omega) (by omega) (by omega) r3 (by omega) (by omega) t3 t4 (EX_bin (Or.inr rfl) hE r7) (by omega) (by omega)
      · rw [r1, r2, qbs, qbs, qhl, qhl, if_neg (show ¬ ¬ (0 : Int32) = 0 from fun z => z rfl), w.st, qbs]
        refine Or.inr ⟨τ3, σ3, rfl, ?_, i3, r3, r4, r5, w⟩
        rw [← hKM]
        obtain ⟨q3, rfl⟩ : ∃ q, q2 = q + 1 := ⟨q2 - 1, by omega⟩
        unfold fm_condHere_l4
        rw [if_pos (show ¬ σ3 10 0 = 0 by rw [w.2.1]; decide)]
    · exact IDLE i j fu1 fu2 E τ σ (by omega) (by omega) hi hlt hc hm hE e1 e2 c
theorem cond_ok (B : BAS b n cnt τ0 σ0) {k : Nat} {RcC : Int32 → SC → Option (Int32 × SC)} {RcM : SM → Option SM} (hO : CHs b n cnt τ0 σ0 o k (fc_rd_readAlls RcC) (fm_allHere RcM)) : CHs b n cnt τ0 σ0 o (k + 1) (fc_rd_readCondition RcC) (fm_condHere RcM) := by
  intro τ σ i pr D hi hc hm hS
  have hn := B.1
  unfold fc_rd_readCondition fm_condHere
  show OUT b n cnt τ0 σ0 i o pr D (k + 1) (fc_rd_readCondition_l4 RcC (999 + 1) (nI o) 1 0 τ) _
  unfold fc_rd_readCondition_l4
  rw [if_neg (show ¬ (200 : Int32) ≤ 0 by decide), if_neg (show ¬ (1 : Int32) = 0 by decide)]
  rcases hO τ σ i pr D hi hc hm hS with ⟨τ3, σ3, i3, F, r1, r2, r3, r4, r5, r6, r7, r8, r9⟩ | ⟨τ3, σ3, r1, r2, i3, r3, r4, r5, w⟩
  · have f4 := fr_n (b := b) (n := n) i3
    rw [r1, r2, qbs, qbs, qhl, qhl, if_pos (show ¬ (1 : Int32) = 0 by decide), if_pos (show (0 : Int32) ≤ 0 by decide)]
    exact cond_l B hO hS (n - fr b n i3) i3 0 999 hFU F τ3 σ3 (Nat.le_refl _) (by omega) (by unfold hFU; omega) r3 r4 (by omega) r5 r6 (r7.mono (by omega)) r8 r9
  · rw [r1, r2, qbs, qbs, qhl, qhl, if_neg (show ¬ ¬ (0 : Int32) = 0 from fun z => z rfl)]
    refine Or.inr ⟨τ3, σ3, rfl, ?_, i3, r3, r4, r5, w⟩
    show fm_condHere_l4 RcM (999 + 1) σ3 = some σ3
    unfold fm_condHere_l4
    rw [if_pos (show ¬ σ3 10 0 = 0 by rw [w.2.1]; decide)]
end CN
/-! PURE: conditions, one within another -/
section CD
variable {b : Nat → Nat} {n cnt : Nat} {τ0 τ : SC} {σ0 σ : SM} {i o : Nat} {pr : List RU} {D : List RS}
theorem WS.dd (d : Nat) (h : WS σ0 σ b n i) : fm_condHereD (d + 1) σ = some σ := h.cond
theorem cond_D (B : BAS b n cnt τ0 σ0) : ∀ (q o d : Nat), o + q = 3 → q + 1 < d → CHs b n cnt τ0 σ0 o (2 * q + 3) (fc_rd_readConditionD d) (fm_condHereD d) := by
  intro q
  induction q with
  | zero =>
    intro o d ho hd
    obtain ⟨e, rfl⟩ : ∃ e, d = e + 2 := ⟨d - 2, by omega⟩
    exact cond_ok B (all_ok B (one_ok B (k := 1) (Nat.le_refl _) (by omega) (fun z => by omega) (fun σ i w => ⟨σ, w.dd e, w⟩)))
  | succ q ih =>
    intro o d ho hd
    obtain ⟨e, rfl⟩ : ∃ e, d = e + 2 := ⟨d - 2, by omega⟩
    have R := ih (o + 1) (e + 1) (by omega) (by omega)
    exact cond_ok B (all_ok B (one_ok B (k := 2 * q + 3) (by omega) (by omega) (fun _ => R) (fun σ i w => ⟨σ, w.dd e, w⟩)))
end CD
