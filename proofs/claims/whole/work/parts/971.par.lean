/-! PURE: one -/
section ON
variable {b : Nat → Nat} {n cnt : Nat} {τ0 τ : SC} {σ0 σ : SM} {i o : Nat} {pr : List RU} {D : List RS}
theorem emit1 (B : BAS b n cnt τ0 σ0) (hc : PSc τ0 τ b n i pr D) (hm : PSm σ0 σ b n i o pr D) (hp8 : pr.length ≤ 8) (h1 : vclen pr + clen D < 200) (h2 : vlen pr + D.length < 150) {s : Nat} (hs : 3 ≤ s) : ∃ τ' σ', fc_ru_emit_R2 (nI (s - 3)) τ = some τ' ∧ fm_steps (nI s) (0 : Int32) (0 : Int32) σ = some σ' ∧ PSc τ0 τ' b n i pr (D ++ [(s, 0, 0)]) ∧ PSm σ0 σ' b n i o pr (D ++ [(s, 0, 0)]) := by
  obtain ⟨τ', t1, t2⟩ := PSc.em hc.1 hc.2.2.2.2.2.2.2 h1 (nI (s - 3))
  obtain ⟨σ', s1, s2⟩ := hm.sp hp8 h2 s 0 0
  refine ⟨τ', σ', t1, s1, ?_, s2⟩
  rw [t2]
  refine hc.cd (fun j hj => up_ne (by omega)) ?_ ?_
  · show if s < 3 then _ ∧ _ ∧ _ ∧ True else _ ∧ True
    rw [if_neg (by omega)]
    exact ⟨up_eq, trivial⟩
  · show nI (vclen pr + clen D + 1) = _
    rw [clen_app]
    show _ = nI (vclen pr + (clen D + ((if s < 3 then 3 else 1) + 0)))
    rw [if_neg (by omega), Nat.add_assoc]
theorem WS.b116 {Rc : SM → Option SM} (h : WS σ0 σ b n i) (x1 : Int32) : fm_oneHere_b116 Rc x1 σ = some σ := by
  unfold fm_oneHere_b116
  rw [h.st, qbs, ite_self]
theorem WS.one {Rc : SM → Option SM} (h : WS σ0 σ b n i) : fm_oneHere Rc σ = some σ := by
  have hw : ¬ σ 10 0 = 0 := by rw [h.2.1]; decide
  unfold fm_oneHere
  show fm_oneHere_l2 Rc (fun x1 σ => (fm_oneHere_b35 Rc x1 σ)) (999 + 1) (0 : Int32) σ = some σ
  unfold fm_oneHere_l2 fm_oneHere_b35 fm_oneHere_b105
  rw [if_pos hw, if_pos hw, if_pos hw, h.b116]
theorem WS.all {Rc : SM → Option SM} (h : WS σ0 σ b n i) : fm_allHere Rc σ = some σ := by
  have hw : ¬ σ 10 0 = 0 := by rw [h.2.1]; decide
  unfold fm_allHere
  rw [h.one, qbs]
  show fm_allHere_l4 Rc (999 + 1) σ = some σ
  unfold fm_allHere_l4
  rw [if_pos hw]
theorem WS.cond {Rc : SM → Option SM} (h : WS σ0 σ b n i) : fm_condHere Rc σ = some σ := by
  have hw : ¬ σ 10 0 = 0 := by rw [h.2.1]; decide
  unfold fm_condHere
  rw [h.all, qbs]
  show fm_condHere_l4 Rc (999 + 1) σ = some σ
  unfold fm_condHere_l4
  rw [if_pos hw]
theorem WS.wo (h : WS σ0 σ b n i) (f : Nat → Int32) : WS σ0 (sf σ 11 f) b n i := ⟨FMp_sf h.1 (by omega), h.2.1, TM_sf h.2.2 (by omega)⟩
theorem PSm.wo {o' : Nat} (h : PSm σ0 σ b n i o pr D) {f : Nat → Int32} (hf : f 0 = nI o') : PSm σ0 (sf σ 11 f) b n i o' pr D := ⟨FMp_sf h.1 (by omega), h.2.1, TM_sf h.2.2.1 (by omega), hf, h.2.2.2.2⟩
theorem not_l (B : BAS b n cnt τ0 σ0) {i0 : Nat} {RcC : Int32 → SC → Option (Int32 × SC)} {RcM : SM → Option SM} (K40 : Int32 → Int32 → SC → Option (Int32 × SC)) (K35 : Int32 → SM → Option SM) (x1 : Int32) : ∀ (m i j fu1 fu2 : Nat) (τ : SC) (σ : SM), n - fr b n i ≤ m → m < fu1 → m < fu2 → i ≤ cnt → fr b n i0 + 3 * j ≤ fr b n i → PSc τ0 τ b n i pr D → PSm σ0 σ b n i o pr D → ∃ τ' σ' i' j', fc_rd_readOne_l4 RcC K40 fu1 x1 (bI (!evn j)) (nI j) τ = K40 x1 (bI (!evn j')) τ' ∧ fm_oneHere_l2 RcM K35 fu2 (nI j) σ = K35 (nI j') σ' ∧ i' ≤ cnt ∧ i ≤ i' ∧ fr b n i0 + 3 * j' ≤ fr b n i' ∧ PSc τ0 τ' b n i' pr D ∧ PSm σ0 σ' b n i' o pr D ∧ fr b n i ≤ fr b n i' := by
  intro m
  induction m with
  | zero =>
    intro i j fu1 fu2 τ σ h1 h2 h3 hi hj hc hm
    obtain ⟨q1, rfl⟩ : ∃ q, fu1 = q + 1 := ⟨fu1 - 1, by omega⟩
    obtain ⟨q2, rfl⟩ : ∃ q, fu2 = q + 1 := ⟨fu2 - 1, by omega⟩
    have hcd := tk_cd (b := b) (n := n) i B.by
    have fn := fr_n (b := b) (n := n) (i + 1)
    have c12 : ¬ (tk b n i).2.1 = 12 := fun z => by
      have := fr_3 (Or.inr z)
      omega
    unfold fc_rd_readOne_l4 fm_oneHere_l2
    rw [hc.2.2.1, show (12 : Int32) = nI 12 from rfl, if_pos (pN (pb_eq (by omega) (by omega)) c12), ite_self, if_neg (show ¬ ¬ σ 10 0 = 0 from fun z => z hm.2.1), pr_not (B.tp hm.1) B.1 hm.2.2.1 (tk_tf i), qbs, if_neg c12, if_pos (show (0 : Int32) = 0 from rfl)]
    exact ⟨τ, σ, i, j, rfl, rfl, hi, Nat.le_refl _, hj, hc, hm, Nat.le_refl _⟩
  | succ m ih =>
    intro i j fu1 fu2 τ σ h1 h2 h3 hi hj hc hm
    obtain ⟨q1, rfl⟩ : ∃ q, fu1 = q + 1 := ⟨fu1 - 1, by omega⟩
    obtain ⟨q2, rfl⟩ : ∃ q, fu2 = q + 1 := ⟨fu2 - 1, by omega⟩
    have hcd := tk_cd (b := b) (n := n) i B.by
    have fn := fr_n (b := b) (n := n) (i + 1)
    have hn := B.1
    have IH := fun τ σ => ih (i + 1) (j + 1) q1 q2 τ σ
    rw [fc_rd_readOne_l4, fm_oneHere_l2]
    generalize fc_rd_readOne_l4 RcC K40 q1 = KC at IH ⊢
    generalize fm_oneHere_l2 RcM K35 q2 = KM at IH ⊢
    rw [hc.2.2.1, show (12 : Int32) = nI 12 from rfl, if_neg (show ¬ ¬ σ 10 0 = 0 from fun z => z hm.2.1), pr_not (B.tp hm.1) B.1 hm.2.2.1 (tk_tf i), qbs]
    by_cases c12 : (tk b n i).2.1 = 12
    · have f3 := fr_3 (Or.inr c12)
      obtain ⟨τ1, a1, a2⟩ := hc.ad B (B.lt hi (by omega))
      obtain ⟨σ1, m1, m2⟩ := hm.nt B
      unfold fc_rd_readOne_b29
      rw [if_neg (show ¬ (200 : Int32) ≤ nI j by rw [show (200 : Int32) = nI 200 from rfl, pb_le (by omega) (by omega)]; omega), if_neg (pNN (pb_eq (by omega) (by omega)) c12), if_pos c12, if_neg (show ¬ (1 : Int32) = 0 by decide), a1, qbs, qbs, m1, qbs, nI_a1]
      obtain ⟨τ', σ', i', j', r1, r2, r3, r4, r5, r6, r7, r8⟩ := IH τ1 σ1 (by omega) (by omega) (by omega) (by have := B.lt hi (show ¬ (tk b n i).2.1 = 20 by omega); omega) (by omega) a2 m2
      refine ⟨τ', σ', i', j', ?_, r2, r3, by omega, r5, r6, r7, by omega⟩
      rw [← r1, evn_s]
      cases evn j
      · rw [if_pos (show ¬ bI (!false) = 0 by decide)]
        rfl
      · rw [if_neg (show ¬ ¬ bI (!true) = 0 from fun z => z rfl)]
        rfl
    · rw [if_pos (pN (pb_eq (by omega) (by omega)) c12), ite_self, if_neg c12, if_pos (show (0 : Int32) = 0 from rfl)]
      exact ⟨τ, σ, i, j, rfl, rfl, hi, Nat.le_refl _, hj, hc, hm, Nat.le_refl _⟩
theorem one_fin (B : BAS b n cnt τ0 σ0) {RcC : Int32 → SC → Option (Int32 × SC)} {RcM : SM → Option SM} {i0 i1 j k : Nat} {E : List RS} (hS : SZ b n i0 pr D) (hi1 : i1 ≤ cnt) (hlt : i0 < i1) (hj : fr b n i0 + 3 * j + clen E ≤ fr b n i1) (hj2 : fr b n i0 + 3 * j + 2 * E.length ≤ fr b n i1) (hc : PSc τ0 τ b n i1 pr (D ++ E)) (hm : PSm σ0 σ b n i1 o pr (D ++ E)) (hE : EX k E) : OUT b n cnt τ0 σ0 i0 o pr D k (fc_rd_readOne_b62 RcC (bI (!evn j)) (1 : Int32) τ) (fm_oneHere_b116 RcM (nI j) σ) := by
  have fn := fr_n (b := b) (n := n) i1
  have hn := B.1
  obtain ⟨S1, S2, S3⟩ := hS
  unfold fc_rd_readOne_b62 fm_oneHere_b116
  rw [if_neg (show ¬ (1 : Int32) = 0 by decide), show hz (1 : Int32) = true from rfl, pb_oc, show (2 : Int32) = nI 2 from rfl, pb_rem (by omega) (by decide) (by decide), show (1 : Int32) = nI 1 from rfl]
  unfold evn
  by_cases c : j % 2 = 0
  · rw [decide_eq_true c, if_pos (show bI (!true) = 0 from rfl), if_pos (show ¬ nI (j % 2) = nI 1 by rw [c]; decide)]
    exact Or.inl ⟨τ, σ, i1, E, rfl, rfl, hi1, hlt, hc, hm, hE, by omega, by omega⟩
  · rw [decide_eq_false c, if_neg (show ¬ bI (!false) = 0 by decide), if_neg (show ¬ ¬ nI (j % 2) = nI 1 by rw [show j % 2 = 1 by omega]; exact fun z => z rfl)]
    have e1 : clen (D ++ E) = clen D + clen E := clen_app D E
    have e2 : (D ++ E).length = D.length + E.length := List.length_append
    obtain ⟨τ2, σ2, t1, t2, t3, t4⟩ := emit1 B hc hm S1 (by omega) (by omega) (s := 3) (by decide)
    rw [show (0 : Int32) = nI (3 - 3) from rfl, t1, qbs]
    rw [show fm_steps (3 : Int32) (nI (3 - 3)) (nI (3 - 3)) σ = some σ2 from t2, qbs]
    rw [List.append_assoc] at t3 t4
    refine Or.inl ⟨τ2, σ2, i1, E ++ [(3, 0, 0)], rfl, rfl, hi1, hlt, t3, t4, EX_not hE, ?_, ?_⟩
    · rw [clen_app]
      show clen E + (1 + 0) + _ ≤ _
      omega
    · rw [List.length_append]
      show 2 * (E.length + 1) + _ ≤ _
      omega
theorem out_fail {RcC : Int32 → SC → Option (Int32 × SC)} {x2 : Int32} {M : Option SM} {k : Nat} (hM : M = some σ) (hp : PX τ0 τ σ0 σ b n cnt) : OUT b n cnt τ0 σ0 i o pr D k (fc_rd_readOne_b62 RcC x2 (0 : Int32) τ) M := by
  unfold fc_rd_readOne_b62
  rw [if_pos (show (0 : Int32) = 0 from rfl), show hz (0 : Int32) = true from rfl, pb_oc]
  exact Or.inr ⟨τ, σ, rfl, hM, hp⟩
def CHs (b : Nat → Nat) (n cnt : Nat) (τ0 : SC) (σ0 : SM) (o k : Nat) (A : Int32 → SC → Option (Int32 × SC)) (M : SM → Option SM) : Prop := ∀ (τ : SC) (σ : SM) (i : Nat) (pr : List RU) (D : List RS), i ≤ cnt → PSc τ0 τ b n i pr D → PSm σ0 σ b n i o pr D → SZ b n i pr D → OUT b n cnt τ0 σ0 i o pr D k (A (nI o) τ) (M σ)
theorem SZ.up {i' : Nat} (h : SZ b n i pr D) (hf : fr b n i ≤ fr b n i') : SZ b n i' pr D := ⟨h.1, Nat.le_trans h.2.1 hf, Nat.le_trans h.2.2 hf⟩
theorem one_ok (B : BAS b n cnt τ0 σ0) {k : Nat} (hk : 1 ≤ k) {RcC : Int32 → SC → Option (Int32 × SC)} {RcM : SM → Option SM} (ho : o ≤ 3) (hR : o < 3 → CHs b n cnt τ0 σ0 (o + 1) k RcC RcM) (hW : ∀ σ i, WS σ0 σ b n i → ∃ σ', RcM σ = some σ' ∧ WS σ0 σ' b n i) : CHs b n cnt τ0 σ0 o k (fc_rd_readOne RcC) (fm_oneHere RcM) := by
  intro τ σ i pr D hi hc hm hS
  have fn := fr_n (b := b) (n := n)
  have hn := B.1
  unfold fc_rd_readOne fm_oneHere
  obtain ⟨τ1, σ1, i1, j, r1, r2, r3, r4, r5, r6, r7, r8⟩ := not_l (RcC := RcC) (RcM := RcM) (i0 := i) B (fun x1 x2 τ => (fc_rd_readOne_b40 RcC x1 x2 τ)) (fun x1 σ => (fm_oneHere_b35 RcM x1 σ)) (nI o) (n - fr b n i) i 0 hFU hFU τ σ (Nat.le_refl _) (by unfold hFU; omega) (by unfold hFU; omega) hi (by omega) hc hm
  rw [show bI (!evn 0) = (0 : Int32) from rfl, show nI 0 = (0 : Int32) from rfl] at r1
  rw [show nI 0 = (0 : Int32) from rfl] at r2
  rw [r1, r2]
  have hcd := tk_cd (b := b) (n := n) i1 B.by
  have fn1 := fn i1
  have q40 : fm_isByte σ1 (40 : Int32) = _ := pr_byte (B.tp r7.1) B.1 r7.2.2.1 (tk_tf i1) (c := 40) (by decide)
  show OUT b n cnt τ0 σ0 i o pr D k (fc_rd_readOne_b40 RcC (nI o) (bI (!evn j)) τ1) (fm_oneHere_b35 RcM (nI j) σ1)
  unfold fc_rd_readOne_b40 fm_oneHere_b35
  rw [r6.2.2.1, show (140 : Int32) = nI 140 from rfl, if_neg (show ¬ ¬ σ1 10 0 = 0 from fun z => z r7.2.1), q40, qbs]
  by_cases c : (tk b n i1).2.1 = 140
  · have c20 : ¬ (tk b n i1).2.1 = 20 := by omega
    have f1 := fr_s c20
    rw [if_neg (pNN (pb_eq (by omega) (by omega)) c), if_pos (show (tk b n i1).2.1 = 100 + 40 from c), if_neg (show ¬ (1 : Int32) = 0 by decide), r7.2.2.2.1]
    unfold fc_rd_readInner
    -- what the reference does once all is wrong
    have WR : ∀ (σ' : SM) (i' : Nat) (q : Int32), WS σ0 σ' b n i' → ∃ σ'', (Option.bind (fm_needs q σ') fun σ16 => (hl (sf σ16 11 (fun _ => ((σ16 11 0) - (1 : Int32)))) fun σ17 => (fm_oneHere_b116 RcM (nI j) σ17))) = some σ'' ∧ WS σ0 σ'' b n i' := by
      intro σ' i' q w
      obtain ⟨σa, e1, w1⟩ := w.ne q
      rw [e1, qbs, qhl, (w1.wo _).b116]
      exact ⟨_, rfl, w1.wo _⟩
    by_cases c3 : o < 3
    · rw [if_pos (show nI o < 3 by rw [show (3 : Int32) = nI 3 from rfl, pb_lt (by omega) (by omega)]; exact c3), if_neg (show ¬ (3 : Int32) ≤ nI o by rw [show (3 : Int32) = nI 3 from rfl, pb_le (by omega) (by omega)]; omega)]
      obtain ⟨τ2, a1, a2⟩ := r6.ad B (B.lt r3 c20)
      obtain ⟨σ2, m1, m2⟩ := r7.ne B
      unfold fm_oneHere_b65
      rw [a1, qbs, nI_a1, m1, qbs, qhl, m2.2.2.2.1, nI_a1]
      have i2le : i1 + 1 ≤ cnt := B.lt r3 c20
      have S2 : SZ b n (i1 + 1) pr D := hS.up (by omega)
      rcases hR c3 τ2 (sf σ2 11 fun _ => nI (o + 1)) (i1 + 1) pr D i2le a2 (m2.wo rfl) S2 with ⟨τ3, σ3, i3, E, e1, e2, e3, e4, e5, e6, e7, e8, e9⟩ | ⟨τ3, σ3, e1, e2, i3, e3, e4, e5, w⟩
      · have hcd3 := tk_cd (b := b) (n := n) i3 B.by
        have q41 : fm_isByte σ3 (41 : Int32) = _ := pr_byte (B.tp e6.1) B.1 e6.2.2.1 (tk_tf i3) (c := 41) (by decide)
        rw [e1, e2, qbs, qbs, qhl, qhl, if_neg (show ¬ (1 : Int32) = 0 by decide), q41, qbs, e5.2.2.1, show (141 : Int32) = nI 141 from rfl]
        by_cases c4 : (tk b n i3).2.1 = 141
        · have c420 : ¬ (tk b n i3).2.1 = 20 := by omega
          have f3 := fr_s c420
          obtain ⟨τ4, b1, b2⟩ := e5.ad B (B.lt e3 c420)
          obtain ⟨σ4, d1, d2⟩ := e6.ne B
          rw [if_pos (pQ (pb_eq (by omega) (by omega)) c4), b1, qbs, if_pos (show (tk b n i3).2.1 = 100 + 41 from c4), d1, qbs, qhl, qhl, qbs, qhl, d2.2.2.2.1]
          exact one_fin (i1 := i3 + 1) B hS (show i3 + 1 ≤ cnt from B.lt e3 c420) (by omega) (by omega) (by omega) b2 (d2.wo (nI_s o)) e7
        · rw [if_neg (pN (pb_eq (by omega) (by omega)) c4), if_neg (show ¬ (tk b n i3).2.1 = 100 + 41 from c4), qbs, qhl, qhl]
          obtain ⟨σ4, d1, w⟩ := e6.no
          rw [d1, qbs, qhl, (w.wo _).b116]
          exact out_fail rfl (PX_of e3 e5 (w.wo _))
      · rw [e1, e2, qbs, qbs, qhl, qhl, if_pos (show (0 : Int32) = 0 from rfl), qbs, qhl, qhl]
        have q41 : fm_isByte σ3 (41 : Int32) = _ := pr_byte (B.tp w.1) B.1 w.2.2 (tk_tf i3) (c := 41) (by decide)
        rw [q41, qbs]
        obtain ⟨σ4, d1, w2⟩ := WR σ3 i3 _ w
        rw [d1]
        exact out_fail rfl ⟨i3, e3, e4, e5, w2⟩
    · rw [if_neg (show ¬ nI o < 3 by rw [show (3 : Int32) = nI 3 from rfl, pb_lt (by omega) (by omega)]; omega), if_pos (show (3 : Int32) ≤ nI o by rw [show (3 : Int32) = nI 3 from rfl, pb_le (by omega) (by omega)]; omega), qbs, qhl, qhl]
      obtain ⟨σ2, m1, w1⟩ := r7.no
      obtain ⟨σ3, m2, w2⟩ := hW (sf σ2 11 fun _ => σ2 11 0 + 1) i1 (w1.wo _)
      have q41 : fm_isByte σ3 (41 : Int32) = _ := pr_byte (B.tp w2.1) B.1 w2.2.2 (tk_tf i1) (c := 41) (by decide)
      unfold fm_oneHere_b65
      rw [m1, qbs, qhl, m2, qbs, q41, qbs]
      obtain ⟨σ4, d1, w3⟩ := WR σ3 i1 _ w2
      rw [d1]
      exact out_fail rfl (PX_of r3 r6 w3)
  · rw [if_pos (pN (pb_eq (by omega) (by omega)) c), if_neg (show ¬ (tk b n i1).2.1 = 100 + 40 from c), if_pos (show (0 : Int32) = 0 from rfl)]
    unfold fm_oneHere_b105
    rw [if_neg (show ¬ ¬ σ1 10 0 = 0 from fun z => z r7.2.1)]
    rcases cmp_ok B r3 r6 r7 (hS.up (by omega)) with ⟨τ3, σ3, i3, E, e1, e2, e3, e4, e5, e6, e7, e8, e9⟩ | ⟨τ3, σ3, e1, e2, i3, e3, e4, e5, w⟩
    · rw [e1, e2, qbs, qbs, qhl, qhl]
      exact one_fin B hS e3 (by omega) (by omega) (by omega) e5 e6 (e7.mono hk)
    · rw [e1, e2, qbs, qbs, qhl, qhl, w.b116]
      exact out_fail rfl ⟨i3, e3, e4, e5, w⟩
end ON
