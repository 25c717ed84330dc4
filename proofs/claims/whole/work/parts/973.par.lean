/-! PURE: a rule -/
section RL
variable {b : Nat → Nat} {n cnt : Nat} {τ0 τ : SC} {σ0 σ : SM} {i o : Nat} {pr : List RU} {D : List RS}
theorem PSm.cl (h : PSm σ0 σ b n i o pr D) (hp : pr.length < 8) {kd d : Nat} (σ' : SM) (e : σ' = sf σ 0 (upd (upd (upd (upd (upd (σ 0) (74 + 4 * pr.length) (nI kd)) (75 + 4 * pr.length) (nI d)) (76 + 4 * pr.length) (nI (vlen pr))) (77 + 4 * pr.length) (nI (vlen pr + D.length))) 5 (nI (pr.length + 1)))) : PSm σ0 σ' b n i o (pr ++ [(kd, d, D)]) [] := by
  obtain ⟨h1, h2, h3, h4, h5, h6, h7, h8⟩ := h
  rw [e]
  have U : ∀ j, j ≠ 5 → (j < 74 + 4 * pr.length ∨ 78 + 4 * pr.length ≤ j) → upd (upd (upd (upd (upd (σ 0) (74 + 4 * pr.length) (nI kd)) (75 + 4 * pr.length) (nI d)) (76 + 4 * pr.length) (nI (vlen pr))) (77 + 4 * pr.length) (nI (vlen pr + D.length))) 5 (nI (pr.length + 1)) j = σ 0 j := fun j a1 a2 => by
    rw [up_ne a1, up_ne (by omega), up_ne (by omega), up_ne (by omega), up_ne (by omega)]
  have hl : vlen (pr ++ [(kd, d, D)]) = vlen pr + D.length := vlen_app pr (kd, d, D)
  refine ⟨⟨fun j a1 a2 => ?_, fun j a1 a2 a3 a4 => ?_⟩, ?_, TM_sf h3 (by omega), ?_, ?_, trivial, ?_, ?_⟩
  · rw [sg_ne a1]; exact h1.1 j a1 a2
  · rw [sg_at, U j a1 (by omega)]; exact h1.2 j a1 a2 a3 a4
  · rw [sg_ne (by decide)]; exact h2
  · rw [sg_ne (by decide)]; exact h4
  · rw [sg_at]
    refine ruM_ap pr 0 0 (ruM_lo pr 0 0 (fun j a1 a2 => U j (by omega) (by omega)) (fun j a1 a2 => U j (by omega) (by omega)) h5) ?_ ?_ ?_ ?_ ?_
    · rw [Nat.zero_add, up_ne (by omega), up_ne (by omega), up_ne (by omega), up_ne (by omega), up_eq]
    · rw [Nat.zero_add, up_ne (by omega), up_ne (by omega), up_ne (by omega), up_eq]
    · rw [Nat.zero_add, Nat.zero_add, up_ne (by omega), up_ne (by omega), up_eq]
    · rw [Nat.zero_add, Nat.zero_add, up_ne (by omega), up_eq]
    · rw [Nat.zero_add]
      exact stM_lo D _ (fun j a1 a2 => U j (by omega) (by omega)) h6
  · rw [sg_at, up_eq, List.length_append]
    rfl
  · rw [sg_at, U 7 (by omega) (by omega), hl]
    exact h8
theorem PSc.cl (h : PSc τ0 τ b n i pr D) (hp : pr.length < 8) (kd d : Nat) : ∃ τ', fc_ru_close_R2 (nI kd) (nI d) τ = some τ' ∧ PSc τ0 τ' b n i (pr ++ [(kd, d, D)]) [] := by
  obtain ⟨h1, h2, h3, h4, h5, h6, h7, h8⟩ := h
  have hl : vclen (pr ++ [(kd, d, D)]) = vclen pr + clen D := vclen_app pr (kd, d, D)
  unfold fc_ru_close_R2
  rw [h7, if_neg (show ¬ (8 : Int32) ≤ nI pr.length by rw [show (8 : Int32) = nI 8 from rfl, pb_le (by omega) (by omega)]; omega), pb_in (by omega) (by omega), pb_oc, pb_cl (by omega), qhl, show (sc τ 321 (upd (τ.1 321) pr.length (nI kd))).1 320 0 = nI pr.length from h7, pb_in (by omega) (by omega), pb_oc, pb_cl (by omega), qhl]
  rw [show (sc (sc τ 321 (upd (τ.1 321) pr.length (nI kd))) 322 (upd ((sc τ 321 (upd (τ.1 321) pr.length (nI kd))).1 322) pr.length (nI d))).1 320 0 = nI pr.length from h7, pb_in (by omega) (by omega), pb_oc, pb_cl (by omega), qhl, qhl]
  refine ⟨_, rfl, FCp_sc (FCp_sc (FCp_sc (FCp_sc h1 (by omega)) (by omega)) (by omega)) (by omega), h2, h3, h4, ?_, trivial, ?_, ?_⟩
  · refine ruC_ap pr 0 0 (ruC_lo (k1 := τ.1 321) (k2 := τ.1 322) (k3 := τ.1 323) (k4 := τ.1 324) pr 0 0 (fun j _ hj => ⟨up_ne (by omega), up_ne (by omega), up_ne (by omega)⟩) (fun _ _ _ => rfl) h5) ?_ ?_ ?_ ?_
    · rw [Nat.zero_add]; exact up_eq
    · rw [Nat.zero_add]; exact up_eq
    · rw [Nat.zero_add, Nat.zero_add]
      exact up_eq.trans h8
    · rw [Nat.zero_add]; exact h6
  · show τ.1 320 0 + 1 = _
    rw [h7, nI_a1, List.length_append]
    rfl
  · show τ.1 325 0 = _
    rw [hl]
    exact h8
theorem WS.b97 (B : BAS b n cnt τ0 σ0) (h : WS σ0 σ b n i) (x1 x2 x3 x4 y0 : Int32) : ∃ σ', fm_ruleHere_b97 x1 x2 x3 x4 y0 σ = some σ' ∧ WS σ0 σ' b n i := by
  obtain ⟨σ1, e1, w1⟩ := h.ne y0
  have q : fm_isByte σ1 (59 : Int32) = _ := pr_byte (B.tp w1.1) B.1 w1.2.2 (tk_tf i) (c := 59) (by decide)
  unfold fm_ruleHere_b97
  rw [e1, qbs, q, qbs]
  obtain ⟨σ2, e2, w2⟩ := w1.ne (if (tk b n i).2.1 = 100 + 59 then 1 else 0)
  rw [e2, qbs, if_pos (show ¬ σ2 10 0 = 0 by rw [w2.2.1]; decide)]
  exact ⟨σ2, rfl, w2⟩
theorem WS.b80 (B : BAS b n cnt τ0 σ0) (h : WS σ0 σ b n i) (x1 x2 x3 : Int32) : ∃ σ', fm_ruleHere_b80 x1 x2 x3 σ = some σ' ∧ WS σ0 σ' b n i := by
  unfold fm_ruleHere_b80
  rw [pr_do (B.tp h.1) B.1 h.2.2 (tk_tf i), qbs]
  generalize (if 6 ≤ (tk b n i).2.1 ∧ (tk b n i).2.1 ≤ 8 then nI ((tk b n i).2.1 - 6) else (-1 : Int32)) = f
  by_cases c : f < 0
  · rw [if_pos c]
    exact h.b97 B _ _ _ _ _
  · rw [if_neg c]
    exact h.b97 B _ _ _ _ _
def okE (E : List RS) : Prop := vokS 0 E = true
/-- a rule's outcome -/
def ROUT (b : Nat → Nat) (n cnt : Nat) (τ0 : SC) (σ0 : SM) (i : Nat) (pr : List RU) (A : Option (Int32 × SC)) (M : Option SM) : Prop :=
  (∃ τ' σ' i' o' q, A = some (1, τ') ∧ M = some σ' ∧ i' ≤ cnt ∧ fr b n i < fr b n i' ∧ PSc τ0 τ' b n i' (pr ++ [q]) [] ∧ PSm σ0 σ' b n i' o' (pr ++ [q]) [] ∧ vokR q ∧ clen q.2.2 + fr b n i ≤ fr b n i' ∧ 2 * q.2.2.length + fr b n i ≤ fr b n i') ∨ (∃ τ' σ', A = some (0, τ') ∧ M = some σ' ∧ PX τ0 τ' σ0 σ' b n cnt)
/-- from the doing on -/
theorem rule2 (B : BAS b n cnt τ0 σ0) {i0 kd : Nat} (hkd : kd ≤ 5) (hp : pr.length < 8) (hi : i ≤ cnt) (hlt : fr b n i0 < fr b n i) (hc : PSc τ0 τ b n i pr D) (hm : PSm σ0 σ b n i o pr D) (hE : vokS 0 D = true) (h1 : clen D + fr b n i0 ≤ fr b n i) (h2 : 2 * D.length + fr b n i0 ≤ fr b n i) : ROUT b n cnt τ0 σ0 i0 pr (fc_rd_readRule_b49 (nI kd) τ) (fm_ruleHere_b80 (nI (74 + 4 * pr.length)) (nI kd) (nI (vlen pr)) σ) := by
  have hcd := tk_cd (b := b) (n := n) i B.by
  unfold fc_rd_readRule_b49 fm_ruleHere_b80
  rw [pr_do (B.tp hm.1) B.1 hm.2.2.1 (tk_tf i), qbs, hc.2.2.1, show (6 : Int32) = nI 6 from rfl, show (8 : Int32) = nI 8 from rfl]
  by_cases c : 6 ≤ (tk b n i).2.1 ∧ (tk b n i).2.1 ≤ 8
  · have c20 : ¬ (tk b n i).2.1 = 20 := by omega
    have f1 := fr_s c20
    obtain ⟨τ1, a1, a2⟩ := hc.ad B (B.lt hi c20)
    obtain ⟨σ1, m1, m2⟩ := hm.ne B
    have hcd1 := tk_cd (b := b) (n := n) (i + 1) B.by
    have q59 : fm_isByte σ1 (59 : Int32) = _ := pr_byte (B.tp m2.1) B.1 m2.2.2.1 (tk_tf (i + 1)) (c := 59) (by decide)
    unfold fm_ruleHere_b97
    rw [if_neg (pN (pb_lt (by omega) (by omega)) (show ¬ (tk b n i).2.1 < 6 by omega)), if_pos (pQ (pb_le (by omega) (by omega)) c.2), pb_sub c.1, qhl, a1, qbs, a2.2.2.1, if_pos c, if_neg (nI_pos (by omega)), m1, qbs, q59, qbs, show (159 : Int32) = nI 159 from rfl]
    by_cases c2 : (tk b n (i + 1)).2.1 = 159
    · have c220 : ¬ (tk b n (i + 1)).2.1 = 20 := by omega
      have f2 := fr_s c220
      obtain ⟨τ2, a3, a4⟩ := a2.ad B (B.lt (B.lt hi c20) c220)
      obtain ⟨σ2, m3, m4⟩ := m2.ne B
      obtain ⟨τ3, a5, a6⟩ := a4.cl hp kd ((tk b n i).2.1 - 6)
      rw [if_pos (pQ (pb_eq (by omega) (by omega)) c2), a3, qbs, a5, qbs, if_pos (show (tk b n (i + 1)).2.1 = 100 + 59 from c2), m3, qbs, if_neg (show ¬ ¬ σ2 10 0 = 0 from fun z => z m4.2.1)]
      simp only [qhl, pb_sfsf, sg_at]
      rw [nI_a1, show (2 : Int32) = nI 2 from rfl, show (3 : Int32) = nI 3 from rfl, pb_add, pb_add, pb_in (show 74 + 4 * pr.length < 2147483648 by omega) (by omega), pb_in (show 74 + 4 * pr.length + 1 < 2147483648 by omega) (by omega), pb_in (show 74 + 4 * pr.length + 2 < 2147483648 by omega) (by omega), pb_in (show 74 + 4 * pr.length + 3 < 2147483648 by omega) (by omega), pb_oc, pb_oc, pb_oc, pb_oc, pb_cl (show 74 + 4 * pr.length < 2147483648 by omega), pb_cl (show 74 + 4 * pr.length + 1 < 2147483648 by omega), pb_cl (show 74 + 4 * pr.length + 2 < 2147483648 by omega), pb_cl (show 74 + 4 * pr.length + 3 < 2147483648 by omega)]
      rw [show 74 + 4 * pr.length + 1 = 75 + 4 * pr.length by omega, show 74 + 4 * pr.length + 2 = 76 + 4 * pr.length by omega, show 74 + 4 * pr.length + 3 = 77 + 4 * pr.length by omega]
      rw [show upd (upd (upd (σ2 0) (74 + 4 * pr.length) (nI kd)) (75 + 4 * pr.length) (nI ((tk b n i).2.1 - 6))) (76 + 4 * pr.length) (nI (vlen pr)) 7 = nI (vlen pr + D.length) by rw [up_ne (by omega), up_ne (by omega), up_ne (by omega)]; exact m4.2.2.2.2.2.2.2]
      rw [show upd (upd (upd (upd (σ2 0) (74 + 4 * pr.length) (nI kd)) (75 + 4 * pr.length) (nI ((tk b n i).2.1 - 6))) (76 + 4 * pr.length) (nI (vlen pr))) (77 + 4 * pr.length) (nI (vlen pr + D.length)) 5 = nI pr.length by rw [up_ne (by omega), up_ne (by omega), up_ne (by omega), up_ne (by omega)]; exact m4.2.2.2.2.2.2.1, nI_a1]
      exact Or.inl ⟨τ3, _, i + 1 + 1, o, (kd, (tk b n i).2.1 - 6, D), rfl, rfl, B.lt (B.lt hi c20) c220, by omega, a6, m4.cl hp _ rfl, ⟨hkd, by show (tk b n i).2.1 - 6 ≤ 2; omega, hE⟩, by show clen D + _ ≤ _; omega, by show 2 * D.length + _ ≤ _; omega⟩
    · rw [if_neg (pN (pb_eq (by omega) (by omega)) c2), if_neg (show ¬ (tk b n (i + 1)).2.1 = 100 + 59 from c2)]
      obtain ⟨σ2, m3, w⟩ := m2.no
      rw [m3, qbs, if_pos (show ¬ σ2 10 0 = 0 by rw [w.2.1]; decide)]
      exact Or.inr ⟨τ1, σ2, rfl, rfl, PX_of (B.lt hi c20) a2 w⟩
  · rw [if_neg c, if_pos (show (-1 : Int32) < 0 by decide)]
    obtain ⟨σ1, m1, w⟩ := hm.no
    have q59 : fm_isByte σ1 (59 : Int32) = _ := pr_byte (B.tp w.1) B.1 w.2.2 (tk_tf i) (c := 59) (by decide)
    obtain ⟨σ2, m2, w2⟩ := w.ne (if (tk b n i).2.1 = 100 + 59 then 1 else 0)
    have M : fm_ruleHere_b97 (nI (74 + 4 * pr.length)) (nI kd) (nI (vlen pr)) (-1 : Int32) (0 : Int32) σ = some σ2 := by
      unfold fm_ruleHere_b97
      rw [m1, qbs, q59, qbs, m2, qbs, if_pos (show ¬ σ2 10 0 = 0 by rw [w2.2.1]; decide)]
    rw [M]
    refine Or.inr ⟨τ, σ2, ?_, rfl, PX_of hi hc w2⟩
    by_cases c1 : (tk b n i).2.1 < 6
    · rw [if_pos (pQ (pb_lt (by omega) (by omega)) c1)]
    · rw [if_neg (pN (pb_lt (by omega) (by omega)) c1), if_neg (pN (pb_le (by omega) (by omega)) (show ¬ (tk b n i).2.1 ≤ 8 by omega))]
theorem rule_ok (B : BAS b n cnt τ0 σ0) (hp : pr.length < 8) (hi : i ≤ cnt) (hc : PSc τ0 τ b n i pr []) (hm : PSm σ0 σ b n i o pr []) (hS : SZ b n i pr []) : ROUT b n cnt τ0 σ0 i pr (fc_rd_readRule τ) (fm_ruleHere σ) := by
  have hcd := tk_cd (b := b) (n := n) i B.by
  unfold fc_rd_readRule fm_ruleHere
  rw [pr_kind (B.tp hm.1) B.1 hm.2.2.1 (tk_tf i), hc.2.2.1, hm.2.2.2.2.2.2.1, show (5 : Int32) = nI 5 from rfl, show (8 : Int32) = nI 8 from rfl, show (74 : Int32) = nI 74 from rfl, show (4 : Int32) = nI 4 from rfl, pb_mul, pb_add, qhl, qhl, qbs, if_neg (show ¬ nI (tk b n i).2.1 < 0 from nI_pos (by omega))]
  by_cases c : (tk b n i).2.1 ≤ 5
  · have c20 : ¬ (tk b n i).2.1 = 20 := by omega
    have f1 := fr_s c20
    obtain ⟨τ1, a1, a2⟩ := hc.ad B (B.lt hi c20)
    obtain ⟨σ1, m1, m2⟩ := hm.ne B
    have hcd1 := tk_cd (b := b) (n := n) (i + 1) B.by
    have hi1 : i + 1 ≤ cnt := B.lt hi c20
    unfold fm_ruleHere_b38
    rw [if_pos (pQ (pb_le (by omega) (by omega)) c), a1, qbs, if_pos c, if_neg (show ¬ nI (tk b n i).2.1 < 0 from nI_pos (by omega)), if_neg (pN (pb_le (by omega) (by omega)) (show ¬ 8 ≤ pr.length by omega)), m1, qbs, qhl, if_neg (show ¬ ¬ σ1 10 0 = 0 from fun z => z m2.2.1), pr_if (B.tp m2.1) B.1 m2.2.2.1 (tk_tf (i + 1)), qbs, a2.2.2.1, m2.2.2.2.2.2.2.2, show (9 : Int32) = nI 9 from rfl]
    show ROUT b n cnt τ0 σ0 i pr _ (if (if (tk b n (i + 1)).2.1 = 9 then (1 : Int32) else 0) = 0 then fm_ruleHere_b80 (nI (74 + 4 * pr.length)) (nI (tk b n i).2.1) (nI (vlen pr)) σ1 else (Option.bind (fm_nextToken σ1) fun σ19 => (hl (sf σ19 11 (fun _ => (0 : Int32))) fun σ20 => (Option.bind (fm_condHereD 8 σ20) fun σ22 => (fm_ruleHere_b80 (nI (74 + 4 * pr.length)) (nI (tk b n i).2.1) (nI (vlen pr)) σ22)))))
    by_cases c2 : (tk b n (i + 1)).2.1 = 9
    · have c220 : ¬ (tk b n (i + 1)).2.1 = 20 := by omega
      have f2 := fr_s c220
      obtain ⟨τ2, a3, a4⟩ := a2.ad B (B.lt hi1 c220)
      obtain ⟨σ2, m3, m4⟩ := m2.nt B
      have hi2 : i + 1 + 1 ≤ cnt := B.lt hi1 c220
      rw [if_neg (pNN (pb_eq (by omega) (by omega)) c2), a3, qbs, if_pos c2, if_neg (show ¬ (1 : Int32) = 0 by decide), m3, qbs, qhl]
      have R := cond_D B 3 0 8 (by decide) (by decide) τ2 (sf σ2 11 fun _ => (0 : Int32)) (i + 1 + 1) pr [] hi2 a4 (m4.wo rfl) (hS.up (by omega))
      rw [show nI 0 = (0 : Int32) from rfl] at R
      rcases R with ⟨τ3, σ3, i3, E, e1, e2, e3, e4, e5, e6, e7, e8, e9⟩ | ⟨τ3, σ3, e1, e2, i3, e3, e4, e5, w⟩
      · rw [e1, e2, qbs, qbs, qhl, qhl, if_pos (show ¬ (1 : Int32) = 0 by decide)]
        rw [List.nil_append] at e5 e6
        have hok : vokS 0 E = true := by
          have := e7 0 [] (by decide)
          rw [List.append_nil] at this
          rw [this]
          rfl
        exact rule2 B c hp e3 (by omega) e5 e6 hok (by omega) (by omega)
      · rw [e1, e2, qbs, qbs, qhl, qhl, if_neg (show ¬ ¬ (0 : Int32) = 0 from fun z => z rfl)]
        obtain ⟨σ4, d1, w2⟩ := w.b80 B (nI (74 + 4 * pr.length)) (nI (tk b n i).2.1) (nI (vlen pr))
        rw [d1]
        exact Or.inr ⟨τ3, σ4, rfl, rfl, i3, e3, e4, e5, w2⟩
    · rw [if_pos (pN (pb_eq (by omega) (by omega)) c2), if_neg c2, if_pos (show (0 : Int32) = 0 from rfl)]
      exact rule2 B c hp hi1 (by omega) a2 m2 rfl (by show 0 + _ ≤ _; omega) (by show 2 * 0 + _ ≤ _; omega)
  · rw [if_neg (pN (pb_le (by omega) (by omega)) c), if_neg c, if_pos (show (-1 : Int32) < 0 by decide)]
    obtain ⟨σ1, m1, w⟩ := hm.no
    unfold fm_ruleHere_b37 fm_ruleHere_b38
    rw [m1, qbs, qhl, if_pos (show ¬ σ1 10 0 = 0 by rw [w.2.1]; decide)]
    obtain ⟨σ2, d1, w2⟩ := w.b80 B (nI (74 + 4 * pr.length)) (-1 : Int32) (σ1 0 7)
    rw [d1]
    exact Or.inr ⟨τ, σ2, rfl, rfl, PX_of hi hc w2⟩
/-- the ninth -/
theorem rule_9 (B : BAS b n cnt τ0 σ0) (hp : pr.length = 8) (hm : PSm σ0 σ b n i o pr []) : ∃ σ', fm_ruleHere σ = some σ' ∧ WS σ0 σ' b n i := by
  unfold fm_ruleHere
  rw [pr_kind (B.tp hm.1) B.1 hm.2.2.1 (tk_tf i), qhl, qbs, hm.2.2.2.2.2.2.1, hp, if_pos (show (8 : Int32) ≤ nI 8 by decide), ite_self]
  obtain ⟨σ1, m1, w⟩ := hm.no
  unfold fm_ruleHere_b37 fm_ruleHere_b38
  rw [m1, qbs, qhl, if_pos (show ¬ σ1 10 0 = 0 by rw [w.2.1]; decide)]
  exact w.b80 B _ _ _
theorem tk_0 {i : Nat} : (tk b n i).1 = 0 ↔ (tk b n i).2.1 = 20 := by
  have hd := wdc_le (b := b) (q := (tk b n i).2.2.1) (t := (tk b n i).2.2.2.1)
  rcases (tk_tf (b := b) (n := n) i).2.2 with ⟨h1, h2⟩ | ⟨h1, h2⟩ | ⟨h1, h2⟩ | ⟨h1, h3, h2⟩
  · omega
  · omega
  · split at h2 <;> omega
  · omega
theorem tk_k {i : Nat} : (tk b n i).1 < 4 := by
  rcases (tk_tf (b := b) (n := n) i).2.2 with ⟨h1, h2⟩ | ⟨h1, h2⟩ | ⟨h1, h2⟩ | ⟨h1, h3, h2⟩ <;> omega
theorem rules_l (B : BAS b n cnt τ0 σ0) (K77 : SM → Option (Int32 × SM)) : ∀ (m i o fu1 fu2 : Nat) (pr : List RU) (τ : SC) (σ : SM), n - fr b n i ≤ m → m + 1 < fu1 → m + 2 < fu2 → i ≤ cnt → PSc τ0 τ b n i pr [] → PSm σ0 σ b n i o pr [] → SZ b n i pr [] → (∀ q ∈ pr, vokR q) → (∃ τ' σ' pr' i' o', fc_rd_readAll_l18 (fun τ => (fc_rd_readAll_b48 τ)) fu1 (nI pr.length) τ = some (1, τ') ∧ fm_rules_l56 K77 fu2 σ = K77 σ' ∧ PSc τ0 τ' b n i' pr' [] ∧ PSm σ0 σ' b n i' o' pr' [] ∧ SZ b n i' pr' [] ∧ (∀ q ∈ pr', vokR q)) ∨ (∃ τ' σ', fc_rd_readAll_l18 (fun τ => (fc_rd_readAll_b48 τ)) fu1 (nI pr.length) τ = some (0, τ') ∧ fm_rules_l56 K77 fu2 σ = K77 σ' ∧ PX τ0 τ' σ0 σ' b n cnt) := by
  have STOP : ∀ (fu : Nat) (σ : SM), 0 < fu → ¬ σ 10 0 = 0 → fm_rules_l56 K77 fu σ = K77 σ := by
    intro fu σ h1 h2
    obtain ⟨q, rfl⟩ : ∃ q, fu = q + 1 := ⟨fu - 1, by omega⟩
    unfold fm_rules_l56
    rw [if_pos h2]
  intro m
  induction m with
  | zero =>
    intro i o fu1 fu2 pr τ σ h1 h2 h3 hi hc hm hS hq
    obtain ⟨q1, rfl⟩ : ∃ q, fu1 = q + 1 := ⟨fu1 - 1, by omega⟩
    obtain ⟨q2, rfl⟩ : ∃ q, fu2 = q + 1 := ⟨fu2 - 1, by omega⟩
    have hcd := tk_cd (b := b) (n := n) i B.by
    have fn := fr_n (b := b) (n := n) (i + 1)
    have c20 : (tk b n i).2.1 = 20 := by
      rcases Nat.decEq (tk b n i).2.1 20 with h | h
      · have := fr_s h
        omega
      · exact h
    left
    refine ⟨τ, σ, pr, i, o, ?_, ?_, hc, hm, hS, hq⟩
    · unfold fc_rd_readAll_l18 fc_rd_readAll_b48
      rw [hc.2.2.1, c20, if_pos (show nI 20 = 20 from rfl), ite_self, if_neg (show ¬ ¬ nI 20 = 20 from fun z => z rfl)]
    · unfold fm_rules_l56
      rw [if_neg (show ¬ ¬ σ 10 0 = 0 from fun z => z hm.2.1), hm.2.2.1.1, tk_0.mpr c20, if_pos (show nI 0 = 0 from rfl)]
  | succ m ih =>
    intro i o fu1 fu2 pr τ σ h1 h2 h3 hi hc hm hS hq
    obtain ⟨q1, rfl⟩ : ∃ q, fu1 = q + 1 := ⟨fu1 - 1, by omega⟩
    obtain ⟨q2, rfl⟩ : ∃ q, fu2 = q + 1 := ⟨fu2 - 1, by omega⟩
    have hcd := tk_cd (b := b) (n := n) i B.by
    by_cases c20 : (tk b n i).2.1 = 20
    · left
      refine ⟨τ, σ, pr, i, o, ?_, ?_, hc, hm, hS, hq⟩
      · unfold fc_rd_readAll_l18 fc_rd_readAll_b48
        rw [hc.2.2.1, c20, if_pos (show nI 20 = 20 from rfl), ite_self, if_neg (show ¬ ¬ nI 20 = 20 from fun z => z rfl)]
      · unfold fm_rules_l56
        rw [if_neg (show ¬ ¬ σ 10 0 = 0 from fun z => z hm.2.1), hm.2.2.1.1, tk_0.mpr c20, if_pos (show nI 0 = 0 from rfl)]
    · have k0 : ¬ (tk b n i).1 = 0 := fun z => c20 (tk_0.mp z)
      have k4 := tk_k (b := b) (n := n) (i := i)
      have EM : fm_rules_l56 K77 (q2 + 1) σ = Option.bind (fm_ruleHere σ) fun σ9 => fm_rules_l56 K77 q2 σ9 := by
        rw [fm_rules_l56, if_neg (show ¬ ¬ σ 10 0 = 0 from fun z => z hm.2.1), hm.2.2.1.1, if_neg (pN (pb_ez (by omega)) k0)]
      rw [EM]
      by_cases c8 : pr.length = 8
      · right
        obtain ⟨σ1, m1, w⟩ := rule_9 B c8 hm
        rw [m1, qbs, STOP q2 σ1 (by omega) (by rw [w.2.1]; decide)]
        refine ⟨τ, σ1, ?_, rfl, PX_of hi hc w⟩
        unfold fc_rd_readAll_l18 fc_rd_readAll_b48
        rw [c8, if_pos (show (8 : Int32) ≤ nI 8 by decide), hc.2.2.1, show (20 : Int32) = nI 20 from rfl, if_pos (pN (pb_eq (by omega) (by omega)) c20)]
      · have hp8 := hS.1
        have IH := fun i o pr τ σ => ih i o q1 q2 pr τ σ
        rw [fc_rd_readAll_l18]
        generalize fc_rd_readAll_l18 (fun τ => (fc_rd_readAll_b48 τ)) q1 = KC at IH ⊢
        rw [if_neg (show ¬ (8 : Int32) ≤ nI pr.length by rw [show (8 : Int32) = nI 8 from rfl, pb_le (by omega) (by omega)]; omega), hc.2.2.1, show (20 : Int32) = nI 20 from rfl, if_neg (pN (pb_eq (by omega) (by omega)) c20)]
        rcases rule_ok B (show pr.length < 8 by omega) hi hc hm hS with ⟨τ1, σ1, i1, o1, q, r1, r2, r3, r4, r5, r6, r7, r8, r9⟩ | ⟨τ1, σ1, r1, r2, i3, r3, r4, r5, w⟩
        · rw [r1, r2, qbs, qbs, qhl, qhl, if_pos (show ¬ (1 : Int32) = 0 by decide), nI_a1]
          have L := IH i1 o1 (pr ++ [q]) τ1 σ1 (by omega) (by omega) (by omega) r3 r5 r6 ⟨by rw [List.length_append]; show pr.length + 1 ≤ 8; omega, by rw [vclen_app]; have := hS.2.1; have h0 : clen ([] : List RS) = 0 := rfl; omega, by rw [vlen_app]; have := hS.2.2; have h0 : ([] : List RS).length = 0 := rfl; omega⟩ (fun x hx => by
            rcases List.mem_append.mp hx with h | h
            · exact hq x h
            · rw [List.mem_singleton.mp h]; exact r7)
          rw [List.length_append, show [q].length = 1 from rfl] at L
          exact L
        · right
          rw [r1, r2, qbs, qbs, qhl, qhl, if_neg (show ¬ ¬ (0 : Int32) = 0 from fun z => z rfl), STOP q2 σ1 (by omega) (by rw [w.2.1]; decide)]
          exact ⟨τ1, σ1, rfl, rfl, i3, r3, r4, r5, w⟩
end RL
