/-! PURE: comparisons -/
def SZ (b : Nat → Nat) (n i : Nat) (pr : List RU) (D : List RS) : Prop := pr.length ≤ 8 ∧ vclen pr + clen D ≤ fr b n i ∧ 2 * (vlen pr + D.length) ≤ fr b n i
def OUT (b : Nat → Nat) (n cnt : Nat) (τ0 : SC) (σ0 : SM) (i o : Nat) (pr : List RU) (D : List RS) (k : Nat) (A : Option (Int32 × SC)) (M : Option SM) : Prop :=
  (∃ τ' σ' i' E, A = some (1, τ') ∧ M = some σ' ∧ i' ≤ cnt ∧ i < i' ∧ PSc τ0 τ' b n i' pr (D ++ E) ∧ PSm σ0 σ' b n i' o pr (D ++ E) ∧ EX k E ∧ clen E + fr b n i ≤ fr b n i' ∧ 2 * E.length + fr b n i ≤ fr b n i') ∨ (∃ τ' σ', A = some (0, τ') ∧ M = some σ' ∧ PX τ0 τ' σ0 σ' b n cnt)
section CP
variable {b : Nat → Nat} {n cnt : Nat} {τ0 τ : SC} {σ0 σ : SM} {i o : Nat} {pr : List RU} {D : List RS}
theorem op_ok (B : BAS b n cnt τ0 σ0) (h1 : FCp τ0 τ) (h2 : τ.1 306 0 = nI i) (h3 : τ.1 307 0 = nI (tk b n i).2.1) (hc : isOp (tk b n i).2.1) (hi : i < cnt) : fc_rd_operand τ = some (enc (opV (tk b n i))) := by
  have hcd := tk_cd (b := b) (n := n) i B.by
  obtain ⟨B1, B2, B3, B4, B5, B6, B7⟩ := B
  unfold fc_rd_operand fc_rd_operand_b28 opV enc
  rw [h3, h2, show (13 : Int32) = nI 13 from rfl, show (17 : Int32) = nI 17 from rfl]
  by_cases c : 13 ≤ (tk b n i).2.1 ∧ (tk b n i).2.1 ≤ 17
  · rw [if_neg (pN (pb_lt (by omega) (by omega)) (show ¬ (tk b n i).2.1 < 13 by omega)), if_neg (pN (pb_lt (by omega) (by omega)) (show ¬ 17 < (tk b n i).2.1 by omega)), if_pos c, if_neg (by omega), pb_sub c.1]
    rw [show 10000 + ((tk b n i).2.1 - 13) - 10000 = (tk b n i).2.1 - 13 by omega]
  · have c19 : (tk b n i).2.1 = 19 := by
      rcases hc with h | h
      · exact h
      · exact absurd h c
    have e304 : τ.1 304 0 = nI cnt := by rw [h1.1 304 (by omega)]; exact B4.1
    rw [if_neg (pN (pb_lt (by omega) (by omega)) (show ¬ (tk b n i).2.1 < 13 by omega)), if_pos (pQ (pb_lt (by omega) (by omega)) (show 17 < (tk b n i).2.1 by omega)), if_neg c, if_pos (tk_num c19), e304]
    rw [if_neg (nI_pos (by omega)), if_neg (pN (pb_le (by omega) (by omega)) (show ¬ cnt ≤ i by omega)), pb_in (by omega) (by omega), pb_oc, pb_cl (by omega), h1.1 303 (by omega), (B4.2 i hi).2.2 c19]
theorem WS.b66 (B : BAS b n cnt τ0 σ0) (h : WS σ0 σ b n i) (x1 x2 y0 : Int32) : ∃ σ', fm_comparesHere_b66 x1 x2 y0 σ = some σ' ∧ WS σ0 σ' b n i := by
  obtain ⟨σ1, e1, w1⟩ := h.ne y0
  obtain ⟨y, σ2, e2, w2⟩ := w1.va B
  unfold fm_comparesHere_b66
  rw [e1, qbs, e2, qbs, qhl, qhl, w2.st, qbs]
  exact ⟨σ2, rfl, w2⟩
theorem b32_eq (h : TPm σ b n) (hn : n ≤ 200) (hM : TM σ (tk b n i)) (x1 y0 : Int32) : fm_comparesHere_b32 x1 y0 σ = fm_comparesHere_b66 x1 y0 (if (tk b n i).2.1 = 160 ∨ (tk b n i).2.1 = 161 ∨ (tk b n i).2.1 = 162 then 1 else 0) σ := by
  have p1 : fm_isByte σ (60 : Int32) = _ := pr_byte h hn hM (tk_tf i) (c := 60) (by decide)
  have p2 : fm_isByte σ (61 : Int32) = _ := pr_byte h hn hM (tk_tf i) (c := 61) (by decide)
  have p3 : fm_isByte σ (62 : Int32) = _ := pr_byte h hn hM (tk_tf i) (c := 62) (by decide)
  unfold fm_comparesHere_b32 fm_comparesHere_b61
  rw [p1, qbs, p2, qbs, p3, qbs]
  by_cases c1 : (tk b n i).2.1 = 100 + 60
  · rw [if_pos c1, if_pos (show ¬ (1 : Int32) = 0 by decide), if_pos (Or.inl c1)]
  · rw [if_neg c1, if_neg (show ¬ ¬ (0 : Int32) = 0 from fun z => z rfl)]
    by_cases c2 : (tk b n i).2.1 = 100 + 61
    · rw [if_pos c2, if_pos (show ¬ (1 : Int32) = 0 by decide), if_pos (Or.inr (Or.inl c2))]
    · rw [if_neg c2, if_neg (show ¬ ¬ (0 : Int32) = 0 from fun z => z rfl)]
      by_cases c3 : (tk b n i).2.1 = 100 + 62
      · rw [if_pos c3, if_neg (show ¬ (1 : Int32) = 0 by decide), if_pos (Or.inr (Or.inr c3))]
      · rw [if_neg c3, if_pos (show (0 : Int32) = 0 from rfl), if_neg (by omega)]
theorem WS.b32 (B : BAS b n cnt τ0 σ0) (h : WS σ0 σ b n i) (x1 y0 : Int32) : ∃ σ', fm_comparesHere_b32 x1 y0 σ = some σ' ∧ WS σ0 σ' b n i := by
  rw [b32_eq (B.tp h.1) B.1 h.2.2]
  exact h.b66 B _ _ _
theorem sc_4 (τ : SC) (a b c d : Nat → Int32) : sc (sc (sc (sc τ 324 a) 325 b) 324 c) 325 d = sc (sc τ 324 c) 325 d := by
  refine Prod.ext (funext fun i => ?_) rfl
  show (if i = 325 then d else if i = 324 then c else if i = 325 then b else if i = 324 then a else τ.1 i) = (if i = 325 then d else if i = 324 then c else τ.1 i)
  by_cases e5 : i = 325
  · rw [if_pos e5, if_pos e5]
  · rw [if_neg e5, if_neg e5, if_neg e5]
    by_cases e4 : i = 324
    · rw [if_pos e4, if_pos e4]
    · rw [if_neg e4, if_neg e4, if_neg e4]
theorem PX_of {i : Nat} (hi : i ≤ cnt) (h : PSc τ0 τ b n i pr D) (w : WS σ0 σ b n i) : PX τ0 τ σ0 σ b n cnt := ⟨i, hi, h.1, h.2.2.2.1, w⟩
theorem opc {c : Nat} (h : isOp c) : ¬ c = 20 := by
  unfold isOp at h
  omega
/-- from the sign on -/
theorem cmp2 (B : BAS b n cnt τ0 σ0) {v1 s : Nat} (hv1 : v1 < 10005) (hs : s < 3) (hi : i < cnt) (hi0 : 0 < i) (hc : PSc τ0 τ b n i pr D) (hm : PSm σ0 σ b n i o pr D) (hS : SZ b n (i - 1) pr D) (hfi : fr b n (i - 1) + 1 ≤ fr b n i) (hcd : ¬ (tk b n i).2.1 = 20) : OUT b n cnt τ0 σ0 (i - 1) o pr D 1 (fc_rd_readComparison_b65 (enc v1) (nI (s + 3)) τ) (fm_comparesHere_b66 (nI v1) (nI s) (1 : Int32) σ) := by
  obtain ⟨τ1, a1, a2⟩ := hc.ad B hi
  obtain ⟨σ1, m1, m2⟩ := hm.ne B
  have f1 := fr_s hcd
  have fn := fr_n (b := b) (n := n)
  unfold fc_rd_readComparison_b65 fm_comparesHere_b66
  rw [a1, qbs, m1, qbs]
  by_cases c : isOp (tk b n (i + 1)).2.1
  · have hi1 : i + 1 < cnt := B.lt (by omega) (opc c)
    have f2 := fr_s (opc c)
    have f3 := fn (i + 1 + 1)
    have hv2 := opV_lt c
    obtain ⟨S1, S2, S3⟩ := hS
    have hB1 := B.1
    obtain ⟨σ2, m3, m4⟩ := m2.va B c
    obtain ⟨σ3, m5, m6⟩ := m4.sp S1 (by omega) s v1 (opV (tk b n (i + 1)))
    rw [(a2.op B c).1, qbs, if_pos (show ¬ (1 : Int32) = 0 by decide), m3, qbs, qhl, qhl, m5, qbs]
    generalize hk : vclen pr + clen D = k at S2
    obtain ⟨τ2, t1, t2⟩ := PSc.em a2.1 (show τ1.1 325 0 = nI k by rw [← hk]; exact a2.2.2.2.2.2.2.2) (by omega) (nI (s + 3))
    have F2 : FCp τ0 τ2 := by rw [t2]; exact FCp_sc (FCp_sc a2.1 (by omega)) (by omega)
    obtain ⟨τ3, t3, t4⟩ := PSc.em F2 (show τ2.1 325 0 = nI (k + 1) by rw [t2]; rfl) (by omega) (enc v1)
    have F3 : FCp τ0 τ3 := by rw [t4]; exact FCp_sc (FCp_sc F2 (by omega)) (by omega)
    have e3 : fc_rd_operand τ3 = some (enc (opV (tk b n (i + 1)))) := op_ok B F3 (by rw [t4, t2]; exact a2.2.1) (by rw [t4, t2]; exact a2.2.2.1) c hi1
    obtain ⟨τ4, t5, t6⟩ := PSc.em F3 (show τ3.1 325 0 = nI (k + 1 + 1) by rw [t4]; rfl) (by omega) (enc (opV (tk b n (i + 1))))
    rw [t1, qbs, t3, qbs, e3, qbs, t5, qbs]
    have e4 : τ4 = sc (sc τ1 324 (upd (upd (upd (τ1.1 324) k (nI (s + 3))) (k + 1) (enc v1)) (k + 1 + 1) (enc (opV (tk b n (i + 1)))))) 325 (fun _ => nI (k + 1 + 1 + 1)) := by
      rw [t6, show τ3.1 324 = upd (upd (τ1.1 324) k (nI (s + 3))) (k + 1) (enc v1) by rw [t4, t2]; rfl, t4, sc_4, t2, sc_4]
    have P4 : PSc τ0 τ4 b n (i + 1) pr (D ++ [(s, v1, opV (tk b n (i + 1)))]) := by
      rw [e4]
      refine a2.cd (fun j hj => ?_) ?_ ?_
      · rw [up_ne (by omega), up_ne (by omega), up_ne (by omega)]
      · rw [hk]
        show if s < 3 then _ ∧ _ ∧ _ ∧ True else _
        rw [if_pos hs]
        refine ⟨?_, ?_, ?_, trivial⟩
        · rw [up_ne (by omega), up_ne (by omega), up_eq]
        · rw [up_ne (by omega), up_eq]
        · exact up_eq
      · show nI (k + 1 + 1 + 1) = _
        rw [clen_app, ← Nat.add_assoc, hk]
        show _ = nI (k + ((if s < 3 then 3 else 1) + 0))
        rw [if_pos hs]
    obtain ⟨τ5, t7, t8⟩ := P4.ad B hi1
    rw [t7, qbs]
    refine Or.inl ⟨τ5, σ3, i + 1 + 1, [(s, v1, opV (tk b n (i + 1)))], rfl, rfl, by omega, by omega, t8, m6, EX_cmp hs hv1 hv2, ?_, ?_⟩
    · show (if s < 3 then 3 else 1) + 0 + fr b n (i - 1) ≤ _
      rw [if_pos hs]
      omega
    · show 2 * 1 + fr b n (i - 1) ≤ _
      omega
  · obtain ⟨y, σ2, m3, w⟩ := m2.vn B c
    rw [a2.on B c, qbs, if_neg (show ¬ ¬ (0 : Int32) = 0 from fun z => z rfl), m3, qbs, qhl, qhl, w.st, qbs]
    exact Or.inr ⟨τ1, σ2, rfl, rfl, PX_of (by omega) a2 w⟩
theorem cmp_ok (B : BAS b n cnt τ0 σ0) (hi : i ≤ cnt) (hc : PSc τ0 τ b n i pr D) (hm : PSm σ0 σ b n i o pr D) (hS : SZ b n i pr D) : OUT b n cnt τ0 σ0 i o pr D 1 (fc_rd_readComparison τ) (fm_comparesHere σ) := by
  unfold fc_rd_readComparison fm_comparesHere
  by_cases c : isOp (tk b n i).2.1
  · have hi1 : i < cnt := B.lt hi (opc c)
    obtain ⟨τ1, a1, a2⟩ := hc.ad B hi1
    obtain ⟨σ1, m1, m2⟩ := hm.va B c
    have hcd := tk_cd (b := b) (n := n) (i + 1) B.by
    have q1 : fm_isByte σ1 (60 : Int32) = _ := pr_byte (B.tp m2.1) B.1 m2.2.2.1 (tk_tf (i + 1)) (c := 60) (by decide)
    have q2 : fm_isByte σ1 (61 : Int32) = _ := pr_byte (B.tp m2.1) B.1 m2.2.2.1 (tk_tf (i + 1)) (c := 61) (by decide)
    have q3 : fm_isByte σ1 (62 : Int32) = _ := pr_byte (B.tp m2.1) B.1 m2.2.2.1 (tk_tf (i + 1)) (c := 62) (by decide)
    have f1 := fr_s (opc c)
    rw [(hc.op B c).1, qbs, if_pos (show ¬ (1 : Int32) = 0 by decide), (hc.op B c).2 hi1, qbs, a1, qbs, m1, qbs, qhl, qhl, q1, qbs, q2, qbs, a2.2.2.1]
    have BE := fun x1 y0 => b32_eq (i := i + 1) (B.tp m2.1) B.1 m2.2.2.1 x1 y0
    rw [BE, BE, BE]
    unfold fc_rd_readComparison_b47
    rw [a2.2.2.1, show (160 : Int32) = nI 160 from rfl, show (161 : Int32) = nI 161 from rfl, show (162 : Int32) = nI 162 from rfl]
    have C2 := fun s (hs : s < 3) (h20 : ¬ (tk b n (i + 1)).2.1 = 20) => cmp2 (i := i + 1) B (opV_lt c) hs (B.lt (by omega) h20) (by omega) a2 m2 hS f1 h20
    rw [show i + 1 - 1 = i from rfl] at C2
    by_cases c1 : (tk b n (i + 1)).2.1 = 160
    · rw [if_neg (pNN (pb_eq (by omega) (by omega)) c1), if_pos (show (tk b n (i + 1)).2.1 = 100 + 60 from c1), if_neg (show ¬ (1 : Int32) = 0 by decide), if_pos (show ¬ (3 : Int32) = 5 by decide), if_pos (Or.inl c1)]
      exact C2 0 (by decide) (by omega)
    · rw [if_pos (pN (pb_eq (by omega) (by omega)) c1), if_neg (show ¬ (tk b n (i + 1)).2.1 = 100 + 60 from c1), if_pos (show (0 : Int32) = 0 from rfl)]
      by_cases c2 : (tk b n (i + 1)).2.1 = 161
      · rw [if_neg (pNN (pb_eq (by omega) (by omega)) c2), if_pos (show (tk b n (i + 1)).2.1 = 100 + 61 from c2), if_neg (show ¬ (1 : Int32) = 0 by decide), if_pos (show ¬ (4 : Int32) = 5 by decide), if_pos (Or.inr (Or.inl c2))]
        exact C2 1 (by decide) (by omega)
      · rw [if_pos (pN (pb_eq (by omega) (by omega)) c2), if_neg (show ¬ (tk b n (i + 1)).2.1 = 100 + 61 from c2), if_pos (show (0 : Int32) = 0 from rfl), if_neg (show ¬ ¬ (5 : Int32) = 5 from fun z => z rfl)]
        by_cases c3 : (tk b n (i + 1)).2.1 = 162
        · rw [if_pos (pQ (pb_eq (by omega) (by omega)) c3), if_pos (Or.inr (Or.inr c3))]
          exact C2 2 (by decide) (by omega)
        · rw [if_neg (pN (pb_eq (by omega) (by omega)) c3), if_neg (by omega)]
          obtain ⟨σ2, n1, w⟩ := m2.no
          obtain ⟨y, σ3, n2, w2⟩ := w.va B
          unfold fm_comparesHere_b66
          rw [n1, qbs, n2, qbs, qhl, qhl, w2.st, qbs]
          exact Or.inr ⟨τ1, σ3, rfl, rfl, PX_of (by omega) a2 w2⟩
  · obtain ⟨y, σ1, m1, w⟩ := hm.vn B c
    rw [hc.on B c, qbs, if_neg (show ¬ ¬ (0 : Int32) = 0 from fun z => z rfl), m1, qbs, qhl, qhl]
    have q1 : fm_isByte σ1 (60 : Int32) = _ := pr_byte (B.tp w.1) B.1 w.2.2 (tk_tf i) (c := 60) (by decide)
    have q2 : fm_isByte σ1 (61 : Int32) = _ := pr_byte (B.tp w.1) B.1 w.2.2 (tk_tf i) (c := 61) (by decide)
    rw [q1, qbs, q2, qbs]
    have FIN : ∀ x1 y0, OUT b n cnt τ0 σ0 i o pr D 1 (some ((0 : Int32), τ)) (fm_comparesHere_b32 x1 y0 σ1) := by
      intro x1 y0
      obtain ⟨σ2, e1, w2⟩ := w.b32 B x1 y0
      exact Or.inr ⟨τ, σ2, rfl, e1, PX_of hi hc w2⟩
    by_cases c1 : (tk b n i).2.1 = 100 + 60
    · rw [if_pos c1, if_neg (show ¬ (1 : Int32) = 0 by decide)]
      exact FIN _ _
    · rw [if_neg c1, if_pos (show (0 : Int32) = 0 from rfl)]
      by_cases c2 : (tk b n i).2.1 = 100 + 61
      · rw [if_pos c2, if_neg (show ¬ (1 : Int32) = 0 by decide)]
        exact FIN _ _
      · rw [if_neg c2, if_pos (show (0 : Int32) = 0 from rfl)]
        exact FIN _ _
end CP
