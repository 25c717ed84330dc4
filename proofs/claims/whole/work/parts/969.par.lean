/-! PURE: the parsers' state -/
def FCp (τ0 τ : SC) : Prop := (∀ k, (k < 306 ∨ 326 ≤ k) → τ.1 k = τ0.1 k) ∧ τ.2 = τ0.2
def FMp (σ0 σ : SM) : Prop := (∀ i, i ≠ 0 → (i < 6 ∨ 11 < i) → σ i = σ0 i) ∧ (∀ j, j ≠ 5 → j ≠ 7 → (j < 74 ∨ 106 ≤ j) → j < 130 → σ 0 j = σ0 0 j)
/-- what the parsers stand on -/
def BAS (b : Nat → Nat) (n cnt : Nat) (τ0 : SC) (σ0 : SM) : Prop := n ≤ 200 ∧ cnt ≤ n ∧ TPm σ0 b n ∧ TB τ0 b n cnt ∧ τ0.1 305 0 = nI n ∧ (∀ i, i < cnt → ¬ (tk b n i).2.1 = 20) ∧ (tk b n cnt).2.1 = 20
def PSm (σ0 σ : SM) (b : Nat → Nat) (n i o : Nat) (pr : List RU) (D : List RS) : Prop := FMp σ0 σ ∧ σ 10 0 = 0 ∧ TM σ (tk b n i) ∧ σ 11 0 = nI o ∧ ruM (σ 0) 0 0 pr ∧ stM (σ 0) (vlen pr) D ∧ σ 0 5 = nI pr.length ∧ σ 0 7 = nI (vlen pr + D.length)
def PSc (τ0 τ : SC) (b : Nat → Nat) (n i : Nat) (pr : List RU) (D : List RS) : Prop := FCp τ0 τ ∧ τ.1 306 0 = nI i ∧ τ.1 307 0 = nI (tk b n i).2.1 ∧ τ.1 308 0 = nI (fr b n i) ∧ ruC (τ.1 321) (τ.1 322) (τ.1 323) (τ.1 324) 0 0 pr ∧ stC (τ.1 324) (vclen pr) D ∧ τ.1 320 0 = nI pr.length ∧ τ.1 325 0 = nI (vclen pr + clen D)
/-- all is wrong; the token stays -/
def WS (σ0 σ : SM) (b : Nat → Nat) (n i : Nat) : Prop := FMp σ0 σ ∧ σ 10 0 = 1 ∧ TM σ (tk b n i)
def PX (τ0 τ : SC) (σ0 σ : SM) (b : Nat → Nat) (n cnt : Nat) : Prop := ∃ i, i ≤ cnt ∧ FCp τ0 τ ∧ τ.1 308 0 = nI (fr b n i) ∧ WS σ0 σ b n i
section PP2
variable {b : Nat → Nat} {n cnt : Nat} {τ0 τ : SC} {σ0 σ : SM} {i o : Nat} {pr : List RU} {D : List RS}
theorem BAS.tp (B : BAS b n cnt τ0 σ0) (h : FMp σ0 σ) : TPm σ b n := by
  unfold TPm
  rw [h.1 5 (by decide) (by omega), h.1 4 (by decide) (by omega)]
  exact B.2.2.1
theorem BAS.by (B : BAS b n cnt τ0 σ0) : ∀ j, j < n → b j < 256 := fun j hj => (B.2.2.1.2 j hj).1
theorem FT.mp {σ' : SM} (h : FMp σ0 σ) (hf : FT σ σ') : FMp σ0 σ' := by
  refine ⟨fun i a1 a2 => ?_, fun j a1 a2 a3 a4 => ?_⟩
  · rw [hf i (by omega) (by omega) (by omega) (by omega)]
    exact h.1 i a1 a2
  · rw [hf 0 (by decide) (by decide) (by decide) (by decide)]
    exact h.2 j a1 a2 a3 a4
theorem FMp_sf {k : Nat} {f : Nat → Int32} (h : FMp σ0 σ) (hk : 6 ≤ k ∧ k ≤ 11) : FMp σ0 (sf σ k f) := by
  refine ⟨fun i a1 a2 => ?_, fun j a1 a2 a3 a4 => ?_⟩
  · rw [sg_ne (by omega)]
    exact h.1 i a1 a2
  · rw [sg_ne (by omega)]
    exact h.2 j a1 a2 a3 a4
theorem TM_sf {k : Nat} {f : Nat → Int32} {T : TK} (h : TM σ T) (hk : k = 0 ∨ 10 ≤ k) : TM (sf σ k f) T := by
  obtain ⟨h1, h2, h3, h4⟩ := h
  refine ⟨?_, ?_, ?_, fun z => ?_⟩
  · rw [sg_ne (by omega)]; exact h1
  · rw [sg_ne (by omega)]; exact h2
  · rw [sg_ne (by omega)]; exact h3
  · rw [sg_ne (by omega)]; exact h4 z
theorem PSm.nt (B : BAS b n cnt τ0 σ0) (h : PSm σ0 σ b n i o pr D) : ∃ σ', fm_nextToken σ = some σ' ∧ PSm σ0 σ' b n (i + 1) o pr D := by
  obtain ⟨h1, h2, h3, h4, h5, h6, h7, h8⟩ := h
  obtain ⟨σ', r1, r2, r3⟩ := nt_ok (B.tp h1) B.1 (show (tk b n i).2.2.2.1 ≤ n from pos_le (i + 1)) h3.2.2.1
  have e0 := r2 0 (by decide) (by decide) (by decide) (by decide)
  refine ⟨σ', r1, FT.mp h1 r2, ?_, r3, ?_, ?_, ?_, ?_, ?_⟩
  · rw [r2 10 (by decide) (by decide) (by decide) (by decide)]; exact h2
  · rw [r2 11 (by decide) (by decide) (by decide) (by decide)]; exact h4
  · rw [e0]; exact h5
  · rw [e0]; exact h6
  · rw [e0]; exact h7
  · rw [e0]; exact h8
theorem FCp_sc {k : Nat} {f : Nat → Int32} (h : FCp τ0 τ) (hk : 306 ≤ k ∧ k < 326) : FCp τ0 (sc τ k f) := ⟨fun j hj => by rw [sc_ne (by omega)]; exact h.1 j hj, h.2⟩
theorem PSc.ad (B : BAS b n cnt τ0 σ0) (h : PSc τ0 τ b n i pr D) (hi : i < cnt) : ∃ τ', fc_rd_advance τ = some τ' ∧ PSc τ0 τ' b n (i + 1) pr D := by
  obtain ⟨B1, B2, B3, B4, B5, B6, B7⟩ := B
  obtain ⟨h1, h2, h3, h4, h5, h6, h7, h8⟩ := h
  have e304 : τ.1 304 0 = nI cnt := by rw [h1.1 304 (by omega)]; exact B4.1
  have e305 : τ.1 305 0 = nI n := by rw [h1.1 305 (by omega)]; exact B5
  unfold fc_rd_advance
  rw [qhl, h2, nI_a1, sc_at, if_neg (nI_pos (by omega)), show (sc τ 306 fun _ => nI (i + 1)).1 304 0 = nI cnt from e304]
  by_cases c : cnt ≤ i + 1
  · have ei : i + 1 = cnt := by omega
    rw [if_pos (pQ (pb_le (by omega) (by omega)) c)]
    unfold fc_rd_advance_b32 fc_rd_advance_b33 fc_rd_advance_b53
    rw [if_pos (show (0 : Int32) = 0 from rfl), qhl, if_pos (show (0 : Int32) = 0 from rfl), qhl, show (sc (sc τ 306 fun _ => nI (i + 1)) 307 fun _ => (20 : Int32)).1 305 0 = nI n from e305]
    refine ⟨_, rfl, FCp_sc (FCp_sc (FCp_sc h1 (by omega)) (by omega)) (by omega), rfl, ?_, ?_, h5, h6, h7, h8⟩
    · show (20 : Int32) = _
      rw [ei, B7]
      rfl
    · show nI n = nI (fr b n (i + 1))
      rw [ei]
      unfold fr tk
      rw [(nx_ok (b := b) (pos_le (n := n) cnt)).2.2.2.2 B7]
  · obtain ⟨t1, t2, t3⟩ := B4.2 (i + 1) (by omega)
    rw [if_neg (pN (pb_le (by omega) (by omega)) c)]
    unfold fc_rd_advance_b33 fc_rd_advance_b53
    rw [if_neg (show ¬ (1 : Int32) = 0 by decide), show (sc τ 306 fun _ => nI (i + 1)).1 306 0 = nI (i + 1) from rfl, pb_in (by omega) (by omega), pb_oc, pb_cl (by omega), qhl, if_neg (show ¬ (1 : Int32) = 0 by decide), show (sc (sc τ 306 fun _ => nI (i + 1)) 307 fun _ => (sc τ 306 fun _ => nI (i + 1)).1 301 (i + 1)).1 306 0 = nI (i + 1) from rfl, pb_in (by omega) (by omega), pb_oc, pb_cl (by omega), qhl]
    refine ⟨_, rfl, FCp_sc (FCp_sc (FCp_sc h1 (by omega)) (by omega)) (by omega), rfl, ?_, ?_, h5, h6, h7, h8⟩
    · show τ.1 301 (i + 1) = _
      rw [h1.1 301 (by omega)]
      exact t1
    · show τ.1 302 (i + 1) = _
      rw [h1.1 302 (by omega)]
      exact t2
theorem BAS.lt (B : BAS b n cnt τ0 σ0) (hi : i ≤ cnt) (hc : ¬ (tk b n i).2.1 = 20) : i < cnt := by
  rcases Nat.lt_or_ge i cnt with h | h
  · exact h
  · exact absurd (by rw [show i = cnt by omega]; exact B.2.2.2.2.2.2) hc
theorem PSm.ne (B : BAS b n cnt τ0 σ0) (h : PSm σ0 σ b n i o pr D) : ∃ σ', fm_needs (1 : Int32) σ = some σ' ∧ PSm σ0 σ' b n (i + 1) o pr D := by
  obtain ⟨h1, h2, h3, h4⟩ := h
  unfold fm_needs fm_needs_b17
  rw [if_neg (fun z => z h2), if_pos (show ¬ (1 : Int32) = 0 by decide), show hz (0 : Int32) = true from rfl, pb_oc, qhl, sg_at, if_neg (show ¬ ¬ (0 : Int32) = 0 from fun z => z rfl)]
  obtain ⟨σ', r1, r2⟩ := PSm.nt B (σ := sf σ 10 fun _ => (0 : Int32)) (i := i) (o := o) (pr := pr) (D := D) ⟨FMp_sf h1 (by omega), rfl, TM_sf h3 (by omega), h4⟩
  rw [r1, qbs]
  exact ⟨σ', rfl, r2⟩
theorem PSm.no (h : PSm σ0 σ b n i o pr D) : ∃ σ', fm_needs (0 : Int32) σ = some σ' ∧ WS σ0 σ' b n i := by
  obtain ⟨h1, h2, h3, h4⟩ := h
  unfold fm_needs fm_needs_b12 fm_needs_b17
  rw [if_neg (fun z => z h2), if_neg (show ¬ ¬ (0 : Int32) = 0 from fun z => z rfl), show hz (1 : Int32) = true from rfl, pb_oc, qhl, sg_at, if_pos (show ¬ (1 : Int32) = 0 by decide)]
  exact ⟨_, rfl, FMp_sf h1 (by omega), rfl, TM_sf h3 (by omega)⟩
theorem WS.ne (h : WS σ0 σ b n i) (x : Int32) : ∃ σ', fm_needs x σ = some σ' ∧ WS σ0 σ' b n i := by
  obtain ⟨h1, h2, h3⟩ := h
  unfold fm_needs fm_needs_b12 fm_needs_b17
  rw [if_pos (show ¬ σ 10 0 = 0 by rw [h2]; decide), show hz (1 : Int32) = true from rfl, pb_oc, qhl, sg_at, if_pos (show ¬ (1 : Int32) = 0 by decide)]
  exact ⟨_, rfl, FMp_sf h1 (by omega), rfl, TM_sf h3 (by omega)⟩
theorem WS.st (h : WS σ0 σ b n i) (x1 x2 x3 : Int32) : fm_steps x1 x2 x3 σ = some σ := by
  unfold fm_steps
  rw [if_pos (show ¬ σ 10 0 = 0 by rw [h.2.1]; decide)]
theorem WS.va (B : BAS b n cnt τ0 σ0) (h : WS σ0 σ b n i) : ∃ y σ', fm_valueHere σ = some (y, σ') ∧ WS σ0 σ' b n i := by
  obtain ⟨σ1, e1, w1⟩ := h.ne 1
  obtain ⟨σ2, e2, w2⟩ := h.ne 0
  have K : ∀ f y, ∃ y' σ', fm_valueHere_b21 f y σ = some (y', σ') ∧ WS σ0 σ' b n i := by
    intro f y
    unfold fm_valueHere_b21
    by_cases c1 : 0 ≤ f
    · rw [if_pos c1, e1, qbs]
      exact ⟨_, σ1, rfl, w1⟩
    · rw [if_neg c1]
      by_cases c2 : σ 6 0 = 2
      · rw [if_neg (fun z => z c2)]
        by_cases c3 : (4 : Int32) < (σ 8 0) - (σ 7 0)
        · rw [if_pos c3, e2, qbs]
          exact ⟨_, σ2, rfl, w2⟩
        · rw [if_neg c3, e1, qbs]
          exact ⟨_, σ1, rfl, w1⟩
      · rw [if_pos c2, e2, qbs]
        exact ⟨_, σ2, rfl, w2⟩
  unfold fm_valueHere
  rw [pr_fact (B.tp h.1) B.1 h.2.2 (tk_tf i), qbs]
  generalize (if 13 ≤ (tk b n i).2.1 ∧ (tk b n i).2.1 ≤ 17 then nI ((tk b n i).2.1 - 13) else (-1 : Int32)) = f
  by_cases c0 : f < 0
  · rw [if_pos c0]
    exact K _ _
  · rw [if_neg c0]
    exact K _ _
/-! values -/
def isOp (c : Nat) : Prop := c = 19 ∨ (13 ≤ c ∧ c ≤ 17)
def opV (T : TK) : Nat := if 13 ≤ T.2.1 ∧ T.2.1 ≤ 17 then 10000 + (T.2.1 - 13) else T.2.2.2.2
theorem opV_lt (h : isOp (tk b n i).2.1) : opV (tk b n i) < 10005 := by
  unfold opV
  rcases h with h | h
  · rw [if_neg (by omega)]
    have := tk_num h
    omega
  · rw [if_pos h]
    omega
theorem PSm.va (B : BAS b n cnt τ0 σ0) (h : PSm σ0 σ b n i o pr D) (hc : isOp (tk b n i).2.1) : ∃ σ', fm_valueHere σ = some (nI (opV (tk b n i)), σ') ∧ PSm σ0 σ' b n (i + 1) o pr D := by
  obtain ⟨σ', r1, r2⟩ := h.ne B
  have hb := B.by
  have hcd := tk_cd (b := b) (n := n) i hb
  obtain ⟨f1, f2, f3⟩ := tk_tf (b := b) (n := n) i
  have hd := wdc_le (b := b) (q := (tk b n i).2.2.1) (t := (tk b n i).2.2.2.1)
  unfold fm_valueHere fm_valueHere_b21
  rw [pr_fact (B.tp h.1) B.1 h.2.2.1 (tk_tf i), qbs, r1, qbs]
  unfold opV
  by_cases c : 13 ≤ (tk b n i).2.1 ∧ (tk b n i).2.1 ≤ 17
  · rw [if_pos c, if_pos c, if_neg (nI_pos (by omega)), if_pos (show 0 ≤ nI ((tk b n i).2.1 - 13) from nI_pos' (by omega)), show (10000 : Int32) = nI 10000 from rfl, pb_add]
    exact ⟨σ', rfl, r2⟩
  · rw [if_neg c, if_neg c, if_pos (show (-1 : Int32) < 0 by decide), if_neg (show ¬ 0 ≤ (-1 : Int32) by decide)]
    have c19 : (tk b n i).2.1 = 19 := by
      rcases hc with h | h
      · exact h
      · exact absurd h c
    rw [h.2.2.1.1, h.2.2.1.2.1, h.2.2.1.2.2.1, h.2.2.1.2.2.2 c19]
    rcases f3 with ⟨g1, g2⟩ | ⟨g1, g2⟩ | ⟨g1, g2⟩ | ⟨g1, g3, g2⟩
    · omega
    · omega
    · rw [g1, if_neg (show ¬ ¬ nI 2 = 2 from fun z => z rfl), pb_sub f1]
      by_cases c4 : (tk b n i).2.2.2.1 - (tk b n i).2.2.1 ≤ 4
      · rw [if_neg (show ¬ (4 : Int32) < nI ((tk b n i).2.2.2.1 - (tk b n i).2.2.1) by rw [show (4 : Int32) = nI 4 from rfl, pb_lt (by omega) (by have := B.1; omega)]; omega)]
        exact ⟨σ', rfl, r2⟩
      · rw [if_neg c4] at g2
        omega
    · omega
theorem PSm.vn (B : BAS b n cnt τ0 σ0) (h : PSm σ0 σ b n i o pr D) (hc : ¬ isOp (tk b n i).2.1) : ∃ y σ', fm_valueHere σ = some (y, σ') ∧ WS σ0 σ' b n i := by
  obtain ⟨σ', r1, r2⟩ := h.no
  obtain ⟨f1, f2, f3⟩ := tk_tf (b := b) (n := n) i
  unfold isOp at hc
  unfold fm_valueHere fm_valueHere_b21
  rw [pr_fact (B.tp h.1) B.1 h.2.2.1 (tk_tf i), qbs, r1, qbs, if_neg (show ¬ (13 ≤ (tk b n i).2.1 ∧ (tk b n i).2.1 ≤ 17) by omega), if_pos (show (-1 : Int32) < 0 by decide), if_neg (show ¬ 0 ≤ (-1 : Int32) by decide), h.2.2.1.1, h.2.2.1.2.1, h.2.2.1.2.2.1]
  by_cases c2 : nI (tk b n i).1 = 2
  · rw [if_neg (fun z => z c2), pb_sub f1]
    rcases f3 with ⟨g1, g2⟩ | ⟨g1, g2⟩ | ⟨g1, g2⟩ | ⟨g1, g3, g2⟩
    · rw [g1] at c2; exact absurd c2 (by decide)
    · rw [g1] at c2; exact absurd c2 (by decide)
    · have c4 : ¬ (tk b n i).2.2.2.1 - (tk b n i).2.2.1 ≤ 4 := fun z => by rw [if_pos z] at g2; omega
      rw [if_pos (show (4 : Int32) < nI ((tk b n i).2.2.2.1 - (tk b n i).2.2.1) by rw [show (4 : Int32) = nI 4 from rfl, pb_lt (by omega) (by have := B.1; omega)]; omega)]
      exact ⟨_, σ', rfl, r2⟩
    · rw [g1] at c2; exact absurd c2 (by decide)
  · rw [if_pos c2]
    exact ⟨_, σ', rfl, r2⟩
theorem PSc.op (B : BAS b n cnt τ0 σ0) (h : PSc τ0 τ b n i pr D) (hc : isOp (tk b n i).2.1) : fc_rd_isOperand τ = some 1 ∧ (i < cnt → fc_rd_operand τ = some (enc (opV (tk b n i)))) := by
  have hcd := tk_cd (b := b) (n := n) i B.by
  obtain ⟨B1, B2, B3, B4, B5, B6, B7⟩ := B
  obtain ⟨h1, h2, h3, h4⟩ := h
  unfold fc_rd_isOperand fc_rd_operand fc_rd_operand_b28 opV enc
  rw [h3, h2, show (19 : Int32) = nI 19 from rfl, show (13 : Int32) = nI 13 from rfl, show (17 : Int32) = nI 17 from rfl]
  by_cases c : 13 ≤ (tk b n i).2.1 ∧ (tk b n i).2.1 ≤ 17
  · rw [if_neg (pN (pb_eq (by omega) (by omega)) (show ¬ (tk b n i).2.1 = 19 by omega)), if_neg (pN (pb_lt (by omega) (by omega)) (show ¬ (tk b n i).2.1 < 13 by omega)), if_neg (pN (pb_lt (by omega) (by omega)) (show ¬ 17 < (tk b n i).2.1 by omega)), if_neg (pN (pb_lt (by omega) (by omega)) (show ¬ (tk b n i).2.1 < 13 by omega)), if_neg (pN (pb_lt (by omega) (by omega)) (show ¬ 17 < (tk b n i).2.1 by omega)), if_pos c, if_neg (by omega), pb_sub c.1]
    refine ⟨rfl, fun _ => ?_⟩
    rw [show 10000 + ((tk b n i).2.1 - 13) - 10000 = (tk b n i).2.1 - 13 by omega]
  · have c19 : (tk b n i).2.1 = 19 := by
      rcases hc with h | h
      · exact h
      · exact absurd h c
    have e304 : τ.1 304 0 = nI cnt := by rw [h1.1 304 (by omega)]; exact B4.1
    rw [if_pos (pQ (pb_eq (by omega) (by omega)) c19), if_neg (pN (pb_lt (by omega) (by omega)) (show ¬ (tk b n i).2.1 < 13 by omega)), if_pos (pQ (pb_lt (by omega) (by omega)) (show 17 < (tk b n i).2.1 by omega)), if_neg c, if_pos (tk_num c19), e304]
    refine ⟨rfl, fun hi => ?_⟩
    rw [if_neg (nI_pos (by omega)), if_neg (pN (pb_le (by omega) (by omega)) (show ¬ cnt ≤ i by omega)), pb_in (by omega) (by omega), pb_oc, pb_cl (by omega), h1.1 303 (by omega), (B4.2 i hi).2.2 c19]
theorem PSc.on (B : BAS b n cnt τ0 σ0) (h : PSc τ0 τ b n i pr D) (hc : ¬ isOp (tk b n i).2.1) : fc_rd_isOperand τ = some 0 := by
  have hcd := tk_cd (b := b) (n := n) i B.by
  unfold isOp at hc
  unfold fc_rd_isOperand
  rw [h.2.2.1, show (19 : Int32) = nI 19 from rfl, show (13 : Int32) = nI 13 from rfl, show (17 : Int32) = nI 17 from rfl, if_neg (pN (pb_eq (by omega) (by omega)) (show ¬ (tk b n i).2.1 = 19 by omega))]
  by_cases c : (tk b n i).2.1 < 13
  · rw [if_pos (pQ (pb_lt (by omega) (by omega)) c)]
  · rw [if_neg (pN (pb_lt (by omega) (by omega)) c), if_pos (pQ (pb_lt (by omega) (by omega)) (show 17 < (tk b n i).2.1 by omega))]
/-! steps -/
theorem PSm.sp (h : PSm σ0 σ b n i o pr D) (hp8 : pr.length ≤ 8) (hs : vlen pr + D.length < 150) (s x y : Nat) : ∃ σ', fm_steps (nI s) (nI x) (nI y) σ = some σ' ∧ PSm σ0 σ' b n i o pr (D ++ [(s, x, y)]) := by
  obtain ⟨h1, h2, h3, h4, h5, h6, h7, h8⟩ := h
  generalize hk : vlen pr + D.length = k at hs h8
  unfold fm_steps
  rw [if_neg (fun z => z h2)]
  simp only [qhl, pb_sfsf, sg_at]
  rw [h8, show (3 : Int32) = nI 3 from rfl, show (130 : Int32) = nI 130 from rfl, show (2 : Int32) = nI 2 from rfl, pb_mul, pb_add, pb_in (by omega) (by omega), pb_oc, pb_cl (by omega)]
  rw [show upd (σ 0) (130 + 3 * k) (nI s) 7 = nI k by rw [up_ne (by omega)]; exact h8, pb_mul, pb_add, nI_a1, pb_in (by omega) (by omega), pb_oc, pb_cl (by omega)]
  rw [show upd (upd (σ 0) (130 + 3 * k) (nI s)) (130 + 3 * k + 1) (nI x) 7 = nI k by rw [up_ne (by omega), up_ne (by omega)]; exact h8, pb_mul, pb_add, pb_add, pb_in (by omega) (by omega), pb_oc, pb_cl (by omega), show upd (upd (upd (σ 0) (130 + 3 * k) (nI s)) (130 + 3 * k + 1) (nI x)) (130 + 3 * k + 2) (nI y) 7 = nI k by rw [up_ne (by omega), up_ne (by omega), up_ne (by omega)]; exact h8, nI_a1]
  have U : ∀ j, j ≠ 7 → (j < 130 + 3 * k ∨ 130 + 3 * k + 3 ≤ j) → upd (upd (upd (upd (σ 0) (130 + 3 * k) (nI s)) (130 + 3 * k + 1) (nI x)) (130 + 3 * k + 2) (nI y)) 7 (nI (k + 1)) j = σ 0 j := fun j a1 a2 => by
    rw [up_ne a1, up_ne (by omega), up_ne (by omega), up_ne (by omega)]
  refine ⟨_, rfl, ⟨fun j a1 a2 => ?_, fun j a1 a2 a3 a4 => ?_⟩, ?_, TM_sf h3 (by omega), ?_, ?_, ?_, ?_, ?_⟩
  · rw [sg_ne a1]; exact h1.1 j a1 a2
  · rw [sg_at, U j a2 (by omega)]; exact h1.2 j a1 a2 a3 a4
  · rw [sg_ne (by decide)]; exact h2
  · rw [sg_ne (by decide)]; exact h4
  · rw [sg_at]
    exact ruM_lo pr 0 0 (fun j a1 a2 => U j (by omega) (by omega)) (fun j a1 a2 => U j (by omega) (by omega)) h5
  · rw [sg_at]
    refine stM_ap D _ _ (stM_lo D _ (fun j a1 a2 => U j (by omega) (by omega)) h6) ⟨?_, ?_, ?_, trivial⟩
    · rw [hk, up_ne (by omega), up_ne (by omega), up_ne (by omega), up_eq]
    · rw [show 131 + 3 * (vlen pr + D.length) = 130 + 3 * k + 1 by omega, up_ne (by omega), up_ne (by omega), up_eq]
    · rw [show 132 + 3 * (vlen pr + D.length) = 130 + 3 * k + 2 by omega, up_ne (by omega), up_eq]
  · rw [sg_at, U 5 (by omega) (by omega)]; exact h7
  · rw [sg_at, up_eq, List.length_append, show k + 1 = vlen pr + (D.length + [(s, x, y)].length) by show k + 1 = vlen pr + (D.length + 1); omega]
theorem PSc.em {k : Nat} (hF : FCp τ0 τ) (h5 : τ.1 325 0 = nI k) (hk : k < 200) (x : Int32) : ∃ τ', fc_ru_emit_R2 x τ = some τ' ∧ τ' = sc (sc τ 324 (upd (τ.1 324) k x)) 325 (fun _ => nI (k + 1)) := by
  unfold fc_ru_emit_R2
  simp only [qhl]
  rw [h5, if_neg (show ¬ (200 : Int32) ≤ nI k by rw [show (200 : Int32) = nI 200 from rfl, pb_le (by omega) (by omega)]; omega), pb_in (by omega) (by omega), pb_oc, pb_cl (by omega), show (sc τ 324 (upd (τ.1 324) k x)).1 325 0 = nI k from h5, nI_a1]
  exact ⟨_, rfl, rfl⟩
/-- what the class has behind code of another row -/
theorem PSc.cd {g c : Nat → Int32} {E : List RS} (h : PSc τ0 τ b n i pr D) (hg : ∀ j, j < vclen pr + clen D → g j = τ.1 324 j) (hE : stC g (vclen pr + clen D) E) (hc : c 0 = nI (vclen pr + clen (D ++ E))) : PSc τ0 (sc (sc τ 324 g) 325 c) b n i pr (D ++ E) := by
  obtain ⟨h1, h2, h3, h4, h5, h6, h7, h8⟩ := h
  refine ⟨FCp_sc (FCp_sc h1 (by omega)) (by omega), h2, h3, h4, ?_, ?_, h7, hc⟩
  · exact ruC_lo pr 0 0 (fun j _ _ => ⟨rfl, rfl, rfl⟩) (fun j a1 a2 => hg j (by omega)) h5
  · exact stC_ap D E _ (stC_lo D _ (fun j a1 a2 => hg j (by omega)) h6) hE
end PP2
