/-! PURE: step of rules -/
section RS7
variable {b : Nat → Nat} {n cnt : Nat} {τ0 τ : SC} {σ0 σ : SM} {i o : Nat} {pr : List RU} {v : VT}
theorem adv_0 (B : BAS b n cnt τ0 σ0) (h1 : FCp τ0 τ) (h2 : τ.1 306 0 = -1) : ∃ τ', fc_rd_advance τ = some τ' ∧ FCp τ0 τ' ∧ τ'.1 306 0 = nI 0 ∧ τ'.1 307 0 = nI (tk b n 0).2.1 ∧ τ'.1 308 0 = nI (fr b n 0) ∧ (∀ k, 309 ≤ k → τ'.1 k = τ.1 k) := by
  obtain ⟨B1, B2, B3, B4, B5, B6, B7⟩ := B
  have e304 : τ.1 304 0 = nI cnt := by rw [h1.1 304 (by omega)]; exact B4.1
  have e305 : τ.1 305 0 = nI n := by rw [h1.1 305 (by omega)]; exact B5
  unfold fc_rd_advance
  rw [qhl, h2, show (-1 : Int32) + 1 = nI 0 from rfl, sc_at, if_neg (nI_pos (by omega)), show (sc τ 306 fun _ => nI 0).1 304 0 = nI cnt from e304]
  by_cases c : cnt ≤ 0
  · have ei : cnt = 0 := by omega
    rw [if_pos (pQ (pb_le (by omega) (by omega)) c)]
    unfold fc_rd_advance_b32 fc_rd_advance_b33 fc_rd_advance_b53
    rw [if_pos (show (0 : Int32) = 0 from rfl), qhl, if_pos (show (0 : Int32) = 0 from rfl), qhl, show (sc (sc τ 306 fun _ => nI 0) 307 fun _ => (20 : Int32)).1 305 0 = nI n from e305]
    refine ⟨_, rfl, FCp_sc (FCp_sc (FCp_sc h1 (by omega)) (by omega)) (by omega), rfl, ?_, ?_, fun k hk => ?_⟩
    · show (20 : Int32) = _
      rw [← ei, B7]
      rfl
    · show nI n = nI (fr b n 0)
      rw [← ei]
      unfold fr tk
      rw [(nx_ok (b := b) (pos_le (n := n) cnt)).2.2.2.2 B7]
    · rw [sc_ne (by omega), sc_ne (by omega), sc_ne (by omega)]
  · obtain ⟨t1, t2, t3⟩ := B4.2 0 (by omega)
    rw [if_neg (pN (pb_le (by omega) (by omega)) c)]
    unfold fc_rd_advance_b33 fc_rd_advance_b53
    rw [if_neg (show ¬ (1 : Int32) = 0 by decide), show (sc τ 306 fun _ => nI 0).1 306 0 = nI 0 from rfl, pb_in (by omega) (by omega), pb_oc, pb_cl (by omega), qhl, if_neg (show ¬ (1 : Int32) = 0 by decide), show (sc (sc τ 306 fun _ => nI 0) 307 fun _ => (sc τ 306 fun _ => nI 0).1 301 0).1 306 0 = nI 0 from rfl, pb_in (by omega) (by omega), pb_oc, pb_cl (by omega), qhl]
    refine ⟨_, rfl, FCp_sc (FCp_sc (FCp_sc h1 (by omega)) (by omega)) (by omega), rfl, ?_, ?_, fun k hk => ?_⟩
    · show τ.1 301 0 = _
      rw [h1.1 301 (by omega)]
      exact t1
    · show τ.1 302 0 = _
      rw [h1.1 302 (by omega)]
      exact t2
    · rw [sc_ne (by omega), sc_ne (by omega), sc_ne (by omega)]
theorem ru_l2 (K : SM → Option (Int32 × SM)) : ∀ (m k fu : Nat) (g : Nat → Int32), k + m = 580 → m < fu → (∀ j, j < k → g j = σ 0 j) → ∃ g2, fm_rules_l2 K fu (nI k) (sf σ 12 g) = K (sf σ 12 g2) ∧ ∀ j, j < 580 → g2 j = σ 0 j := by
  intro m
  induction m with
  | zero =>
    intro k fu g hk hf hg
    obtain ⟨q, rfl⟩ : ∃ q, fu = q + 1 := ⟨fu - 1, by omega⟩
    unfold fm_rules_l2
    rw [if_pos (show (580 : Int32) ≤ nI k by rw [show (580 : Int32) = nI 580 from rfl, pb_le (by omega) (by omega)]; omega)]
    exact ⟨g, rfl, fun j hj => hg j (by omega)⟩
  | succ m ih =>
    intro k fu g hk hf hg
    obtain ⟨q, rfl⟩ : ∃ q, fu = q + 1 := ⟨fu - 1, by omega⟩
    rw [fm_rules_l2, if_neg (show ¬ (580 : Int32) ≤ nI k by rw [show (580 : Int32) = nI 580 from rfl, pb_le (by omega) (by omega)]; omega), pb_in (by omega) (by omega), pb_oc, pb_oc, qhl, pb_cl (by omega), pb_sfsf, sg_at, sg_ne (by decide), nI_a1]
    refine ih (k + 1) q _ (by omega) (by omega) (fun j hj => ?_)
    by_cases e : j = k
    · rw [e, up_eq]
    · rw [up_ne e]
      exact hg j (by omega)
theorem ru_l84 (K : SM → Option (Int32 × SM)) (hw : ¬ σ 10 0 = 0) : ∀ (m k fu : Nat) (g : Nat → Int32), k + m = 580 → m < fu → (∀ j, j < k → g j = σ 12 j) → ∃ g2, fm_rules_l84 K fu (nI k) (sf σ 0 g) = K (sf σ 0 g2) ∧ ∀ j, j < 580 → g2 j = σ 12 j := by
  intro m
  induction m with
  | zero =>
    intro k fu g hk hf hg
    obtain ⟨q, rfl⟩ : ∃ q, fu = q + 1 := ⟨fu - 1, by omega⟩
    unfold fm_rules_l84
    rw [if_pos (show (580 : Int32) ≤ nI k by rw [show (580 : Int32) = nI 580 from rfl, pb_le (by omega) (by omega)]; omega)]
    exact ⟨g, rfl, fun j hj => hg j (by omega)⟩
  | succ m ih =>
    intro k fu g hk hf hg
    obtain ⟨q, rfl⟩ : ∃ q, fu = q + 1 := ⟨fu - 1, by omega⟩
    rw [fm_rules_l84, if_neg (show ¬ (580 : Int32) ≤ nI k by rw [show (580 : Int32) = nI 580 from rfl, pb_le (by omega) (by omega)]; omega), if_neg (show ¬ (sf σ 0 g) 10 0 = 0 from hw), pb_in (by omega) (by omega), pb_oc, pb_oc, qhl, pb_cl (by omega), pb_sfsf, sg_at, sg_ne (by decide), nI_a1]
    refine ih (k + 1) q _ (by omega) (by omega) (fun j hj => ?_)
    by_cases e : j = k
    · rw [e, up_eq]
    · rw [up_ne e]
      exact hg j (by omega)
theorem nI_any (x : Int32) : ∃ o, x = nI o := ⟨x.toBitVec.toNat, by
  apply Int32.toBitVec_inj.mp
  apply BitVec.eq_of_toNat_eq
  rw [pk_tn (by have : x.toBitVec.toNat < 2 ^ 32 := x.toBitVec.isLt; omega)]⟩
/-- the town's numbers but the rules are as they were -/
theorem tw_new {f g : Nat → Int32} {pr' : List RU} (h : twM f v pr) (hv : vOK v) (hg : ∀ j, j ≠ 5 → j ≠ 7 → (j < 74 ∨ 106 ≤ j) → j < 130 → g j = f j) (h5 : g 5 = nI pr'.length) (hr : ruM g 0 0 pr') : twM g v pr' := by
  have b6 := hv.1
  have b18 := hv.2.2.2.2.2.2.2.2.2.2.2.1
  obtain ⟨a1, a2, a3, a4, a5, a6, a7, a8, a9, a10, a11, a12⟩ := h
  have e : ∀ j, j ≠ 5 → j ≠ 7 → (j < 74 ∨ 106 ≤ j) → j < 130 → g j = f j := hg
  refine ⟨?_, ?_, ?_, ?_, ?_, fun o ho => ?_, fun j hj => ?_, fun j hj => ?_, ?_, fun r hr i hi => ?_, h5, hr⟩
  · rw [e 0 (by omega) (by omega) (by omega) (by omega)]; exact a1
  · rw [e 1 (by omega) (by omega) (by omega) (by omega)]; exact a2
  · rw [e 2 (by omega) (by omega) (by omega) (by omega)]; exact a3
  · rw [e 8 (by omega) (by omega) (by omega) (by omega)]; exact a4
  · rw [e 9 (by omega) (by omega) (by omega) (by omega)]; exact a5
  · rw [e (10 + 6 * o) (by omega) (by omega) (by omega) (by omega), e (11 + 6 * o) (by omega) (by omega) (by omega) (by omega), e (12 + 6 * o) (by omega) (by omega) (by omega) (by omega), e (13 + 6 * o) (by omega) (by omega) (by omega) (by omega), e (14 + 6 * o) (by omega) (by omega) (by omega) (by omega), e (15 + 6 * o) (by omega) (by omega) (by omega) (by omega)]
    exact a6 o ho
  · rw [e (46 + j) (by omega) (by omega) (by omega) (by omega), e (52 + j) (by omega) (by omega) (by omega) (by omega)]
    exact a7 j hj
  · rw [e (58 + j) (by omega) (by omega) (by omega) (by omega)]
    exact a8 j hj
  · rw [e 6 (by omega) (by omega) (by omega) (by omega)]; exact a9
  · rw [e (106 + 4 * r + i) (by omega) (by omega) (by omega) (by omega)]
    exact a10 r hr i hi
theorem cpy_lo {f g : Nat → Int32} {n j : Nat} (h : j < n) : va_cpy f g 0 0 n j = f j := by
  unfold va_cpy
  rw [if_pos (by omega)]
  congr 1
  omega
theorem tc_new {υ : SC} {pr' : List RU} (h : twC τ 100 v pr) (he : ∀ k, 100 ≤ k → k < 120 → υ.1 k = τ.1 k) (h0 : υ.1 120 0 = nI pr'.length) (hr : ruC (υ.1 121) (υ.1 122) (υ.1 123) (υ.1 124) 0 0 pr') : twC υ 100 v pr' := by
  obtain ⟨a1, a2, a3, a4, a5, a6, a7, a8, a9, a10, a11, a12, a13, a14⟩ := h
  have e : ∀ k, 100 ≤ k → k < 120 → υ.1 k = τ.1 k := he
  refine ⟨?_, ?_, ?_, ?_, ?_, ?_, ?_, fun o ho => ?_, fun j hj => ?_, fun j hj => ?_, ?_, fun r hr i hi => ?_, h0, hr⟩
  · rw [e _ (by omega) (by omega)]; exact a1
  · rw [e _ (by omega) (by omega)]; exact a2
  · rw [e _ (by omega) (by omega)]; exact a3
  · rw [e _ (by omega) (by omega)]; exact a4
  · rw [e _ (by omega) (by omega)]; exact a5
  · rw [e _ (by omega) (by omega)]; exact a6
  · rw [e _ (by omega) (by omega)]; exact a7
  · rw [e (100 + 14) (by omega) (by omega), e (100 + 15) (by omega) (by omega), e (100 + 16) (by omega) (by omega), e (100 + 17) (by omega) (by omega)]; exact a8 o ho
  · rw [e (100 + 11) (by omega) (by omega), e (100 + 12) (by omega) (by omega)]; exact a9 j hj
  · rw [e _ (by omega) (by omega)]; exact a10 j hj
  · rw [e _ (by omega) (by omega)]; exact a11
  · rw [e _ (by omega) (by omega)]; exact a12 r hr i hi
theorem cp_ok (τ : SC) : ∃ υ, fc_ru_copyFrom_R0_R2 τ = some υ ∧ (∀ k, (k < 120 ∨ 125 ≤ k) → υ.1 k = τ.1 k) ∧ υ.2 = τ.2 ∧ υ.1 120 0 = τ.1 320 0 ∧ (∀ j, j < 8 → υ.1 121 j = τ.1 321 j) ∧ (∀ j, j < 8 → υ.1 122 j = τ.1 322 j) ∧ (∀ j, j < 8 → υ.1 123 j = τ.1 323 j) ∧ (∀ j, j < 200 → υ.1 124 j = τ.1 324 j) := by
  unfold fc_ru_copyFrom_R0_R2
  rw [qhl, qhl, qhl, qhl, qhl]
  refine ⟨_, rfl, fun k hk => ?_, rfl, rfl, fun j hj => cpy_lo hj, fun j hj => cpy_lo hj, fun j hj => cpy_lo hj, fun j hj => cpy_lo hj⟩
  rw [sc_ne (by omega), sc_ne (by omega), sc_ne (by omega), sc_ne (by omega), sc_ne (by omega)]
theorem st_rules (h : Inv τ σ) : stp (fc_hh_rules τ) (fm_rules σ) := by
  obtain ⟨⟨v, pr0, tt⟩, -, ⟨n, hn, ta1, ta2, ta3⟩, -⟩ := id h
  obtain ⟨t1, t2, t3, t4, t5, t6, t7⟩ := id tt
  -- the tape's bytes
  obtain ⟨b, hb⟩ : ∃ b : Nat → Nat, ∀ j, j < n → b j < 256 ∧ σ 4 j = nI (b j) ∧ τ.1 6 j = (nI (b j)).toInt8.toInt32 := ⟨fun j => if h : j < n then (ta3 j h).choose else 0, fun j hj => by
    show (if h : j < n then (ta3 j h).choose else 0) < 256 ∧ σ 4 j = nI (if h : j < n then (ta3 j h).choose else 0) ∧ τ.1 6 j = (nI (if h : j < n then (ta3 j h).choose else 0)).toInt8.toInt32
    rw [dif_pos hj]
    exact (ta3 j hj).choose_spec⟩
  have I0 := Inv_tape (g2 := σ 4) (h2 := τ.1 6) (c2 := fun _ => nI 0) (N := 0) h (by decide) rfl (fun j hj => absurd hj (Nat.not_lt_zero j))
  rw [sc_id, sf_id] at I0
  -- the class scans
  obtain ⟨τ2, cnt, s1, s2, s3, s4, s5, s6, s7, s8⟩ := scan_ok (τ := τ) (b := b) hn (fun j hj => ⟨(hb j hj).1, (hb j hj).2.2⟩)
  unfold fc_hh_rules fm_rules
  rw [ta2, s1, qbs, qhl]
  -- the reference begins
  obtain ⟨g2, l1, l2⟩ := ru_l2 (σ := σ) (fun σ => (hl (sf σ 0 (upd (σ 0) 5 (0 : Int32))) fun σ2 => (hl (sf σ2 0 (upd (σ2 0) 7 (0 : Int32))) fun σ3 => (hl (sf σ3 8 (fun _ => (0 : Int32))) fun σ4 => (hl (sf σ4 10 (fun _ => (0 : Int32))) fun σ5 => (Option.bind (fm_nextToken σ5) fun σ7 => (fm_rules_l56 (fun σ => (fm_rules_b77 σ)) hFU σ7))))))) 580 0 hFU (σ 12) rfl (by unfold hFU; omega) (fun j hj => absurd hj (Nat.not_lt_zero j))
  rw [sf_id, show nI 0 = (0 : Int32) from rfl] at l1
  rw [l1, qhl, qhl, qhl, qhl]
  obtain ⟨σb, hσb⟩ : ∃ σb, σb = sf (sf (sf (sf (sf σ 12 g2) 0 (upd ((sf σ 12 g2) 0) 5 (0 : Int32))) 0 (upd ((sf (sf σ 12 g2) 0 (upd ((sf σ 12 g2) 0) 5 (0 : Int32))) 0) 7 (0 : Int32))) 8 (fun _ => (0 : Int32))) 10 (fun _ => (0 : Int32)) := ⟨_, rfl⟩
  rw [← hσb]
  have b0 : σb 0 = upd (upd (σ 0) 5 0) 7 0 := by rw [hσb]; rfl
  have b12 : σb 12 = g2 := by rw [hσb]; rfl
  have b10 : σb 10 0 = 0 := by rw [hσb]; rfl
  have b8 : σb 8 0 = nI 0 := by rw [hσb]; rfl
  have bi : ∀ i, i ≠ 0 → i ≠ 8 → i ≠ 10 → i ≠ 12 → σb i = σ i := fun i a1 a2 a3 a4 => by
    rw [hσb, sg_ne a3, sg_ne a2, sg_ne a1, sg_ne a1, sg_ne a4]
  have TPb : TPm σb b n := ⟨by rw [bi 5 (by decide) (by decide) (by decide) (by decide)]; exact ta1, fun j hj => ⟨(hb j hj).1, by rw [bi 4 (by decide) (by decide) (by decide) (by decide)]; exact (hb j hj).2.1⟩⟩
  have B : BAS b n cnt (sc τ2 7 fun _ => (0 : Int32)) σb := ⟨hn, s5, TPb, ⟨s6.1, s6.2⟩, s4, s7, s8⟩
  obtain ⟨σ7, n1, n2, n3⟩ := nt_ok TPb hn (Nat.zero_le _) b8
  obtain ⟨o, ho⟩ := nI_any (σ7 11 0)
  have e70 := n2 0 (by decide) (by decide) (by decide) (by decide)
  have PM : PSm σb σ7 b n 0 o [] [] := ⟨FT.mp ⟨fun _ _ _ => rfl, fun _ _ _ _ _ => rfl⟩ n2, by rw [n2 10 (by decide) (by decide) (by decide) (by decide)]; exact b10, n3, ho, trivial, trivial, by rw [e70, b0, up_ne (by decide), up_eq]; rfl, by rw [e70, b0, up_eq]; rfl⟩
  rw [n1, qbs]
  unfold fc_rd_readAll fc_ru_clear_R2
  rw [qhl, qhl, qbs, qhl]
  obtain ⟨τa, hτa⟩ : ∃ τa, τa = sc (sc (sc (sc τ2 7 fun _ => (0 : Int32)) 320 fun _ => (0 : Int32)) 325 fun _ => (0 : Int32)) 306 (fun _ => (-1 : Int32)) := ⟨_, rfl⟩
  rw [← hτa]
  have FA : FCp (sc τ2 7 fun _ => (0 : Int32)) τa := by
    rw [hτa]
    exact FCp_sc (FCp_sc (FCp_sc ⟨fun _ _ => rfl, rfl⟩ (by omega)) (by omega)) (by omega)
  obtain ⟨τ5, d1, d2, d3, d4, d5, d6⟩ := adv_0 B FA (by rw [hτa]; rfl)
  have PC : PSc (sc τ2 7 fun _ => (0 : Int32)) τ5 b n 0 [] [] := ⟨d2, d3, d4, d5, trivial, trivial, by rw [d6 320 (by omega), hτa]; rfl, by rw [d6 325 (by omega), hτa]; rfl⟩
  rw [d1, qbs]
  have L := rules_l B (fun σ => (fm_rules_b77 σ)) (n - fr b n 0) 0 o hFU hFU [] τ5 σ7 (Nat.le_refl _) (by unfold hFU; omega) (by unfold hFU; omega) (Nat.zero_le _) PC PM ⟨Nat.zero_le _, Nat.zero_le _, Nat.zero_le _⟩ (fun q hq => absurd hq List.not_mem_nil)
  rw [show nI ([] : List RU).length = (0 : Int32) from rfl] at L
  -- frames
  have fC : ∀ τ', FCp (sc τ2 7 fun _ => (0 : Int32)) τ' → (∀ k, (k < 301 ∨ 326 ≤ k) → τ'.1 k = (sc τ 7 fun _ => nI 0).1 k) ∧ τ'.2 = τ.2 := by
    intro τ' hf
    refine ⟨fun k hk => ?_, hf.2.trans s3⟩
    rw [hf.1 k (by omega)]
    by_cases e : k = 7
    · rw [e, sc_at, sc_at]
      rfl
    · rw [sc_ne e, sc_ne e]
      exact s2 k (by omega) (by omega) (by omega) (by omega) (by omega)
  have fM : ∀ σ', FMp σb σ' → ∀ i, i ≠ 0 → (i < 6 ∨ 11 < i) → i ≠ 12 → σ' i = σ i := by
    intro σ' hf i a1 a2 a3
    rw [hf.1 i a1 a2]
    exact bi i a1 (by omega) (by omega) a3
  have fR : ∀ σ' f, FMp σb σ' → frM (sf σ 5 fun _ => nI 0) (sf (sf σ' 5 fun _ => (0 : Int32)) 0 f) := by
    intro σ' f hf
    have g := fM σ' hf
    exact ⟨g 1 (by decide) (by omega) (by decide), g 2 (by decide) (by omega) (by decide), g 4 (by decide) (by omega) (by decide), rfl, g 26 (by decide) (by omega) (by decide), g 27 (by decide) (by omega) (by decide), g 28 (by decide) (by omega) (by decide), g 29 (by decide) (by omega) (by decide), g 30 (by decide) (by omega) (by decide), g 31 (by decide) (by omega) (by decide), g 32 (by decide) (by omega) (by decide), g 33 (by decide) (by omega) (by decide), g 34 (by decide) (by omega) (by decide), g 35 (by decide) (by omega) (by decide)⟩
  rcases L with ⟨τ', σ', pr', i', o', r1, r2, r3, r4, r5, r6⟩ | ⟨τ', σ', r1, r2, i', r3, r4, r5, w⟩
  · rw [r1, r2, qbs, qhl, qhl, if_pos (show ¬ (1 : Int32) = 0 by decide)]
    obtain ⟨υ, c1, c2, c3, c4, c5, c6, c7, c8⟩ := cp_ok τ'
    obtain ⟨f1, f2⟩ := fC τ' r3.1
    have fn := fr_n (b := b) (n := n) i'
    rw [c1, qbs]
    have EM : fm_rules_b77 σ' = some (nI pr'.length, sf (sf σ' 5 fun _ => (0 : Int32)) 0 (σ' 0)) := by
      unfold fm_rules_b77
      rw [qhl]
      show fm_rules_l84 (fun σ => (fm_rules_b116 σ)) (999 + 1) (0 : Int32) (sf σ' 5 fun _ => (0 : Int32)) = _
      unfold fm_rules_l84 fm_rules_b116
      rw [if_neg (show ¬ (580 : Int32) ≤ 0 by decide), if_pos (show (sf σ' 5 fun _ => (0 : Int32)) 10 0 = 0 from r4.2.1), if_pos (show (sf σ' 5 fun _ => (0 : Int32)) 10 0 = 0 from r4.2.1), show (sf σ' 5 fun _ => (0 : Int32)) 0 5 = nI pr'.length from r4.2.2.2.2.2.2.1, show sf (sf σ' 5 fun _ => (0 : Int32)) 0 (σ' 0) = sf σ' 5 fun _ => (0 : Int32) from sf_id (sf σ' 5 fun _ => (0 : Int32)) 0]
    show stp _ (fm_rules_b77 σ')
    rw [EM, c4, r3.2.2.2.2.2.2.1]
    have e0 : ∀ j, j ≠ 5 → j ≠ 7 → (j < 74 ∨ 106 ≤ j) → j < 130 → σ' 0 j = σ 0 j := fun j a1 a2 a3 a4 => by
      rw [r4.1.2 j a1 a2 a3 a4, b0, up_ne a2, up_ne a1]
    have hv0 : vlen pr' + ([] : List RS).length = vlen pr' := Nat.add_zero _
    have hc0 : vclen pr' + clen ([] : List RS) = vclen pr' := Nat.add_zero _
    obtain ⟨z1, z2, z3⟩ := r5
    refine ⟨_, υ, _, rfl, rfl, Inv_fr I0 (fR σ' (σ' 0) r4.1) ⟨fun k hk => ?_, c3.trans f2⟩ ⟨v, pr', tw_new t1 t3 e0 r4.2.2.2.2.2.2.1 r4.2.2.2.2.1, tc_new t2 (fun k a1 a2 => ?_) (c4.trans r3.2.2.2.2.2.2.1) (ruC_cong3 c5 c6 c7 c8 pr' 0 0 (by omega) (by omega) r3.2.2.2.2.1), t3, ⟨z1, by omega, r6⟩, by omega, ?_, ?_⟩⟩
    · unfold rlC at hk
      rw [c2 k (by omega)]
      exact f1 k (by omega)
    · rw [c2 k (by omega), f1 k (by omega), sc_ne (by omega)]
    · show υ.1 104 0 = σ' 0 3
      rw [c2 104 (by omega), f1 104 (by omega), sc_ne (by omega), e0 3 (by omega) (by omega) (by omega) (by omega)]
      exact t6
    · show υ.1 109 0 = σ' 0 4
      rw [c2 109 (by omega), f1 109 (by omega), sc_ne (by omega), e0 4 (by omega) (by omega) (by omega) (by omega)]
      exact t7
  · rw [r1, r2, qbs, qhl, qhl, if_neg (show ¬ ¬ (0 : Int32) = 0 from fun z => z rfl)]
    obtain ⟨f1, f2⟩ := fC τ' r4
    have hw : ¬ (sf σ' 5 fun _ => (0 : Int32)) 10 0 = 0 := by
      show ¬ σ' 10 0 = 0
      rw [w.2.1]
      decide
    obtain ⟨g3, k1, k2⟩ := ru_l84 (σ := sf σ' 5 fun _ => (0 : Int32)) (fun σ => (fm_rules_b116 σ)) hw 580 0 hFU (σ' 0) rfl (by unfold hFU; omega) (fun j hj => absurd hj (Nat.not_lt_zero j))
    have EM : fm_rules_b77 σ' = some ((-100 : Int32) - nI (fr b n i'), sf (sf σ' 5 fun _ => (0 : Int32)) 0 g3) := by
      unfold fm_rules_b77
      rw [qhl]
      rw [show sf (sf σ' 5 fun _ => (0 : Int32)) 0 (σ' 0) = sf σ' 5 fun _ => (0 : Int32) from sf_id (sf σ' 5 fun _ => (0 : Int32)) 0, show nI 0 = (0 : Int32) from rfl] at k1
      rw [k1]
      show fm_rules_b116 (sf (sf σ' 5 fun _ => (0 : Int32)) 0 g3) = _
      unfold fm_rules_b116
      rw [if_neg (show ¬ (sf (sf σ' 5 fun _ => (0 : Int32)) 0 g3) 10 0 = 0 from hw), show (sf (sf σ' 5 fun _ => (0 : Int32)) 0 g3) 7 0 = nI (fr b n i') from w.2.2.2.1]
    show stp _ (fm_rules_b77 σ')
    rw [EM, r5]
    have e0 : ∀ j, j < 580 → g3 j = σ 0 j := fun j hj => by
      rw [k2 j hj]
      show σ' 12 j = _
      rw [w.1.1 12 (by decide) (by omega), b12]
      exact l2 j hj
    refine ⟨_, τ', _, rfl, rfl, Inv_fr I0 (fR σ' g3 w.1) ⟨fun k hk => ?_, f2⟩ ⟨v, pr0, twM_cg e0 t3 t4 t1, twC_cg (fun k a1 a2 => ?_) t2, t3, t4, t5, ?_, ?_⟩⟩
    · unfold rlC at hk
      exact f1 k (by omega)
    · rw [f1 k (by omega), sc_ne (by omega)]
    · show τ'.1 104 0 = g3 3
      rw [f1 104 (by omega), sc_ne (by omega), e0 3 (by omega)]
      exact t6
    · show τ'.1 109 0 = g3 4
      rw [f1 109 (by omega), sc_ne (by omega), e0 4 (by omega)]
      exact t7
end RS7
