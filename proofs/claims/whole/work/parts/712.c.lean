abbrev ro_bo_thanks_G4 : Room := { frames := 2, cells := 0, slots := 0, locals := 44 }
def fc_bo_thanks_G4 (x2 : Int32) (τ : SC) : Option (Int32 × SC) := (Option.bind (fc_vo_begin (40 : Int32) τ) fun τ2 => (Option.bind (fc_gu_thanks_G4 x2 τ2) fun p_ => hl p_.1 fun q3 => hl p_.2 fun τ4 => (some (((1 : Int32) - q3), τ4))))
set_option maxHeartbeats 4000000 in
set_option maxRecDepth 100000 in
theorem xc_bo_thanks_G4 {l : Launch} {D : va_G} {cs : Nat → ClassId} {sK sV : Nat → Nat} {tA : Nat} {ad : Nat → Nat} {τ : SC} {x2 : Int32} {r : Int32} {υ : SC} (hf : fc_bo_thanks_G4 x2 τ = some (r, υ)) : ctI l (wC ad cs) D vwCl (kC D cs sK sV tA) yX1_thanks cX1_thanks 3 .int ro_bo_thanks_G4 [.ref (ad 144), .ref (ad 530), .int x2] τ r υ := by
  refine ct_I RX1 (by decide +kernel) rfl (Nat.le_of_ble_eq_true rfl) ?_
  intro p e s m args below meth c A X hK hA
  refine gr_eqL (L2 := [(0, .ref (ad 144)), (1, .ref (ad 530)), (2, .int x2)]) rfl ?_
  unfold fc_bo_thanks_G4 at hf
  refine gr_aload_n X dX1_thanks_0 rfl 1 rfl ?_
  refine gr_bipush (v := 40) X dX1_thanks_1 (by decide) ?_
  obtain ⟨τ2, hq_, hf⟩ := ot_b hf
  refine gc_Vv (rest := []) X kC_ok hK hA cw1_20 (rvC_VO hK) (xc_vo_begin hq_) rfl ⟨rfl, rfl, Nat.le_of_ble_eq_true rfl, Nat.le_of_ble_eq_true rfl⟩ rfl (Nat.le_of_ble_eq_true rfl) dX1_thanks_3 ?_
  refine gr_iconst (v := 1) X dX1_thanks_6 (by decide) ?_
  refine gr_aload_n X dX1_thanks_7 rfl 0 rfl ?_
  refine gr_aload_n X dX1_thanks_8 rfl 1 rfl ?_
  refine gr_iload_n X dX1_thanks_9 rfl 2 rfl ?_
  obtain ⟨⟨q3, τ4⟩, hq_, hf⟩ := ot_b hf
  replace hf := ot_l (y := q3) hf rfl
  replace hf := ot_l (y := τ4) hf rfl
  refine gc_Pi (rest := [.int (1 : Int32)]) X kC_ok hK hA cw1_26 (hK.1.1 1 _ rfl).2 (rvC_G4 hK) (xc_gu_thanks_G4 hq_) rfl ⟨rfl, rfl, Nat.le_of_ble_eq_true rfl, Nat.le_of_ble_eq_true rfl⟩ rfl (Nat.le_of_ble_eq_true rfl) dX1_thanks_10 ?_
  refine gr_isub X dX1_thanks_13 ?_
  exact gr_iret X dX1_thanks_14 (Prod.mk.inj (Option.some.inj hf)).1 (Prod.mk.inj (Option.some.inj hf)).2
abbrev ro_gu_thanks_G5 : Room := { frames := 1, cells := 0, slots := 0, locals := 21 }
def fc_gu_thanks_G5 (x2 : Int32) (τ : SC) : Option (Int32 × SC) := (Option.bind (fc_vo_begin (12 : Int32) τ) fun τ2 => (hl ((τ2.1 501 0) - (τ2.1 500 0)) fun v3 => (if ¬ v3 = 0 then (oc (decide (¬ v3 = 0)) (some ((hrem x2 v3), τ2))) else (hl (sc τ2 502 (fun _ => (1 : Int32))) fun τ4 => (some ((0 : Int32), τ4))))))
set_option maxHeartbeats 4000000 in
set_option maxRecDepth 100000 in
theorem xc_gu_thanks_G5 {l : Launch} {D : va_G} {cs : Nat → ClassId} {sK sV : Nat → Nat} {tA : Nat} {ad : Nat → Nat} {τ : SC} {x2 : Int32} {r : Int32} {υ : SC} (hf : fc_gu_thanks_G5 x2 τ = some (r, υ)) : ctI l (wC ad cs) D vwCl (kC D cs sK sV tA) yX4_thanks cX4_thanks 4 .int ro_gu_thanks_G5 [.ref (ad 145), .ref (ad 530), .int x2] τ r υ := by
  refine ct_I RX4 (by decide +kernel) rfl (Nat.le_of_ble_eq_true rfl) ?_
  intro p e s m args below meth c A X hK hA
  refine gr_eqL (L2 := [(0, .ref (ad 145)), (1, .ref (ad 530)), (2, .int x2)]) rfl ?_
  unfold fc_gu_thanks_G5 at hf
  refine gr_aload_n X dX4_thanks_0 rfl 1 rfl ?_
  refine gr_bipush (v := 12) X dX4_thanks_1 (by decide) ?_
  obtain ⟨τ2, hq_, hf⟩ := ot_b hf
  refine gc_Vv (rest := []) X kC_ok hK hA cw4_7 (rvC_VO hK) (xc_vo_begin hq_) rfl ⟨rfl, rfl, Nat.le_of_ble_eq_true rfl, Nat.le_of_ble_eq_true rfl⟩ rfl (Nat.le_of_ble_eq_true rfl) dX4_thanks_3 ?_
  refine gr_aload_n X dX4_thanks_6 rfl 1 rfl ?_
  refine gC_get_VO_1 X hK fk4_23 dX4_thanks_7 ?_
  refine gr_aload_n X dX4_thanks_10 rfl 1 rfl ?_
  refine gC_get_VO_0 X hK fk4_13 dX4_thanks_11 ?_
  refine gr_isub X dX4_thanks_14 ?_
  refine gC_top (fun v3 e_v3 => ?_)
  replace hf := ot_l hf e_v3
  refine gr_istore_n (L2 := [(3, .int v3), (0, .ref (ad 145)), (1, .ref (ad 530)), (2, .int x2)]) X dX4_thanks_15 rfl (by decide) rfl ?_
  refine gr_iload_n X dX4_thanks_16 rfl 0 rfl ?_
  refine gr_if_ne X 27 dX4_thanks_17 (by decide) (fun hc_ => ?_) (fun hc_ => ?_)
  · replace hf := ot_t hf hc_
    refine gr_iload_n X dX4_thanks_27 rfl 3 rfl ?_
    refine gr_iload_n X dX4_thanks_28 rfl 0 rfl ?_
    have hc_ := of_decide_eq_true (oc_1 hf)
    replace hf := oc_2 hf
    refine gr_irem X dX4_thanks_29 hc_ ?_
    exact gr_iret X dX4_thanks_30 (Prod.mk.inj (Option.some.inj hf)).1 (Prod.mk.inj (Option.some.inj hf)).2
  · replace hf := ot_f hf hc_
    refine gr_aload_n X dX4_thanks_20 rfl 2 rfl ?_
    refine gr_iconst (v := 1) X dX4_thanks_21 (by decide) ?_
    refine gC_put_VO_2 X hK (by decide) fk4_26 dX4_thanks_22 ?_
    refine gC_gen (fun τ4 e_τ4 => ?_)
    replace hf := ot_l hf e_τ4
    refine gr_iconst (v := 0) X dX4_thanks_25 (by decide) ?_
    exact gr_iret X dX4_thanks_26 (Prod.mk.inj (Option.some.inj hf)).1 (Prod.mk.inj (Option.some.inj hf)).2
abbrev ro_bo_thanks_G5 : Room := { frames := 2, cells := 0, slots := 0, locals := 44 }
def fc_bo_thanks_G5 (x2 : Int32) (τ : SC) : Option (Int32 × SC) := (Option.bind (fc_vo_begin (40 : Int32) τ) fun τ2 => (Option.bind (fc_gu_thanks_G5 x2 τ2) fun p_ => hl p_.1 fun q3 => hl p_.2 fun τ4 => (some (((1 : Int32) - q3), τ4))))
set_option maxHeartbeats 4000000 in
set_option maxRecDepth 100000 in
theorem xc_bo_thanks_G5 {l : Launch} {D : va_G} {cs : Nat → ClassId} {sK sV : Nat → Nat} {tA : Nat} {ad : Nat → Nat} {τ : SC} {x2 : Int32} {r : Int32} {υ : SC} (hf : fc_bo_thanks_G5 x2 τ = some (r, υ)) : ctI l (wC ad cs) D vwCl (kC D cs sK sV tA) yX1_thanks cX1_thanks 3 .int ro_bo_thanks_G5 [.ref (ad 145), .ref (ad 530), .int x2] τ r υ := by
  refine ct_I RX1 (by decide +kernel) rfl (Nat.le_of_ble_eq_true rfl) ?_
  intro p e s m args below meth c A X hK hA
  refine gr_eqL (L2 := [(0, .ref (ad 145)), (1, .ref (ad 530)), (2, .int x2)]) rfl ?_
  unfold fc_bo_thanks_G5 at hf
  refine gr_aload_n X dX1_thanks_0 rfl 1 rfl ?_
  refine gr_bipush (v := 40) X dX1_thanks_1 (by decide) ?_
  obtain ⟨τ2, hq_, hf⟩ := ot_b hf
  refine gc_Vv (rest := []) X kC_ok hK hA cw1_20 (rvC_VO hK) (xc_vo_begin hq_) rfl ⟨rfl, rfl, Nat.le_of_ble_eq_true rfl, Nat.le_of_ble_eq_true rfl⟩ rfl (Nat.le_of_ble_eq_true rfl) dX1_thanks_3 ?_
  refine gr_iconst (v := 1) X dX1_thanks_6 (by decide) ?_
  refine gr_aload_n X dX1_thanks_7 rfl 0 rfl ?_
  refine gr_aload_n X dX1_thanks_8 rfl 1 rfl ?_
  refine gr_iload_n X dX1_thanks_9 rfl 2 rfl ?_
  obtain ⟨⟨q3, τ4⟩, hq_, hf⟩ := ot_b hf
  replace hf := ot_l (y := q3) hf rfl
  replace hf := ot_l (y := τ4) hf rfl
  refine gc_Pi (rest := [.int (1 : Int32)]) X kC_ok hK hA cw1_26 (hK.1.1 2 _ rfl).2 (rvC_G5 hK) (xc_gu_thanks_G5 hq_) rfl ⟨rfl, rfl, Nat.le_of_ble_eq_true rfl, Nat.le_of_ble_eq_true rfl⟩ rfl (Nat.le_of_ble_eq_true rfl) dX1_thanks_10 ?_
  refine gr_isub X dX1_thanks_13 ?_
  exact gr_iret X dX1_thanks_14 (Prod.mk.inj (Option.some.inj hf)).1 (Prod.mk.inj (Option.some.inj hf)).2
abbrev ro_ca_thanks_G5 : Room := { frames := 3, cells := 0, slots := 0, locals := 66 }
def fc_ca_thanks_G5 (x2 : Int32) (τ : SC) : Option (Int32 × SC) := (Option.bind (fc_vo_begin (61 : Int32) τ) fun τ2 => (Option.bind (fc_bo_thanks_G5 x2 τ2) fun p_ => hl p_.1 fun q3 => hl p_.2 fun τ4 => (Option.bind (fc_gu_knocks_G5 (τ4.1 501 0) τ4) fun p_ => hl p_.1 fun q5 => hl p_.2 fun τ6 => (some ((q3 + q5), τ6)))))
set_option maxHeartbeats 4000000 in
set_option maxRecDepth 100000 in
theorem xc_ca_thanks_G5 {l : Launch} {D : va_G} {cs : Nat → ClassId} {sK sV : Nat → Nat} {tA : Nat} {ad : Nat → Nat} {τ : SC} {x2 : Int32} {r : Int32} {υ : SC} (hf : fc_ca_thanks_G5 x2 τ = some (r, υ)) : ctI l (wC ad cs) D vwCl (kC D cs sK sV tA) yX2_thanks cX2_thanks 3 .int ro_ca_thanks_G5 [.ref (ad 145), .ref (ad 530), .int x2] τ r υ := by
  refine ct_I RX2 (by decide +kernel) rfl (Nat.le_of_ble_eq_true rfl) ?_
  intro p e s m args below meth c A X hK hA
  refine gr_eqL (L2 := [(0, .ref (ad 145)), (1, .ref (ad 530)), (2, .int x2)]) rfl ?_
  unfold fc_ca_thanks_G5 at hf
  refine gr_aload_n X dX2_thanks_0 rfl 1 rfl ?_
  refine gr_bipush (v := 61) X dX2_thanks_1 (by decide) ?_
  obtain ⟨τ2, hq_, hf⟩ := ot_b hf
  refine gc_Vv (rest := []) X kC_ok hK hA cw2_15 (rvC_VO hK) (xc_vo_begin hq_) rfl ⟨rfl, rfl, Nat.le_of_ble_eq_true rfl, Nat.le_of_ble_eq_true rfl⟩ rfl (Nat.le_of_ble_eq_true rfl) dX2_thanks_3 ?_
  refine gr_aload_n X dX2_thanks_6 rfl 0 rfl ?_
  refine gr_aload_n X dX2_thanks_7 rfl 1 rfl ?_
  refine gr_iload_n X dX2_thanks_8 rfl 2 rfl ?_
  obtain ⟨⟨q3, τ4⟩, hq_, hf⟩ := ot_b hf
  replace hf := ot_l (y := q3) hf rfl
  replace hf := ot_l (y := τ4) hf rfl
  refine gc_Pi (rest := []) X kC_ok hK hA cw2_29 (hK.1.1 2 _ rfl).2 (rvC_G5 hK) (xc_bo_thanks_G5 hq_) rfl ⟨rfl, rfl, Nat.le_of_ble_eq_true rfl, Nat.le_of_ble_eq_true rfl⟩ rfl (Nat.le_of_ble_eq_true rfl) dX2_thanks_9 ?_
  refine gr_aload_n X dX2_thanks_12 rfl 0 rfl ?_
  refine gr_aload_n X dX2_thanks_13 rfl 1 rfl ?_
  refine gr_aload_n X dX2_thanks_14 rfl 1 rfl ?_
  refine gC_get_VO_1 X hK fk2_32 dX2_thanks_15 ?_
  obtain ⟨⟨q5, τ6⟩, hq_, hf⟩ := ot_b hf
  replace hf := ot_l (y := q5) hf rfl
  replace hf := ot_l (y := τ6) hf rfl
  refine gc_Ui (rest := [.int q3]) X kC_ok hK hA cu2_35_2 (rvC_G5 hK) (xc_gu_knocks_G5 hq_) rfl ⟨rfl, rfl, Nat.le_of_ble_eq_true rfl, Nat.le_of_ble_eq_true rfl⟩ rfl (Nat.le_of_ble_eq_true rfl) dX2_thanks_18 ?_
  refine gr_iadd X dX2_thanks_21 ?_
  exact gr_iret X dX2_thanks_22 (Prod.mk.inj (Option.some.inj hf)).1 (Prod.mk.inj (Option.some.inj hf)).2
def fN_thanks (n : Nat) (x1 : Int32) (τ : SC) : Option (Int32 × SC) := (if n = 0 then fc_gu_thanks_G0 x1 τ else (if n = 1 then fc_gu_thanks_G1 x1 τ else (if n = 2 then fc_gu_thanks_G2 x1 τ else (if n = 3 then fc_gu_thanks_G3 x1 τ else (if n = 4 then fc_bo_thanks_G4 x1 τ else (if n = 5 then fc_ca_thanks_G5 x1 τ else none))))))
set_option maxHeartbeats 4000000 in
theorem gN11_366 {p : Program} {l : Launch} {e : Env} {R : Room} {s : State} {m : MethodId} {args : Array Value} {below : List Frame} {meth : Method} {c : Code} {A : Nat → Prop} {D : va_G} {cs : Nat → ClassId} {sK sV : Nat → Nat} {tA : Nat} {ad : Nat → Nat} {cc : ByteArray} {ret : Option FieldType} {pc nL : Nat} {L : List (Nat × Value)} {Q : State → Prop} {rest st0 : List Value} {τ υ : SC} {n : Nat} {x1 : Int32} {r : Int32} (X : hc p s m args meth c RX11 cc nL ret) (hK : kC D cs sK sV tA A s) (hA : ∀ q, s.heap.size ≤ q → A q) (hf : fN_thanks n x1 τ = some (r, υ)) (hst : st0 = [.int x1, .ref (ad 530)] ++ .ref (ad (140 + n)) :: rest) (hR : 4 ≤ R.frames ∧ 88 ≤ R.locals) (hcat : (rest.map fun v => v.category).sum ≤ 8) (hdg : decode cc pc = .ok (.invokevirtual 366, 3)) (kk : gg p l e R s m args below meth c (wC ad cs) D vwCl A nL Q (pc + 3) L (.int r :: rest) υ) : gg p l e R s m args below meth c (wC ad cs) D vwCl A nL Q pc L st0 τ := by
  subst hst
  unfold fN_thanks at hf
  by_cases h0 : n = 0
  · subst h0
    replace hf := ot_t hf rfl
    exact gc_Ui (rest := rest) (As := [.ref (ad 530), .int x1]) (b := ad 140) X kC_ok hK hA cu11_366_4 (rvC_G0 hK) (xc_gu_thanks_G0 hf) rfl ⟨rfl, rfl, Nat.le_trans (Nat.le_of_ble_eq_true rfl) hR.1, Nat.le_trans (Nat.le_of_ble_eq_true rfl) hR.2⟩ rfl hcat hdg kk
  replace hf := ot_f hf h0
  by_cases h1 : n = 1
  · subst h1
    replace hf := ot_t hf rfl
    exact gc_Ui (rest := rest) (As := [.ref (ad 530), .int x1]) (b := ad 141) X kC_ok hK hA cu11_366_0 (rvC_G1 hK) (xc_gu_thanks_G1 hf) rfl ⟨rfl, rfl, Nat.le_trans (Nat.le_of_ble_eq_true rfl) hR.1, Nat.le_trans (Nat.le_of_ble_eq_true rfl) hR.2⟩ rfl hcat hdg kk
  replace hf := ot_f hf h1
  by_cases h2 : n = 2
  · subst h2
    replace hf := ot_t hf rfl
    exact gc_Ui (rest := rest) (As := [.ref (ad 530), .int x1]) (b := ad 142) X kC_ok hK hA cu11_366_5 (rvC_G2 hK) (xc_gu_thanks_G2 hf) rfl ⟨rfl, rfl, Nat.le_trans (Nat.le_of_ble_eq_true rfl) hR.1, Nat.le_trans (Nat.le_of_ble_eq_true rfl) hR.2⟩ rfl hcat hdg kk
  replace hf := ot_f hf h2
  by_cases h3 : n = 3
  · subst h3
    replace hf := ot_t hf rfl
    exact gc_Ui (rest := rest) (As := [.ref (ad 530), .int x1]) (b := ad 143) X kC_ok hK hA cu11_366_3 (rvC_G3 hK) (xc_gu_thanks_G3 hf) rfl ⟨rfl, rfl, Nat.le_trans (Nat.le_of_ble_eq_true rfl) hR.1, Nat.le_trans (Nat.le_of_ble_eq_true rfl) hR.2⟩ rfl hcat hdg kk
  replace hf := ot_f hf h3
  by_cases h4 : n = 4
  · subst h4
    replace hf := ot_t hf rfl
    exact gc_Ui (rest := rest) (As := [.ref (ad 530), .int x1]) (b := ad 144) X kC_ok hK hA cu11_366_1 (rvC_G4 hK) (xc_bo_thanks_G4 hf) rfl ⟨rfl, rfl, Nat.le_trans (Nat.le_of_ble_eq_true rfl) hR.1, Nat.le_trans (Nat.le_of_ble_eq_true rfl) hR.2⟩ rfl hcat hdg kk
  replace hf := ot_f hf h4
  by_cases h5 : n = 5
  · subst h5
    replace hf := ot_t hf rfl
    exact gc_Ui (rest := rest) (As := [.ref (ad 530), .int x1]) (b := ad 145) X kC_ok hK hA cu11_366_2 (rvC_G5 hK) (xc_ca_thanks_G5 hf) rfl ⟨rfl, rfl, Nat.le_trans (Nat.le_of_ble_eq_true rfl) hR.1, Nat.le_trans (Nat.le_of_ble_eq_true rfl) hR.2⟩ rfl hcat hdg kk
  replace hf := ot_f hf h5
  cases hf
abbrev ro_gu_deals_G0 : Room := { frames := 3, cells := 0, slots := 0, locals := 65 }
def fc_gu_deals_G0 (x2 : Int32) (τ : SC) : Option (Int32 × SC) := (Option.bind (fc_vo_begin (13 : Int32) τ) fun τ2 => (Option.bind (fc_gu_tells_G0 x2 τ2) fun p_ => hl p_.1 fun q3 => hl p_.2 fun τ4 => (Option.bind (fc_gu_thanks_G0 x2 τ4) fun p_ => hl p_.1 fun q5 => hl p_.2 fun τ6 => (some ((q3 ^^^ q5), τ6)))))
set_option maxHeartbeats 4000000 in
set_option maxRecDepth 100000 in
theorem xc_gu_deals_G0 {l : Launch} {D : va_G} {cs : Nat → ClassId} {sK sV : Nat → Nat} {tA : Nat} {ad : Nat → Nat} {τ : SC} {x2 : Int32} {r : Int32} {υ : SC} (hf : fc_gu_deals_G0 x2 τ = some (r, υ)) : ctI l (wC ad cs) D vwCl (kC D cs sK sV tA) yX4_deals cX4_deals 3 .int ro_gu_deals_G0 [.ref (ad 140), .ref (ad 530), .int x2] τ r υ := by
  refine ct_I RX4 (by decide +kernel) rfl (Nat.le_of_ble_eq_true rfl) ?_
  intro p e s m args below meth c A X hK hA
  refine gr_eqL (L2 := [(0, .ref (ad 140)), (1, .ref (ad 530)), (2, .int x2)]) rfl ?_
  unfold fc_gu_deals_G0 at hf
  refine gr_aload_n X dX4_deals_0 rfl 1 rfl ?_
  refine gr_bipush (v := 13) X dX4_deals_1 (by decide) ?_
  obtain ⟨τ2, hq_, hf⟩ := ot_b hf
  refine gc_Vv (rest := []) X kC_ok hK hA cw4_7 (rvC_VO hK) (xc_vo_begin hq_) rfl ⟨rfl, rfl, Nat.le_of_ble_eq_true rfl, Nat.le_of_ble_eq_true rfl⟩ rfl (Nat.le_of_ble_eq_true rfl) dX4_deals_3 ?_
  refine gr_aload_n X dX4_deals_6 rfl 0 rfl ?_
  refine gr_aload_n X dX4_deals_7 rfl 1 rfl ?_
  refine gr_iload_n X dX4_deals_8 rfl 2 rfl ?_
  obtain ⟨⟨q3, τ4⟩, hq_, hf⟩ := ot_b hf
  replace hf := ot_l (y := q3) hf rfl
  replace hf := ot_l (y := τ4) hf rfl
  refine gc_Ui (rest := []) X kC_ok hK hA cu4_30_4 (rvC_G0 hK) (xc_gu_tells_G0 hq_) rfl ⟨rfl, rfl, Nat.le_of_ble_eq_true rfl, Nat.le_of_ble_eq_true rfl⟩ rfl (Nat.le_of_ble_eq_true rfl) dX4_deals_9 ?_
  refine gr_aload_n X dX4_deals_12 rfl 0 rfl ?_
  refine gr_aload_n X dX4_deals_13 rfl 1 rfl ?_
  refine gr_iload_n X dX4_deals_14 rfl 2 rfl ?_
  obtain ⟨⟨q5, τ6⟩, hq_, hf⟩ := ot_b hf
  replace hf := ot_l (y := q5) hf rfl
  replace hf := ot_l (y := τ6) hf rfl
  refine gc_Ui (rest := [.int q3]) X kC_ok hK hA cu4_33_4 (rvC_G0 hK) (xc_gu_thanks_G0 hq_) rfl ⟨rfl, rfl, Nat.le_of_ble_eq_true rfl, Nat.le_of_ble_eq_true rfl⟩ rfl (Nat.le_of_ble_eq_true rfl) dX4_deals_15 ?_
  refine gr_ixor X dX4_deals_18 ?_
  exact gr_iret X dX4_deals_19 (Prod.mk.inj (Option.some.inj hf)).1 (Prod.mk.inj (Option.some.inj hf)).2
abbrev ro_gu_deals_G1 : Room := { frames := 4, cells := 0, slots := 0, locals := 87 }
def fc_gu_deals_G1 (x2 : Int32) (τ : SC) : Option (Int32 × SC) := (Option.bind (fc_vo_begin (13 : Int32) τ) fun τ2 => (Option.bind (fc_gu_tells_G1 x2 τ2) fun p_ => hl p_.1 fun q3 => hl p_.2 fun τ4 => (Option.bind (fc_gu_thanks_G1 x2 τ4) fun p_ => hl p_.1 fun q5 => hl p_.2 fun τ6 => (some ((q3 ^^^ q5), τ6)))))
set_option maxHeartbeats 4000000 in
set_option maxRecDepth 100000 in
theorem xc_gu_deals_G1 {l : Launch} {D : va_G} {cs : Nat → ClassId} {sK sV : Nat → Nat} {tA : Nat} {ad : Nat → Nat} {τ : SC} {x2 : Int32} {r : Int32} {υ : SC} (hf : fc_gu_deals_G1 x2 τ = some (r, υ)) : ctI l (wC ad cs) D vwCl (kC D cs sK sV tA) yX4_deals cX4_deals 3 .int ro_gu_deals_G1 [.ref (ad 141), .ref (ad 530), .int x2] τ r υ := by
  refine ct_I RX4 (by decide +kernel) rfl (Nat.le_of_ble_eq_true rfl) ?_
  intro p e s m args below meth c A X hK hA
  refine gr_eqL (L2 := [(0, .ref (ad 141)), (1, .ref (ad 530)), (2, .int x2)]) rfl ?_
  unfold fc_gu_deals_G1 at hf
  refine gr_aload_n X dX4_deals_0 rfl 1 rfl ?_
  refine gr_bipush (v := 13) X dX4_deals_1 (by decide) ?_
  obtain ⟨τ2, hq_, hf⟩ := ot_b hf
  refine gc_Vv (rest := []) X kC_ok hK hA cw4_7 (rvC_VO hK) (xc_vo_begin hq_) rfl ⟨rfl, rfl, Nat.le_of_ble_eq_true rfl, Nat.le_of_ble_eq_true rfl⟩ rfl (Nat.le_of_ble_eq_true rfl) dX4_deals_3 ?_
  refine gr_aload_n X dX4_deals_6 rfl 0 rfl ?_
  refine gr_aload_n X dX4_deals_7 rfl 1 rfl ?_
  refine gr_iload_n X dX4_deals_8 rfl 2 rfl ?_
  obtain ⟨⟨q3, τ4⟩, hq_, hf⟩ := ot_b hf
  replace hf := ot_l (y := q3) hf rfl
  replace hf := ot_l (y := τ4) hf rfl
  refine gc_Ui (rest := []) X kC_ok hK hA cu4_30_0 (rvC_G1 hK) (xc_gu_tells_G1 hq_) rfl ⟨rfl, rfl, Nat.le_of_ble_eq_true rfl, Nat.le_of_ble_eq_true rfl⟩ rfl (Nat.le_of_ble_eq_true rfl) dX4_deals_9 ?_
  refine gr_aload_n X dX4_deals_12 rfl 0 rfl ?_
  refine gr_aload_n X dX4_deals_13 rfl 1 rfl ?_
  refine gr_iload_n X dX4_deals_14 rfl 2 rfl ?_
  obtain ⟨⟨q5, τ6⟩, hq_, hf⟩ := ot_b hf
  replace hf := ot_l (y := q5) hf rfl
  replace hf := ot_l (y := τ6) hf rfl
  refine gc_Ui (rest := [.int q3]) X kC_ok hK hA cu4_33_0 (rvC_G1 hK) (xc_gu_thanks_G1 hq_) rfl ⟨rfl, rfl, Nat.le_of_ble_eq_true rfl, Nat.le_of_ble_eq_true rfl⟩ rfl (Nat.le_of_ble_eq_true rfl) dX4_deals_15 ?_
  refine gr_ixor X dX4_deals_18 ?_
  exact gr_iret X dX4_deals_19 (Prod.mk.inj (Option.some.inj hf)).1 (Prod.mk.inj (Option.some.inj hf)).2
abbrev ro_gu_deals_G2 : Room := { frames := 4, cells := 0, slots := 0, locals := 87 }
def fc_gu_deals_G2 (x2 : Int32) (τ : SC) : Option (Int32 × SC) := (Option.bind (fc_vo_begin (13 : Int32) τ) fun τ2 => (Option.bind (fc_la_tells_G2 x2 τ2) fun p_ => hl p_.1 fun q3 => hl p_.2 fun τ4 => (Option.bind (fc_gu_thanks_G2 x2 τ4) fun p_ => hl p_.1 fun q5 => hl p_.2 fun τ6 => (some ((q3 ^^^ q5), τ6)))))
set_option maxHeartbeats 4000000 in
set_option maxRecDepth 100000 in
theorem xc_gu_deals_G2 {l : Launch} {D : va_G} {cs : Nat → ClassId} {sK sV : Nat → Nat} {tA : Nat} {ad : Nat → Nat} {τ : SC} {x2 : Int32} {r : Int32} {υ : SC} (hf : fc_gu_deals_G2 x2 τ = some (r, υ)) : ctI l (wC ad cs) D vwCl (kC D cs sK sV tA) yX4_deals cX4_deals 3 .int ro_gu_deals_G2 [.ref (ad 142), .ref (ad 530), .int x2] τ r υ := by
  refine ct_I RX4 (by decide +kernel) rfl (Nat.le_of_ble_eq_true rfl) ?_
  intro p e s m args below meth c A X hK hA
  refine gr_eqL (L2 := [(0, .ref (ad 142)), (1, .ref (ad 530)), (2, .int x2)]) rfl ?_
  unfold fc_gu_deals_G2 at hf
  refine gr_aload_n X dX4_deals_0 rfl 1 rfl ?_
  refine gr_bipush (v := 13) X dX4_deals_1 (by decide) ?_
  obtain ⟨τ2, hq_, hf⟩ := ot_b hf
  refine gc_Vv (rest := []) X kC_ok hK hA cw4_7 (rvC_VO hK) (xc_vo_begin hq_) rfl ⟨rfl, rfl, Nat.le_of_ble_eq_true rfl, Nat.le_of_ble_eq_true rfl⟩ rfl (Nat.le_of_ble_eq_true rfl) dX4_deals_3 ?_
  refine gr_aload_n X dX4_deals_6 rfl 0 rfl ?_
  refine gr_aload_n X dX4_deals_7 rfl 1 rfl ?_
  refine gr_iload_n X dX4_deals_8 rfl 2 rfl ?_
  obtain ⟨⟨q3, τ4⟩, hq_, hf⟩ := ot_b hf
  replace hf := ot_l (y := q3) hf rfl
  replace hf := ot_l (y := τ4) hf rfl
  refine gc_Ui (rest := []) X kC_ok hK hA cu4_30_5 (rvC_G2 hK) (xc_la_tells_G2 hq_) rfl ⟨rfl, rfl, Nat.le_of_ble_eq_true rfl, Nat.le_of_ble_eq_true rfl⟩ rfl (Nat.le_of_ble_eq_true rfl) dX4_deals_9 ?_
  refine gr_aload_n X dX4_deals_12 rfl 0 rfl ?_
  refine gr_aload_n X dX4_deals_13 rfl 1 rfl ?_
  refine gr_iload_n X dX4_deals_14 rfl 2 rfl ?_
  obtain ⟨⟨q5, τ6⟩, hq_, hf⟩ := ot_b hf
  replace hf := ot_l (y := q5) hf rfl
  replace hf := ot_l (y := τ6) hf rfl
  refine gc_Ui (rest := [.int q3]) X kC_ok hK hA cu4_33_5 (rvC_G2 hK) (xc_gu_thanks_G2 hq_) rfl ⟨rfl, rfl, Nat.le_of_ble_eq_true rfl, Nat.le_of_ble_eq_true rfl⟩ rfl (Nat.le_of_ble_eq_true rfl) dX4_deals_15 ?_
  refine gr_ixor X dX4_deals_18 ?_
  exact gr_iret X dX4_deals_19 (Prod.mk.inj (Option.some.inj hf)).1 (Prod.mk.inj (Option.some.inj hf)).2
abbrev ro_gu_deals_G3 : Room := { frames := 5, cells := 0, slots := 0, locals := 109 }
def fc_gu_deals_G3 (x2 : Int32) (τ : SC) : Option (Int32 × SC) := (Option.bind (fc_vo_begin (13 : Int32) τ) fun τ2 => (Option.bind (fc_la_tells_G3 x2 τ2) fun p_ => hl p_.1 fun q3 => hl p_.2 fun τ4 => (Option.bind (fc_gu_thanks_G3 x2 τ4) fun p_ => hl p_.1 fun q5 => hl p_.2 fun τ6 => (some ((q3 ^^^ q5), τ6)))))
set_option maxHeartbeats 4000000 in
set_option maxRecDepth 100000 in
theorem xc_gu_deals_G3 {l : Launch} {D : va_G} {cs : Nat → ClassId} {sK sV : Nat → Nat} {tA : Nat} {ad : Nat → Nat} {τ : SC} {x2 : Int32} {r : Int32} {υ : SC} (hf : fc_gu_deals_G3 x2 τ = some (r, υ)) : ctI l (wC ad cs) D vwCl (kC D cs sK sV tA) yX4_deals cX4_deals 3 .int ro_gu_deals_G3 [.ref (ad 143), .ref (ad 530), .int x2] τ r υ := by
  refine ct_I RX4 (by decide +kernel) rfl (Nat.le_of_ble_eq_true rfl) ?_
  intro p e s m args below meth c A X hK hA
  refine gr_eqL (L2 := [(0, .ref (ad 143)), (1, .ref (ad 530)), (2, .int x2)]) rfl ?_
  unfold fc_gu_deals_G3 at hf
  refine gr_aload_n X dX4_deals_0 rfl 1 rfl ?_
  refine gr_bipush (v := 13) X dX4_deals_1 (by decide) ?_
  obtain ⟨τ2, hq_, hf⟩ := ot_b hf
  refine gc_Vv (rest := []) X kC_ok hK hA cw4_7 (rvC_VO hK) (xc_vo_begin hq_) rfl ⟨rfl, rfl, Nat.le_of_ble_eq_true rfl, Nat.le_of_ble_eq_true rfl⟩ rfl (Nat.le_of_ble_eq_true rfl) dX4_deals_3 ?_
  refine gr_aload_n X dX4_deals_6 rfl 0 rfl ?_
  refine gr_aload_n X dX4_deals_7 rfl 1 rfl ?_
  refine gr_iload_n X dX4_deals_8 rfl 2 rfl ?_
  obtain ⟨⟨q3, τ4⟩, hq_, hf⟩ := ot_b hf
  replace hf := ot_l (y := q3) hf rfl
  replace hf := ot_l (y := τ4) hf rfl
  refine gc_Ui (rest := []) X kC_ok hK hA cu4_30_3 (rvC_G3 hK) (xc_la_tells_G3 hq_) rfl ⟨rfl, rfl, Nat.le_of_ble_eq_true rfl, Nat.le_of_ble_eq_true rfl⟩ rfl (Nat.le_of_ble_eq_true rfl) dX4_deals_9 ?_
  refine gr_aload_n X dX4_deals_12 rfl 0 rfl ?_
  refine gr_aload_n X dX4_deals_13 rfl 1 rfl ?_
  refine gr_iload_n X dX4_deals_14 rfl 2 rfl ?_
  obtain ⟨⟨q5, τ6⟩, hq_, hf⟩ := ot_b hf
  replace hf := ot_l (y := q5) hf rfl
  replace hf := ot_l (y := τ6) hf rfl
  refine gc_Ui (rest := [.int q3]) X kC_ok hK hA cu4_33_3 (rvC_G3 hK) (xc_gu_thanks_G3 hq_) rfl ⟨rfl, rfl, Nat.le_of_ble_eq_true rfl, Nat.le_of_ble_eq_true rfl⟩ rfl (Nat.le_of_ble_eq_true rfl) dX4_deals_15 ?_
  refine gr_ixor X dX4_deals_18 ?_
  exact gr_iret X dX4_deals_19 (Prod.mk.inj (Option.some.inj hf)).1 (Prod.mk.inj (Option.some.inj hf)).2
abbrev ro_do_deals_G3 : Room := { frames := 6, cells := 0, slots := 0, locals := 131 }
def fc_do_deals_G3 (x2 : Int32) (τ : SC) : Option (Int32 × SC) := (Option.bind (fc_vo_begin (51 : Int32) τ) fun τ2 => (Option.bind (fc_gu_deals_G3 x2 τ2) fun p_ => hl p_.1 fun q3 => hl p_.2 fun τ4 => (Option.bind (fc_la_tells_G3 (τ4.1 501 0) τ4) fun p_ => hl p_.1 fun q5 => hl p_.2 fun τ6 => (some ((q3 - q5), τ6)))))
set_option maxHeartbeats 4000000 in
set_option maxRecDepth 100000 in
theorem xc_do_deals_G3 {l : Launch} {D : va_G} {cs : Nat → ClassId} {sK sV : Nat → Nat} {tA : Nat} {ad : Nat → Nat} {τ : SC} {x2 : Int32} {r : Int32} {υ : SC} (hf : fc_do_deals_G3 x2 τ = some (r, υ)) : ctI l (wC ad cs) D vwCl (kC D cs sK sV tA) yX3_deals cX3_deals 3 .int ro_do_deals_G3 [.ref (ad 143), .ref (ad 530), .int x2] τ r υ := by
  refine ct_I RX3 (by decide +kernel) rfl (Nat.le_of_ble_eq_true rfl) ?_
  intro p e s m args below meth c A X hK hA
  refine gr_eqL (L2 := [(0, .ref (ad 143)), (1, .ref (ad 530)), (2, .int x2)]) rfl ?_
  unfold fc_do_deals_G3 at hf
  refine gr_aload_n X dX3_deals_0 rfl 1 rfl ?_
  refine gr_bipush (v := 51) X dX3_deals_1 (by decide) ?_
  obtain ⟨τ2, hq_, hf⟩ := ot_b hf
  refine gc_Vv (rest := []) X kC_ok hK hA cw3_15 (rvC_VO hK) (xc_vo_begin hq_) rfl ⟨rfl, rfl, Nat.le_of_ble_eq_true rfl, Nat.le_of_ble_eq_true rfl⟩ rfl (Nat.le_of_ble_eq_true rfl) dX3_deals_3 ?_
  refine gr_aload_n X dX3_deals_6 rfl 0 rfl ?_
  refine gr_aload_n X dX3_deals_7 rfl 1 rfl ?_
  refine gr_iload_n X dX3_deals_8 rfl 2 rfl ?_
  obtain ⟨⟨q3, τ4⟩, hq_, hf⟩ := ot_b hf
  replace hf := ot_l (y := q3) hf rfl
  replace hf := ot_l (y := τ4) hf rfl
  refine gc_Qi (rest := []) X kC_ok hK hA cw3_25 (hK.1.1 3 _ rfl).2 (rvC_G3 hK) (xc_gu_deals_G3 hq_) rfl ⟨rfl, rfl, Nat.le_of_ble_eq_true rfl, Nat.le_of_ble_eq_true rfl⟩ rfl (Nat.le_of_ble_eq_true rfl) dX3_deals_9 ?_
  refine gr_aload_n X dX3_deals_12 rfl 0 rfl ?_
  refine gr_aload_n X dX3_deals_13 rfl 1 rfl ?_
  refine gr_aload_n X dX3_deals_14 rfl 1 rfl ?_
  refine gC_get_VO_1 X hK fk3_28 dX3_deals_15 ?_
  obtain ⟨⟨q5, τ6⟩, hq_, hf⟩ := ot_b hf
  replace hf := ot_l (y := q5) hf rfl
  replace hf := ot_l (y := τ6) hf rfl
  refine gc_Ui (rest := [.int q3]) X kC_ok hK hA cu3_32_3 (rvC_G3 hK) (xc_la_tells_G3 hq_) rfl ⟨rfl, rfl, Nat.le_of_ble_eq_true rfl, Nat.le_of_ble_eq_true rfl⟩ rfl (Nat.le_of_ble_eq_true rfl) dX3_deals_18 ?_
  refine gr_isub X dX3_deals_21 ?_
  exact gr_iret X dX3_deals_22 (Prod.mk.inj (Option.some.inj hf)).1 (Prod.mk.inj (Option.some.inj hf)).2
abbrev ro_gu_deals_G4 : Room := { frames := 3, cells := 0, slots := 0, locals := 66 }
def fc_gu_deals_G4 (x2 : Int32) (τ : SC) : Option (Int32 × SC) := (Option.bind (fc_vo_begin (13 : Int32) τ) fun τ2 => (Option.bind (fc_gu_tells_G4 x2 τ2) fun p_ => hl p_.1 fun q3 => hl p_.2 fun τ4 => (Option.bind (fc_bo_thanks_G4 x2 τ4) fun p_ => hl p_.1 fun q5 => hl p_.2 fun τ6 => (some ((q3 ^^^ q5), τ6)))))
set_option maxHeartbeats 4000000 in
set_option maxRecDepth 100000 in
theorem xc_gu_deals_G4 {l : Launch} {D : va_G} {cs : Nat → ClassId} {sK sV : Nat → Nat} {tA : Nat} {ad : Nat → Nat} {τ : SC} {x2 : Int32} {r : Int32} {υ : SC} (hf : fc_gu_deals_G4 x2 τ = some (r, υ)) : ctI l (wC ad cs) D vwCl (kC D cs sK sV tA) yX4_deals cX4_deals 3 .int ro_gu_deals_G4 [.ref (ad 144), .ref (ad 530), .int x2] τ r υ := by
  refine ct_I RX4 (by decide +kernel) rfl (Nat.le_of_ble_eq_true rfl) ?_
  intro p e s m args below meth c A X hK hA
  refine gr_eqL (L2 := [(0, .ref (ad 144)), (1, .ref (ad 530)), (2, .int x2)]) rfl ?_
  unfold fc_gu_deals_G4 at hf
  refine gr_aload_n X dX4_deals_0 rfl 1 rfl ?_
  refine gr_bipush (v := 13) X dX4_deals_1 (by decide) ?_
  obtain ⟨τ2, hq_, hf⟩ := ot_b hf
  refine gc_Vv (rest := []) X kC_ok hK hA cw4_7 (rvC_VO hK) (xc_vo_begin hq_) rfl ⟨rfl, rfl, Nat.le_of_ble_eq_true rfl, Nat.le_of_ble_eq_true rfl⟩ rfl (Nat.le_of_ble_eq_true rfl) dX4_deals_3 ?_
  refine gr_aload_n X dX4_deals_6 rfl 0 rfl ?_
  refine gr_aload_n X dX4_deals_7 rfl 1 rfl ?_
  refine gr_iload_n X dX4_deals_8 rfl 2 rfl ?_
  obtain ⟨⟨q3, τ4⟩, hq_, hf⟩ := ot_b hf
  replace hf := ot_l (y := q3) hf rfl
  replace hf := ot_l (y := τ4) hf rfl
  refine gc_Ui (rest := []) X kC_ok hK hA cu4_30_1 (rvC_G4 hK) (xc_gu_tells_G4 hq_) rfl ⟨rfl, rfl, Nat.le_of_ble_eq_true rfl, Nat.le_of_ble_eq_true rfl⟩ rfl (Nat.le_of_ble_eq_true rfl) dX4_deals_9 ?_
  refine gr_aload_n X dX4_deals_12 rfl 0 rfl ?_
  refine gr_aload_n X dX4_deals_13 rfl 1 rfl ?_
  refine gr_iload_n X dX4_deals_14 rfl 2 rfl ?_
  obtain ⟨⟨q5, τ6⟩, hq_, hf⟩ := ot_b hf
  replace hf := ot_l (y := q5) hf rfl
  replace hf := ot_l (y := τ6) hf rfl
  refine gc_Ui (rest := [.int q3]) X kC_ok hK hA cu4_33_1 (rvC_G4 hK) (xc_bo_thanks_G4 hq_) rfl ⟨rfl, rfl, Nat.le_of_ble_eq_true rfl, Nat.le_of_ble_eq_true rfl⟩ rfl (Nat.le_of_ble_eq_true rfl) dX4_deals_15 ?_
  refine gr_ixor X dX4_deals_18 ?_
  exact gr_iret X dX4_deals_19 (Prod.mk.inj (Option.some.inj hf)).1 (Prod.mk.inj (Option.some.inj hf)).2
abbrev ro_gu_deals_G5 : Room := { frames := 4, cells := 0, slots := 0, locals := 88 }
def fc_gu_deals_G5 (x2 : Int32) (τ : SC) : Option (Int32 × SC) := (Option.bind (fc_vo_begin (13 : Int32) τ) fun τ2 => (Option.bind (fc_ca_tells_G5 x2 τ2) fun p_ => hl p_.1 fun q3 => hl p_.2 fun τ4 => (Option.bind (fc_ca_thanks_G5 x2 τ4) fun p_ => hl p_.1 fun q5 => hl p_.2 fun τ6 => (some ((q3 ^^^ q5), τ6)))))
set_option maxHeartbeats 4000000 in
set_option maxRecDepth 100000 in
theorem xc_gu_deals_G5 {l : Launch} {D : va_G} {cs : Nat → ClassId} {sK sV : Nat → Nat} {tA : Nat} {ad : Nat → Nat} {τ : SC} {x2 : Int32} {r : Int32} {υ : SC} (hf : fc_gu_deals_G5 x2 τ = some (r, υ)) : ctI l (wC ad cs) D vwCl (kC D cs sK sV tA) yX4_deals cX4_deals 3 .int ro_gu_deals_G5 [.ref (ad 145), .ref (ad 530), .int x2] τ r υ := by
  refine ct_I RX4 (by decide +kernel) rfl (Nat.le_of_ble_eq_true rfl) ?_
  intro p e s m args below meth c A X hK hA
  refine gr_eqL (L2 := [(0, .ref (ad 145)), (1, .ref (ad 530)), (2, .int x2)]) rfl ?_
  unfold fc_gu_deals_G5 at hf
  refine gr_aload_n X dX4_deals_0 rfl 1 rfl ?_
  refine gr_bipush (v := 13) X dX4_deals_1 (by decide) ?_
  obtain ⟨τ2, hq_, hf⟩ := ot_b hf
  refine gc_Vv (rest := []) X kC_ok hK hA cw4_7 (rvC_VO hK) (xc_vo_begin hq_) rfl ⟨rfl, rfl, Nat.le_of_ble_eq_true rfl, Nat.le_of_ble_eq_true rfl⟩ rfl (Nat.le_of_ble_eq_true rfl) dX4_deals_3 ?_
  refine gr_aload_n X dX4_deals_6 rfl 0 rfl ?_
  refine gr_aload_n X dX4_deals_7 rfl 1 rfl ?_
  refine gr_iload_n X dX4_deals_8 rfl 2 rfl ?_
  obtain ⟨⟨q3, τ4⟩, hq_, hf⟩ := ot_b hf
  replace hf := ot_l (y := q3) hf rfl
  replace hf := ot_l (y := τ4) hf rfl
  refine gc_Ui (rest := []) X kC_ok hK hA cu4_30_2 (rvC_G5 hK) (xc_ca_tells_G5 hq_) rfl ⟨rfl, rfl, Nat.le_of_ble_eq_true rfl, Nat.le_of_ble_eq_true rfl⟩ rfl (Nat.le_of_ble_eq_true rfl) dX4_deals_9 ?_
  refine gr_aload_n X dX4_deals_12 rfl 0 rfl ?_
  refine gr_aload_n X dX4_deals_13 rfl 1 rfl ?_
  refine gr_iload_n X dX4_deals_14 rfl 2 rfl ?_
  obtain ⟨⟨q5, τ6⟩, hq_, hf⟩ := ot_b hf
  replace hf := ot_l (y := q5) hf rfl
  replace hf := ot_l (y := τ6) hf rfl
  refine gc_Ui (rest := [.int q3]) X kC_ok hK hA cu4_33_2 (rvC_G5 hK) (xc_ca_thanks_G5 hq_) rfl ⟨rfl, rfl, Nat.le_of_ble_eq_true rfl, Nat.le_of_ble_eq_true rfl⟩ rfl (Nat.le_of_ble_eq_true rfl) dX4_deals_15 ?_
  refine gr_ixor X dX4_deals_18 ?_
  exact gr_iret X dX4_deals_19 (Prod.mk.inj (Option.some.inj hf)).1 (Prod.mk.inj (Option.some.inj hf)).2
def fN_deals (n : Nat) (x1 : Int32) (τ : SC) : Option (Int32 × SC) := (if n = 0 then fc_gu_deals_G0 x1 τ else (if n = 1 then fc_gu_deals_G1 x1 τ else (if n = 2 then fc_gu_deals_G2 x1 τ else (if n = 3 then fc_do_deals_G3 x1 τ else (if n = 4 then fc_gu_deals_G4 x1 τ else (if n = 5 then fc_gu_deals_G5 x1 τ else none))))))
set_option maxHeartbeats 4000000 in
theorem gN11_369 {p : Program} {l : Launch} {e : Env} {R : Room} {s : State} {m : MethodId} {args : Array Value} {below : List Frame} {meth : Method} {c : Code} {A : Nat → Prop} {D : va_G} {cs : Nat → ClassId} {sK sV : Nat → Nat} {tA : Nat} {ad : Nat → Nat} {cc : ByteArray} {ret : Option FieldType} {pc nL : Nat} {L : List (Nat × Value)} {Q : State → Prop} {rest st0 : List Value} {τ υ : SC} {n : Nat} {x1 : Int32} {r : Int32} (X : hc p s m args meth c RX11 cc nL ret) (hK : kC D cs sK sV tA A s) (hA : ∀ q, s.heap.size ≤ q → A q) (hf : fN_deals n x1 τ = some (r, υ)) (hst : st0 = [.int x1, .ref (ad 530)] ++ .ref (ad (140 + n)) :: rest) (hR : 7 ≤ R.frames ∧ 153 ≤ R.locals) (hcat : (rest.map fun v => v.category).sum ≤ 8) (hdg : decode cc pc = .ok (.invokevirtual 369, 3)) (kk : gg p l e R s m args below meth c (wC ad cs) D vwCl A nL Q (pc + 3) L (.int r :: rest) υ) : gg p l e R s m args below meth c (wC ad cs) D vwCl A nL Q pc L st0 τ := by
  subst hst
  unfold fN_deals at hf
  by_cases h0 : n = 0
  · subst h0
    replace hf := ot_t hf rfl
    exact gc_Ui (rest := rest) (As := [.ref (ad 530), .int x1]) (b := ad 140) X kC_ok hK hA cu11_369_4 (rvC_G0 hK) (xc_gu_deals_G0 hf) rfl ⟨rfl, rfl, Nat.le_trans (Nat.le_of_ble_eq_true rfl) hR.1, Nat.le_trans (Nat.le_of_ble_eq_true rfl) hR.2⟩ rfl hcat hdg kk
  replace hf := ot_f hf h0
  by_cases h1 : n = 1
  · subst h1
    replace hf := ot_t hf rfl
    exact gc_Ui (rest := rest) (As := [.ref (ad 530), .int x1]) (b := ad 141) X kC_ok hK hA cu11_369_0 (rvC_G1 hK) (xc_gu_deals_G1 hf) rfl ⟨rfl, rfl, Nat.le_trans (Nat.le_of_ble_eq_true rfl) hR.1, Nat.le_trans (Nat.le_of_ble_eq_true rfl) hR.2⟩ rfl hcat hdg kk
  replace hf := ot_f hf h1
  by_cases h2 : n = 2
  · subst h2
    replace hf := ot_t hf rfl
    exact gc_Ui (rest := rest) (As := [.ref (ad 530), .int x1]) (b := ad 142) X kC_ok hK hA cu11_369_5 (rvC_G2 hK) (xc_gu_deals_G2 hf) rfl ⟨rfl, rfl, Nat.le_trans (Nat.le_of_ble_eq_true rfl) hR.1, Nat.le_trans (Nat.le_of_ble_eq_true rfl) hR.2⟩ rfl hcat hdg kk
  replace hf := ot_f hf h2
  by_cases h3 : n = 3
  · subst h3
    replace hf := ot_t hf rfl
    exact gc_Ui (rest := rest) (As := [.ref (ad 530), .int x1]) (b := ad 143) X kC_ok hK hA cu11_369_3 (rvC_G3 hK) (xc_do_deals_G3 hf) rfl ⟨rfl, rfl, Nat.le_trans (Nat.le_of_ble_eq_true rfl) hR.1, Nat.le_trans (Nat.le_of_ble_eq_true rfl) hR.2⟩ rfl hcat hdg kk
  replace hf := ot_f hf h3
  by_cases h4 : n = 4
  · subst h4
    replace hf := ot_t hf rfl
    exact gc_Ui (rest := rest) (As := [.ref (ad 530), .int x1]) (b := ad 144) X kC_ok hK hA cu11_369_1 (rvC_G4 hK) (xc_gu_deals_G4 hf) rfl ⟨rfl, rfl, Nat.le_trans (Nat.le_of_ble_eq_true rfl) hR.1, Nat.le_trans (Nat.le_of_ble_eq_true rfl) hR.2⟩ rfl hcat hdg kk
  replace hf := ot_f hf h4
  by_cases h5 : n = 5
  · subst h5
    replace hf := ot_t hf rfl
    exact gc_Ui (rest := rest) (As := [.ref (ad 530), .int x1]) (b := ad 145) X kC_ok hK hA cu11_369_2 (rvC_G5 hK) (xc_gu_deals_G5 hf) rfl ⟨rfl, rfl, Nat.le_trans (Nat.le_of_ble_eq_true rfl) hR.1, Nat.le_trans (Nat.le_of_ble_eq_true rfl) hR.2⟩ rfl hcat hdg kk
  replace hf := ot_f hf h5
  cases hf
abbrev ro_hh_act : Room := { frames := 7, cells := 0, slots := 0, locals := 153 }
def fc_hh_act_b173 (x6 : Int32) (τ : SC) : Option (Int32 × SC) := (if (τ.1 502 0) = 0 then (some (x6, τ)) else (some ((-15 : Int32), τ)))
def fc_hh_act (x1 : Int32) (x2 : Int32) (x3 : Int32) (τ : SC) : Option (Int32 × SC) := (Option.bind (fc_vo_clear τ) fun τ2 => (Option.bind (fc_hh_within x1 (3 : Int32)) fun q3 => (if q3 = 0 then (some ((0 : Int32), τ2)) else (Option.bind (fc_hh_within x2 (3 : Int32)) fun q4 => (if q4 = 0 then (some ((0 : Int32), τ2)) else (Option.bind (fc_hh_holdsGuild τ2 x1) fun q5 => (if ¬ q5 = 0 then (oc (hin x1 4) (hl (τ2.1 15 (Int32.toNatClampNeg x1)) fun v6 => (hl (sc τ2 500 (fun _ => v6)) fun τ7 => (oc (hin v6 6) (hl (sc τ7 501 (fun _ => (τ7.1 117 (Int32.toNatClampNeg v6)))) fun τ8 => (oc (hin v6 6) (oc (hin (τ8.1 114 (Int32.toNatClampNeg v6)) 6) (if x2 = 0 then (Option.bind (fN_knocks (Int32.toNatClampNeg (τ8.1 114 (Int32.toNatClampNeg v6))) x3 τ8) fun p_ => hl p_.1 fun q9 => hl p_.2 fun τ10 => (fc_hh_act_b173 q9 τ10)) else (if x2 = 1 then (Option.bind (fN_tells (Int32.toNatClampNeg (τ8.1 114 (Int32.toNatClampNeg v6))) x3 τ8) fun p_ => hl p_.1 fun q11 => hl p_.2 fun τ12 => (fc_hh_act_b173 q11 τ12)) else (if x2 = 2 then (Option.bind (fN_thanks (Int32.toNatClampNeg (τ8.1 114 (Int32.toNatClampNeg v6))) x3 τ8) fun p_ => hl p_.1 fun q13 => hl p_.2 fun τ14 => (fc_hh_act_b173 q13 τ14)) else (Option.bind (fN_deals (Int32.toNatClampNeg (τ8.1 114 (Int32.toNatClampNeg v6))) x3 τ8) fun p_ => hl p_.1 fun q15 => hl p_.2 fun τ16 => (fc_hh_act_b173 q15 τ16)))))))))))) else (some ((0 : Int32), τ2)))))))))
set_option maxHeartbeats 4000000 in
set_option maxRecDepth 100000 in
theorem wc_hh_act_b173 {p : Program} {l : Launch} {e : Env} {s : State} {m : MethodId} {args : Array Value} {below : List Frame} {meth : Method} {c : Code} {A : Nat → Prop} {D : va_G} {cs : Nat → ClassId} {sK sV : Nat → Nat} {tA : Nat} {ad : Nat → Nat} {r : Int32} {υ : SC} (X : hc p s m args meth c RX11 cX11_act 7 (some .int)) (hK : kC D cs sK sV tA A s) (hA : ∀ q, s.heap.size ≤ q → A q)   (x6 : Int32) (τ : SC) (hf : fc_hh_act_b173 x6 τ = some (r, υ)) : gg p l e ro_hh_act s m args below meth c (wC ad cs) D vwCl A 7 (QI below args s (wC ad cs) D vwCl A r υ) 173 [(0, .ref (ad 16)), (6, .int x6)] [] τ := by
  unfold fc_hh_act_b173 at hf
  refine gr_aload_n X dX11_act_173 rfl 0 rfl ?_
  refine gC_get_HH_5 X hK fk11_38 dX11_act_174 ?_
  refine gC_get_VO_2 X hK fk11_372 dX11_act_177 ?_
  refine gr_if_eq X 188 dX11_act_180 (by decide) (fun hc_ => ?_) (fun hc_ => ?_)
  · replace hf := ot_t hf hc_
    refine gr_iload X dX11_act_188 1 rfl ?_
    exact gr_iret X dX11_act_190 (Prod.mk.inj (Option.some.inj hf)).1 (Prod.mk.inj (Option.some.inj hf)).2
  · replace hf := ot_f hf hc_
    refine gr_bipush (v := -15) X dX11_act_183 (by decide) ?_
    refine gr_goto X 190 dX11_act_185 (by decide) ?_
    exact gr_iret X dX11_act_190 (Prod.mk.inj (Option.some.inj hf)).1 (Prod.mk.inj (Option.some.inj hf)).2
set_option maxHeartbeats 4000000 in
set_option maxRecDepth 100000 in
theorem xc_hh_act {l : Launch} {D : va_G} {cs : Nat → ClassId} {sK sV : Nat → Nat} {tA : Nat} {ad : Nat → Nat} {τ : SC} {x1 : Int32} {x2 : Int32} {x3 : Int32} {r : Int32} {υ : SC} (hf : fc_hh_act x1 x2 x3 τ = some (r, υ)) : ctI l (wC ad cs) D vwCl (kC D cs sK sV tA) yX11_act cX11_act 7 .int ro_hh_act [.ref (ad 16), .int x1, .int x2, .int x3] τ r υ := by
  refine ct_I RX11 (by decide +kernel) rfl (Nat.le_of_ble_eq_true rfl) ?_
  intro p e s m args below meth c A X hK hA
  refine gr_eqL (L2 := [(0, .ref (ad 16)), (1, .int x1), (2, .int x2), (3, .int x3)]) rfl ?_
  unfold fc_hh_act at hf
  refine gr_aload_n X dX11_act_0 rfl 0 rfl ?_
  refine gC_get_HH_5 X hK fk11_38 dX11_act_1 ?_
  obtain ⟨τ2, hq_, hf⟩ := ot_b hf
  refine gc_Vv (rest := []) X kC_ok hK hA cw11_346 (rvC_VO hK) (xc_vo_clear hq_) rfl ⟨rfl, rfl, Nat.le_of_ble_eq_true rfl, Nat.le_of_ble_eq_true rfl⟩ rfl (Nat.le_of_ble_eq_true rfl) dX11_act_4 ?_
  refine gr_iload_n X dX11_act_7 rfl 1 rfl ?_
  refine gr_iconst (v := 3) X dX11_act_8 (by decide) ?_
  obtain ⟨q3, hq_, hf⟩ := ot_b hf
  refine gc_Si (rest := []) X kC_ok hK hA cw11_79 (xc_hh_within hq_) rfl ⟨rfl, rfl, Nat.le_of_ble_eq_true rfl, Nat.le_of_ble_eq_true rfl⟩ rfl (Nat.le_of_ble_eq_true rfl) dX11_act_9 ?_
  refine gr_if_eq X 31 dX11_act_12 (by decide) (fun hc_ => ?_) (fun hc_ => ?_)
  · replace hf := ot_t hf hc_
    refine gr_iconst (v := 0) X dX11_act_31 (by decide) ?_
    exact gr_iret X dX11_act_32 (Prod.mk.inj (Option.some.inj hf)).1 (Prod.mk.inj (Option.some.inj hf)).2
  · replace hf := ot_f hf hc_
    refine gr_iload_n X dX11_act_15 rfl 2 rfl ?_
    refine gr_iconst (v := 3) X dX11_act_16 (by decide) ?_
    obtain ⟨q4, hq_, hf⟩ := ot_b hf
    refine gc_Si (rest := []) X kC_ok hK hA cw11_79 (xc_hh_within hq_) rfl ⟨rfl, rfl, Nat.le_of_ble_eq_true rfl, Nat.le_of_ble_eq_true rfl⟩ rfl (Nat.le_of_ble_eq_true rfl) dX11_act_17 ?_
    refine gr_if_eq X 31 dX11_act_20 (by decide) (fun hc_ => ?_) (fun hc_ => ?_)
    · replace hf := ot_t hf hc_
      refine gr_iconst (v := 0) X dX11_act_31 (by decide) ?_
      exact gr_iret X dX11_act_32 (Prod.mk.inj (Option.some.inj hf)).1 (Prod.mk.inj (Option.some.inj hf)).2
    · replace hf := ot_f hf hc_
      refine gr_aload_n X dX11_act_23 rfl 0 rfl ?_
      refine gr_iload_n X dX11_act_24 rfl 1 rfl ?_
      obtain ⟨q5, hq_, hf⟩ := ot_b hf
      refine gc_Vi (rest := []) X kC_ok hK hA cw11_340 (rvC_HH hK) (xc_hh_holdsGuild hq_) rfl ⟨rfl, rfl, Nat.le_of_ble_eq_true rfl, Nat.le_of_ble_eq_true rfl⟩ rfl (Nat.le_of_ble_eq_true rfl) dX11_act_25 ?_
      refine gr_if_ne X 33 dX11_act_28 (by decide) (fun hc_ => ?_) (fun hc_ => ?_)
      · replace hf := ot_t hf hc_
        refine gr_aload_n X dX11_act_33 rfl 0 rfl ?_
        refine gC_get_HH_15 X hK fk11_66 dX11_act_34 ?_
        refine gr_iload_n X dX11_act_37 rfl 1 rfl ?_
        have hi_ := oc_1 hf
        replace hf := oc_2 hf
        refine gC_ald_15 X hK (Int32.toNatClampNeg x1) hi_ rfl dX11_act_38 ?_
        refine gC_top (fun v6 e_v6 => ?_)
        replace hf := ot_l hf e_v6
        refine gr_istore (L2 := [(4, .int v6), (0, .ref (ad 16)), (1, .int x1), (2, .int x2), (3, .int x3)]) X dX11_act_39 (by decide) rfl ?_
        refine gr_aload_n X dX11_act_41 rfl 1 rfl ?_
        refine gC_get_HH_5 X hK fk11_38 dX11_act_42 ?_
        refine gr_iload X dX11_act_45 0 rfl ?_
        refine gC_put_VO_0 X hK fk11_349 dX11_act_47 ?_
        refine gC_gen (fun τ7 e_τ7 => ?_)
        replace hf := ot_l hf e_τ7
        refine gr_aload_n X dX11_act_50 rfl 1 rfl ?_
        refine gC_get_HH_5 X hK fk11_38 dX11_act_51 ?_
        refine gr_aload_n X dX11_act_54 rfl 1 rfl ?_
        refine gC_get_HH_0 X hK fk11_10 dX11_act_55 ?_
        refine gC_get_T0_17 X hK fk11_103 dX11_act_58 ?_
        refine gr_iload X dX11_act_61 0 rfl ?_
        have hi_ := oc_1 hf
        replace hf := oc_2 hf
        refine gC_ald_117 X hK (Int32.toNatClampNeg v6) hi_ rfl dX11_act_63 ?_
        refine gC_put_VO_1 X hK fk11_352 dX11_act_64 ?_
        refine gC_gen (fun τ8 e_τ8 => ?_)
        replace hf := ot_l hf e_τ8
        refine gr_aload_n X dX11_act_67 rfl 1 rfl ?_
        refine gC_get_HH_0 X hK fk11_10 dX11_act_68 ?_
        refine gC_get_T0_0 X hK fk11_353 dX11_act_71 ?_
        refine gr_aload_n X dX11_act_74 rfl 1 rfl ?_
        refine gC_get_HH_0 X hK fk11_10 dX11_act_75 ?_
        refine gC_get_T0_14 X hK fk11_94 dX11_act_78 ?_
        refine gr_iload X dX11_act_81 0 rfl ?_
        have hi_ := oc_1 hf
        replace hf := oc_2 hf
        refine gC_ald_114 X hK (Int32.toNatClampNeg v6) hi_ rfl dX11_act_83 ?_
        have hi_ := oc_1 hf
        replace hf := oc_2 hf
        refine gC_aald_N X hK (Int32.toNatClampNeg (τ8.1 114 (Int32.toNatClampNeg v6))) hi_ rfl dX11_act_84 ?_
        refine gr_astore (L2 := [(5, .ref (ad (140 + (Int32.toNatClampNeg (τ8.1 114 (Int32.toNatClampNeg v6)))))), (4, .int v6), (0, .ref (ad 16)), (1, .int x1), (2, .int x2), (3, .int x3)]) X dX11_act_85 (by decide) rfl ?_
        refine gr_iload_n X dX11_act_87 rfl 4 rfl ?_
        by_cases hs0 : x2 = 0
        · replace hf := ot_t hf hs0
          refine gr_tin X (0) 116 dX11_act_88 (by rw [hs0]; decide) (by decide) (by decide) rfl (by decide) ?_
          refine gr_aload X dX11_act_116 0 rfl ?_
          refine gr_aload_n X dX11_act_118 rfl 2 rfl ?_
          refine gC_get_HH_5 X hK fk11_38 dX11_act_119 ?_
          refine gr_iload_n X dX11_act_122 rfl 5 rfl ?_
          obtain ⟨⟨q9, τ10⟩, hq_, hf⟩ := ot_b hf
          replace hf := ot_l (y := q9) hf rfl
          replace hf := ot_l (y := τ10) hf rfl
          refine gN11_357 (rest := []) X hK hA hq_ rfl ⟨Nat.le_of_ble_eq_true rfl, Nat.le_of_ble_eq_true rfl⟩ (Nat.le_of_ble_eq_true rfl) dX11_act_123 ?_
          refine gr_istore (L2 := [(6, .int q9), (5, .ref (ad (140 + (Int32.toNatClampNeg (τ8.1 114 (Int32.toNatClampNeg v6)))))), (4, .int v6), (0, .ref (ad 16)), (1, .int x1), (2, .int x2), (3, .int x3)]) X dX11_act_126 (by decide) rfl ?_
          refine gr_goto X 173 dX11_act_128 (by decide) ?_
          refine gr_sub [3, 0] rfl ?_
          exact wc_hh_act_b173 X hK hA _ _ hf
        replace hf := ot_f hf hs0
        by_cases hs1 : x2 = 1
        · replace hf := ot_t hf hs1
          refine gr_tin X (1) 131 dX11_act_88 (by rw [hs1]; decide) (by decide) (by decide) rfl (by decide) ?_
          refine gr_aload X dX11_act_131 0 rfl ?_
          refine gr_aload_n X dX11_act_133 rfl 2 rfl ?_
          refine gC_get_HH_5 X hK fk11_38 dX11_act_134 ?_
          refine gr_iload_n X dX11_act_137 rfl 5 rfl ?_
          obtain ⟨⟨q11, τ12⟩, hq_, hf⟩ := ot_b hf
          replace hf := ot_l (y := q11) hf rfl
          replace hf := ot_l (y := τ12) hf rfl
          refine gN11_363 (rest := []) X hK hA hq_ rfl ⟨Nat.le_of_ble_eq_true rfl, Nat.le_of_ble_eq_true rfl⟩ (Nat.le_of_ble_eq_true rfl) dX11_act_138 ?_
          refine gr_istore (L2 := [(6, .int q11), (5, .ref (ad (140 + (Int32.toNatClampNeg (τ8.1 114 (Int32.toNatClampNeg v6)))))), (4, .int v6), (0, .ref (ad 16)), (1, .int x1), (2, .int x2), (3, .int x3)]) X dX11_act_141 (by decide) rfl ?_
          refine gr_goto X 173 dX11_act_143 (by decide) ?_
          refine gr_sub [3, 0] rfl ?_
          exact wc_hh_act_b173 X hK hA _ _ hf
        replace hf := ot_f hf hs1
        by_cases hs2 : x2 = 2
        · replace hf := ot_t hf hs2
          refine gr_tin X (2) 146 dX11_act_88 (by rw [hs2]; decide) (by decide) (by decide) rfl (by decide) ?_
          refine gr_aload X dX11_act_146 0 rfl ?_
          refine gr_aload_n X dX11_act_148 rfl 2 rfl ?_
          refine gC_get_HH_5 X hK fk11_38 dX11_act_149 ?_
          refine gr_iload_n X dX11_act_152 rfl 5 rfl ?_
          obtain ⟨⟨q13, τ14⟩, hq_, hf⟩ := ot_b hf
          replace hf := ot_l (y := q13) hf rfl
          replace hf := ot_l (y := τ14) hf rfl
          refine gN11_366 (rest := []) X hK hA hq_ rfl ⟨Nat.le_of_ble_eq_true rfl, Nat.le_of_ble_eq_true rfl⟩ (Nat.le_of_ble_eq_true rfl) dX11_act_153 ?_
          refine gr_istore (L2 := [(6, .int q13), (5, .ref (ad (140 + (Int32.toNatClampNeg (τ8.1 114 (Int32.toNatClampNeg v6)))))), (4, .int v6), (0, .ref (ad 16)), (1, .int x1), (2, .int x2), (3, .int x3)]) X dX11_act_156 (by decide) rfl ?_
          refine gr_goto X 173 dX11_act_158 (by decide) ?_
          refine gr_sub [3, 0] rfl ?_
          exact wc_hh_act_b173 X hK hA _ _ hf
        replace hf := ot_f hf hs2
        refine gr_tout X 161 dX11_act_88 (by have := lv_neT hs0 (show (0 : Int32).toInt = 0 by decide); have := lv_neT hs1 (show (1 : Int32).toInt = 1 by decide); have := lv_neT hs2 (show (2 : Int32).toInt = 2 by decide); omega) (by decide) ?_
        refine gr_aload X dX11_act_161 0 rfl ?_
        refine gr_aload_n X dX11_act_163 rfl 2 rfl ?_
        refine gC_get_HH_5 X hK fk11_38 dX11_act_164 ?_
        refine gr_iload_n X dX11_act_167 rfl 5 rfl ?_
        obtain ⟨⟨q15, τ16⟩, hq_, hf⟩ := ot_b hf
        replace hf := ot_l (y := q15) hf rfl
        replace hf := ot_l (y := τ16) hf rfl
        refine gN11_369 (rest := []) X hK hA hq_ rfl ⟨Nat.le_of_ble_eq_true rfl, Nat.le_of_ble_eq_true rfl⟩ (Nat.le_of_ble_eq_true rfl) dX11_act_168 ?_
        refine gr_istore (L2 := [(6, .int q15), (5, .ref (ad (140 + (Int32.toNatClampNeg (τ8.1 114 (Int32.toNatClampNeg v6)))))), (4, .int v6), (0, .ref (ad 16)), (1, .int x1), (2, .int x2), (3, .int x3)]) X dX11_act_171 (by decide) rfl ?_
        refine gr_sub [3, 0] rfl ?_
        exact wc_hh_act_b173 X hK hA _ _ hf
      · replace hf := ot_f hf hc_
        refine gr_iconst (v := 0) X dX11_act_31 (by decide) ?_
        exact gr_iret X dX11_act_32 (Prod.mk.inj (Option.some.inj hf)).1 (Prod.mk.inj (Option.some.inj hf)).2
abbrev ro_hh_trace : Room := { frames := 0, cells := 0, slots := 0, locals := 0 }
def fc_hh_trace (τ : SC) (x1 : Int32) : Option Int32 := (if x1 < 0 then (some (-3 : Int32)) else (if (τ.1 504 0) ≤ x1 then (some (-3 : Int32)) else (oc (hin x1 30) (some (τ.1 503 (Int32.toNatClampNeg x1))))))
set_option maxHeartbeats 4000000 in
set_option maxRecDepth 100000 in
theorem xc_hh_trace {l : Launch} {D : va_G} {cs : Nat → ClassId} {sK sV : Nat → Nat} {tA : Nat} {ad : Nat → Nat} {τ : SC} {x1 : Int32} {r : Int32} (hf : fc_hh_trace τ x1 = some r) : ctI l (wC ad cs) D vwCl (kC D cs sK sV tA) yX11_trace cX11_trace 2 .int ro_hh_trace [.ref (ad 16), .int x1] τ r τ := by
  refine ct_I RX11 (by decide +kernel) rfl (Nat.le_of_ble_eq_true rfl) ?_
  intro p e s m args below meth c A X hK hA
  refine gr_eqL (L2 := [(0, .ref (ad 16)), (1, .int x1)]) rfl ?_
  unfold fc_hh_trace at hf
  refine gr_iload_n X dX11_trace_0 rfl 1 rfl ?_
  refine gr_if_lt X 27 dX11_trace_1 (by decide) (fun hc_ => ?_) (fun hc_ => ?_)
  · replace hf := ot_t hf hc_
    refine gr_bipush (v := -3) X dX11_trace_27 (by decide) ?_
    exact gr_iret X dX11_trace_29 (Option.some.inj hf) rfl
  · replace hf := ot_f hf hc_
    refine gr_iload_n X dX11_trace_4 rfl 1 rfl ?_
    refine gr_aload_n X dX11_trace_5 rfl 0 rfl ?_
    refine gC_get_HH_5 X hK fk11_38 dX11_trace_6 ?_
    refine gC_get_VO_4 X hK fk11_376 dX11_trace_9 ?_
    refine gr_icmp_ge X 27 dX11_trace_12 (by decide) (fun hc_ => ?_) (fun hc_ => ?_)
    · replace hf := ot_t hf hc_
      refine gr_bipush (v := -3) X dX11_trace_27 (by decide) ?_
      exact gr_iret X dX11_trace_29 (Option.some.inj hf) rfl
    · replace hf := ot_f hf hc_
      refine gr_aload_n X dX11_trace_15 rfl 0 rfl ?_
      refine gC_get_HH_5 X hK fk11_38 dX11_trace_16 ?_
      refine gC_get_VO_3 X hK fk11_379 dX11_trace_19 ?_
      refine gr_iload_n X dX11_trace_22 rfl 1 rfl ?_
      have hi_ := oc_1 hf
      replace hf := oc_2 hf
      refine gC_ald_503 X hK (Int32.toNatClampNeg x1) hi_ rfl dX11_trace_23 ?_
      refine gr_goto X 29 dX11_trace_24 (by decide) ?_
      exact gr_iret X dX11_trace_29 (Option.some.inj hf) rfl
abbrev ro_hh_many : Room := { frames := 1, cells := 0, slots := 0, locals := 20 }
def fc_hh_many (τ : SC) (x1 : Int32) : Option Int32 := (if x1 = 0 then (some (τ.1 113 0)) else (if x1 = 1 then (some (τ.1 120 0)) else (if x1 = 2 then (Option.bind (fc_j6_bitCount_0f7a4 (τ.1 108 0)) fun q1 => (some q1)) else (if x1 = 3 then (some (τ.1 118 0)) else (if x1 = 4 then (some (τ.1 9 0)) else (if x1 = 5 then (some (τ.1 7 0)) else (if x1 = 6 then (some (τ.1 504 0)) else (some (-1 : Int32)))))))))
set_option maxHeartbeats 4000000 in
set_option maxRecDepth 100000 in
theorem xc_hh_many {l : Launch} {D : va_G} {cs : Nat → ClassId} {sK sV : Nat → Nat} {tA : Nat} {ad : Nat → Nat} {τ : SC} {x1 : Int32} {r : Int32} (hf : fc_hh_many τ x1 = some r) : ctI l (wC ad cs) D vwCl (kC D cs sK sV tA) yX11_many cX11_many 2 .int ro_hh_many [.ref (ad 16), .int x1] τ r τ := by
  refine ct_I RX11 (by decide +kernel) rfl (Nat.le_of_ble_eq_true rfl) ?_
  intro p e s m args below meth c A X hK hA
  refine gr_eqL (L2 := [(0, .ref (ad 16)), (1, .int x1)]) rfl ?_
  unfold fc_hh_many at hf
  refine gr_iload_n X dX11_many_0 rfl 1 rfl ?_
  by_cases hs0 : x1 = 0
  · replace hf := ot_t hf hs0
    refine gr_tin X (0) 44 dX11_many_1 (by rw [hs0]; decide) (by decide) (by decide) rfl (by decide) ?_
    refine gr_aload_n X dX11_many_44 rfl 0 rfl ?_
    refine gC_get_HH_0 X hK fk11_10 dX11_many_45 ?_
    refine gC_get_T0_13 X hK fk11_83 dX11_many_48 ?_
    exact gr_iret X dX11_many_51 (Option.some.inj hf) rfl
  replace hf := ot_f hf hs0
  by_cases hs1 : x1 = 1
  · replace hf := ot_t hf hs1
    refine gr_tin X (1) 52 dX11_many_1 (by rw [hs1]; decide) (by decide) (by decide) rfl (by decide) ?_
    refine gr_aload_n X dX11_many_52 rfl 0 rfl ?_
    refine gC_get_HH_0 X hK fk11_10 dX11_many_53 ?_
    refine gC_get_T0_1 X hK fk11_186 dX11_many_56 ?_
    refine gC_get_R0_0 X hK fk11_199 dX11_many_59 ?_
    exact gr_iret X dX11_many_62 (Option.some.inj hf) rfl
  replace hf := ot_f hf hs1
  by_cases hs2 : x1 = 2
  · replace hf := ot_t hf hs2
    refine gr_tin X (2) 63 dX11_many_1 (by rw [hs2]; decide) (by decide) (by decide) rfl (by decide) ?_
    refine gr_aload_n X dX11_many_63 rfl 0 rfl ?_
    refine gC_get_HH_0 X hK fk11_10 dX11_many_64 ?_
    refine gC_get_T0_8 X hK fk11_113 dX11_many_67 ?_
    obtain ⟨q1, hq_, hf⟩ := ot_b hf
    refine gc_Si (rest := []) X kC_ok hK hA cw11_297 (xc_j6_bitCount_0f7a4 hq_) rfl ⟨rfl, rfl, Nat.le_of_ble_eq_true rfl, Nat.le_of_ble_eq_true rfl⟩ rfl (Nat.le_of_ble_eq_true rfl) dX11_many_70 ?_
    exact gr_iret X dX11_many_73 (Option.some.inj hf) rfl
  replace hf := ot_f hf hs2
  by_cases hs3 : x1 = 3
  · replace hf := ot_t hf hs3
    refine gr_tin X (3) 74 dX11_many_1 (by rw [hs3]; decide) (by decide) (by decide) rfl (by decide) ?_
    refine gr_aload_n X dX11_many_74 rfl 0 rfl ?_
    refine gC_get_HH_0 X hK fk11_10 dX11_many_75 ?_
    refine gC_get_T0_18 X hK fk11_276 dX11_many_78 ?_
    exact gr_iret X dX11_many_81 (Option.some.inj hf) rfl
  replace hf := ot_f hf hs3
  by_cases hs4 : x1 = 4
  · replace hf := ot_t hf hs4
    refine gr_tin X (4) 82 dX11_many_1 (by rw [hs4]; decide) (by decide) (by decide) rfl (by decide) ?_
    refine gr_aload_n X dX11_many_82 rfl 0 rfl ?_
    refine gC_get_HH_9 X hK fk11_306 dX11_many_83 ?_
    exact gr_iret X dX11_many_86 (Option.some.inj hf) rfl
  replace hf := ot_f hf hs4
  by_cases hs5 : x1 = 5
  · replace hf := ot_t hf hs5
    refine gr_tin X (5) 87 dX11_many_1 (by rw [hs5]; decide) (by decide) (by decide) rfl (by decide) ?_
    refine gr_aload_n X dX11_many_87 rfl 0 rfl ?_
    refine gC_get_HH_7 X hK fk11_174 dX11_many_88 ?_
    exact gr_iret X dX11_many_91 (Option.some.inj hf) rfl
  replace hf := ot_f hf hs5
  by_cases hs6 : x1 = 6
  · replace hf := ot_t hf hs6
    refine gr_tin X (6) 92 dX11_many_1 (by rw [hs6]; decide) (by decide) (by decide) rfl (by decide) ?_
    refine gr_aload_n X dX11_many_92 rfl 0 rfl ?_
    refine gC_get_HH_5 X hK fk11_38 dX11_many_93 ?_
    refine gC_get_VO_4 X hK fk11_376 dX11_many_96 ?_
    exact gr_iret X dX11_many_99 (Option.some.inj hf) rfl
  replace hf := ot_f hf hs6
  refine gr_tout X 100 dX11_many_1 (by have := lv_neT hs0 (show (0 : Int32).toInt = 0 by decide); have := lv_neT hs1 (show (1 : Int32).toInt = 1 by decide); have := lv_neT hs2 (show (2 : Int32).toInt = 2 by decide); have := lv_neT hs3 (show (3 : Int32).toInt = 3 by decide); have := lv_neT hs4 (show (4 : Int32).toInt = 4 by decide); have := lv_neT hs5 (show (5 : Int32).toInt = 5 by decide); have := lv_neT hs6 (show (6 : Int32).toInt = 6 by decide); omega) (by decide) ?_
  refine gr_iconst (v := -1) X dX11_many_100 (by decide) ?_
  exact gr_iret X dX11_many_101 (Option.some.inj hf) rfl
abbrev ro_ru_copyFrom_R1_R0 : Room := { frames := 1, cells := 0, slots := 0, locals := 80 }
def fc_ru_copyFrom_R1_R0 (τ : SC) : Option SC := (hl (sc τ 220 (fun _ => (τ.1 120 0))) fun τ1 => (hl (sc τ1 221 (va_cpy (τ1.1 121) (τ1.1 221) 0 0 8)) fun τ2 => (hl (sc τ2 222 (va_cpy (τ2.1 122) (τ2.1 222) 0 0 8)) fun τ3 => (hl (sc τ3 223 (va_cpy (τ3.1 123) (τ3.1 223) 0 0 8)) fun τ4 => (hl (sc τ4 224 (va_cpy (τ4.1 124) (τ4.1 224) 0 0 200)) fun τ5 => (some τ5))))))
set_option maxHeartbeats 4000000 in
set_option maxRecDepth 100000 in
theorem xc_ru_copyFrom_R1_R0 {l : Launch} {D : va_G} {cs : Nat → ClassId} {sK sV : Nat → Nat} {tA : Nat} {ad : Nat → Nat} {τ : SC} {υ : SC} (hf : fc_ru_copyFrom_R1_R0 τ = some υ) : ctV l (wC ad cs) D vwCl (kC D cs sK sV tA) yX8_copyFrom cX8_copyFrom 2 ro_ru_copyFrom_R1_R0 [.ref (ad 231), .ref (ad 131)] τ υ := by
  refine ct_V RX8 (by decide +kernel) rfl (Nat.le_of_ble_eq_true rfl) ?_
  intro p e s m args below meth c A X hK hA
  refine gr_eqL (L2 := [(0, .ref (ad 231)), (1, .ref (ad 131))]) rfl ?_
  unfold fc_ru_copyFrom_R1_R0 at hf
  refine gr_aload_n X dX8_copyFrom_0 rfl 0 rfl ?_
  refine gr_aload_n X dX8_copyFrom_1 rfl 1 rfl ?_
  refine gC_get_R0_0 X hK fk8_30 dX8_copyFrom_2 ?_
  refine gC_put_R1_0 X hK fk8_30 dX8_copyFrom_5 ?_
  refine gC_gen (fun τ1 e_τ1 => ?_)
  replace hf := ot_l hf e_τ1
  refine gr_aload_n X dX8_copyFrom_8 rfl 1 rfl ?_
  refine gC_get_R0_1 X hK fk8_9 dX8_copyFrom_9 ?_
  refine gr_iconst (v := 0) X dX8_copyFrom_12 (by decide) ?_
  refine gr_aload_n X dX8_copyFrom_13 rfl 0 rfl ?_
  refine gC_get_R1_1 X hK fk8_9 dX8_copyFrom_14 ?_
  refine gr_iconst (v := 0) X dX8_copyFrom_17 (by decide) ?_
  refine gr_bipush (v := 8) X dX8_copyFrom_18 (by decide) ?_
  refine gC_copy_121_221 X hK cy8_34 ⟨Nat.le_of_ble_eq_true rfl, Nat.le_of_ble_eq_true rfl⟩ dX8_copyFrom_20 ?_
  refine gC_gen (fun τ2 e_τ2 => ?_)
  replace hf := ot_l hf e_τ2
  refine gr_aload_n X dX8_copyFrom_23 rfl 1 rfl ?_
  refine gC_get_R0_2 X hK fk8_15 dX8_copyFrom_24 ?_
  refine gr_iconst (v := 0) X dX8_copyFrom_27 (by decide) ?_
  refine gr_aload_n X dX8_copyFrom_28 rfl 0 rfl ?_
  refine gC_get_R1_2 X hK fk8_15 dX8_copyFrom_29 ?_
  refine gr_iconst (v := 0) X dX8_copyFrom_32 (by decide) ?_
  refine gr_bipush (v := 8) X dX8_copyFrom_33 (by decide) ?_
  refine gC_copy_122_222 X hK cy8_34 ⟨Nat.le_of_ble_eq_true rfl, Nat.le_of_ble_eq_true rfl⟩ dX8_copyFrom_35 ?_
  refine gC_gen (fun τ3 e_τ3 => ?_)
  replace hf := ot_l hf e_τ3
  refine gr_aload_n X dX8_copyFrom_38 rfl 1 rfl ?_
  refine gC_get_R0_3 X hK fk8_18 dX8_copyFrom_39 ?_
  refine gr_iconst (v := 0) X dX8_copyFrom_42 (by decide) ?_
  refine gr_aload_n X dX8_copyFrom_43 rfl 0 rfl ?_
  refine gC_get_R1_3 X hK fk8_18 dX8_copyFrom_44 ?_
  refine gr_iconst (v := 0) X dX8_copyFrom_47 (by decide) ?_
  refine gr_bipush (v := 8) X dX8_copyFrom_48 (by decide) ?_
  refine gC_copy_123_223 X hK cy8_34 ⟨Nat.le_of_ble_eq_true rfl, Nat.le_of_ble_eq_true rfl⟩ dX8_copyFrom_50 ?_
  refine gC_gen (fun τ4 e_τ4 => ?_)
  replace hf := ot_l hf e_τ4
  refine gr_aload_n X dX8_copyFrom_53 rfl 1 rfl ?_
  refine gC_get_R0_4 X hK fk8_21 dX8_copyFrom_54 ?_
  refine gr_iconst (v := 0) X dX8_copyFrom_57 (by decide) ?_
  refine gr_aload_n X dX8_copyFrom_58 rfl 0 rfl ?_
  refine gC_get_R1_4 X hK fk8_21 dX8_copyFrom_59 ?_
  refine gr_iconst (v := 0) X dX8_copyFrom_62 (by decide) ?_
  refine gr_sipush (v := 200) X dX8_copyFrom_63 (by decide) ?_
  refine gC_copy_124_224 X hK cy8_34 ⟨Nat.le_of_ble_eq_true rfl, Nat.le_of_ble_eq_true rfl⟩ dX8_copyFrom_66 ?_
  refine gC_gen (fun τ5 e_τ5 => ?_)
  replace hf := ot_l hf e_τ5
  exact gr_vret X dX8_copyFrom_69 (Option.some.inj hf)
