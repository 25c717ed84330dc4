abbrev ro_vo_clear : Room := { frames := 0, cells := 0, slots := 0, locals := 0 }
def fc_vo_clear (τ : SC) : Option SC := (hl (sc τ 502 (fun _ => (0 : Int32))) fun τ1 => (hl (sc τ1 504 (fun _ => (0 : Int32))) fun τ2 => (some τ2)))
set_option maxHeartbeats 4000000 in
set_option maxRecDepth 100000 in
theorem xc_vo_clear {l : Launch} {D : va_G} {cs : Nat → ClassId} {sK sV : Nat → Nat} {tA : Nat} {ad : Nat → Nat} {τ : SC} {υ : SC} (hf : fc_vo_clear τ = some υ) : ctV l (wC ad cs) D vwCl (kC D cs sK sV tA) yX10_clear cX10_clear 1 ro_vo_clear [.ref (ad 530)] τ υ := by
  refine ct_V RX10 (by decide +kernel) rfl (Nat.le_of_ble_eq_true rfl) ?_
  intro p e s m args below meth c A X hK hA
  refine gr_eqL (L2 := [(0, .ref (ad 530))]) rfl ?_
  unfold fc_vo_clear at hf
  refine gr_aload_n X dX10_clear_0 rfl 0 rfl ?_
  refine gr_iconst (v := 0) X dX10_clear_1 (by decide) ?_
  refine gC_put_VO_2 X hK (by decide) fk10_15 dX10_clear_2 ?_
  refine gC_gen (fun τ1 e_τ1 => ?_)
  replace hf := ot_l hf e_τ1
  refine gr_aload_n X dX10_clear_5 rfl 0 rfl ?_
  refine gr_iconst (v := 0) X dX10_clear_6 (by decide) ?_
  refine gC_put_VO_4 X hK fk10_19 dX10_clear_7 ?_
  refine gC_gen (fun τ2 e_τ2 => ?_)
  replace hf := ot_l hf e_τ2
  exact gr_vret X dX10_clear_10 (Option.some.inj hf)
abbrev ro_vo_begin : Room := { frames := 0, cells := 0, slots := 0, locals := 0 }
def fc_vo_begin (x1 : Int32) (τ : SC) : Option SC := (if ¬ (τ.1 502 0) = 0 then (some τ) else (if (30 : Int32) ≤ (τ.1 504 0) then (some τ) else (oc (hin (τ.1 504 0) 30) (hl (sc τ 503 (upd (τ.1 503) (Int32.toNatClampNeg (τ.1 504 0)) x1)) fun τ1 => (hl (sc τ1 504 (fun _ => ((τ1.1 504 0) + (1 : Int32)))) fun τ2 => (some τ2))))))
set_option maxHeartbeats 4000000 in
set_option maxRecDepth 100000 in
theorem xc_vo_begin {l : Launch} {D : va_G} {cs : Nat → ClassId} {sK sV : Nat → Nat} {tA : Nat} {ad : Nat → Nat} {τ : SC} {x1 : Int32} {υ : SC} (hf : fc_vo_begin x1 τ = some υ) : ctV l (wC ad cs) D vwCl (kC D cs sK sV tA) yX10_begin cX10_begin 2 ro_vo_begin [.ref (ad 530), .int x1] τ υ := by
  refine ct_V RX10 (by decide +kernel) rfl (Nat.le_of_ble_eq_true rfl) ?_
  intro p e s m args below meth c A X hK hA
  refine gr_eqL (L2 := [(0, .ref (ad 530)), (1, .int x1)]) rfl ?_
  unfold fc_vo_begin at hf
  refine gr_aload_n X dX10_begin_0 rfl 0 rfl ?_
  refine gC_get_VO_2 X hK fk10_15 dX10_begin_1 ?_
  refine gr_if_ne X 36 dX10_begin_4 (by decide) (fun hc_ => ?_) (fun hc_ => ?_)
  · replace hf := ot_t hf hc_
    exact gr_vret X dX10_begin_36 (Option.some.inj hf)
  · replace hf := ot_f hf hc_
    refine gr_aload_n X dX10_begin_7 rfl 0 rfl ?_
    refine gC_get_VO_4 X hK fk10_19 dX10_begin_8 ?_
    refine gr_bipush (v := 30) X dX10_begin_11 (by decide) ?_
    refine gr_icmp_ge X 36 dX10_begin_13 (by decide) (fun hc_ => ?_) (fun hc_ => ?_)
    · replace hf := ot_t hf hc_
      exact gr_vret X dX10_begin_36 (Option.some.inj hf)
    · replace hf := ot_f hf hc_
      refine gr_aload_n X dX10_begin_16 rfl 0 rfl ?_
      refine gC_get_VO_3 X hK fk10_9 dX10_begin_17 ?_
      refine gr_aload_n X dX10_begin_20 rfl 0 rfl ?_
      refine gC_get_VO_4 X hK fk10_19 dX10_begin_21 ?_
      refine gr_iload_n X dX10_begin_24 rfl 1 rfl ?_
      have hi_ := oc_1 hf
      replace hf := oc_2 hf
      refine gC_ast_503 X hK (Int32.toNatClampNeg (τ.1 504 0)) hi_ rfl dX10_begin_25 ?_
      refine gC_gen (fun τ1 e_τ1 => ?_)
      replace hf := ot_l hf e_τ1
      refine gr_aload_n X dX10_begin_26 rfl 0 rfl ?_
      refine gr_dup X dX10_begin_27 rfl ?_
      refine gC_get_VO_4 X hK fk10_19 dX10_begin_28 ?_
      refine gr_iconst (v := 1) X dX10_begin_31 (by decide) ?_
      refine gr_iadd X dX10_begin_32 ?_
      refine gC_put_VO_4 X hK fk10_19 dX10_begin_33 ?_
      refine gC_gen (fun τ2 e_τ2 => ?_)
      replace hf := ot_l hf e_τ2
      exact gr_vret X dX10_begin_36 (Option.some.inj hf)
abbrev ro_gu_knocks_G0 : Room := { frames := 1, cells := 0, slots := 0, locals := 21 }
def fc_gu_knocks_G0 (x2 : Int32) (τ : SC) : Option (Int32 × SC) := (Option.bind (fc_vo_begin (10 : Int32) τ) fun τ2 => (some (((x2 * (3 : Int32)) - (τ2.1 500 0)), τ2)))
set_option maxHeartbeats 4000000 in
set_option maxRecDepth 100000 in
theorem xc_gu_knocks_G0 {l : Launch} {D : va_G} {cs : Nat → ClassId} {sK sV : Nat → Nat} {tA : Nat} {ad : Nat → Nat} {τ : SC} {x2 : Int32} {r : Int32} {υ : SC} (hf : fc_gu_knocks_G0 x2 τ = some (r, υ)) : ctI l (wC ad cs) D vwCl (kC D cs sK sV tA) yX4_knocks cX4_knocks 3 .int ro_gu_knocks_G0 [.ref (ad 140), .ref (ad 530), .int x2] τ r υ := by
  refine ct_I RX4 (by decide +kernel) rfl (Nat.le_of_ble_eq_true rfl) ?_
  intro p e s m args below meth c A X hK hA
  refine gr_eqL (L2 := [(0, .ref (ad 140)), (1, .ref (ad 530)), (2, .int x2)]) rfl ?_
  unfold fc_gu_knocks_G0 at hf
  refine gr_aload_n X dX4_knocks_0 rfl 1 rfl ?_
  refine gr_bipush (v := 10) X dX4_knocks_1 (by decide) ?_
  obtain ⟨τ2, hq_, hf⟩ := ot_b hf
  refine gc_Vv (rest := []) X kC_ok hK hA cw4_7 (rvC_VO hK) (xc_vo_begin hq_) rfl ⟨rfl, rfl, Nat.le_of_ble_eq_true rfl, Nat.le_of_ble_eq_true rfl⟩ rfl (Nat.le_of_ble_eq_true rfl) dX4_knocks_3 ?_
  refine gr_iload_n X dX4_knocks_6 rfl 2 rfl ?_
  refine gr_iconst (v := 3) X dX4_knocks_7 (by decide) ?_
  refine gr_imul X dX4_knocks_8 ?_
  refine gr_aload_n X dX4_knocks_9 rfl 1 rfl ?_
  refine gC_get_VO_0 X hK fk4_13 dX4_knocks_10 ?_
  refine gr_isub X dX4_knocks_13 ?_
  exact gr_iret X dX4_knocks_14 (Prod.mk.inj (Option.some.inj hf)).1 (Prod.mk.inj (Option.some.inj hf)).2
abbrev ro_gu_knocks_G1 : Room := { frames := 1, cells := 0, slots := 0, locals := 21 }
def fc_gu_knocks_G1 (x2 : Int32) (τ : SC) : Option (Int32 × SC) := (Option.bind (fc_vo_begin (10 : Int32) τ) fun τ2 => (some (((x2 * (3 : Int32)) - (τ2.1 500 0)), τ2)))
set_option maxHeartbeats 4000000 in
set_option maxRecDepth 100000 in
theorem xc_gu_knocks_G1 {l : Launch} {D : va_G} {cs : Nat → ClassId} {sK sV : Nat → Nat} {tA : Nat} {ad : Nat → Nat} {τ : SC} {x2 : Int32} {r : Int32} {υ : SC} (hf : fc_gu_knocks_G1 x2 τ = some (r, υ)) : ctI l (wC ad cs) D vwCl (kC D cs sK sV tA) yX4_knocks cX4_knocks 3 .int ro_gu_knocks_G1 [.ref (ad 141), .ref (ad 530), .int x2] τ r υ := by
  refine ct_I RX4 (by decide +kernel) rfl (Nat.le_of_ble_eq_true rfl) ?_
  intro p e s m args below meth c A X hK hA
  refine gr_eqL (L2 := [(0, .ref (ad 141)), (1, .ref (ad 530)), (2, .int x2)]) rfl ?_
  unfold fc_gu_knocks_G1 at hf
  refine gr_aload_n X dX4_knocks_0 rfl 1 rfl ?_
  refine gr_bipush (v := 10) X dX4_knocks_1 (by decide) ?_
  obtain ⟨τ2, hq_, hf⟩ := ot_b hf
  refine gc_Vv (rest := []) X kC_ok hK hA cw4_7 (rvC_VO hK) (xc_vo_begin hq_) rfl ⟨rfl, rfl, Nat.le_of_ble_eq_true rfl, Nat.le_of_ble_eq_true rfl⟩ rfl (Nat.le_of_ble_eq_true rfl) dX4_knocks_3 ?_
  refine gr_iload_n X dX4_knocks_6 rfl 2 rfl ?_
  refine gr_iconst (v := 3) X dX4_knocks_7 (by decide) ?_
  refine gr_imul X dX4_knocks_8 ?_
  refine gr_aload_n X dX4_knocks_9 rfl 1 rfl ?_
  refine gC_get_VO_0 X hK fk4_13 dX4_knocks_10 ?_
  refine gr_isub X dX4_knocks_13 ?_
  exact gr_iret X dX4_knocks_14 (Prod.mk.inj (Option.some.inj hf)).1 (Prod.mk.inj (Option.some.inj hf)).2
abbrev ro_ba_knocks_G1 : Room := { frames := 2, cells := 0, slots := 0, locals := 43 }
def fc_ba_knocks_G1 (x2 : Int32) (τ : SC) : Option (Int32 × SC) := (Option.bind (fc_vo_begin (20 : Int32) τ) fun τ2 => (Option.bind (fc_gu_knocks_G1 x2 τ2) fun p_ => hl p_.1 fun q3 => hl p_.2 fun τ4 => (some ((q3 - (3 : Int32)), τ4))))
set_option maxHeartbeats 4000000 in
set_option maxRecDepth 100000 in
theorem xc_ba_knocks_G1 {l : Launch} {D : va_G} {cs : Nat → ClassId} {sK sV : Nat → Nat} {tA : Nat} {ad : Nat → Nat} {τ : SC} {x2 : Int32} {r : Int32} {υ : SC} (hf : fc_ba_knocks_G1 x2 τ = some (r, υ)) : ctI l (wC ad cs) D vwCl (kC D cs sK sV tA) yX0_knocks cX0_knocks 3 .int ro_ba_knocks_G1 [.ref (ad 141), .ref (ad 530), .int x2] τ r υ := by
  refine ct_I RX0 (by decide +kernel) rfl (Nat.le_of_ble_eq_true rfl) ?_
  intro p e s m args below meth c A X hK hA
  refine gr_eqL (L2 := [(0, .ref (ad 141)), (1, .ref (ad 530)), (2, .int x2)]) rfl ?_
  unfold fc_ba_knocks_G1 at hf
  refine gr_aload_n X dX0_knocks_0 rfl 1 rfl ?_
  refine gr_bipush (v := 20) X dX0_knocks_1 (by decide) ?_
  obtain ⟨τ2, hq_, hf⟩ := ot_b hf
  refine gc_Vv (rest := []) X kC_ok hK hA cw0_15 (rvC_VO hK) (xc_vo_begin hq_) rfl ⟨rfl, rfl, Nat.le_of_ble_eq_true rfl, Nat.le_of_ble_eq_true rfl⟩ rfl (Nat.le_of_ble_eq_true rfl) dX0_knocks_3 ?_
  refine gr_aload_n X dX0_knocks_6 rfl 0 rfl ?_
  refine gr_aload_n X dX0_knocks_7 rfl 1 rfl ?_
  refine gr_iload_n X dX0_knocks_8 rfl 2 rfl ?_
  obtain ⟨⟨q3, τ4⟩, hq_, hf⟩ := ot_b hf
  replace hf := ot_l (y := q3) hf rfl
  replace hf := ot_l (y := τ4) hf rfl
  refine gc_Pi (rest := []) X kC_ok hK hA cw0_21 (hK.1.1 0 _ rfl).2 (rvC_G1 hK) (xc_gu_knocks_G1 hq_) rfl ⟨rfl, rfl, Nat.le_of_ble_eq_true rfl, Nat.le_of_ble_eq_true rfl⟩ rfl (Nat.le_of_ble_eq_true rfl) dX0_knocks_9 ?_
  refine gr_iconst (v := 3) X dX0_knocks_12 (by decide) ?_
  refine gr_isub X dX0_knocks_13 ?_
  exact gr_iret X dX0_knocks_14 (Prod.mk.inj (Option.some.inj hf)).1 (Prod.mk.inj (Option.some.inj hf)).2
abbrev ro_gu_knocks_G2 : Room := { frames := 1, cells := 0, slots := 0, locals := 21 }
def fc_gu_knocks_G2 (x2 : Int32) (τ : SC) : Option (Int32 × SC) := (Option.bind (fc_vo_begin (10 : Int32) τ) fun τ2 => (some (((x2 * (3 : Int32)) - (τ2.1 500 0)), τ2)))
set_option maxHeartbeats 4000000 in
set_option maxRecDepth 100000 in
theorem xc_gu_knocks_G2 {l : Launch} {D : va_G} {cs : Nat → ClassId} {sK sV : Nat → Nat} {tA : Nat} {ad : Nat → Nat} {τ : SC} {x2 : Int32} {r : Int32} {υ : SC} (hf : fc_gu_knocks_G2 x2 τ = some (r, υ)) : ctI l (wC ad cs) D vwCl (kC D cs sK sV tA) yX4_knocks cX4_knocks 3 .int ro_gu_knocks_G2 [.ref (ad 142), .ref (ad 530), .int x2] τ r υ := by
  refine ct_I RX4 (by decide +kernel) rfl (Nat.le_of_ble_eq_true rfl) ?_
  intro p e s m args below meth c A X hK hA
  refine gr_eqL (L2 := [(0, .ref (ad 142)), (1, .ref (ad 530)), (2, .int x2)]) rfl ?_
  unfold fc_gu_knocks_G2 at hf
  refine gr_aload_n X dX4_knocks_0 rfl 1 rfl ?_
  refine gr_bipush (v := 10) X dX4_knocks_1 (by decide) ?_
  obtain ⟨τ2, hq_, hf⟩ := ot_b hf
  refine gc_Vv (rest := []) X kC_ok hK hA cw4_7 (rvC_VO hK) (xc_vo_begin hq_) rfl ⟨rfl, rfl, Nat.le_of_ble_eq_true rfl, Nat.le_of_ble_eq_true rfl⟩ rfl (Nat.le_of_ble_eq_true rfl) dX4_knocks_3 ?_
  refine gr_iload_n X dX4_knocks_6 rfl 2 rfl ?_
  refine gr_iconst (v := 3) X dX4_knocks_7 (by decide) ?_
  refine gr_imul X dX4_knocks_8 ?_
  refine gr_aload_n X dX4_knocks_9 rfl 1 rfl ?_
  refine gC_get_VO_0 X hK fk4_13 dX4_knocks_10 ?_
  refine gr_isub X dX4_knocks_13 ?_
  exact gr_iret X dX4_knocks_14 (Prod.mk.inj (Option.some.inj hf)).1 (Prod.mk.inj (Option.some.inj hf)).2
abbrev ro_gu_knocks_G3 : Room := { frames := 1, cells := 0, slots := 0, locals := 21 }
def fc_gu_knocks_G3 (x2 : Int32) (τ : SC) : Option (Int32 × SC) := (Option.bind (fc_vo_begin (10 : Int32) τ) fun τ2 => (some (((x2 * (3 : Int32)) - (τ2.1 500 0)), τ2)))
set_option maxHeartbeats 4000000 in
set_option maxRecDepth 100000 in
theorem xc_gu_knocks_G3 {l : Launch} {D : va_G} {cs : Nat → ClassId} {sK sV : Nat → Nat} {tA : Nat} {ad : Nat → Nat} {τ : SC} {x2 : Int32} {r : Int32} {υ : SC} (hf : fc_gu_knocks_G3 x2 τ = some (r, υ)) : ctI l (wC ad cs) D vwCl (kC D cs sK sV tA) yX4_knocks cX4_knocks 3 .int ro_gu_knocks_G3 [.ref (ad 143), .ref (ad 530), .int x2] τ r υ := by
  refine ct_I RX4 (by decide +kernel) rfl (Nat.le_of_ble_eq_true rfl) ?_
  intro p e s m args below meth c A X hK hA
  refine gr_eqL (L2 := [(0, .ref (ad 143)), (1, .ref (ad 530)), (2, .int x2)]) rfl ?_
  unfold fc_gu_knocks_G3 at hf
  refine gr_aload_n X dX4_knocks_0 rfl 1 rfl ?_
  refine gr_bipush (v := 10) X dX4_knocks_1 (by decide) ?_
  obtain ⟨τ2, hq_, hf⟩ := ot_b hf
  refine gc_Vv (rest := []) X kC_ok hK hA cw4_7 (rvC_VO hK) (xc_vo_begin hq_) rfl ⟨rfl, rfl, Nat.le_of_ble_eq_true rfl, Nat.le_of_ble_eq_true rfl⟩ rfl (Nat.le_of_ble_eq_true rfl) dX4_knocks_3 ?_
  refine gr_iload_n X dX4_knocks_6 rfl 2 rfl ?_
  refine gr_iconst (v := 3) X dX4_knocks_7 (by decide) ?_
  refine gr_imul X dX4_knocks_8 ?_
  refine gr_aload_n X dX4_knocks_9 rfl 1 rfl ?_
  refine gC_get_VO_0 X hK fk4_13 dX4_knocks_10 ?_
  refine gr_isub X dX4_knocks_13 ?_
  exact gr_iret X dX4_knocks_14 (Prod.mk.inj (Option.some.inj hf)).1 (Prod.mk.inj (Option.some.inj hf)).2
abbrev ro_do_knocks_G3 : Room := { frames := 2, cells := 0, slots := 0, locals := 43 }
def fc_do_knocks_G3 (x2 : Int32) (τ : SC) : Option (Int32 × SC) := (Option.bind (fc_vo_begin (50 : Int32) τ) fun τ2 => (Option.bind (fc_gu_knocks_G3 x2 τ2) fun p_ => hl p_.1 fun q3 => hl p_.2 fun τ4 => (some ((q3 ^^^ (9 : Int32)), τ4))))
set_option maxHeartbeats 4000000 in
set_option maxRecDepth 100000 in
theorem xc_do_knocks_G3 {l : Launch} {D : va_G} {cs : Nat → ClassId} {sK sV : Nat → Nat} {tA : Nat} {ad : Nat → Nat} {τ : SC} {x2 : Int32} {r : Int32} {υ : SC} (hf : fc_do_knocks_G3 x2 τ = some (r, υ)) : ctI l (wC ad cs) D vwCl (kC D cs sK sV tA) yX3_knocks cX3_knocks 3 .int ro_do_knocks_G3 [.ref (ad 143), .ref (ad 530), .int x2] τ r υ := by
  refine ct_I RX3 (by decide +kernel) rfl (Nat.le_of_ble_eq_true rfl) ?_
  intro p e s m args below meth c A X hK hA
  refine gr_eqL (L2 := [(0, .ref (ad 143)), (1, .ref (ad 530)), (2, .int x2)]) rfl ?_
  unfold fc_do_knocks_G3 at hf
  refine gr_aload_n X dX3_knocks_0 rfl 1 rfl ?_
  refine gr_bipush (v := 50) X dX3_knocks_1 (by decide) ?_
  obtain ⟨τ2, hq_, hf⟩ := ot_b hf
  refine gc_Vv (rest := []) X kC_ok hK hA cw3_15 (rvC_VO hK) (xc_vo_begin hq_) rfl ⟨rfl, rfl, Nat.le_of_ble_eq_true rfl, Nat.le_of_ble_eq_true rfl⟩ rfl (Nat.le_of_ble_eq_true rfl) dX3_knocks_3 ?_
  refine gr_aload_n X dX3_knocks_6 rfl 0 rfl ?_
  refine gr_aload_n X dX3_knocks_7 rfl 1 rfl ?_
  refine gr_iload_n X dX3_knocks_8 rfl 2 rfl ?_
  obtain ⟨⟨q3, τ4⟩, hq_, hf⟩ := ot_b hf
  replace hf := ot_l (y := q3) hf rfl
  replace hf := ot_l (y := τ4) hf rfl
  refine gc_Qi (rest := []) X kC_ok hK hA cw3_21 (hK.1.1 3 _ rfl).2 (rvC_G3 hK) (xc_gu_knocks_G3 hq_) rfl ⟨rfl, rfl, Nat.le_of_ble_eq_true rfl, Nat.le_of_ble_eq_true rfl⟩ rfl (Nat.le_of_ble_eq_true rfl) dX3_knocks_9 ?_
  refine gr_bipush (v := 9) X dX3_knocks_12 (by decide) ?_
  refine gr_ixor X dX3_knocks_14 ?_
  exact gr_iret X dX3_knocks_15 (Prod.mk.inj (Option.some.inj hf)).1 (Prod.mk.inj (Option.some.inj hf)).2
abbrev ro_gu_knocks_G4 : Room := { frames := 1, cells := 0, slots := 0, locals := 21 }
def fc_gu_knocks_G4 (x2 : Int32) (τ : SC) : Option (Int32 × SC) := (Option.bind (fc_vo_begin (10 : Int32) τ) fun τ2 => (some (((x2 * (3 : Int32)) - (τ2.1 500 0)), τ2)))
set_option maxHeartbeats 4000000 in
set_option maxRecDepth 100000 in
theorem xc_gu_knocks_G4 {l : Launch} {D : va_G} {cs : Nat → ClassId} {sK sV : Nat → Nat} {tA : Nat} {ad : Nat → Nat} {τ : SC} {x2 : Int32} {r : Int32} {υ : SC} (hf : fc_gu_knocks_G4 x2 τ = some (r, υ)) : ctI l (wC ad cs) D vwCl (kC D cs sK sV tA) yX4_knocks cX4_knocks 3 .int ro_gu_knocks_G4 [.ref (ad 144), .ref (ad 530), .int x2] τ r υ := by
  refine ct_I RX4 (by decide +kernel) rfl (Nat.le_of_ble_eq_true rfl) ?_
  intro p e s m args below meth c A X hK hA
  refine gr_eqL (L2 := [(0, .ref (ad 144)), (1, .ref (ad 530)), (2, .int x2)]) rfl ?_
  unfold fc_gu_knocks_G4 at hf
  refine gr_aload_n X dX4_knocks_0 rfl 1 rfl ?_
  refine gr_bipush (v := 10) X dX4_knocks_1 (by decide) ?_
  obtain ⟨τ2, hq_, hf⟩ := ot_b hf
  refine gc_Vv (rest := []) X kC_ok hK hA cw4_7 (rvC_VO hK) (xc_vo_begin hq_) rfl ⟨rfl, rfl, Nat.le_of_ble_eq_true rfl, Nat.le_of_ble_eq_true rfl⟩ rfl (Nat.le_of_ble_eq_true rfl) dX4_knocks_3 ?_
  refine gr_iload_n X dX4_knocks_6 rfl 2 rfl ?_
  refine gr_iconst (v := 3) X dX4_knocks_7 (by decide) ?_
  refine gr_imul X dX4_knocks_8 ?_
  refine gr_aload_n X dX4_knocks_9 rfl 1 rfl ?_
  refine gC_get_VO_0 X hK fk4_13 dX4_knocks_10 ?_
  refine gr_isub X dX4_knocks_13 ?_
  exact gr_iret X dX4_knocks_14 (Prod.mk.inj (Option.some.inj hf)).1 (Prod.mk.inj (Option.some.inj hf)).2
abbrev ro_gu_knocks_G5 : Room := { frames := 1, cells := 0, slots := 0, locals := 21 }
def fc_gu_knocks_G5 (x2 : Int32) (τ : SC) : Option (Int32 × SC) := (Option.bind (fc_vo_begin (10 : Int32) τ) fun τ2 => (some (((x2 * (3 : Int32)) - (τ2.1 500 0)), τ2)))
set_option maxHeartbeats 4000000 in
set_option maxRecDepth 100000 in
theorem xc_gu_knocks_G5 {l : Launch} {D : va_G} {cs : Nat → ClassId} {sK sV : Nat → Nat} {tA : Nat} {ad : Nat → Nat} {τ : SC} {x2 : Int32} {r : Int32} {υ : SC} (hf : fc_gu_knocks_G5 x2 τ = some (r, υ)) : ctI l (wC ad cs) D vwCl (kC D cs sK sV tA) yX4_knocks cX4_knocks 3 .int ro_gu_knocks_G5 [.ref (ad 145), .ref (ad 530), .int x2] τ r υ := by
  refine ct_I RX4 (by decide +kernel) rfl (Nat.le_of_ble_eq_true rfl) ?_
  intro p e s m args below meth c A X hK hA
  refine gr_eqL (L2 := [(0, .ref (ad 145)), (1, .ref (ad 530)), (2, .int x2)]) rfl ?_
  unfold fc_gu_knocks_G5 at hf
  refine gr_aload_n X dX4_knocks_0 rfl 1 rfl ?_
  refine gr_bipush (v := 10) X dX4_knocks_1 (by decide) ?_
  obtain ⟨τ2, hq_, hf⟩ := ot_b hf
  refine gc_Vv (rest := []) X kC_ok hK hA cw4_7 (rvC_VO hK) (xc_vo_begin hq_) rfl ⟨rfl, rfl, Nat.le_of_ble_eq_true rfl, Nat.le_of_ble_eq_true rfl⟩ rfl (Nat.le_of_ble_eq_true rfl) dX4_knocks_3 ?_
  refine gr_iload_n X dX4_knocks_6 rfl 2 rfl ?_
  refine gr_iconst (v := 3) X dX4_knocks_7 (by decide) ?_
  refine gr_imul X dX4_knocks_8 ?_
  refine gr_aload_n X dX4_knocks_9 rfl 1 rfl ?_
  refine gC_get_VO_0 X hK fk4_13 dX4_knocks_10 ?_
  refine gr_isub X dX4_knocks_13 ?_
  exact gr_iret X dX4_knocks_14 (Prod.mk.inj (Option.some.inj hf)).1 (Prod.mk.inj (Option.some.inj hf)).2
def fN_knocks (n : Nat) (x1 : Int32) (τ : SC) : Option (Int32 × SC) := (if n = 0 then fc_gu_knocks_G0 x1 τ else (if n = 1 then fc_ba_knocks_G1 x1 τ else (if n = 2 then fc_gu_knocks_G2 x1 τ else (if n = 3 then fc_do_knocks_G3 x1 τ else (if n = 4 then fc_gu_knocks_G4 x1 τ else (if n = 5 then fc_gu_knocks_G5 x1 τ else none))))))
set_option maxHeartbeats 4000000 in
theorem gN11_357 {p : Program} {l : Launch} {e : Env} {R : Room} {s : State} {m : MethodId} {args : Array Value} {below : List Frame} {meth : Method} {c : Code} {A : Nat → Prop} {D : va_G} {cs : Nat → ClassId} {sK sV : Nat → Nat} {tA : Nat} {ad : Nat → Nat} {cc : ByteArray} {ret : Option FieldType} {pc nL : Nat} {L : List (Nat × Value)} {Q : State → Prop} {rest st0 : List Value} {τ υ : SC} {n : Nat} {x1 : Int32} {r : Int32} (X : hc p s m args meth c RX11 cc nL ret) (hK : kC D cs sK sV tA A s) (hA : ∀ q, s.heap.size ≤ q → A q) (hf : fN_knocks n x1 τ = some (r, υ)) (hst : st0 = [.int x1, .ref (ad 530)] ++ .ref (ad (140 + n)) :: rest) (hR : 3 ≤ R.frames ∧ 65 ≤ R.locals) (hcat : (rest.map fun v => v.category).sum ≤ 8) (hdg : decode cc pc = .ok (.invokevirtual 357, 3)) (kk : gg p l e R s m args below meth c (wC ad cs) D vwCl A nL Q (pc + 3) L (.int r :: rest) υ) : gg p l e R s m args below meth c (wC ad cs) D vwCl A nL Q pc L st0 τ := by
  subst hst
  unfold fN_knocks at hf
  by_cases h0 : n = 0
  · subst h0
    replace hf := ot_t hf rfl
    exact gc_Ui (rest := rest) (As := [.ref (ad 530), .int x1]) (b := ad 140) X kC_ok hK hA cu11_357_4 (rvC_G0 hK) (xc_gu_knocks_G0 hf) rfl ⟨rfl, rfl, Nat.le_trans (Nat.le_of_ble_eq_true rfl) hR.1, Nat.le_trans (Nat.le_of_ble_eq_true rfl) hR.2⟩ rfl hcat hdg kk
  replace hf := ot_f hf h0
  by_cases h1 : n = 1
  · subst h1
    replace hf := ot_t hf rfl
    exact gc_Ui (rest := rest) (As := [.ref (ad 530), .int x1]) (b := ad 141) X kC_ok hK hA cu11_357_0 (rvC_G1 hK) (xc_ba_knocks_G1 hf) rfl ⟨rfl, rfl, Nat.le_trans (Nat.le_of_ble_eq_true rfl) hR.1, Nat.le_trans (Nat.le_of_ble_eq_true rfl) hR.2⟩ rfl hcat hdg kk
  replace hf := ot_f hf h1
  by_cases h2 : n = 2
  · subst h2
    replace hf := ot_t hf rfl
    exact gc_Ui (rest := rest) (As := [.ref (ad 530), .int x1]) (b := ad 142) X kC_ok hK hA cu11_357_5 (rvC_G2 hK) (xc_gu_knocks_G2 hf) rfl ⟨rfl, rfl, Nat.le_trans (Nat.le_of_ble_eq_true rfl) hR.1, Nat.le_trans (Nat.le_of_ble_eq_true rfl) hR.2⟩ rfl hcat hdg kk
  replace hf := ot_f hf h2
  by_cases h3 : n = 3
  · subst h3
    replace hf := ot_t hf rfl
    exact gc_Ui (rest := rest) (As := [.ref (ad 530), .int x1]) (b := ad 143) X kC_ok hK hA cu11_357_3 (rvC_G3 hK) (xc_do_knocks_G3 hf) rfl ⟨rfl, rfl, Nat.le_trans (Nat.le_of_ble_eq_true rfl) hR.1, Nat.le_trans (Nat.le_of_ble_eq_true rfl) hR.2⟩ rfl hcat hdg kk
  replace hf := ot_f hf h3
  by_cases h4 : n = 4
  · subst h4
    replace hf := ot_t hf rfl
    exact gc_Ui (rest := rest) (As := [.ref (ad 530), .int x1]) (b := ad 144) X kC_ok hK hA cu11_357_1 (rvC_G4 hK) (xc_gu_knocks_G4 hf) rfl ⟨rfl, rfl, Nat.le_trans (Nat.le_of_ble_eq_true rfl) hR.1, Nat.le_trans (Nat.le_of_ble_eq_true rfl) hR.2⟩ rfl hcat hdg kk
  replace hf := ot_f hf h4
  by_cases h5 : n = 5
  · subst h5
    replace hf := ot_t hf rfl
    exact gc_Ui (rest := rest) (As := [.ref (ad 530), .int x1]) (b := ad 145) X kC_ok hK hA cu11_357_2 (rvC_G5 hK) (xc_gu_knocks_G5 hf) rfl ⟨rfl, rfl, Nat.le_trans (Nat.le_of_ble_eq_true rfl) hR.1, Nat.le_trans (Nat.le_of_ble_eq_true rfl) hR.2⟩ rfl hcat hdg kk
  replace hf := ot_f hf h5
  cases hf
abbrev ro_gu_tells_G0 : Room := { frames := 2, cells := 0, slots := 0, locals := 43 }
def fc_gu_tells_G0 (x2 : Int32) (τ : SC) : Option (Int32 × SC) := (Option.bind (fc_vo_begin (11 : Int32) τ) fun τ2 => (Option.bind (fc_gu_knocks_G0 x2 τ2) fun p_ => hl p_.1 fun q3 => hl p_.2 fun τ4 => (some ((q3 + ((2 : Int32) * (τ4.1 501 0))), τ4))))
set_option maxHeartbeats 4000000 in
set_option maxRecDepth 100000 in
theorem xc_gu_tells_G0 {l : Launch} {D : va_G} {cs : Nat → ClassId} {sK sV : Nat → Nat} {tA : Nat} {ad : Nat → Nat} {τ : SC} {x2 : Int32} {r : Int32} {υ : SC} (hf : fc_gu_tells_G0 x2 τ = some (r, υ)) : ctI l (wC ad cs) D vwCl (kC D cs sK sV tA) yX4_tells cX4_tells 3 .int ro_gu_tells_G0 [.ref (ad 140), .ref (ad 530), .int x2] τ r υ := by
  refine ct_I RX4 (by decide +kernel) rfl (Nat.le_of_ble_eq_true rfl) ?_
  intro p e s m args below meth c A X hK hA
  refine gr_eqL (L2 := [(0, .ref (ad 140)), (1, .ref (ad 530)), (2, .int x2)]) rfl ?_
  unfold fc_gu_tells_G0 at hf
  refine gr_aload_n X dX4_tells_0 rfl 1 rfl ?_
  refine gr_bipush (v := 11) X dX4_tells_1 (by decide) ?_
  obtain ⟨τ2, hq_, hf⟩ := ot_b hf
  refine gc_Vv (rest := []) X kC_ok hK hA cw4_7 (rvC_VO hK) (xc_vo_begin hq_) rfl ⟨rfl, rfl, Nat.le_of_ble_eq_true rfl, Nat.le_of_ble_eq_true rfl⟩ rfl (Nat.le_of_ble_eq_true rfl) dX4_tells_3 ?_
  refine gr_aload_n X dX4_tells_6 rfl 0 rfl ?_
  refine gr_aload_n X dX4_tells_7 rfl 1 rfl ?_
  refine gr_iload_n X dX4_tells_8 rfl 2 rfl ?_
  obtain ⟨⟨q3, τ4⟩, hq_, hf⟩ := ot_b hf
  replace hf := ot_l (y := q3) hf rfl
  replace hf := ot_l (y := τ4) hf rfl
  refine gc_Ui (rest := []) X kC_ok hK hA cu4_17_4 (rvC_G0 hK) (xc_gu_knocks_G0 hq_) rfl ⟨rfl, rfl, Nat.le_of_ble_eq_true rfl, Nat.le_of_ble_eq_true rfl⟩ rfl (Nat.le_of_ble_eq_true rfl) dX4_tells_9 ?_
  refine gr_iconst (v := 2) X dX4_tells_12 (by decide) ?_
  refine gr_aload_n X dX4_tells_13 rfl 1 rfl ?_
  refine gC_get_VO_1 X hK fk4_23 dX4_tells_14 ?_
  refine gr_imul X dX4_tells_17 ?_
  refine gr_iadd X dX4_tells_18 ?_
  exact gr_iret X dX4_tells_19 (Prod.mk.inj (Option.some.inj hf)).1 (Prod.mk.inj (Option.some.inj hf)).2
abbrev ro_gu_tells_G1 : Room := { frames := 3, cells := 0, slots := 0, locals := 65 }
def fc_gu_tells_G1 (x2 : Int32) (τ : SC) : Option (Int32 × SC) := (Option.bind (fc_vo_begin (11 : Int32) τ) fun τ2 => (Option.bind (fc_ba_knocks_G1 x2 τ2) fun p_ => hl p_.1 fun q3 => hl p_.2 fun τ4 => (some ((q3 + ((2 : Int32) * (τ4.1 501 0))), τ4))))
set_option maxHeartbeats 4000000 in
set_option maxRecDepth 100000 in
theorem xc_gu_tells_G1 {l : Launch} {D : va_G} {cs : Nat → ClassId} {sK sV : Nat → Nat} {tA : Nat} {ad : Nat → Nat} {τ : SC} {x2 : Int32} {r : Int32} {υ : SC} (hf : fc_gu_tells_G1 x2 τ = some (r, υ)) : ctI l (wC ad cs) D vwCl (kC D cs sK sV tA) yX4_tells cX4_tells 3 .int ro_gu_tells_G1 [.ref (ad 141), .ref (ad 530), .int x2] τ r υ := by
  refine ct_I RX4 (by decide +kernel) rfl (Nat.le_of_ble_eq_true rfl) ?_
  intro p e s m args below meth c A X hK hA
  refine gr_eqL (L2 := [(0, .ref (ad 141)), (1, .ref (ad 530)), (2, .int x2)]) rfl ?_
  unfold fc_gu_tells_G1 at hf
  refine gr_aload_n X dX4_tells_0 rfl 1 rfl ?_
  refine gr_bipush (v := 11) X dX4_tells_1 (by decide) ?_
  obtain ⟨τ2, hq_, hf⟩ := ot_b hf
  refine gc_Vv (rest := []) X kC_ok hK hA cw4_7 (rvC_VO hK) (xc_vo_begin hq_) rfl ⟨rfl, rfl, Nat.le_of_ble_eq_true rfl, Nat.le_of_ble_eq_true rfl⟩ rfl (Nat.le_of_ble_eq_true rfl) dX4_tells_3 ?_
  refine gr_aload_n X dX4_tells_6 rfl 0 rfl ?_
  refine gr_aload_n X dX4_tells_7 rfl 1 rfl ?_
  refine gr_iload_n X dX4_tells_8 rfl 2 rfl ?_
  obtain ⟨⟨q3, τ4⟩, hq_, hf⟩ := ot_b hf
  replace hf := ot_l (y := q3) hf rfl
  replace hf := ot_l (y := τ4) hf rfl
  refine gc_Ui (rest := []) X kC_ok hK hA cu4_17_0 (rvC_G1 hK) (xc_ba_knocks_G1 hq_) rfl ⟨rfl, rfl, Nat.le_of_ble_eq_true rfl, Nat.le_of_ble_eq_true rfl⟩ rfl (Nat.le_of_ble_eq_true rfl) dX4_tells_9 ?_
  refine gr_iconst (v := 2) X dX4_tells_12 (by decide) ?_
  refine gr_aload_n X dX4_tells_13 rfl 1 rfl ?_
  refine gC_get_VO_1 X hK fk4_23 dX4_tells_14 ?_
  refine gr_imul X dX4_tells_17 ?_
  refine gr_iadd X dX4_tells_18 ?_
  exact gr_iret X dX4_tells_19 (Prod.mk.inj (Option.some.inj hf)).1 (Prod.mk.inj (Option.some.inj hf)).2
abbrev ro_gu_tells_G2 : Room := { frames := 2, cells := 0, slots := 0, locals := 43 }
def fc_gu_tells_G2 (x2 : Int32) (τ : SC) : Option (Int32 × SC) := (Option.bind (fc_vo_begin (11 : Int32) τ) fun τ2 => (Option.bind (fc_gu_knocks_G2 x2 τ2) fun p_ => hl p_.1 fun q3 => hl p_.2 fun τ4 => (some ((q3 + ((2 : Int32) * (τ4.1 501 0))), τ4))))
set_option maxHeartbeats 4000000 in
set_option maxRecDepth 100000 in
theorem xc_gu_tells_G2 {l : Launch} {D : va_G} {cs : Nat → ClassId} {sK sV : Nat → Nat} {tA : Nat} {ad : Nat → Nat} {τ : SC} {x2 : Int32} {r : Int32} {υ : SC} (hf : fc_gu_tells_G2 x2 τ = some (r, υ)) : ctI l (wC ad cs) D vwCl (kC D cs sK sV tA) yX4_tells cX4_tells 3 .int ro_gu_tells_G2 [.ref (ad 142), .ref (ad 530), .int x2] τ r υ := by
  refine ct_I RX4 (by decide +kernel) rfl (Nat.le_of_ble_eq_true rfl) ?_
  intro p e s m args below meth c A X hK hA
  refine gr_eqL (L2 := [(0, .ref (ad 142)), (1, .ref (ad 530)), (2, .int x2)]) rfl ?_
  unfold fc_gu_tells_G2 at hf
  refine gr_aload_n X dX4_tells_0 rfl 1 rfl ?_
  refine gr_bipush (v := 11) X dX4_tells_1 (by decide) ?_
  obtain ⟨τ2, hq_, hf⟩ := ot_b hf
  refine gc_Vv (rest := []) X kC_ok hK hA cw4_7 (rvC_VO hK) (xc_vo_begin hq_) rfl ⟨rfl, rfl, Nat.le_of_ble_eq_true rfl, Nat.le_of_ble_eq_true rfl⟩ rfl (Nat.le_of_ble_eq_true rfl) dX4_tells_3 ?_
  refine gr_aload_n X dX4_tells_6 rfl 0 rfl ?_
  refine gr_aload_n X dX4_tells_7 rfl 1 rfl ?_
  refine gr_iload_n X dX4_tells_8 rfl 2 rfl ?_
  obtain ⟨⟨q3, τ4⟩, hq_, hf⟩ := ot_b hf
  replace hf := ot_l (y := q3) hf rfl
  replace hf := ot_l (y := τ4) hf rfl
  refine gc_Ui (rest := []) X kC_ok hK hA cu4_17_5 (rvC_G2 hK) (xc_gu_knocks_G2 hq_) rfl ⟨rfl, rfl, Nat.le_of_ble_eq_true rfl, Nat.le_of_ble_eq_true rfl⟩ rfl (Nat.le_of_ble_eq_true rfl) dX4_tells_9 ?_
  refine gr_iconst (v := 2) X dX4_tells_12 (by decide) ?_
  refine gr_aload_n X dX4_tells_13 rfl 1 rfl ?_
  refine gC_get_VO_1 X hK fk4_23 dX4_tells_14 ?_
  refine gr_imul X dX4_tells_17 ?_
  refine gr_iadd X dX4_tells_18 ?_
  exact gr_iret X dX4_tells_19 (Prod.mk.inj (Option.some.inj hf)).1 (Prod.mk.inj (Option.some.inj hf)).2
abbrev ro_la_tells_G2 : Room := { frames := 3, cells := 0, slots := 0, locals := 65 }
def fc_la_tells_G2 (x2 : Int32) (τ : SC) : Option (Int32 × SC) := (Option.bind (fc_vo_begin (30 : Int32) τ) fun τ2 => (Option.bind (fc_gu_tells_G2 (x2 - (τ2.1 500 0)) τ2) fun p_ => hl p_.1 fun q3 => hl p_.2 fun τ4 => (some (q3, τ4))))
set_option maxHeartbeats 4000000 in
set_option maxRecDepth 100000 in
theorem xc_la_tells_G2 {l : Launch} {D : va_G} {cs : Nat → ClassId} {sK sV : Nat → Nat} {tA : Nat} {ad : Nat → Nat} {τ : SC} {x2 : Int32} {r : Int32} {υ : SC} (hf : fc_la_tells_G2 x2 τ = some (r, υ)) : ctI l (wC ad cs) D vwCl (kC D cs sK sV tA) yX5_tells cX5_tells 3 .int ro_la_tells_G2 [.ref (ad 142), .ref (ad 530), .int x2] τ r υ := by
  refine ct_I RX5 (by decide +kernel) rfl (Nat.le_of_ble_eq_true rfl) ?_
  intro p e s m args below meth c A X hK hA
  refine gr_eqL (L2 := [(0, .ref (ad 142)), (1, .ref (ad 530)), (2, .int x2)]) rfl ?_
  unfold fc_la_tells_G2 at hf
  refine gr_aload_n X dX5_tells_0 rfl 1 rfl ?_
  refine gr_bipush (v := 30) X dX5_tells_1 (by decide) ?_
  obtain ⟨τ2, hq_, hf⟩ := ot_b hf
  refine gc_Vv (rest := []) X kC_ok hK hA cw5_15 (rvC_VO hK) (xc_vo_begin hq_) rfl ⟨rfl, rfl, Nat.le_of_ble_eq_true rfl, Nat.le_of_ble_eq_true rfl⟩ rfl (Nat.le_of_ble_eq_true rfl) dX5_tells_3 ?_
  refine gr_aload_n X dX5_tells_6 rfl 0 rfl ?_
  refine gr_aload_n X dX5_tells_7 rfl 1 rfl ?_
  refine gr_iload_n X dX5_tells_8 rfl 2 rfl ?_
  refine gr_aload_n X dX5_tells_9 rfl 1 rfl ?_
  refine gC_get_VO_0 X hK fk5_21 dX5_tells_10 ?_
  refine gr_isub X dX5_tells_13 ?_
  obtain ⟨⟨q3, τ4⟩, hq_, hf⟩ := ot_b hf
  replace hf := ot_l (y := q3) hf rfl
  replace hf := ot_l (y := τ4) hf rfl
  refine gc_Pi (rest := []) X kC_ok hK hA cw5_25 (hK.1.1 5 _ rfl).2 (rvC_G2 hK) (xc_gu_tells_G2 hq_) rfl ⟨rfl, rfl, Nat.le_of_ble_eq_true rfl, Nat.le_of_ble_eq_true rfl⟩ rfl (Nat.le_of_ble_eq_true rfl) dX5_tells_14 ?_
  exact gr_iret X dX5_tells_17 (Prod.mk.inj (Option.some.inj hf)).1 (Prod.mk.inj (Option.some.inj hf)).2
abbrev ro_gu_tells_G3 : Room := { frames := 3, cells := 0, slots := 0, locals := 65 }
def fc_gu_tells_G3 (x2 : Int32) (τ : SC) : Option (Int32 × SC) := (Option.bind (fc_vo_begin (11 : Int32) τ) fun τ2 => (Option.bind (fc_do_knocks_G3 x2 τ2) fun p_ => hl p_.1 fun q3 => hl p_.2 fun τ4 => (some ((q3 + ((2 : Int32) * (τ4.1 501 0))), τ4))))
set_option maxHeartbeats 4000000 in
set_option maxRecDepth 100000 in
theorem xc_gu_tells_G3 {l : Launch} {D : va_G} {cs : Nat → ClassId} {sK sV : Nat → Nat} {tA : Nat} {ad : Nat → Nat} {τ : SC} {x2 : Int32} {r : Int32} {υ : SC} (hf : fc_gu_tells_G3 x2 τ = some (r, υ)) : ctI l (wC ad cs) D vwCl (kC D cs sK sV tA) yX4_tells cX4_tells 3 .int ro_gu_tells_G3 [.ref (ad 143), .ref (ad 530), .int x2] τ r υ := by
  refine ct_I RX4 (by decide +kernel) rfl (Nat.le_of_ble_eq_true rfl) ?_
  intro p e s m args below meth c A X hK hA
  refine gr_eqL (L2 := [(0, .ref (ad 143)), (1, .ref (ad 530)), (2, .int x2)]) rfl ?_
  unfold fc_gu_tells_G3 at hf
  refine gr_aload_n X dX4_tells_0 rfl 1 rfl ?_
  refine gr_bipush (v := 11) X dX4_tells_1 (by decide) ?_
  obtain ⟨τ2, hq_, hf⟩ := ot_b hf
  refine gc_Vv (rest := []) X kC_ok hK hA cw4_7 (rvC_VO hK) (xc_vo_begin hq_) rfl ⟨rfl, rfl, Nat.le_of_ble_eq_true rfl, Nat.le_of_ble_eq_true rfl⟩ rfl (Nat.le_of_ble_eq_true rfl) dX4_tells_3 ?_
  refine gr_aload_n X dX4_tells_6 rfl 0 rfl ?_
  refine gr_aload_n X dX4_tells_7 rfl 1 rfl ?_
  refine gr_iload_n X dX4_tells_8 rfl 2 rfl ?_
  obtain ⟨⟨q3, τ4⟩, hq_, hf⟩ := ot_b hf
  replace hf := ot_l (y := q3) hf rfl
  replace hf := ot_l (y := τ4) hf rfl
  refine gc_Ui (rest := []) X kC_ok hK hA cu4_17_3 (rvC_G3 hK) (xc_do_knocks_G3 hq_) rfl ⟨rfl, rfl, Nat.le_of_ble_eq_true rfl, Nat.le_of_ble_eq_true rfl⟩ rfl (Nat.le_of_ble_eq_true rfl) dX4_tells_9 ?_
  refine gr_iconst (v := 2) X dX4_tells_12 (by decide) ?_
  refine gr_aload_n X dX4_tells_13 rfl 1 rfl ?_
  refine gC_get_VO_1 X hK fk4_23 dX4_tells_14 ?_
  refine gr_imul X dX4_tells_17 ?_
  refine gr_iadd X dX4_tells_18 ?_
  exact gr_iret X dX4_tells_19 (Prod.mk.inj (Option.some.inj hf)).1 (Prod.mk.inj (Option.some.inj hf)).2
abbrev ro_la_tells_G3 : Room := { frames := 4, cells := 0, slots := 0, locals := 87 }
def fc_la_tells_G3 (x2 : Int32) (τ : SC) : Option (Int32 × SC) := (Option.bind (fc_vo_begin (30 : Int32) τ) fun τ2 => (Option.bind (fc_gu_tells_G3 (x2 - (τ2.1 500 0)) τ2) fun p_ => hl p_.1 fun q3 => hl p_.2 fun τ4 => (some (q3, τ4))))
set_option maxHeartbeats 4000000 in
set_option maxRecDepth 100000 in
theorem xc_la_tells_G3 {l : Launch} {D : va_G} {cs : Nat → ClassId} {sK sV : Nat → Nat} {tA : Nat} {ad : Nat → Nat} {τ : SC} {x2 : Int32} {r : Int32} {υ : SC} (hf : fc_la_tells_G3 x2 τ = some (r, υ)) : ctI l (wC ad cs) D vwCl (kC D cs sK sV tA) yX5_tells cX5_tells 3 .int ro_la_tells_G3 [.ref (ad 143), .ref (ad 530), .int x2] τ r υ := by
  refine ct_I RX5 (by decide +kernel) rfl (Nat.le_of_ble_eq_true rfl) ?_
  intro p e s m args below meth c A X hK hA
  refine gr_eqL (L2 := [(0, .ref (ad 143)), (1, .ref (ad 530)), (2, .int x2)]) rfl ?_
  unfold fc_la_tells_G3 at hf
  refine gr_aload_n X dX5_tells_0 rfl 1 rfl ?_
  refine gr_bipush (v := 30) X dX5_tells_1 (by decide) ?_
  obtain ⟨τ2, hq_, hf⟩ := ot_b hf
  refine gc_Vv (rest := []) X kC_ok hK hA cw5_15 (rvC_VO hK) (xc_vo_begin hq_) rfl ⟨rfl, rfl, Nat.le_of_ble_eq_true rfl, Nat.le_of_ble_eq_true rfl⟩ rfl (Nat.le_of_ble_eq_true rfl) dX5_tells_3 ?_
  refine gr_aload_n X dX5_tells_6 rfl 0 rfl ?_
  refine gr_aload_n X dX5_tells_7 rfl 1 rfl ?_
  refine gr_iload_n X dX5_tells_8 rfl 2 rfl ?_
  refine gr_aload_n X dX5_tells_9 rfl 1 rfl ?_
  refine gC_get_VO_0 X hK fk5_21 dX5_tells_10 ?_
  refine gr_isub X dX5_tells_13 ?_
  obtain ⟨⟨q3, τ4⟩, hq_, hf⟩ := ot_b hf
  replace hf := ot_l (y := q3) hf rfl
  replace hf := ot_l (y := τ4) hf rfl
  refine gc_Pi (rest := []) X kC_ok hK hA cw5_25 (hK.1.1 3 _ rfl).2 (rvC_G3 hK) (xc_gu_tells_G3 hq_) rfl ⟨rfl, rfl, Nat.le_of_ble_eq_true rfl, Nat.le_of_ble_eq_true rfl⟩ rfl (Nat.le_of_ble_eq_true rfl) dX5_tells_14 ?_
  exact gr_iret X dX5_tells_17 (Prod.mk.inj (Option.some.inj hf)).1 (Prod.mk.inj (Option.some.inj hf)).2
abbrev ro_gu_tells_G4 : Room := { frames := 2, cells := 0, slots := 0, locals := 43 }
def fc_gu_tells_G4 (x2 : Int32) (τ : SC) : Option (Int32 × SC) := (Option.bind (fc_vo_begin (11 : Int32) τ) fun τ2 => (Option.bind (fc_gu_knocks_G4 x2 τ2) fun p_ => hl p_.1 fun q3 => hl p_.2 fun τ4 => (some ((q3 + ((2 : Int32) * (τ4.1 501 0))), τ4))))
set_option maxHeartbeats 4000000 in
set_option maxRecDepth 100000 in
theorem xc_gu_tells_G4 {l : Launch} {D : va_G} {cs : Nat → ClassId} {sK sV : Nat → Nat} {tA : Nat} {ad : Nat → Nat} {τ : SC} {x2 : Int32} {r : Int32} {υ : SC} (hf : fc_gu_tells_G4 x2 τ = some (r, υ)) : ctI l (wC ad cs) D vwCl (kC D cs sK sV tA) yX4_tells cX4_tells 3 .int ro_gu_tells_G4 [.ref (ad 144), .ref (ad 530), .int x2] τ r υ := by
  refine ct_I RX4 (by decide +kernel) rfl (Nat.le_of_ble_eq_true rfl) ?_
  intro p e s m args below meth c A X hK hA
  refine gr_eqL (L2 := [(0, .ref (ad 144)), (1, .ref (ad 530)), (2, .int x2)]) rfl ?_
  unfold fc_gu_tells_G4 at hf
  refine gr_aload_n X dX4_tells_0 rfl 1 rfl ?_
  refine gr_bipush (v := 11) X dX4_tells_1 (by decide) ?_
  obtain ⟨τ2, hq_, hf⟩ := ot_b hf
  refine gc_Vv (rest := []) X kC_ok hK hA cw4_7 (rvC_VO hK) (xc_vo_begin hq_) rfl ⟨rfl, rfl, Nat.le_of_ble_eq_true rfl, Nat.le_of_ble_eq_true rfl⟩ rfl (Nat.le_of_ble_eq_true rfl) dX4_tells_3 ?_
  refine gr_aload_n X dX4_tells_6 rfl 0 rfl ?_
  refine gr_aload_n X dX4_tells_7 rfl 1 rfl ?_
  refine gr_iload_n X dX4_tells_8 rfl 2 rfl ?_
  obtain ⟨⟨q3, τ4⟩, hq_, hf⟩ := ot_b hf
  replace hf := ot_l (y := q3) hf rfl
  replace hf := ot_l (y := τ4) hf rfl
  refine gc_Ui (rest := []) X kC_ok hK hA cu4_17_1 (rvC_G4 hK) (xc_gu_knocks_G4 hq_) rfl ⟨rfl, rfl, Nat.le_of_ble_eq_true rfl, Nat.le_of_ble_eq_true rfl⟩ rfl (Nat.le_of_ble_eq_true rfl) dX4_tells_9 ?_
  refine gr_iconst (v := 2) X dX4_tells_12 (by decide) ?_
  refine gr_aload_n X dX4_tells_13 rfl 1 rfl ?_
  refine gC_get_VO_1 X hK fk4_23 dX4_tells_14 ?_
  refine gr_imul X dX4_tells_17 ?_
  refine gr_iadd X dX4_tells_18 ?_
  exact gr_iret X dX4_tells_19 (Prod.mk.inj (Option.some.inj hf)).1 (Prod.mk.inj (Option.some.inj hf)).2
abbrev ro_gu_tells_G5 : Room := { frames := 2, cells := 0, slots := 0, locals := 43 }
def fc_gu_tells_G5 (x2 : Int32) (τ : SC) : Option (Int32 × SC) := (Option.bind (fc_vo_begin (11 : Int32) τ) fun τ2 => (Option.bind (fc_gu_knocks_G5 x2 τ2) fun p_ => hl p_.1 fun q3 => hl p_.2 fun τ4 => (some ((q3 + ((2 : Int32) * (τ4.1 501 0))), τ4))))
set_option maxHeartbeats 4000000 in
set_option maxRecDepth 100000 in
theorem xc_gu_tells_G5 {l : Launch} {D : va_G} {cs : Nat → ClassId} {sK sV : Nat → Nat} {tA : Nat} {ad : Nat → Nat} {τ : SC} {x2 : Int32} {r : Int32} {υ : SC} (hf : fc_gu_tells_G5 x2 τ = some (r, υ)) : ctI l (wC ad cs) D vwCl (kC D cs sK sV tA) yX4_tells cX4_tells 3 .int ro_gu_tells_G5 [.ref (ad 145), .ref (ad 530), .int x2] τ r υ := by
  refine ct_I RX4 (by decide +kernel) rfl (Nat.le_of_ble_eq_true rfl) ?_
  intro p e s m args below meth c A X hK hA
  refine gr_eqL (L2 := [(0, .ref (ad 145)), (1, .ref (ad 530)), (2, .int x2)]) rfl ?_
  unfold fc_gu_tells_G5 at hf
  refine gr_aload_n X dX4_tells_0 rfl 1 rfl ?_
  refine gr_bipush (v := 11) X dX4_tells_1 (by decide) ?_
  obtain ⟨τ2, hq_, hf⟩ := ot_b hf
  refine gc_Vv (rest := []) X kC_ok hK hA cw4_7 (rvC_VO hK) (xc_vo_begin hq_) rfl ⟨rfl, rfl, Nat.le_of_ble_eq_true rfl, Nat.le_of_ble_eq_true rfl⟩ rfl (Nat.le_of_ble_eq_true rfl) dX4_tells_3 ?_
  refine gr_aload_n X dX4_tells_6 rfl 0 rfl ?_
  refine gr_aload_n X dX4_tells_7 rfl 1 rfl ?_
  refine gr_iload_n X dX4_tells_8 rfl 2 rfl ?_
  obtain ⟨⟨q3, τ4⟩, hq_, hf⟩ := ot_b hf
  replace hf := ot_l (y := q3) hf rfl
  replace hf := ot_l (y := τ4) hf rfl
  refine gc_Ui (rest := []) X kC_ok hK hA cu4_17_2 (rvC_G5 hK) (xc_gu_knocks_G5 hq_) rfl ⟨rfl, rfl, Nat.le_of_ble_eq_true rfl, Nat.le_of_ble_eq_true rfl⟩ rfl (Nat.le_of_ble_eq_true rfl) dX4_tells_9 ?_
  refine gr_iconst (v := 2) X dX4_tells_12 (by decide) ?_
  refine gr_aload_n X dX4_tells_13 rfl 1 rfl ?_
  refine gC_get_VO_1 X hK fk4_23 dX4_tells_14 ?_
  refine gr_imul X dX4_tells_17 ?_
  refine gr_iadd X dX4_tells_18 ?_
  exact gr_iret X dX4_tells_19 (Prod.mk.inj (Option.some.inj hf)).1 (Prod.mk.inj (Option.some.inj hf)).2
abbrev ro_ca_tells_G5 : Room := { frames := 3, cells := 0, slots := 0, locals := 65 }
def fc_ca_tells_G5 (x2 : Int32) (τ : SC) : Option (Int32 × SC) := (Option.bind (fc_vo_begin (60 : Int32) τ) fun τ2 => (Option.bind (fc_gu_tells_G5 x2 τ2) fun p_ => hl p_.1 fun q3 => hl p_.2 fun τ4 => (some ((q3 * (τ4.1 500 0)), τ4))))
set_option maxHeartbeats 4000000 in
set_option maxRecDepth 100000 in
theorem xc_ca_tells_G5 {l : Launch} {D : va_G} {cs : Nat → ClassId} {sK sV : Nat → Nat} {tA : Nat} {ad : Nat → Nat} {τ : SC} {x2 : Int32} {r : Int32} {υ : SC} (hf : fc_ca_tells_G5 x2 τ = some (r, υ)) : ctI l (wC ad cs) D vwCl (kC D cs sK sV tA) yX2_tells cX2_tells 3 .int ro_ca_tells_G5 [.ref (ad 145), .ref (ad 530), .int x2] τ r υ := by
  refine ct_I RX2 (by decide +kernel) rfl (Nat.le_of_ble_eq_true rfl) ?_
  intro p e s m args below meth c A X hK hA
  refine gr_eqL (L2 := [(0, .ref (ad 145)), (1, .ref (ad 530)), (2, .int x2)]) rfl ?_
  unfold fc_ca_tells_G5 at hf
  refine gr_aload_n X dX2_tells_0 rfl 1 rfl ?_
  refine gr_bipush (v := 60) X dX2_tells_1 (by decide) ?_
  obtain ⟨τ2, hq_, hf⟩ := ot_b hf
  refine gc_Vv (rest := []) X kC_ok hK hA cw2_15 (rvC_VO hK) (xc_vo_begin hq_) rfl ⟨rfl, rfl, Nat.le_of_ble_eq_true rfl, Nat.le_of_ble_eq_true rfl⟩ rfl (Nat.le_of_ble_eq_true rfl) dX2_tells_3 ?_
  refine gr_aload_n X dX2_tells_6 rfl 0 rfl ?_
  refine gr_aload_n X dX2_tells_7 rfl 1 rfl ?_
  refine gr_iload_n X dX2_tells_8 rfl 2 rfl ?_
  obtain ⟨⟨q3, τ4⟩, hq_, hf⟩ := ot_b hf
  replace hf := ot_l (y := q3) hf rfl
  replace hf := ot_l (y := τ4) hf rfl
  refine gc_Qi (rest := []) X kC_ok hK hA cw2_21 (hK.1.1 2 _ rfl).2 (rvC_G5 hK) (xc_gu_tells_G5 hq_) rfl ⟨rfl, rfl, Nat.le_of_ble_eq_true rfl, Nat.le_of_ble_eq_true rfl⟩ rfl (Nat.le_of_ble_eq_true rfl) dX2_tells_9 ?_
  refine gr_aload_n X dX2_tells_12 rfl 1 rfl ?_
  refine gC_get_VO_0 X hK fk2_25 dX2_tells_13 ?_
  refine gr_imul X dX2_tells_16 ?_
  exact gr_iret X dX2_tells_17 (Prod.mk.inj (Option.some.inj hf)).1 (Prod.mk.inj (Option.some.inj hf)).2
def fN_tells (n : Nat) (x1 : Int32) (τ : SC) : Option (Int32 × SC) := (if n = 0 then fc_gu_tells_G0 x1 τ else (if n = 1 then fc_gu_tells_G1 x1 τ else (if n = 2 then fc_la_tells_G2 x1 τ else (if n = 3 then fc_la_tells_G3 x1 τ else (if n = 4 then fc_gu_tells_G4 x1 τ else (if n = 5 then fc_ca_tells_G5 x1 τ else none))))))
set_option maxHeartbeats 4000000 in
theorem gN11_363 {p : Program} {l : Launch} {e : Env} {R : Room} {s : State} {m : MethodId} {args : Array Value} {below : List Frame} {meth : Method} {c : Code} {A : Nat → Prop} {D : va_G} {cs : Nat → ClassId} {sK sV : Nat → Nat} {tA : Nat} {ad : Nat → Nat} {cc : ByteArray} {ret : Option FieldType} {pc nL : Nat} {L : List (Nat × Value)} {Q : State → Prop} {rest st0 : List Value} {τ υ : SC} {n : Nat} {x1 : Int32} {r : Int32} (X : hc p s m args meth c RX11 cc nL ret) (hK : kC D cs sK sV tA A s) (hA : ∀ q, s.heap.size ≤ q → A q) (hf : fN_tells n x1 τ = some (r, υ)) (hst : st0 = [.int x1, .ref (ad 530)] ++ .ref (ad (140 + n)) :: rest) (hR : 5 ≤ R.frames ∧ 109 ≤ R.locals) (hcat : (rest.map fun v => v.category).sum ≤ 8) (hdg : decode cc pc = .ok (.invokevirtual 363, 3)) (kk : gg p l e R s m args below meth c (wC ad cs) D vwCl A nL Q (pc + 3) L (.int r :: rest) υ) : gg p l e R s m args below meth c (wC ad cs) D vwCl A nL Q pc L st0 τ := by
  subst hst
  unfold fN_tells at hf
  by_cases h0 : n = 0
  · subst h0
    replace hf := ot_t hf rfl
    exact gc_Ui (rest := rest) (As := [.ref (ad 530), .int x1]) (b := ad 140) X kC_ok hK hA cu11_363_4 (rvC_G0 hK) (xc_gu_tells_G0 hf) rfl ⟨rfl, rfl, Nat.le_trans (Nat.le_of_ble_eq_true rfl) hR.1, Nat.le_trans (Nat.le_of_ble_eq_true rfl) hR.2⟩ rfl hcat hdg kk
  replace hf := ot_f hf h0
  by_cases h1 : n = 1
  · subst h1
    replace hf := ot_t hf rfl
    exact gc_Ui (rest := rest) (As := [.ref (ad 530), .int x1]) (b := ad 141) X kC_ok hK hA cu11_363_0 (rvC_G1 hK) (xc_gu_tells_G1 hf) rfl ⟨rfl, rfl, Nat.le_trans (Nat.le_of_ble_eq_true rfl) hR.1, Nat.le_trans (Nat.le_of_ble_eq_true rfl) hR.2⟩ rfl hcat hdg kk
  replace hf := ot_f hf h1
  by_cases h2 : n = 2
  · subst h2
    replace hf := ot_t hf rfl
    exact gc_Ui (rest := rest) (As := [.ref (ad 530), .int x1]) (b := ad 142) X kC_ok hK hA cu11_363_5 (rvC_G2 hK) (xc_la_tells_G2 hf) rfl ⟨rfl, rfl, Nat.le_trans (Nat.le_of_ble_eq_true rfl) hR.1, Nat.le_trans (Nat.le_of_ble_eq_true rfl) hR.2⟩ rfl hcat hdg kk
  replace hf := ot_f hf h2
  by_cases h3 : n = 3
  · subst h3
    replace hf := ot_t hf rfl
    exact gc_Ui (rest := rest) (As := [.ref (ad 530), .int x1]) (b := ad 143) X kC_ok hK hA cu11_363_3 (rvC_G3 hK) (xc_la_tells_G3 hf) rfl ⟨rfl, rfl, Nat.le_trans (Nat.le_of_ble_eq_true rfl) hR.1, Nat.le_trans (Nat.le_of_ble_eq_true rfl) hR.2⟩ rfl hcat hdg kk
  replace hf := ot_f hf h3
  by_cases h4 : n = 4
  · subst h4
    replace hf := ot_t hf rfl
    exact gc_Ui (rest := rest) (As := [.ref (ad 530), .int x1]) (b := ad 144) X kC_ok hK hA cu11_363_1 (rvC_G4 hK) (xc_gu_tells_G4 hf) rfl ⟨rfl, rfl, Nat.le_trans (Nat.le_of_ble_eq_true rfl) hR.1, Nat.le_trans (Nat.le_of_ble_eq_true rfl) hR.2⟩ rfl hcat hdg kk
  replace hf := ot_f hf h4
  by_cases h5 : n = 5
  · subst h5
    replace hf := ot_t hf rfl
    exact gc_Ui (rest := rest) (As := [.ref (ad 530), .int x1]) (b := ad 145) X kC_ok hK hA cu11_363_2 (rvC_G5 hK) (xc_ca_tells_G5 hf) rfl ⟨rfl, rfl, Nat.le_trans (Nat.le_of_ble_eq_true rfl) hR.1, Nat.le_trans (Nat.le_of_ble_eq_true rfl) hR.2⟩ rfl hcat hdg kk
  replace hf := ot_f hf h5
  cases hf
abbrev ro_gu_thanks_G0 : Room := { frames := 1, cells := 0, slots := 0, locals := 21 }
def fc_gu_thanks_G0 (x2 : Int32) (τ : SC) : Option (Int32 × SC) := (Option.bind (fc_vo_begin (12 : Int32) τ) fun τ2 => (hl ((τ2.1 501 0) - (τ2.1 500 0)) fun v3 => (if ¬ v3 = 0 then (oc (decide (¬ v3 = 0)) (some ((hrem x2 v3), τ2))) else (hl (sc τ2 502 (fun _ => (1 : Int32))) fun τ4 => (some ((0 : Int32), τ4))))))
set_option maxHeartbeats 4000000 in
set_option maxRecDepth 100000 in
theorem xc_gu_thanks_G0 {l : Launch} {D : va_G} {cs : Nat → ClassId} {sK sV : Nat → Nat} {tA : Nat} {ad : Nat → Nat} {τ : SC} {x2 : Int32} {r : Int32} {υ : SC} (hf : fc_gu_thanks_G0 x2 τ = some (r, υ)) : ctI l (wC ad cs) D vwCl (kC D cs sK sV tA) yX4_thanks cX4_thanks 4 .int ro_gu_thanks_G0 [.ref (ad 140), .ref (ad 530), .int x2] τ r υ := by
  refine ct_I RX4 (by decide +kernel) rfl (Nat.le_of_ble_eq_true rfl) ?_
  intro p e s m args below meth c A X hK hA
  refine gr_eqL (L2 := [(0, .ref (ad 140)), (1, .ref (ad 530)), (2, .int x2)]) rfl ?_
  unfold fc_gu_thanks_G0 at hf
  refine gr_aload_n X dX4_thanks_0 rfl 1 rfl ?_
  refine gr_bipush (v := 12) X dX4_thanks_1 (by decide) ?_
  obtain ⟨τ2, hq_, hf⟩ := ot_b hf
  refine gc_Vv (rest := []) X kC_ok hK hA cw4_7 (rvC_VO hK) (xc_vo_begin hq_) rfl ⟨rfl, rfl, Nat.le_of_ble_eq_true rfl, Nat.le_of_ble_eq_true rfl⟩ rfl (Nat.le_of_ble_eq_true rfl) dX4_thanks_3 ?_
  refine gr_aload_n X dX4_thanks_6 rfl 1 rfl ?_
  refine gC_get_VO_1 X hK fk4_23 dX4_thanks_7 ?_
  refine gr_aload_n X dX4_thanks_10 rfl 1 rfl ?_
  refine gC_get_VO_0 X hK fk4_13 dX4_thanks_11 ?_
  refine gr_isub X dX4_thanks_14 ?_
  refine gC_top (fun v3 e_v3 => ?_)
  replace hf := ot_l hf e_v3
  refine gr_istore_n (L2 := [(3, .int v3), (0, .ref (ad 140)), (1, .ref (ad 530)), (2, .int x2)]) X dX4_thanks_15 rfl (by decide) rfl ?_
  refine gr_iload_n X dX4_thanks_16 rfl 0 rfl ?_
  refine gr_if_ne X 27 dX4_thanks_17 (by decide) (fun hc_ => ?_) (fun hc_ => ?_)
  · replace hf := ot_t hf hc_
    refine gr_iload_n X dX4_thanks_27 rfl 3 rfl ?_
    refine gr_iload_n X dX4_thanks_28 rfl 0 rfl ?_
    have hc_ := of_decide_eq_true (oc_1 hf)
    replace hf := oc_2 hf
    refine gr_irem X dX4_thanks_29 hc_ ?_
    exact gr_iret X dX4_thanks_30 (Prod.mk.inj (Option.some.inj hf)).1 (Prod.mk.inj (Option.some.inj hf)).2
  · replace hf := ot_f hf hc_
    refine gr_aload_n X dX4_thanks_20 rfl 2 rfl ?_
    refine gr_iconst (v := 1) X dX4_thanks_21 (by decide) ?_
    refine gC_put_VO_2 X hK (by decide) fk4_26 dX4_thanks_22 ?_
    refine gC_gen (fun τ4 e_τ4 => ?_)
    replace hf := ot_l hf e_τ4
    refine gr_iconst (v := 0) X dX4_thanks_25 (by decide) ?_
    exact gr_iret X dX4_thanks_26 (Prod.mk.inj (Option.some.inj hf)).1 (Prod.mk.inj (Option.some.inj hf)).2
abbrev ro_gu_thanks_G1 : Room := { frames := 1, cells := 0, slots := 0, locals := 21 }
def fc_gu_thanks_G1 (x2 : Int32) (τ : SC) : Option (Int32 × SC) := (Option.bind (fc_vo_begin (12 : Int32) τ) fun τ2 => (hl ((τ2.1 501 0) - (τ2.1 500 0)) fun v3 => (if ¬ v3 = 0 then (oc (decide (¬ v3 = 0)) (some ((hrem x2 v3), τ2))) else (hl (sc τ2 502 (fun _ => (1 : Int32))) fun τ4 => (some ((0 : Int32), τ4))))))
set_option maxHeartbeats 4000000 in
set_option maxRecDepth 100000 in
theorem xc_gu_thanks_G1 {l : Launch} {D : va_G} {cs : Nat → ClassId} {sK sV : Nat → Nat} {tA : Nat} {ad : Nat → Nat} {τ : SC} {x2 : Int32} {r : Int32} {υ : SC} (hf : fc_gu_thanks_G1 x2 τ = some (r, υ)) : ctI l (wC ad cs) D vwCl (kC D cs sK sV tA) yX4_thanks cX4_thanks 4 .int ro_gu_thanks_G1 [.ref (ad 141), .ref (ad 530), .int x2] τ r υ := by
  refine ct_I RX4 (by decide +kernel) rfl (Nat.le_of_ble_eq_true rfl) ?_
  intro p e s m args below meth c A X hK hA
  refine gr_eqL (L2 := [(0, .ref (ad 141)), (1, .ref (ad 530)), (2, .int x2)]) rfl ?_
  unfold fc_gu_thanks_G1 at hf
  refine gr_aload_n X dX4_thanks_0 rfl 1 rfl ?_
  refine gr_bipush (v := 12) X dX4_thanks_1 (by decide) ?_
  obtain ⟨τ2, hq_, hf⟩ := ot_b hf
  refine gc_Vv (rest := []) X kC_ok hK hA cw4_7 (rvC_VO hK) (xc_vo_begin hq_) rfl ⟨rfl, rfl, Nat.le_of_ble_eq_true rfl, Nat.le_of_ble_eq_true rfl⟩ rfl (Nat.le_of_ble_eq_true rfl) dX4_thanks_3 ?_
  refine gr_aload_n X dX4_thanks_6 rfl 1 rfl ?_
  refine gC_get_VO_1 X hK fk4_23 dX4_thanks_7 ?_
  refine gr_aload_n X dX4_thanks_10 rfl 1 rfl ?_
  refine gC_get_VO_0 X hK fk4_13 dX4_thanks_11 ?_
  refine gr_isub X dX4_thanks_14 ?_
  refine gC_top (fun v3 e_v3 => ?_)
  replace hf := ot_l hf e_v3
  refine gr_istore_n (L2 := [(3, .int v3), (0, .ref (ad 141)), (1, .ref (ad 530)), (2, .int x2)]) X dX4_thanks_15 rfl (by decide) rfl ?_
  refine gr_iload_n X dX4_thanks_16 rfl 0 rfl ?_
  refine gr_if_ne X 27 dX4_thanks_17 (by decide) (fun hc_ => ?_) (fun hc_ => ?_)
  · replace hf := ot_t hf hc_
    refine gr_iload_n X dX4_thanks_27 rfl 3 rfl ?_
    refine gr_iload_n X dX4_thanks_28 rfl 0 rfl ?_
    have hc_ := of_decide_eq_true (oc_1 hf)
    replace hf := oc_2 hf
    refine gr_irem X dX4_thanks_29 hc_ ?_
    exact gr_iret X dX4_thanks_30 (Prod.mk.inj (Option.some.inj hf)).1 (Prod.mk.inj (Option.some.inj hf)).2
  · replace hf := ot_f hf hc_
    refine gr_aload_n X dX4_thanks_20 rfl 2 rfl ?_
    refine gr_iconst (v := 1) X dX4_thanks_21 (by decide) ?_
    refine gC_put_VO_2 X hK (by decide) fk4_26 dX4_thanks_22 ?_
    refine gC_gen (fun τ4 e_τ4 => ?_)
    replace hf := ot_l hf e_τ4
    refine gr_iconst (v := 0) X dX4_thanks_25 (by decide) ?_
    exact gr_iret X dX4_thanks_26 (Prod.mk.inj (Option.some.inj hf)).1 (Prod.mk.inj (Option.some.inj hf)).2
abbrev ro_gu_thanks_G2 : Room := { frames := 1, cells := 0, slots := 0, locals := 21 }
def fc_gu_thanks_G2 (x2 : Int32) (τ : SC) : Option (Int32 × SC) := (Option.bind (fc_vo_begin (12 : Int32) τ) fun τ2 => (hl ((τ2.1 501 0) - (τ2.1 500 0)) fun v3 => (if ¬ v3 = 0 then (oc (decide (¬ v3 = 0)) (some ((hrem x2 v3), τ2))) else (hl (sc τ2 502 (fun _ => (1 : Int32))) fun τ4 => (some ((0 : Int32), τ4))))))
set_option maxHeartbeats 4000000 in
set_option maxRecDepth 100000 in
theorem xc_gu_thanks_G2 {l : Launch} {D : va_G} {cs : Nat → ClassId} {sK sV : Nat → Nat} {tA : Nat} {ad : Nat → Nat} {τ : SC} {x2 : Int32} {r : Int32} {υ : SC} (hf : fc_gu_thanks_G2 x2 τ = some (r, υ)) : ctI l (wC ad cs) D vwCl (kC D cs sK sV tA) yX4_thanks cX4_thanks 4 .int ro_gu_thanks_G2 [.ref (ad 142), .ref (ad 530), .int x2] τ r υ := by
  refine ct_I RX4 (by decide +kernel) rfl (Nat.le_of_ble_eq_true rfl) ?_
  intro p e s m args below meth c A X hK hA
  refine gr_eqL (L2 := [(0, .ref (ad 142)), (1, .ref (ad 530)), (2, .int x2)]) rfl ?_
  unfold fc_gu_thanks_G2 at hf
  refine gr_aload_n X dX4_thanks_0 rfl 1 rfl ?_
  refine gr_bipush (v := 12) X dX4_thanks_1 (by decide) ?_
  obtain ⟨τ2, hq_, hf⟩ := ot_b hf
  refine gc_Vv (rest := []) X kC_ok hK hA cw4_7 (rvC_VO hK) (xc_vo_begin hq_) rfl ⟨rfl, rfl, Nat.le_of_ble_eq_true rfl, Nat.le_of_ble_eq_true rfl⟩ rfl (Nat.le_of_ble_eq_true rfl) dX4_thanks_3 ?_
  refine gr_aload_n X dX4_thanks_6 rfl 1 rfl ?_
  refine gC_get_VO_1 X hK fk4_23 dX4_thanks_7 ?_
  refine gr_aload_n X dX4_thanks_10 rfl 1 rfl ?_
  refine gC_get_VO_0 X hK fk4_13 dX4_thanks_11 ?_
  refine gr_isub X dX4_thanks_14 ?_
  refine gC_top (fun v3 e_v3 => ?_)
  replace hf := ot_l hf e_v3
  refine gr_istore_n (L2 := [(3, .int v3), (0, .ref (ad 142)), (1, .ref (ad 530)), (2, .int x2)]) X dX4_thanks_15 rfl (by decide) rfl ?_
  refine gr_iload_n X dX4_thanks_16 rfl 0 rfl ?_
  refine gr_if_ne X 27 dX4_thanks_17 (by decide) (fun hc_ => ?_) (fun hc_ => ?_)
  · replace hf := ot_t hf hc_
    refine gr_iload_n X dX4_thanks_27 rfl 3 rfl ?_
    refine gr_iload_n X dX4_thanks_28 rfl 0 rfl ?_
    have hc_ := of_decide_eq_true (oc_1 hf)
    replace hf := oc_2 hf
    refine gr_irem X dX4_thanks_29 hc_ ?_
    exact gr_iret X dX4_thanks_30 (Prod.mk.inj (Option.some.inj hf)).1 (Prod.mk.inj (Option.some.inj hf)).2
  · replace hf := ot_f hf hc_
    refine gr_aload_n X dX4_thanks_20 rfl 2 rfl ?_
    refine gr_iconst (v := 1) X dX4_thanks_21 (by decide) ?_
    refine gC_put_VO_2 X hK (by decide) fk4_26 dX4_thanks_22 ?_
    refine gC_gen (fun τ4 e_τ4 => ?_)
    replace hf := ot_l hf e_τ4
    refine gr_iconst (v := 0) X dX4_thanks_25 (by decide) ?_
    exact gr_iret X dX4_thanks_26 (Prod.mk.inj (Option.some.inj hf)).1 (Prod.mk.inj (Option.some.inj hf)).2
abbrev ro_gu_thanks_G3 : Room := { frames := 1, cells := 0, slots := 0, locals := 21 }
def fc_gu_thanks_G3 (x2 : Int32) (τ : SC) : Option (Int32 × SC) := (Option.bind (fc_vo_begin (12 : Int32) τ) fun τ2 => (hl ((τ2.1 501 0) - (τ2.1 500 0)) fun v3 => (if ¬ v3 = 0 then (oc (decide (¬ v3 = 0)) (some ((hrem x2 v3), τ2))) else (hl (sc τ2 502 (fun _ => (1 : Int32))) fun τ4 => (some ((0 : Int32), τ4))))))
set_option maxHeartbeats 4000000 in
set_option maxRecDepth 100000 in
theorem xc_gu_thanks_G3 {l : Launch} {D : va_G} {cs : Nat → ClassId} {sK sV : Nat → Nat} {tA : Nat} {ad : Nat → Nat} {τ : SC} {x2 : Int32} {r : Int32} {υ : SC} (hf : fc_gu_thanks_G3 x2 τ = some (r, υ)) : ctI l (wC ad cs) D vwCl (kC D cs sK sV tA) yX4_thanks cX4_thanks 4 .int ro_gu_thanks_G3 [.ref (ad 143), .ref (ad 530), .int x2] τ r υ := by
  refine ct_I RX4 (by decide +kernel) rfl (Nat.le_of_ble_eq_true rfl) ?_
  intro p e s m args below meth c A X hK hA
  refine gr_eqL (L2 := [(0, .ref (ad 143)), (1, .ref (ad 530)), (2, .int x2)]) rfl ?_
  unfold fc_gu_thanks_G3 at hf
  refine gr_aload_n X dX4_thanks_0 rfl 1 rfl ?_
  refine gr_bipush (v := 12) X dX4_thanks_1 (by decide) ?_
  obtain ⟨τ2, hq_, hf⟩ := ot_b hf
  refine gc_Vv (rest := []) X kC_ok hK hA cw4_7 (rvC_VO hK) (xc_vo_begin hq_) rfl ⟨rfl, rfl, Nat.le_of_ble_eq_true rfl, Nat.le_of_ble_eq_true rfl⟩ rfl (Nat.le_of_ble_eq_true rfl) dX4_thanks_3 ?_
  refine gr_aload_n X dX4_thanks_6 rfl 1 rfl ?_
  refine gC_get_VO_1 X hK fk4_23 dX4_thanks_7 ?_
  refine gr_aload_n X dX4_thanks_10 rfl 1 rfl ?_
  refine gC_get_VO_0 X hK fk4_13 dX4_thanks_11 ?_
  refine gr_isub X dX4_thanks_14 ?_
  refine gC_top (fun v3 e_v3 => ?_)
  replace hf := ot_l hf e_v3
  refine gr_istore_n (L2 := [(3, .int v3), (0, .ref (ad 143)), (1, .ref (ad 530)), (2, .int x2)]) X dX4_thanks_15 rfl (by decide) rfl ?_
  refine gr_iload_n X dX4_thanks_16 rfl 0 rfl ?_
  refine gr_if_ne X 27 dX4_thanks_17 (by decide) (fun hc_ => ?_) (fun hc_ => ?_)
  · replace hf := ot_t hf hc_
    refine gr_iload_n X dX4_thanks_27 rfl 3 rfl ?_
    refine gr_iload_n X dX4_thanks_28 rfl 0 rfl ?_
    have hc_ := of_decide_eq_true (oc_1 hf)
    replace hf := oc_2 hf
    refine gr_irem X dX4_thanks_29 hc_ ?_
    exact gr_iret X dX4_thanks_30 (Prod.mk.inj (Option.some.inj hf)).1 (Prod.mk.inj (Option.some.inj hf)).2
  · replace hf := ot_f hf hc_
    refine gr_aload_n X dX4_thanks_20 rfl 2 rfl ?_
    refine gr_iconst (v := 1) X dX4_thanks_21 (by decide) ?_
    refine gC_put_VO_2 X hK (by decide) fk4_26 dX4_thanks_22 ?_
    refine gC_gen (fun τ4 e_τ4 => ?_)
    replace hf := ot_l hf e_τ4
    refine gr_iconst (v := 0) X dX4_thanks_25 (by decide) ?_
    exact gr_iret X dX4_thanks_26 (Prod.mk.inj (Option.some.inj hf)).1 (Prod.mk.inj (Option.some.inj hf)).2
abbrev ro_gu_thanks_G4 : Room := { frames := 1, cells := 0, slots := 0, locals := 21 }
def fc_gu_thanks_G4 (x2 : Int32) (τ : SC) : Option (Int32 × SC) := (Option.bind (fc_vo_begin (12 : Int32) τ) fun τ2 => (hl ((τ2.1 501 0) - (τ2.1 500 0)) fun v3 => (if ¬ v3 = 0 then (oc (decide (¬ v3 = 0)) (some ((hrem x2 v3), τ2))) else (hl (sc τ2 502 (fun _ => (1 : Int32))) fun τ4 => (some ((0 : Int32), τ4))))))
set_option maxHeartbeats 4000000 in
set_option maxRecDepth 100000 in
theorem xc_gu_thanks_G4 {l : Launch} {D : va_G} {cs : Nat → ClassId} {sK sV : Nat → Nat} {tA : Nat} {ad : Nat → Nat} {τ : SC} {x2 : Int32} {r : Int32} {υ : SC} (hf : fc_gu_thanks_G4 x2 τ = some (r, υ)) : ctI l (wC ad cs) D vwCl (kC D cs sK sV tA) yX4_thanks cX4_thanks 4 .int ro_gu_thanks_G4 [.ref (ad 144), .ref (ad 530), .int x2] τ r υ := by
  refine ct_I RX4 (by decide +kernel) rfl (Nat.le_of_ble_eq_true rfl) ?_
  intro p e s m args below meth c A X hK hA
  refine gr_eqL (L2 := [(0, .ref (ad 144)), (1, .ref (ad 530)), (2, .int x2)]) rfl ?_
  unfold fc_gu_thanks_G4 at hf
  refine gr_aload_n X dX4_thanks_0 rfl 1 rfl ?_
  refine gr_bipush (v := 12) X dX4_thanks_1 (by decide) ?_
  obtain ⟨τ2, hq_, hf⟩ := ot_b hf
  refine gc_Vv (rest := []) X kC_ok hK hA cw4_7 (rvC_VO hK) (xc_vo_begin hq_) rfl ⟨rfl, rfl, Nat.le_of_ble_eq_true rfl, Nat.le_of_ble_eq_true rfl⟩ rfl (Nat.le_of_ble_eq_true rfl) dX4_thanks_3 ?_
  refine gr_aload_n X dX4_thanks_6 rfl 1 rfl ?_
  refine gC_get_VO_1 X hK fk4_23 dX4_thanks_7 ?_
  refine gr_aload_n X dX4_thanks_10 rfl 1 rfl ?_
  refine gC_get_VO_0 X hK fk4_13 dX4_thanks_11 ?_
  refine gr_isub X dX4_thanks_14 ?_
  refine gC_top (fun v3 e_v3 => ?_)
  replace hf := ot_l hf e_v3
  refine gr_istore_n (L2 := [(3, .int v3), (0, .ref (ad 144)), (1, .ref (ad 530)), (2, .int x2)]) X dX4_thanks_15 rfl (by decide) rfl ?_
  refine gr_iload_n X dX4_thanks_16 rfl 0 rfl ?_
  refine gr_if_ne X 27 dX4_thanks_17 (by decide) (fun hc_ => ?_) (fun hc_ => ?_)
  · replace hf := ot_t hf hc_
    refine gr_iload_n X dX4_thanks_27 rfl 3 rfl ?_
    refine gr_iload_n X dX4_thanks_28 rfl 0 rfl ?_
    have hc_ := of_decide_eq_true (oc_1 hf)
    replace hf := oc_2 hf
    refine gr_irem X dX4_thanks_29 hc_ ?_
    exact gr_iret X dX4_thanks_30 (Prod.mk.inj (Option.some.inj hf)).1 (Prod.mk.inj (Option.some.inj hf)).2
  · replace hf := ot_f hf hc_
    refine gr_aload_n X dX4_thanks_20 rfl 2 rfl ?_
    refine gr_iconst (v := 1) X dX4_thanks_21 (by decide) ?_
    refine gC_put_VO_2 X hK (by decide) fk4_26 dX4_thanks_22 ?_
    refine gC_gen (fun τ4 e_τ4 => ?_)
    replace hf := ot_l hf e_τ4
    refine gr_iconst (v := 0) X dX4_thanks_25 (by decide) ?_
    exact gr_iret X dX4_thanks_26 (Prod.mk.inj (Option.some.inj hf)).1 (Prod.mk.inj (Option.some.inj hf)).2
