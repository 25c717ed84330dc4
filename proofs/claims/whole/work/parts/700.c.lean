abbrev ro_hh_isKind : Room := { frames := 0, cells := 0, slots := 0, locals := 0 }
def fc_hh_isKind (x0 : Int32) : Option Int32 := (if x0 < (1 : Int32) then (some (0 : Int32)) else (if (5 : Int32) < x0 then (some (0 : Int32)) else (some (1 : Int32))))
set_option maxHeartbeats 4000000 in
set_option maxRecDepth 100000 in
theorem xc_hh_isKind {l : Launch} {D : va_G} {cs : Nat → ClassId} {sK sV : Nat → Nat} {tA : Nat} {ad : Nat → Nat} {τ : SC} {x0 : Int32} {r : Int32} (hf : fc_hh_isKind x0 = some r) : ctI l (wC ad cs) D vwCl (kC D cs sK sV tA) yX11_isKind cX11_isKind 1 .boolean ro_hh_isKind [.int x0] τ r τ := by
  refine ct_I RX11 (by decide +kernel) rfl (Nat.le_of_ble_eq_true rfl) ?_
  intro p e s m args below meth c A X hK hA
  refine gr_eqL (L2 := [(0, .int x0)]) rfl ?_
  unfold fc_hh_isKind at hf
  refine gr_iload_n X dX11_isKind_0 rfl 0 rfl ?_
  refine gr_iconst (v := 1) X dX11_isKind_1 (by decide) ?_
  refine gr_icmp_lt X 14 dX11_isKind_2 (by decide) (fun hc_ => ?_) (fun hc_ => ?_)
  · replace hf := ot_t hf hc_
    refine gr_iconst (v := 0) X dX11_isKind_14 (by decide) ?_
    exact gr_zret X dX11_isKind_15 (by decide) (Option.some.inj hf) rfl
  · replace hf := ot_f hf hc_
    refine gr_iload_n X dX11_isKind_5 rfl 0 rfl ?_
    refine gr_iconst (v := 5) X dX11_isKind_6 (by decide) ?_
    refine gr_icmp_gt X 14 dX11_isKind_7 (by decide) (fun hc_ => ?_) (fun hc_ => ?_)
    · replace hf := ot_t hf hc_
      refine gr_iconst (v := 0) X dX11_isKind_14 (by decide) ?_
      exact gr_zret X dX11_isKind_15 (by decide) (Option.some.inj hf) rfl
    · replace hf := ot_f hf hc_
      refine gr_iconst (v := 1) X dX11_isKind_10 (by decide) ?_
      refine gr_goto X 15 dX11_isKind_11 (by decide) ?_
      exact gr_zret X dX11_isKind_15 (by decide) (Option.some.inj hf) rfl
abbrev ro_hh_within : Room := { frames := 0, cells := 0, slots := 0, locals := 0 }
def fc_hh_within (x0 : Int32) (x1 : Int32) : Option Int32 := (if x0 < 0 then (some (0 : Int32)) else (if x1 < x0 then (some (0 : Int32)) else (some (1 : Int32))))
set_option maxHeartbeats 4000000 in
set_option maxRecDepth 100000 in
theorem xc_hh_within {l : Launch} {D : va_G} {cs : Nat → ClassId} {sK sV : Nat → Nat} {tA : Nat} {ad : Nat → Nat} {τ : SC} {x0 : Int32} {x1 : Int32} {r : Int32} (hf : fc_hh_within x0 x1 = some r) : ctI l (wC ad cs) D vwCl (kC D cs sK sV tA) yX11_within cX11_within 2 .boolean ro_hh_within [.int x0, .int x1] τ r τ := by
  refine ct_I RX11 (by decide +kernel) rfl (Nat.le_of_ble_eq_true rfl) ?_
  intro p e s m args below meth c A X hK hA
  refine gr_eqL (L2 := [(0, .int x0), (1, .int x1)]) rfl ?_
  unfold fc_hh_within at hf
  refine gr_iload_n X dX11_within_0 rfl 0 rfl ?_
  refine gr_if_lt X 13 dX11_within_1 (by decide) (fun hc_ => ?_) (fun hc_ => ?_)
  · replace hf := ot_t hf hc_
    refine gr_iconst (v := 0) X dX11_within_13 (by decide) ?_
    exact gr_zret X dX11_within_14 (by decide) (Option.some.inj hf) rfl
  · replace hf := ot_f hf hc_
    refine gr_iload_n X dX11_within_4 rfl 0 rfl ?_
    refine gr_iload_n X dX11_within_5 rfl 1 rfl ?_
    refine gr_icmp_gt X 13 dX11_within_6 (by decide) (fun hc_ => ?_) (fun hc_ => ?_)
    · replace hf := ot_t hf hc_
      refine gr_iconst (v := 0) X dX11_within_13 (by decide) ?_
      exact gr_zret X dX11_within_14 (by decide) (Option.some.inj hf) rfl
    · replace hf := ot_f hf hc_
      refine gr_iconst (v := 1) X dX11_within_9 (by decide) ?_
      refine gr_goto X 14 dX11_within_10 (by decide) ?_
      exact gr_zret X dX11_within_14 (by decide) (Option.some.inj hf) rfl
abbrev ro_hh_withBit : Room := { frames := 0, cells := 0, slots := 0, locals := 0 }
def fc_hh_withBit (x0 : Int32) (x1 : Int32) (x2 : Int32) : Option Int32 := (some ((x0 &&& (((1 : Int32) <<< (x1 &&& 31)) ^^^ (-1 : Int32))) ||| (x2 <<< (x1 &&& 31))))
set_option maxHeartbeats 4000000 in
set_option maxRecDepth 100000 in
theorem xc_hh_withBit {l : Launch} {D : va_G} {cs : Nat → ClassId} {sK sV : Nat → Nat} {tA : Nat} {ad : Nat → Nat} {τ : SC} {x0 : Int32} {x1 : Int32} {x2 : Int32} {r : Int32} (hf : fc_hh_withBit x0 x1 x2 = some r) : ctI l (wC ad cs) D vwCl (kC D cs sK sV tA) yX11_withBit cX11_withBit 3 .int ro_hh_withBit [.int x0, .int x1, .int x2] τ r τ := by
  refine ct_I RX11 (by decide +kernel) rfl (Nat.le_of_ble_eq_true rfl) ?_
  intro p e s m args below meth c A X hK hA
  refine gr_eqL (L2 := [(0, .int x0), (1, .int x1), (2, .int x2)]) rfl ?_
  unfold fc_hh_withBit at hf
  refine gr_iload_n X dX11_withBit_0 rfl 0 rfl ?_
  refine gr_iconst (v := 1) X dX11_withBit_1 (by decide) ?_
  refine gr_iload_n X dX11_withBit_2 rfl 1 rfl ?_
  refine gr_ishl X dX11_withBit_3 ?_
  refine gr_iconst (v := -1) X dX11_withBit_4 (by decide) ?_
  refine gr_ixor X dX11_withBit_5 ?_
  refine gr_iand X dX11_withBit_6 ?_
  refine gr_iload_n X dX11_withBit_7 rfl 2 rfl ?_
  refine gr_iload_n X dX11_withBit_8 rfl 1 rfl ?_
  refine gr_ishl X dX11_withBit_9 ?_
  refine gr_ior X dX11_withBit_10 ?_
  exact gr_iret X dX11_withBit_11 (Option.some.inj hf) rfl
abbrev ro_to_settle : Room := { frames := 1, cells := 0, slots := 0, locals := 22 }
def fc_to_settle (x1 : Int32) (x2 : Int32) (x3 : Int32) (x4 : Int32) (τ : SC) : Option (Int32 × SC) := (hl (τ.1 113 0) fun v1 => (oc (hin v1 6) (hl (sc τ 114 (upd (τ.1 114) (Int32.toNatClampNeg v1) x1)) fun τ2 => (oc (hin v1 6) (hl (sc τ2 115 (upd (τ2.1 115) (Int32.toNatClampNeg v1) x2)) fun τ3 => (oc (hin v1 6) (hl (sc τ3 116 (upd (τ3.1 116) (Int32.toNatClampNeg v1) x3)) fun τ4 => (oc (hin v1 6) (hl (sc τ4 117 (upd (τ4.1 117) (Int32.toNatClampNeg v1) x4)) fun τ5 => (Option.bind (fc_hh_withBit (τ5.1 107 0) v1 (1 : Int32)) fun q6 => (hl (sc τ5 107 (fun _ => q6)) fun τ7 => (hl (sc τ7 113 (fun _ => (v1 + (1 : Int32)))) fun τ8 => (some (v1, τ8))))))))))))))
set_option maxHeartbeats 4000000 in
set_option maxRecDepth 100000 in
theorem xc_to_settle {l : Launch} {D : va_G} {cs : Nat → ClassId} {sK sV : Nat → Nat} {tA : Nat} {ad : Nat → Nat} {τ : SC} {x1 : Int32} {x2 : Int32} {x3 : Int32} {x4 : Int32} {r : Int32} {υ : SC} (hf : fc_to_settle x1 x2 x3 x4 τ = some (r, υ)) : ctI l (wC ad cs) D vwCl (kC D cs sK sV tA) yX9_settle cX9_settle 6 .int ro_to_settle [.ref (ad 130), .int x1, .int x2, .int x3, .int x4] τ r υ := by
  refine ct_I RX9 (by decide +kernel) rfl (Nat.le_of_ble_eq_true rfl) ?_
  intro p e s m args below meth c A X hK hA
  refine gr_eqL (L2 := [(0, .ref (ad 130)), (1, .int x1), (2, .int x2), (3, .int x3), (4, .int x4)]) rfl ?_
  unfold fc_to_settle at hf
  refine gr_aload_n X dX9_settle_0 rfl 0 rfl ?_
  refine gC_get_T0_13 X hK fk9_96 dX9_settle_1 ?_
  refine gC_top (fun v1 e_v1 => ?_)
  replace hf := ot_l hf e_v1
  refine gr_istore (L2 := [(5, .int v1), (0, .ref (ad 130)), (1, .int x1), (2, .int x2), (3, .int x3), (4, .int x4)]) X dX9_settle_4 (by decide) rfl ?_
  refine gr_aload_n X dX9_settle_6 rfl 1 rfl ?_
  refine gC_get_T0_14 X hK fk9_60 dX9_settle_7 ?_
  refine gr_iload X dX9_settle_10 0 rfl ?_
  refine gr_iload_n X dX9_settle_12 rfl 2 rfl ?_
  have hi_ := oc_1 hf
  replace hf := oc_2 hf
  refine gC_ast_114 X hK (Int32.toNatClampNeg v1) hi_ rfl dX9_settle_13 ?_
  refine gC_gen (fun τ2 e_τ2 => ?_)
  replace hf := ot_l hf e_τ2
  refine gr_aload_n X dX9_settle_14 rfl 1 rfl ?_
  refine gC_get_T0_15 X hK fk9_63 dX9_settle_15 ?_
  refine gr_iload X dX9_settle_18 0 rfl ?_
  refine gr_iload_n X dX9_settle_20 rfl 3 rfl ?_
  have hi_ := oc_1 hf
  replace hf := oc_2 hf
  refine gC_ast_115 X hK (Int32.toNatClampNeg v1) hi_ rfl dX9_settle_21 ?_
  refine gC_gen (fun τ3 e_τ3 => ?_)
  replace hf := ot_l hf e_τ3
  refine gr_aload_n X dX9_settle_22 rfl 1 rfl ?_
  refine gC_get_T0_16 X hK fk9_66 dX9_settle_23 ?_
  refine gr_iload X dX9_settle_26 0 rfl ?_
  refine gr_iload_n X dX9_settle_28 rfl 4 rfl ?_
  have hi_ := oc_1 hf
  replace hf := oc_2 hf
  refine gC_ast_116 X hK (Int32.toNatClampNeg v1) hi_ rfl dX9_settle_29 ?_
  refine gC_gen (fun τ4 e_τ4 => ?_)
  replace hf := ot_l hf e_τ4
  refine gr_aload_n X dX9_settle_30 rfl 1 rfl ?_
  refine gC_get_T0_17 X hK fk9_69 dX9_settle_31 ?_
  refine gr_iload X dX9_settle_34 0 rfl ?_
  refine gr_iload X dX9_settle_36 5 rfl ?_
  have hi_ := oc_1 hf
  replace hf := oc_2 hf
  refine gC_ast_117 X hK (Int32.toNatClampNeg v1) hi_ rfl dX9_settle_38 ?_
  refine gC_gen (fun τ5 e_τ5 => ?_)
  replace hf := ot_l hf e_τ5
  refine gr_aload_n X dX9_settle_39 rfl 1 rfl ?_
  refine gr_aload_n X dX9_settle_40 rfl 1 rfl ?_
  refine gC_get_T0_7 X hK fk9_114 dX9_settle_41 ?_
  refine gr_iload X dX9_settle_44 0 rfl ?_
  refine gr_iconst (v := 1) X dX9_settle_46 (by decide) ?_
  obtain ⟨q6, hq_, hf⟩ := ot_b hf
  refine gc_Ni (rest := [.ref (ad 130)]) X kC_ok hK hA cw9_120 (hK.2.1 _ nw9_120) (xc_hh_withBit hq_) rfl ⟨rfl, rfl, Nat.le_of_ble_eq_true rfl, Nat.le_of_ble_eq_true rfl⟩ rfl (Nat.le_of_ble_eq_true rfl) dX9_settle_47 ?_
  refine gC_put_T0_7 X hK fk9_114 dX9_settle_50 ?_
  refine gC_gen (fun τ7 e_τ7 => ?_)
  replace hf := ot_l hf e_τ7
  refine gr_aload_n X dX9_settle_53 rfl 1 rfl ?_
  refine gr_iload X dX9_settle_54 0 rfl ?_
  refine gr_iconst (v := 1) X dX9_settle_56 (by decide) ?_
  refine gr_iadd X dX9_settle_57 ?_
  refine gC_put_T0_13 X hK fk9_96 dX9_settle_58 ?_
  refine gC_gen (fun τ8 e_τ8 => ?_)
  replace hf := ot_l hf e_τ8
  refine gr_iload X dX9_settle_61 0 rfl ?_
  exact gr_iret X dX9_settle_63 (Prod.mk.inj (Option.some.inj hf)).1 (Prod.mk.inj (Option.some.inj hf)).2
abbrev ro_hh_guild : Room := { frames := 2, cells := 0, slots := 0, locals := 47 }
def fc_hh_guild (x1 : Int32) (x2 : Int32) (x3 : Int32) (x4 : Int32) (τ : SC) : Option (Int32 × SC) := (Option.bind (fc_hh_isKind x1) fun q1 => (if q1 = 0 then (some ((-1 : Int32), τ)) else (Option.bind (fc_hh_within x2 (60 : Int32)) fun q2 => (if q2 = 0 then (some ((-1 : Int32), τ)) else (Option.bind (fc_hh_within x3 (9 : Int32)) fun q3 => (if q3 = 0 then (some ((-1 : Int32), τ)) else (Option.bind (fc_hh_within x4 (5 : Int32)) fun q4 => (if ¬ q4 = 0 then (if (τ.1 113 0) < (6 : Int32) then (Option.bind (fc_to_settle x1 x2 x3 x4 τ) fun p_ => hl p_.1 fun q5 => hl p_.2 fun τ6 => (some (q5, τ6))) else (some ((-2 : Int32), τ))) else (some ((-1 : Int32), τ))))))))))
set_option maxHeartbeats 4000000 in
set_option maxRecDepth 100000 in
theorem xc_hh_guild {l : Launch} {D : va_G} {cs : Nat → ClassId} {sK sV : Nat → Nat} {tA : Nat} {ad : Nat → Nat} {τ : SC} {x1 : Int32} {x2 : Int32} {x3 : Int32} {x4 : Int32} {r : Int32} {υ : SC} (hf : fc_hh_guild x1 x2 x3 x4 τ = some (r, υ)) : ctI l (wC ad cs) D vwCl (kC D cs sK sV tA) yX11_guild cX11_guild 5 .int ro_hh_guild [.ref (ad 16), .int x1, .int x2, .int x3, .int x4] τ r υ := by
  refine ct_I RX11 (by decide +kernel) rfl (Nat.le_of_ble_eq_true rfl) ?_
  intro p e s m args below meth c A X hK hA
  refine gr_eqL (L2 := [(0, .ref (ad 16)), (1, .int x1), (2, .int x2), (3, .int x3), (4, .int x4)]) rfl ?_
  unfold fc_hh_guild at hf
  refine gr_iload_n X dX11_guild_0 rfl 1 rfl ?_
  obtain ⟨q1, hq_, hf⟩ := ot_b hf
  refine gc_Si (rest := []) X kC_ok hK hA cw11_75 (xc_hh_isKind hq_) rfl ⟨rfl, rfl, Nat.le_of_ble_eq_true rfl, Nat.le_of_ble_eq_true rfl⟩ rfl (Nat.le_of_ble_eq_true rfl) dX11_guild_1 ?_
  refine gr_if_eq X 34 dX11_guild_4 (by decide) (fun hc_ => ?_) (fun hc_ => ?_)
  · replace hf := ot_t hf hc_
    refine gr_iconst (v := -1) X dX11_guild_34 (by decide) ?_
    exact gr_iret X dX11_guild_35 (Prod.mk.inj (Option.some.inj hf)).1 (Prod.mk.inj (Option.some.inj hf)).2
  · replace hf := ot_f hf hc_
    refine gr_iload_n X dX11_guild_7 rfl 2 rfl ?_
    refine gr_bipush (v := 60) X dX11_guild_8 (by decide) ?_
    obtain ⟨q2, hq_, hf⟩ := ot_b hf
    refine gc_Si (rest := []) X kC_ok hK hA cw11_79 (xc_hh_within hq_) rfl ⟨rfl, rfl, Nat.le_of_ble_eq_true rfl, Nat.le_of_ble_eq_true rfl⟩ rfl (Nat.le_of_ble_eq_true rfl) dX11_guild_10 ?_
    refine gr_if_eq X 34 dX11_guild_13 (by decide) (fun hc_ => ?_) (fun hc_ => ?_)
    · replace hf := ot_t hf hc_
      refine gr_iconst (v := -1) X dX11_guild_34 (by decide) ?_
      exact gr_iret X dX11_guild_35 (Prod.mk.inj (Option.some.inj hf)).1 (Prod.mk.inj (Option.some.inj hf)).2
    · replace hf := ot_f hf hc_
      refine gr_iload_n X dX11_guild_16 rfl 3 rfl ?_
      refine gr_bipush (v := 9) X dX11_guild_17 (by decide) ?_
      obtain ⟨q3, hq_, hf⟩ := ot_b hf
      refine gc_Si (rest := []) X kC_ok hK hA cw11_79 (xc_hh_within hq_) rfl ⟨rfl, rfl, Nat.le_of_ble_eq_true rfl, Nat.le_of_ble_eq_true rfl⟩ rfl (Nat.le_of_ble_eq_true rfl) dX11_guild_19 ?_
      refine gr_if_eq X 34 dX11_guild_22 (by decide) (fun hc_ => ?_) (fun hc_ => ?_)
      · replace hf := ot_t hf hc_
        refine gr_iconst (v := -1) X dX11_guild_34 (by decide) ?_
        exact gr_iret X dX11_guild_35 (Prod.mk.inj (Option.some.inj hf)).1 (Prod.mk.inj (Option.some.inj hf)).2
      · replace hf := ot_f hf hc_
        refine gr_iload X dX11_guild_25 4 rfl ?_
        refine gr_iconst (v := 5) X dX11_guild_27 (by decide) ?_
        obtain ⟨q4, hq_, hf⟩ := ot_b hf
        refine gc_Si (rest := []) X kC_ok hK hA cw11_79 (xc_hh_within hq_) rfl ⟨rfl, rfl, Nat.le_of_ble_eq_true rfl, Nat.le_of_ble_eq_true rfl⟩ rfl (Nat.le_of_ble_eq_true rfl) dX11_guild_28 ?_
        refine gr_if_ne X 36 dX11_guild_31 (by decide) (fun hc_ => ?_) (fun hc_ => ?_)
        · replace hf := ot_t hf hc_
          refine gr_aload_n X dX11_guild_36 rfl 0 rfl ?_
          refine gC_get_HH_0 X hK fk11_10 dX11_guild_37 ?_
          refine gC_get_T0_13 X hK fk11_83 dX11_guild_40 ?_
          refine gr_bipush (v := 6) X dX11_guild_43 (by decide) ?_
          refine gr_icmp_lt X 51 dX11_guild_45 (by decide) (fun hc_ => ?_) (fun hc_ => ?_)
          · replace hf := ot_t hf hc_
            refine gr_aload_n X dX11_guild_51 rfl 0 rfl ?_
            refine gC_get_HH_0 X hK fk11_10 dX11_guild_52 ?_
            refine gr_iload_n X dX11_guild_55 rfl 1 rfl ?_
            refine gr_iload_n X dX11_guild_56 rfl 2 rfl ?_
            refine gr_iload_n X dX11_guild_57 rfl 3 rfl ?_
            refine gr_iload X dX11_guild_58 4 rfl ?_
            obtain ⟨⟨q5, τ6⟩, hq_, hf⟩ := ot_b hf
            replace hf := ot_l (y := q5) hf rfl
            replace hf := ot_l (y := τ6) hf rfl
            refine gc_Vi (rest := []) X kC_ok hK hA cw11_87 (rvC_T0 hK) (xc_to_settle hq_) rfl ⟨rfl, rfl, Nat.le_of_ble_eq_true rfl, Nat.le_of_ble_eq_true rfl⟩ rfl (Nat.le_of_ble_eq_true rfl) dX11_guild_60 ?_
            exact gr_iret X dX11_guild_63 (Prod.mk.inj (Option.some.inj hf)).1 (Prod.mk.inj (Option.some.inj hf)).2
          · replace hf := ot_f hf hc_
            refine gr_bipush (v := -2) X dX11_guild_48 (by decide) ?_
            exact gr_iret X dX11_guild_50 (Prod.mk.inj (Option.some.inj hf)).1 (Prod.mk.inj (Option.some.inj hf)).2
        · replace hf := ot_f hf hc_
          refine gr_iconst (v := -1) X dX11_guild_34 (by decide) ?_
          exact gr_iret X dX11_guild_35 (Prod.mk.inj (Option.some.inj hf)).1 (Prod.mk.inj (Option.some.inj hf)).2
abbrev ro_to_has : Room := { frames := 0, cells := 0, slots := 0, locals := 0 }
def fc_to_has (τ : SC) (x1 : Int32) : Option Int32 := (if x1 < 0 then (some (0 : Int32)) else (if (τ.1 113 0) ≤ x1 then (some (0 : Int32)) else (some (1 : Int32))))
set_option maxHeartbeats 4000000 in
set_option maxRecDepth 100000 in
theorem xc_to_has {l : Launch} {D : va_G} {cs : Nat → ClassId} {sK sV : Nat → Nat} {tA : Nat} {ad : Nat → Nat} {τ : SC} {x1 : Int32} {r : Int32} (hf : fc_to_has τ x1 = some r) : ctI l (wC ad cs) D vwCl (kC D cs sK sV tA) yX9_has cX9_has 2 .boolean ro_to_has [.ref (ad 130), .int x1] τ r τ := by
  refine ct_I RX9 (by decide +kernel) rfl (Nat.le_of_ble_eq_true rfl) ?_
  intro p e s m args below meth c A X hK hA
  refine gr_eqL (L2 := [(0, .ref (ad 130)), (1, .int x1)]) rfl ?_
  unfold fc_to_has at hf
  refine gr_iload_n X dX9_has_0 rfl 1 rfl ?_
  refine gr_if_lt X 16 dX9_has_1 (by decide) (fun hc_ => ?_) (fun hc_ => ?_)
  · replace hf := ot_t hf hc_
    refine gr_iconst (v := 0) X dX9_has_16 (by decide) ?_
    exact gr_zret X dX9_has_17 (by decide) (Option.some.inj hf) rfl
  · replace hf := ot_f hf hc_
    refine gr_iload_n X dX9_has_4 rfl 1 rfl ?_
    refine gr_aload_n X dX9_has_5 rfl 0 rfl ?_
    refine gC_get_T0_13 X hK fk9_96 dX9_has_6 ?_
    refine gr_icmp_ge X 16 dX9_has_9 (by decide) (fun hc_ => ?_) (fun hc_ => ?_)
    · replace hf := ot_t hf hc_
      refine gr_iconst (v := 0) X dX9_has_16 (by decide) ?_
      exact gr_zret X dX9_has_17 (by decide) (Option.some.inj hf) rfl
    · replace hf := ot_f hf hc_
      refine gr_iconst (v := 1) X dX9_has_12 (by decide) ?_
      refine gr_goto X 17 dX9_has_13 (by decide) ?_
      exact gr_zret X dX9_has_17 (by decide) (Option.some.inj hf) rfl
abbrev ro_hh_bit : Room := { frames := 0, cells := 0, slots := 0, locals := 0 }
def fc_hh_bit (x0 : Int32) (x1 : Int32) : Option Int32 := (some ((x0 >>> (x1 &&& 31)) &&& (1 : Int32)))
set_option maxHeartbeats 4000000 in
set_option maxRecDepth 100000 in
theorem xc_hh_bit {l : Launch} {D : va_G} {cs : Nat → ClassId} {sK sV : Nat → Nat} {tA : Nat} {ad : Nat → Nat} {τ : SC} {x0 : Int32} {x1 : Int32} {r : Int32} (hf : fc_hh_bit x0 x1 = some r) : ctI l (wC ad cs) D vwCl (kC D cs sK sV tA) yX11_bit cX11_bit 2 .int ro_hh_bit [.int x0, .int x1] τ r τ := by
  refine ct_I RX11 (by decide +kernel) rfl (Nat.le_of_ble_eq_true rfl) ?_
  intro p e s m args below meth c A X hK hA
  refine gr_eqL (L2 := [(0, .int x0), (1, .int x1)]) rfl ?_
  unfold fc_hh_bit at hf
  refine gr_iload_n X dX11_bit_0 rfl 0 rfl ?_
  refine gr_iload_n X dX11_bit_1 rfl 1 rfl ?_
  refine gr_ishr X dX11_bit_2 ?_
  refine gr_iconst (v := 1) X dX11_bit_3 (by decide) ?_
  refine gr_iand X dX11_bit_4 ?_
  exact gr_iret X dX11_bit_5 (Option.some.inj hf) rfl
abbrev ro_gu_cheers_G0 : Room := { frames := 0, cells := 0, slots := 0, locals := 0 }
def fc_gu_cheers_G0 (x1 : Int32) (x2 : Int32) : Option Int32 := (some (x1 / (3 : Int32)))
set_option maxHeartbeats 4000000 in
set_option maxRecDepth 100000 in
theorem xc_gu_cheers_G0 {l : Launch} {D : va_G} {cs : Nat → ClassId} {sK sV : Nat → Nat} {tA : Nat} {ad : Nat → Nat} {τ : SC} {x1 : Int32} {x2 : Int32} {r : Int32} (hf : fc_gu_cheers_G0 x1 x2 = some r) : ctI l (wC ad cs) D vwCl (kC D cs sK sV tA) yX4_cheers cX4_cheers 3 .int ro_gu_cheers_G0 [.ref (ad 140), .int x1, .int x2] τ r τ := by
  refine ct_I RX4 (by decide +kernel) rfl (Nat.le_of_ble_eq_true rfl) ?_
  intro p e s m args below meth c A X hK hA
  refine gr_eqL (L2 := [(0, .ref (ad 140)), (1, .int x1), (2, .int x2)]) rfl ?_
  unfold fc_gu_cheers_G0 at hf
  refine gr_iload_n X dX4_cheers_0 rfl 1 rfl ?_
  refine gr_iconst (v := 3) X dX4_cheers_1 (by decide) ?_
  refine gr_idiv X dX4_cheers_2 (by decide) ?_
  exact gr_iret X dX4_cheers_3 (Option.some.inj hf) rfl
abbrev ro_gu_cheers_G1 : Room := { frames := 0, cells := 0, slots := 0, locals := 0 }
def fc_gu_cheers_G1 (x1 : Int32) (x2 : Int32) : Option Int32 := (some (x1 / (3 : Int32)))
set_option maxHeartbeats 4000000 in
set_option maxRecDepth 100000 in
theorem xc_gu_cheers_G1 {l : Launch} {D : va_G} {cs : Nat → ClassId} {sK sV : Nat → Nat} {tA : Nat} {ad : Nat → Nat} {τ : SC} {x1 : Int32} {x2 : Int32} {r : Int32} (hf : fc_gu_cheers_G1 x1 x2 = some r) : ctI l (wC ad cs) D vwCl (kC D cs sK sV tA) yX4_cheers cX4_cheers 3 .int ro_gu_cheers_G1 [.ref (ad 141), .int x1, .int x2] τ r τ := by
  refine ct_I RX4 (by decide +kernel) rfl (Nat.le_of_ble_eq_true rfl) ?_
  intro p e s m args below meth c A X hK hA
  refine gr_eqL (L2 := [(0, .ref (ad 141)), (1, .int x1), (2, .int x2)]) rfl ?_
  unfold fc_gu_cheers_G1 at hf
  refine gr_iload_n X dX4_cheers_0 rfl 1 rfl ?_
  refine gr_iconst (v := 3) X dX4_cheers_1 (by decide) ?_
  refine gr_idiv X dX4_cheers_2 (by decide) ?_
  exact gr_iret X dX4_cheers_3 (Option.some.inj hf) rfl
abbrev ro_ba_cheers_G1 : Room := { frames := 1, cells := 0, slots := 0, locals := 22 }
def fc_ba_cheers_G1 (x1 : Int32) (x2 : Int32) : Option Int32 := (Option.bind (fc_gu_cheers_G1 x1 x2) fun q1 => (some ((2 : Int32) * q1)))
set_option maxHeartbeats 4000000 in
set_option maxRecDepth 100000 in
theorem xc_ba_cheers_G1 {l : Launch} {D : va_G} {cs : Nat → ClassId} {sK sV : Nat → Nat} {tA : Nat} {ad : Nat → Nat} {τ : SC} {x1 : Int32} {x2 : Int32} {r : Int32} (hf : fc_ba_cheers_G1 x1 x2 = some r) : ctI l (wC ad cs) D vwCl (kC D cs sK sV tA) yX0_cheers cX0_cheers 3 .int ro_ba_cheers_G1 [.ref (ad 141), .int x1, .int x2] τ r τ := by
  refine ct_I RX0 (by decide +kernel) rfl (Nat.le_of_ble_eq_true rfl) ?_
  intro p e s m args below meth c A X hK hA
  refine gr_eqL (L2 := [(0, .ref (ad 141)), (1, .int x1), (2, .int x2)]) rfl ?_
  unfold fc_ba_cheers_G1 at hf
  refine gr_iconst (v := 2) X dX0_cheers_0 (by decide) ?_
  refine gr_aload_n X dX0_cheers_1 rfl 0 rfl ?_
  refine gr_iload_n X dX0_cheers_2 rfl 1 rfl ?_
  refine gr_iload_n X dX0_cheers_3 rfl 2 rfl ?_
  obtain ⟨q1, hq_, hf⟩ := ot_b hf
  refine gc_Pi (rest := [.int (2 : Int32)]) X kC_ok hK hA cw0_7 (hK.1.1 0 _ rfl).2 (rvC_G1 hK) (xc_gu_cheers_G1 hq_) rfl ⟨rfl, rfl, Nat.le_of_ble_eq_true rfl, Nat.le_of_ble_eq_true rfl⟩ rfl (Nat.le_of_ble_eq_true rfl) dX0_cheers_4 ?_
  refine gr_imul X dX0_cheers_7 ?_
  exact gr_iret X dX0_cheers_8 (Option.some.inj hf) rfl
abbrev ro_gu_cheers_G2 : Room := { frames := 0, cells := 0, slots := 0, locals := 0 }
def fc_gu_cheers_G2 (x1 : Int32) (x2 : Int32) : Option Int32 := (some (x1 / (3 : Int32)))
set_option maxHeartbeats 4000000 in
set_option maxRecDepth 100000 in
theorem xc_gu_cheers_G2 {l : Launch} {D : va_G} {cs : Nat → ClassId} {sK sV : Nat → Nat} {tA : Nat} {ad : Nat → Nat} {τ : SC} {x1 : Int32} {x2 : Int32} {r : Int32} (hf : fc_gu_cheers_G2 x1 x2 = some r) : ctI l (wC ad cs) D vwCl (kC D cs sK sV tA) yX4_cheers cX4_cheers 3 .int ro_gu_cheers_G2 [.ref (ad 142), .int x1, .int x2] τ r τ := by
  refine ct_I RX4 (by decide +kernel) rfl (Nat.le_of_ble_eq_true rfl) ?_
  intro p e s m args below meth c A X hK hA
  refine gr_eqL (L2 := [(0, .ref (ad 142)), (1, .int x1), (2, .int x2)]) rfl ?_
  unfold fc_gu_cheers_G2 at hf
  refine gr_iload_n X dX4_cheers_0 rfl 1 rfl ?_
  refine gr_iconst (v := 3) X dX4_cheers_1 (by decide) ?_
  refine gr_idiv X dX4_cheers_2 (by decide) ?_
  exact gr_iret X dX4_cheers_3 (Option.some.inj hf) rfl
abbrev ro_la_cheers_G2 : Room := { frames := 1, cells := 0, slots := 0, locals := 22 }
def fc_la_cheers_G2 (x1 : Int32) (x2 : Int32) : Option Int32 := (Option.bind (fc_gu_cheers_G2 x1 x2) fun q1 => (some (q1 - (3 : Int32))))
set_option maxHeartbeats 4000000 in
set_option maxRecDepth 100000 in
theorem xc_la_cheers_G2 {l : Launch} {D : va_G} {cs : Nat → ClassId} {sK sV : Nat → Nat} {tA : Nat} {ad : Nat → Nat} {τ : SC} {x1 : Int32} {x2 : Int32} {r : Int32} (hf : fc_la_cheers_G2 x1 x2 = some r) : ctI l (wC ad cs) D vwCl (kC D cs sK sV tA) yX5_cheers cX5_cheers 3 .int ro_la_cheers_G2 [.ref (ad 142), .int x1, .int x2] τ r τ := by
  refine ct_I RX5 (by decide +kernel) rfl (Nat.le_of_ble_eq_true rfl) ?_
  intro p e s m args below meth c A X hK hA
  refine gr_eqL (L2 := [(0, .ref (ad 142)), (1, .int x1), (2, .int x2)]) rfl ?_
  unfold fc_la_cheers_G2 at hf
  refine gr_aload_n X dX5_cheers_0 rfl 0 rfl ?_
  refine gr_iload_n X dX5_cheers_1 rfl 1 rfl ?_
  refine gr_iload_n X dX5_cheers_2 rfl 2 rfl ?_
  obtain ⟨q1, hq_, hf⟩ := ot_b hf
  refine gc_Pi (rest := []) X kC_ok hK hA cw5_7 (hK.1.1 5 _ rfl).2 (rvC_G2 hK) (xc_gu_cheers_G2 hq_) rfl ⟨rfl, rfl, Nat.le_of_ble_eq_true rfl, Nat.le_of_ble_eq_true rfl⟩ rfl (Nat.le_of_ble_eq_true rfl) dX5_cheers_3 ?_
  refine gr_iconst (v := 3) X dX5_cheers_6 (by decide) ?_
  refine gr_isub X dX5_cheers_7 ?_
  exact gr_iret X dX5_cheers_8 (Option.some.inj hf) rfl
abbrev ro_gu_cheers_G3 : Room := { frames := 0, cells := 0, slots := 0, locals := 0 }
def fc_gu_cheers_G3 (x1 : Int32) (x2 : Int32) : Option Int32 := (some (x1 / (3 : Int32)))
set_option maxHeartbeats 4000000 in
set_option maxRecDepth 100000 in
theorem xc_gu_cheers_G3 {l : Launch} {D : va_G} {cs : Nat → ClassId} {sK sV : Nat → Nat} {tA : Nat} {ad : Nat → Nat} {τ : SC} {x1 : Int32} {x2 : Int32} {r : Int32} (hf : fc_gu_cheers_G3 x1 x2 = some r) : ctI l (wC ad cs) D vwCl (kC D cs sK sV tA) yX4_cheers cX4_cheers 3 .int ro_gu_cheers_G3 [.ref (ad 143), .int x1, .int x2] τ r τ := by
  refine ct_I RX4 (by decide +kernel) rfl (Nat.le_of_ble_eq_true rfl) ?_
  intro p e s m args below meth c A X hK hA
  refine gr_eqL (L2 := [(0, .ref (ad 143)), (1, .int x1), (2, .int x2)]) rfl ?_
  unfold fc_gu_cheers_G3 at hf
  refine gr_iload_n X dX4_cheers_0 rfl 1 rfl ?_
  refine gr_iconst (v := 3) X dX4_cheers_1 (by decide) ?_
  refine gr_idiv X dX4_cheers_2 (by decide) ?_
  exact gr_iret X dX4_cheers_3 (Option.some.inj hf) rfl
abbrev ro_la_cheers_G3 : Room := { frames := 1, cells := 0, slots := 0, locals := 22 }
def fc_la_cheers_G3 (x1 : Int32) (x2 : Int32) : Option Int32 := (Option.bind (fc_gu_cheers_G3 x1 x2) fun q1 => (some (q1 - (3 : Int32))))
set_option maxHeartbeats 4000000 in
set_option maxRecDepth 100000 in
theorem xc_la_cheers_G3 {l : Launch} {D : va_G} {cs : Nat → ClassId} {sK sV : Nat → Nat} {tA : Nat} {ad : Nat → Nat} {τ : SC} {x1 : Int32} {x2 : Int32} {r : Int32} (hf : fc_la_cheers_G3 x1 x2 = some r) : ctI l (wC ad cs) D vwCl (kC D cs sK sV tA) yX5_cheers cX5_cheers 3 .int ro_la_cheers_G3 [.ref (ad 143), .int x1, .int x2] τ r τ := by
  refine ct_I RX5 (by decide +kernel) rfl (Nat.le_of_ble_eq_true rfl) ?_
  intro p e s m args below meth c A X hK hA
  refine gr_eqL (L2 := [(0, .ref (ad 143)), (1, .int x1), (2, .int x2)]) rfl ?_
  unfold fc_la_cheers_G3 at hf
  refine gr_aload_n X dX5_cheers_0 rfl 0 rfl ?_
  refine gr_iload_n X dX5_cheers_1 rfl 1 rfl ?_
  refine gr_iload_n X dX5_cheers_2 rfl 2 rfl ?_
  obtain ⟨q1, hq_, hf⟩ := ot_b hf
  refine gc_Pi (rest := []) X kC_ok hK hA cw5_7 (hK.1.1 3 _ rfl).2 (rvC_G3 hK) (xc_gu_cheers_G3 hq_) rfl ⟨rfl, rfl, Nat.le_of_ble_eq_true rfl, Nat.le_of_ble_eq_true rfl⟩ rfl (Nat.le_of_ble_eq_true rfl) dX5_cheers_3 ?_
  refine gr_iconst (v := 3) X dX5_cheers_6 (by decide) ?_
  refine gr_isub X dX5_cheers_7 ?_
  exact gr_iret X dX5_cheers_8 (Option.some.inj hf) rfl
abbrev ro_do_cheers_G3 : Room := { frames := 2, cells := 0, slots := 0, locals := 44 }
def fc_do_cheers_G3 (x1 : Int32) (x2 : Int32) : Option Int32 := (Option.bind (fc_la_cheers_G3 x1 x2) fun q1 => (if ¬ (hrem x2 (2 : Int32)) = 0 then (some (q1 + (0 : Int32))) else (some (q1 + (4 : Int32)))))
set_option maxHeartbeats 4000000 in
set_option maxRecDepth 100000 in
theorem xc_do_cheers_G3 {l : Launch} {D : va_G} {cs : Nat → ClassId} {sK sV : Nat → Nat} {tA : Nat} {ad : Nat → Nat} {τ : SC} {x1 : Int32} {x2 : Int32} {r : Int32} (hf : fc_do_cheers_G3 x1 x2 = some r) : ctI l (wC ad cs) D vwCl (kC D cs sK sV tA) yX3_cheers cX3_cheers 3 .int ro_do_cheers_G3 [.ref (ad 143), .int x1, .int x2] τ r τ := by
  refine ct_I RX3 (by decide +kernel) rfl (Nat.le_of_ble_eq_true rfl) ?_
  intro p e s m args below meth c A X hK hA
  refine gr_eqL (L2 := [(0, .ref (ad 143)), (1, .int x1), (2, .int x2)]) rfl ?_
  unfold fc_do_cheers_G3 at hf
  refine gr_aload_n X dX3_cheers_0 rfl 0 rfl ?_
  refine gr_iload_n X dX3_cheers_1 rfl 1 rfl ?_
  refine gr_iload_n X dX3_cheers_2 rfl 2 rfl ?_
  obtain ⟨q1, hq_, hf⟩ := ot_b hf
  refine gc_Pi (rest := []) X kC_ok hK hA cw3_7 (hK.1.1 3 _ rfl).2 (rvC_G3 hK) (xc_la_cheers_G3 hq_) rfl ⟨rfl, rfl, Nat.le_of_ble_eq_true rfl, Nat.le_of_ble_eq_true rfl⟩ rfl (Nat.le_of_ble_eq_true rfl) dX3_cheers_3 ?_
  refine gr_iload_n X dX3_cheers_6 rfl 2 rfl ?_
  refine gr_iconst (v := 2) X dX3_cheers_7 (by decide) ?_
  refine gr_irem X dX3_cheers_8 (by decide) ?_
  refine gr_if_ne X 16 dX3_cheers_9 (by decide) (fun hc_ => ?_) (fun hc_ => ?_)
  · replace hf := ot_t hf hc_
    refine gr_iconst (v := 0) X dX3_cheers_16 (by decide) ?_
    refine gr_iadd X dX3_cheers_17 ?_
    exact gr_iret X dX3_cheers_18 (Option.some.inj hf) rfl
  · replace hf := ot_f hf hc_
    refine gr_iconst (v := 4) X dX3_cheers_12 (by decide) ?_
    refine gr_goto X 17 dX3_cheers_13 (by decide) ?_
    refine gr_iadd X dX3_cheers_17 ?_
    exact gr_iret X dX3_cheers_18 (Option.some.inj hf) rfl
abbrev ro_gu_cheers_G4 : Room := { frames := 0, cells := 0, slots := 0, locals := 0 }
def fc_gu_cheers_G4 (x1 : Int32) (x2 : Int32) : Option Int32 := (some (x1 / (3 : Int32)))
set_option maxHeartbeats 4000000 in
set_option maxRecDepth 100000 in
theorem xc_gu_cheers_G4 {l : Launch} {D : va_G} {cs : Nat → ClassId} {sK sV : Nat → Nat} {tA : Nat} {ad : Nat → Nat} {τ : SC} {x1 : Int32} {x2 : Int32} {r : Int32} (hf : fc_gu_cheers_G4 x1 x2 = some r) : ctI l (wC ad cs) D vwCl (kC D cs sK sV tA) yX4_cheers cX4_cheers 3 .int ro_gu_cheers_G4 [.ref (ad 144), .int x1, .int x2] τ r τ := by
  refine ct_I RX4 (by decide +kernel) rfl (Nat.le_of_ble_eq_true rfl) ?_
  intro p e s m args below meth c A X hK hA
  refine gr_eqL (L2 := [(0, .ref (ad 144)), (1, .int x1), (2, .int x2)]) rfl ?_
  unfold fc_gu_cheers_G4 at hf
  refine gr_iload_n X dX4_cheers_0 rfl 1 rfl ?_
  refine gr_iconst (v := 3) X dX4_cheers_1 (by decide) ?_
  refine gr_idiv X dX4_cheers_2 (by decide) ?_
  exact gr_iret X dX4_cheers_3 (Option.some.inj hf) rfl
abbrev ro_bo_cheers_G4 : Room := { frames := 1, cells := 0, slots := 0, locals := 24 }
def fc_bo_cheers_G4 (x1 : Int32) (x2 : Int32) : Option Int32 := (Option.bind (fc_gu_cheers_G4 x1 x2) fun q1 => (some (hmin (2 : Int32) (q1 + (1 : Int32)))))
set_option maxHeartbeats 4000000 in
set_option maxRecDepth 100000 in
theorem xc_bo_cheers_G4 {l : Launch} {D : va_G} {cs : Nat → ClassId} {sK sV : Nat → Nat} {tA : Nat} {ad : Nat → Nat} {τ : SC} {x1 : Int32} {x2 : Int32} {r : Int32} (hf : fc_bo_cheers_G4 x1 x2 = some r) : ctI l (wC ad cs) D vwCl (kC D cs sK sV tA) yX1_cheers cX1_cheers 3 .int ro_bo_cheers_G4 [.ref (ad 144), .int x1, .int x2] τ r τ := by
  refine ct_I RX1 (by decide +kernel) rfl (Nat.le_of_ble_eq_true rfl) ?_
  intro p e s m args below meth c A X hK hA
  refine gr_eqL (L2 := [(0, .ref (ad 144)), (1, .int x1), (2, .int x2)]) rfl ?_
  unfold fc_bo_cheers_G4 at hf
  refine gr_iconst (v := 2) X dX1_cheers_0 (by decide) ?_
  refine gr_aload_n X dX1_cheers_1 rfl 0 rfl ?_
  refine gr_iload_n X dX1_cheers_2 rfl 1 rfl ?_
  refine gr_iload_n X dX1_cheers_3 rfl 2 rfl ?_
  obtain ⟨q1, hq_, hf⟩ := ot_b hf
  refine gc_Pi (rest := [.int (2 : Int32)]) X kC_ok hK hA cw1_7 (hK.1.1 1 _ rfl).2 (rvC_G4 hK) (xc_gu_cheers_G4 hq_) rfl ⟨rfl, rfl, Nat.le_of_ble_eq_true rfl, Nat.le_of_ble_eq_true rfl⟩ rfl (Nat.le_of_ble_eq_true rfl) dX1_cheers_4 ?_
  refine gr_iconst (v := 1) X dX1_cheers_7 (by decide) ?_
  refine gr_iadd X dX1_cheers_8 ?_
  refine gr_mmin X mk1_11 ⟨Nat.le_of_ble_eq_true rfl, Nat.le_of_ble_eq_true rfl⟩ dX1_cheers_9 ?_
  exact gr_iret X dX1_cheers_12 (Option.some.inj hf) rfl
abbrev ro_gu_cheers_G5 : Room := { frames := 0, cells := 0, slots := 0, locals := 0 }
def fc_gu_cheers_G5 (x1 : Int32) (x2 : Int32) : Option Int32 := (some (x1 / (3 : Int32)))
set_option maxHeartbeats 4000000 in
set_option maxRecDepth 100000 in
theorem xc_gu_cheers_G5 {l : Launch} {D : va_G} {cs : Nat → ClassId} {sK sV : Nat → Nat} {tA : Nat} {ad : Nat → Nat} {τ : SC} {x1 : Int32} {x2 : Int32} {r : Int32} (hf : fc_gu_cheers_G5 x1 x2 = some r) : ctI l (wC ad cs) D vwCl (kC D cs sK sV tA) yX4_cheers cX4_cheers 3 .int ro_gu_cheers_G5 [.ref (ad 145), .int x1, .int x2] τ r τ := by
  refine ct_I RX4 (by decide +kernel) rfl (Nat.le_of_ble_eq_true rfl) ?_
  intro p e s m args below meth c A X hK hA
  refine gr_eqL (L2 := [(0, .ref (ad 145)), (1, .int x1), (2, .int x2)]) rfl ?_
  unfold fc_gu_cheers_G5 at hf
  refine gr_iload_n X dX4_cheers_0 rfl 1 rfl ?_
  refine gr_iconst (v := 3) X dX4_cheers_1 (by decide) ?_
  refine gr_idiv X dX4_cheers_2 (by decide) ?_
  exact gr_iret X dX4_cheers_3 (Option.some.inj hf) rfl
abbrev ro_bo_cheers_G5 : Room := { frames := 1, cells := 0, slots := 0, locals := 24 }
def fc_bo_cheers_G5 (x1 : Int32) (x2 : Int32) : Option Int32 := (Option.bind (fc_gu_cheers_G5 x1 x2) fun q1 => (some (hmin (2 : Int32) (q1 + (1 : Int32)))))
set_option maxHeartbeats 4000000 in
set_option maxRecDepth 100000 in
theorem xc_bo_cheers_G5 {l : Launch} {D : va_G} {cs : Nat → ClassId} {sK sV : Nat → Nat} {tA : Nat} {ad : Nat → Nat} {τ : SC} {x1 : Int32} {x2 : Int32} {r : Int32} (hf : fc_bo_cheers_G5 x1 x2 = some r) : ctI l (wC ad cs) D vwCl (kC D cs sK sV tA) yX1_cheers cX1_cheers 3 .int ro_bo_cheers_G5 [.ref (ad 145), .int x1, .int x2] τ r τ := by
  refine ct_I RX1 (by decide +kernel) rfl (Nat.le_of_ble_eq_true rfl) ?_
  intro p e s m args below meth c A X hK hA
  refine gr_eqL (L2 := [(0, .ref (ad 145)), (1, .int x1), (2, .int x2)]) rfl ?_
  unfold fc_bo_cheers_G5 at hf
  refine gr_iconst (v := 2) X dX1_cheers_0 (by decide) ?_
  refine gr_aload_n X dX1_cheers_1 rfl 0 rfl ?_
  refine gr_iload_n X dX1_cheers_2 rfl 1 rfl ?_
  refine gr_iload_n X dX1_cheers_3 rfl 2 rfl ?_
  obtain ⟨q1, hq_, hf⟩ := ot_b hf
  refine gc_Pi (rest := [.int (2 : Int32)]) X kC_ok hK hA cw1_7 (hK.1.1 2 _ rfl).2 (rvC_G5 hK) (xc_gu_cheers_G5 hq_) rfl ⟨rfl, rfl, Nat.le_of_ble_eq_true rfl, Nat.le_of_ble_eq_true rfl⟩ rfl (Nat.le_of_ble_eq_true rfl) dX1_cheers_4 ?_
  refine gr_iconst (v := 1) X dX1_cheers_7 (by decide) ?_
  refine gr_iadd X dX1_cheers_8 ?_
  refine gr_mmin X mk1_11 ⟨Nat.le_of_ble_eq_true rfl, Nat.le_of_ble_eq_true rfl⟩ dX1_cheers_9 ?_
  exact gr_iret X dX1_cheers_12 (Option.some.inj hf) rfl
abbrev ro_ca_cheers_G5 : Room := { frames := 2, cells := 0, slots := 0, locals := 46 }
def fc_ca_cheers_G5 (x1 : Int32) (x2 : Int32) : Option Int32 := (if ¬ (hrem x2 (3 : Int32)) = (1 : Int32) then (Option.bind (fc_bo_cheers_G5 x1 x2) fun q1 => (some q1)) else (some (0 : Int32)))
set_option maxHeartbeats 4000000 in
set_option maxRecDepth 100000 in
theorem xc_ca_cheers_G5 {l : Launch} {D : va_G} {cs : Nat → ClassId} {sK sV : Nat → Nat} {tA : Nat} {ad : Nat → Nat} {τ : SC} {x1 : Int32} {x2 : Int32} {r : Int32} (hf : fc_ca_cheers_G5 x1 x2 = some r) : ctI l (wC ad cs) D vwCl (kC D cs sK sV tA) yX2_cheers cX2_cheers 3 .int ro_ca_cheers_G5 [.ref (ad 145), .int x1, .int x2] τ r τ := by
  refine ct_I RX2 (by decide +kernel) rfl (Nat.le_of_ble_eq_true rfl) ?_
  intro p e s m args below meth c A X hK hA
  refine gr_eqL (L2 := [(0, .ref (ad 145)), (1, .int x1), (2, .int x2)]) rfl ?_
  unfold fc_ca_cheers_G5 at hf
  refine gr_iload_n X dX2_cheers_0 rfl 2 rfl ?_
  refine gr_iconst (v := 3) X dX2_cheers_1 (by decide) ?_
  refine gr_irem X dX2_cheers_2 (by decide) ?_
  refine gr_iconst (v := 1) X dX2_cheers_3 (by decide) ?_
  refine gr_icmp_ne X 11 dX2_cheers_4 (by decide) (fun hc_ => ?_) (fun hc_ => ?_)
  · replace hf := ot_t hf hc_
    refine gr_aload_n X dX2_cheers_11 rfl 0 rfl ?_
    refine gr_iload_n X dX2_cheers_12 rfl 1 rfl ?_
    refine gr_iload_n X dX2_cheers_13 rfl 2 rfl ?_
    obtain ⟨q1, hq_, hf⟩ := ot_b hf
    refine gc_Pi (rest := []) X kC_ok hK hA cw2_7 (hK.1.1 2 _ rfl).2 (rvC_G5 hK) (xc_bo_cheers_G5 hq_) rfl ⟨rfl, rfl, Nat.le_of_ble_eq_true rfl, Nat.le_of_ble_eq_true rfl⟩ rfl (Nat.le_of_ble_eq_true rfl) dX2_cheers_14 ?_
    exact gr_iret X dX2_cheers_17 (Option.some.inj hf) rfl
  · replace hf := ot_f hf hc_
    refine gr_iconst (v := 0) X dX2_cheers_7 (by decide) ?_
    refine gr_goto X 17 dX2_cheers_8 (by decide) ?_
    exact gr_iret X dX2_cheers_17 (Option.some.inj hf) rfl
def fN_cheers (n : Nat) (x0 : Int32) (x1 : Int32) : Option Int32 := (if n = 0 then fc_gu_cheers_G0 x0 x1 else (if n = 1 then fc_ba_cheers_G1 x0 x1 else (if n = 2 then fc_la_cheers_G2 x0 x1 else (if n = 3 then fc_do_cheers_G3 x0 x1 else (if n = 4 then fc_bo_cheers_G4 x0 x1 else (if n = 5 then fc_ca_cheers_G5 x0 x1 else none))))))
set_option maxHeartbeats 4000000 in
theorem gN9_143 {p : Program} {l : Launch} {e : Env} {R : Room} {s : State} {m : MethodId} {args : Array Value} {below : List Frame} {meth : Method} {c : Code} {A : Nat → Prop} {D : va_G} {cs : Nat → ClassId} {sK sV : Nat → Nat} {tA : Nat} {ad : Nat → Nat} {cc : ByteArray} {ret : Option FieldType} {pc nL : Nat} {L : List (Nat × Value)} {Q : State → Prop} {rest st0 : List Value} {τ : SC} {n : Nat} {x0 : Int32} {x1 : Int32} {r : Int32} (X : hc p s m args meth c RX9 cc nL ret) (hK : kC D cs sK sV tA A s) (hA : ∀ q, s.heap.size ≤ q → A q) (hf : fN_cheers n x0 x1 = some r) (hst : st0 = [.int x1, .int x0] ++ .ref (ad (140 + n)) :: rest) (hR : 3 ≤ R.frames ∧ 68 ≤ R.locals) (hcat : (rest.map fun v => v.category).sum ≤ 8) (hdg : decode cc pc = .ok (.invokevirtual 143, 3)) (kk : gg p l e R s m args below meth c (wC ad cs) D vwCl A nL Q (pc + 3) L (.int r :: rest) τ) : gg p l e R s m args below meth c (wC ad cs) D vwCl A nL Q pc L st0 τ := by
  subst hst
  unfold fN_cheers at hf
  by_cases h0 : n = 0
  · subst h0
    replace hf := ot_t hf rfl
    exact gc_Ui (rest := rest) (As := [.int x0, .int x1]) (b := ad 140) X kC_ok hK hA cu9_143_4 (rvC_G0 hK) (xc_gu_cheers_G0 hf) rfl ⟨rfl, rfl, Nat.le_trans (Nat.le_of_ble_eq_true rfl) hR.1, Nat.le_trans (Nat.le_of_ble_eq_true rfl) hR.2⟩ rfl hcat hdg kk
  replace hf := ot_f hf h0
  by_cases h1 : n = 1
  · subst h1
    replace hf := ot_t hf rfl
    exact gc_Ui (rest := rest) (As := [.int x0, .int x1]) (b := ad 141) X kC_ok hK hA cu9_143_0 (rvC_G1 hK) (xc_ba_cheers_G1 hf) rfl ⟨rfl, rfl, Nat.le_trans (Nat.le_of_ble_eq_true rfl) hR.1, Nat.le_trans (Nat.le_of_ble_eq_true rfl) hR.2⟩ rfl hcat hdg kk
  replace hf := ot_f hf h1
  by_cases h2 : n = 2
  · subst h2
    replace hf := ot_t hf rfl
    exact gc_Ui (rest := rest) (As := [.int x0, .int x1]) (b := ad 142) X kC_ok hK hA cu9_143_5 (rvC_G2 hK) (xc_la_cheers_G2 hf) rfl ⟨rfl, rfl, Nat.le_trans (Nat.le_of_ble_eq_true rfl) hR.1, Nat.le_trans (Nat.le_of_ble_eq_true rfl) hR.2⟩ rfl hcat hdg kk
  replace hf := ot_f hf h2
  by_cases h3 : n = 3
  · subst h3
    replace hf := ot_t hf rfl
    exact gc_Ui (rest := rest) (As := [.int x0, .int x1]) (b := ad 143) X kC_ok hK hA cu9_143_3 (rvC_G3 hK) (xc_do_cheers_G3 hf) rfl ⟨rfl, rfl, Nat.le_trans (Nat.le_of_ble_eq_true rfl) hR.1, Nat.le_trans (Nat.le_of_ble_eq_true rfl) hR.2⟩ rfl hcat hdg kk
  replace hf := ot_f hf h3
  by_cases h4 : n = 4
  · subst h4
    replace hf := ot_t hf rfl
    exact gc_Ui (rest := rest) (As := [.int x0, .int x1]) (b := ad 144) X kC_ok hK hA cu9_143_1 (rvC_G4 hK) (xc_bo_cheers_G4 hf) rfl ⟨rfl, rfl, Nat.le_trans (Nat.le_of_ble_eq_true rfl) hR.1, Nat.le_trans (Nat.le_of_ble_eq_true rfl) hR.2⟩ rfl hcat hdg kk
  replace hf := ot_f hf h4
  by_cases h5 : n = 5
  · subst h5
    replace hf := ot_t hf rfl
    exact gc_Ui (rest := rest) (As := [.int x0, .int x1]) (b := ad 145) X kC_ok hK hA cu9_143_2 (rvC_G5 hK) (xc_ca_cheers_G5 hf) rfl ⟨rfl, rfl, Nat.le_trans (Nat.le_of_ble_eq_true rfl) hR.1, Nat.le_trans (Nat.le_of_ble_eq_true rfl) hR.2⟩ rfl hcat hdg kk
  replace hf := ot_f hf h5
  cases hf
abbrev ro_to_cheersOf : Room := { frames := 3, cells := 0, slots := 0, locals := 68 }
def fc_to_cheersOf (τ : SC) (x1 : Int32) : Option Int32 := (oc (hin x1 6) (oc (hin (τ.1 114 (Int32.toNatClampNeg x1)) 6) (oc (hin x1 6) (Option.bind (fN_cheers (Int32.toNatClampNeg (τ.1 114 (Int32.toNatClampNeg x1))) (τ.1 116 (Int32.toNatClampNeg x1)) (τ.1 102 0)) fun q1 => (some q1)))))
set_option maxHeartbeats 4000000 in
set_option maxRecDepth 100000 in
theorem xc_to_cheersOf {l : Launch} {D : va_G} {cs : Nat → ClassId} {sK sV : Nat → Nat} {tA : Nat} {ad : Nat → Nat} {τ : SC} {x1 : Int32} {r : Int32} (hf : fc_to_cheersOf τ x1 = some r) : ctI l (wC ad cs) D vwCl (kC D cs sK sV tA) yX9_cheersOf cX9_cheersOf 2 .int ro_to_cheersOf [.ref (ad 130), .int x1] τ r τ := by
  refine ct_I RX9 (by decide +kernel) rfl (Nat.le_of_ble_eq_true rfl) ?_
  intro p e s m args below meth c A X hK hA
  refine gr_eqL (L2 := [(0, .ref (ad 130)), (1, .int x1)]) rfl ?_
  unfold fc_to_cheersOf at hf
  refine gr_aload_n X dX9_cheersOf_0 rfl 0 rfl ?_
  refine gC_get_T0_0 X hK fk9_27 dX9_cheersOf_1 ?_
  refine gr_aload_n X dX9_cheersOf_4 rfl 0 rfl ?_
  refine gC_get_T0_14 X hK fk9_60 dX9_cheersOf_5 ?_
  refine gr_iload_n X dX9_cheersOf_8 rfl 1 rfl ?_
  have hi_ := oc_1 hf
  replace hf := oc_2 hf
  refine gC_ald_114 X hK (Int32.toNatClampNeg x1) hi_ rfl dX9_cheersOf_9 ?_
  have hi_ := oc_1 hf
  replace hf := oc_2 hf
  refine gC_aald_N X hK (Int32.toNatClampNeg (τ.1 114 (Int32.toNatClampNeg x1))) hi_ rfl dX9_cheersOf_10 ?_
  refine gr_aload_n X dX9_cheersOf_11 rfl 0 rfl ?_
  refine gC_get_T0_16 X hK fk9_66 dX9_cheersOf_12 ?_
  refine gr_iload_n X dX9_cheersOf_15 rfl 1 rfl ?_
  have hi_ := oc_1 hf
  replace hf := oc_2 hf
  refine gC_ald_116 X hK (Int32.toNatClampNeg x1) hi_ rfl dX9_cheersOf_16 ?_
  refine gr_aload_n X dX9_cheersOf_17 rfl 0 rfl ?_
  refine gC_get_T0_2 X hK fk9_108 dX9_cheersOf_18 ?_
  obtain ⟨q1, hq_, hf⟩ := ot_b hf
  refine gN9_143 (rest := []) X hK hA hq_ rfl ⟨Nat.le_of_ble_eq_true rfl, Nat.le_of_ble_eq_true rfl⟩ (Nat.le_of_ble_eq_true rfl) dX9_cheersOf_21 ?_
  exact gr_iret X dX9_cheersOf_24 (Option.some.inj hf) rfl
abbrev ro_gu_pays_G0 : Room := { frames := 0, cells := 0, slots := 0, locals := 0 }
def fc_gu_pays_G0 (x1 : Int32) : Option Int32 := (some (4 : Int32))
set_option maxHeartbeats 4000000 in
set_option maxRecDepth 100000 in
theorem xc_gu_pays_G0 {l : Launch} {D : va_G} {cs : Nat → ClassId} {sK sV : Nat → Nat} {tA : Nat} {ad : Nat → Nat} {τ : SC} {x1 : Int32} {r : Int32} (hf : fc_gu_pays_G0 x1 = some r) : ctI l (wC ad cs) D vwCl (kC D cs sK sV tA) yX4_pays cX4_pays 2 .int ro_gu_pays_G0 [.ref (ad 140), .int x1] τ r τ := by
  refine ct_I RX4 (by decide +kernel) rfl (Nat.le_of_ble_eq_true rfl) ?_
  intro p e s m args below meth c A X hK hA
  refine gr_eqL (L2 := [(0, .ref (ad 140)), (1, .int x1)]) rfl ?_
  unfold fc_gu_pays_G0 at hf
  refine gr_iconst (v := 4) X dX4_pays_0 (by decide) ?_
  exact gr_iret X dX4_pays_1 (Option.some.inj hf) rfl
abbrev ro_gu_pays_G1 : Room := { frames := 0, cells := 0, slots := 0, locals := 0 }
def fc_gu_pays_G1 (x1 : Int32) : Option Int32 := (some (4 : Int32))
set_option maxHeartbeats 4000000 in
set_option maxRecDepth 100000 in
theorem xc_gu_pays_G1 {l : Launch} {D : va_G} {cs : Nat → ClassId} {sK sV : Nat → Nat} {tA : Nat} {ad : Nat → Nat} {τ : SC} {x1 : Int32} {r : Int32} (hf : fc_gu_pays_G1 x1 = some r) : ctI l (wC ad cs) D vwCl (kC D cs sK sV tA) yX4_pays cX4_pays 2 .int ro_gu_pays_G1 [.ref (ad 141), .int x1] τ r τ := by
  refine ct_I RX4 (by decide +kernel) rfl (Nat.le_of_ble_eq_true rfl) ?_
  intro p e s m args below meth c A X hK hA
  refine gr_eqL (L2 := [(0, .ref (ad 141)), (1, .int x1)]) rfl ?_
  unfold fc_gu_pays_G1 at hf
  refine gr_iconst (v := 4) X dX4_pays_0 (by decide) ?_
  exact gr_iret X dX4_pays_1 (Option.some.inj hf) rfl
abbrev ro_ba_pays_G1 : Room := { frames := 1, cells := 0, slots := 0, locals := 21 }
def fc_ba_pays_G1 (x1 : Int32) : Option Int32 := (Option.bind (fc_gu_pays_G1 x1) fun q1 => (some (q1 + (2 : Int32))))
set_option maxHeartbeats 4000000 in
set_option maxRecDepth 100000 in
theorem xc_ba_pays_G1 {l : Launch} {D : va_G} {cs : Nat → ClassId} {sK sV : Nat → Nat} {tA : Nat} {ad : Nat → Nat} {τ : SC} {x1 : Int32} {r : Int32} (hf : fc_ba_pays_G1 x1 = some r) : ctI l (wC ad cs) D vwCl (kC D cs sK sV tA) yX0_pays cX0_pays 2 .int ro_ba_pays_G1 [.ref (ad 141), .int x1] τ r τ := by
  refine ct_I RX0 (by decide +kernel) rfl (Nat.le_of_ble_eq_true rfl) ?_
  intro p e s m args below meth c A X hK hA
  refine gr_eqL (L2 := [(0, .ref (ad 141)), (1, .int x1)]) rfl ?_
  unfold fc_ba_pays_G1 at hf
  refine gr_aload_n X dX0_pays_0 rfl 0 rfl ?_
  refine gr_iload_n X dX0_pays_1 rfl 1 rfl ?_
  obtain ⟨q1, hq_, hf⟩ := ot_b hf
  refine gc_Pi (rest := []) X kC_ok hK hA cw0_11 (hK.1.1 0 _ rfl).2 (rvC_G1 hK) (xc_gu_pays_G1 hq_) rfl ⟨rfl, rfl, Nat.le_of_ble_eq_true rfl, Nat.le_of_ble_eq_true rfl⟩ rfl (Nat.le_of_ble_eq_true rfl) dX0_pays_2 ?_
  refine gr_iconst (v := 2) X dX0_pays_5 (by decide) ?_
  refine gr_iadd X dX0_pays_6 ?_
  exact gr_iret X dX0_pays_7 (Option.some.inj hf) rfl
abbrev ro_gu_pays_G2 : Room := { frames := 0, cells := 0, slots := 0, locals := 0 }
def fc_gu_pays_G2 (x1 : Int32) : Option Int32 := (some (4 : Int32))
set_option maxHeartbeats 4000000 in
set_option maxRecDepth 100000 in
theorem xc_gu_pays_G2 {l : Launch} {D : va_G} {cs : Nat → ClassId} {sK sV : Nat → Nat} {tA : Nat} {ad : Nat → Nat} {τ : SC} {x1 : Int32} {r : Int32} (hf : fc_gu_pays_G2 x1 = some r) : ctI l (wC ad cs) D vwCl (kC D cs sK sV tA) yX4_pays cX4_pays 2 .int ro_gu_pays_G2 [.ref (ad 142), .int x1] τ r τ := by
  refine ct_I RX4 (by decide +kernel) rfl (Nat.le_of_ble_eq_true rfl) ?_
  intro p e s m args below meth c A X hK hA
  refine gr_eqL (L2 := [(0, .ref (ad 142)), (1, .int x1)]) rfl ?_
  unfold fc_gu_pays_G2 at hf
  refine gr_iconst (v := 4) X dX4_pays_0 (by decide) ?_
  exact gr_iret X dX4_pays_1 (Option.some.inj hf) rfl
abbrev ro_la_pays_G2 : Room := { frames := 1, cells := 0, slots := 0, locals := 21 }
def fc_la_pays_G2 (x1 : Int32) : Option Int32 := (Option.bind (fc_gu_pays_G2 x1) fun q1 => (some (q1 + x1)))
set_option maxHeartbeats 4000000 in
set_option maxRecDepth 100000 in
theorem xc_la_pays_G2 {l : Launch} {D : va_G} {cs : Nat → ClassId} {sK sV : Nat → Nat} {tA : Nat} {ad : Nat → Nat} {τ : SC} {x1 : Int32} {r : Int32} (hf : fc_la_pays_G2 x1 = some r) : ctI l (wC ad cs) D vwCl (kC D cs sK sV tA) yX5_pays cX5_pays 2 .int ro_la_pays_G2 [.ref (ad 142), .int x1] τ r τ := by
  refine ct_I RX5 (by decide +kernel) rfl (Nat.le_of_ble_eq_true rfl) ?_
  intro p e s m args below meth c A X hK hA
  refine gr_eqL (L2 := [(0, .ref (ad 142)), (1, .int x1)]) rfl ?_
  unfold fc_la_pays_G2 at hf
  refine gr_aload_n X dX5_pays_0 rfl 0 rfl ?_
  refine gr_iload_n X dX5_pays_1 rfl 1 rfl ?_
  obtain ⟨q1, hq_, hf⟩ := ot_b hf
  refine gc_Pi (rest := []) X kC_ok hK hA cw5_11 (hK.1.1 5 _ rfl).2 (rvC_G2 hK) (xc_gu_pays_G2 hq_) rfl ⟨rfl, rfl, Nat.le_of_ble_eq_true rfl, Nat.le_of_ble_eq_true rfl⟩ rfl (Nat.le_of_ble_eq_true rfl) dX5_pays_2 ?_
  refine gr_iload_n X dX5_pays_5 rfl 1 rfl ?_
  refine gr_iadd X dX5_pays_6 ?_
  exact gr_iret X dX5_pays_7 (Option.some.inj hf) rfl
abbrev ro_gu_pays_G3 : Room := { frames := 0, cells := 0, slots := 0, locals := 0 }
def fc_gu_pays_G3 (x1 : Int32) : Option Int32 := (some (4 : Int32))
set_option maxHeartbeats 4000000 in
set_option maxRecDepth 100000 in
theorem xc_gu_pays_G3 {l : Launch} {D : va_G} {cs : Nat → ClassId} {sK sV : Nat → Nat} {tA : Nat} {ad : Nat → Nat} {τ : SC} {x1 : Int32} {r : Int32} (hf : fc_gu_pays_G3 x1 = some r) : ctI l (wC ad cs) D vwCl (kC D cs sK sV tA) yX4_pays cX4_pays 2 .int ro_gu_pays_G3 [.ref (ad 143), .int x1] τ r τ := by
  refine ct_I RX4 (by decide +kernel) rfl (Nat.le_of_ble_eq_true rfl) ?_
  intro p e s m args below meth c A X hK hA
  refine gr_eqL (L2 := [(0, .ref (ad 143)), (1, .int x1)]) rfl ?_
  unfold fc_gu_pays_G3 at hf
  refine gr_iconst (v := 4) X dX4_pays_0 (by decide) ?_
  exact gr_iret X dX4_pays_1 (Option.some.inj hf) rfl
abbrev ro_la_pays_G3 : Room := { frames := 1, cells := 0, slots := 0, locals := 21 }
def fc_la_pays_G3 (x1 : Int32) : Option Int32 := (Option.bind (fc_gu_pays_G3 x1) fun q1 => (some (q1 + x1)))
set_option maxHeartbeats 4000000 in
set_option maxRecDepth 100000 in
theorem xc_la_pays_G3 {l : Launch} {D : va_G} {cs : Nat → ClassId} {sK sV : Nat → Nat} {tA : Nat} {ad : Nat → Nat} {τ : SC} {x1 : Int32} {r : Int32} (hf : fc_la_pays_G3 x1 = some r) : ctI l (wC ad cs) D vwCl (kC D cs sK sV tA) yX5_pays cX5_pays 2 .int ro_la_pays_G3 [.ref (ad 143), .int x1] τ r τ := by
  refine ct_I RX5 (by decide +kernel) rfl (Nat.le_of_ble_eq_true rfl) ?_
  intro p e s m args below meth c A X hK hA
  refine gr_eqL (L2 := [(0, .ref (ad 143)), (1, .int x1)]) rfl ?_
  unfold fc_la_pays_G3 at hf
  refine gr_aload_n X dX5_pays_0 rfl 0 rfl ?_
  refine gr_iload_n X dX5_pays_1 rfl 1 rfl ?_
  obtain ⟨q1, hq_, hf⟩ := ot_b hf
  refine gc_Pi (rest := []) X kC_ok hK hA cw5_11 (hK.1.1 3 _ rfl).2 (rvC_G3 hK) (xc_gu_pays_G3 hq_) rfl ⟨rfl, rfl, Nat.le_of_ble_eq_true rfl, Nat.le_of_ble_eq_true rfl⟩ rfl (Nat.le_of_ble_eq_true rfl) dX5_pays_2 ?_
  refine gr_iload_n X dX5_pays_5 rfl 1 rfl ?_
  refine gr_iadd X dX5_pays_6 ?_
  exact gr_iret X dX5_pays_7 (Option.some.inj hf) rfl
abbrev ro_do_pays_G3 : Room := { frames := 2, cells := 0, slots := 0, locals := 42 }
def fc_do_pays_G3 (x1 : Int32) : Option Int32 := (Option.bind (fc_la_pays_G3 x1) fun q1 => (some ((2 : Int32) * q1)))
set_option maxHeartbeats 4000000 in
set_option maxRecDepth 100000 in
theorem xc_do_pays_G3 {l : Launch} {D : va_G} {cs : Nat → ClassId} {sK sV : Nat → Nat} {tA : Nat} {ad : Nat → Nat} {τ : SC} {x1 : Int32} {r : Int32} (hf : fc_do_pays_G3 x1 = some r) : ctI l (wC ad cs) D vwCl (kC D cs sK sV tA) yX3_pays cX3_pays 2 .int ro_do_pays_G3 [.ref (ad 143), .int x1] τ r τ := by
  refine ct_I RX3 (by decide +kernel) rfl (Nat.le_of_ble_eq_true rfl) ?_
  intro p e s m args below meth c A X hK hA
  refine gr_eqL (L2 := [(0, .ref (ad 143)), (1, .int x1)]) rfl ?_
  unfold fc_do_pays_G3 at hf
  refine gr_iconst (v := 2) X dX3_pays_0 (by decide) ?_
  refine gr_aload_n X dX3_pays_1 rfl 0 rfl ?_
  refine gr_iload_n X dX3_pays_2 rfl 1 rfl ?_
  obtain ⟨q1, hq_, hf⟩ := ot_b hf
  refine gc_Pi (rest := [.int (2 : Int32)]) X kC_ok hK hA cw3_11 (hK.1.1 3 _ rfl).2 (rvC_G3 hK) (xc_la_pays_G3 hq_) rfl ⟨rfl, rfl, Nat.le_of_ble_eq_true rfl, Nat.le_of_ble_eq_true rfl⟩ rfl (Nat.le_of_ble_eq_true rfl) dX3_pays_3 ?_
  refine gr_imul X dX3_pays_6 ?_
  exact gr_iret X dX3_pays_7 (Option.some.inj hf) rfl
abbrev ro_gu_pays_G4 : Room := { frames := 0, cells := 0, slots := 0, locals := 0 }
def fc_gu_pays_G4 (x1 : Int32) : Option Int32 := (some (4 : Int32))
set_option maxHeartbeats 4000000 in
set_option maxRecDepth 100000 in
theorem xc_gu_pays_G4 {l : Launch} {D : va_G} {cs : Nat → ClassId} {sK sV : Nat → Nat} {tA : Nat} {ad : Nat → Nat} {τ : SC} {x1 : Int32} {r : Int32} (hf : fc_gu_pays_G4 x1 = some r) : ctI l (wC ad cs) D vwCl (kC D cs sK sV tA) yX4_pays cX4_pays 2 .int ro_gu_pays_G4 [.ref (ad 144), .int x1] τ r τ := by
  refine ct_I RX4 (by decide +kernel) rfl (Nat.le_of_ble_eq_true rfl) ?_
  intro p e s m args below meth c A X hK hA
  refine gr_eqL (L2 := [(0, .ref (ad 144)), (1, .int x1)]) rfl ?_
  unfold fc_gu_pays_G4 at hf
  refine gr_iconst (v := 4) X dX4_pays_0 (by decide) ?_
  exact gr_iret X dX4_pays_1 (Option.some.inj hf) rfl
abbrev ro_bo_pays_G4 : Room := { frames := 1, cells := 0, slots := 0, locals := 21 }
def fc_bo_pays_G4 (x1 : Int32) : Option Int32 := (Option.bind (fc_gu_pays_G4 x1) fun q1 => (some (q1 - (1 : Int32))))
set_option maxHeartbeats 4000000 in
set_option maxRecDepth 100000 in
theorem xc_bo_pays_G4 {l : Launch} {D : va_G} {cs : Nat → ClassId} {sK sV : Nat → Nat} {tA : Nat} {ad : Nat → Nat} {τ : SC} {x1 : Int32} {r : Int32} (hf : fc_bo_pays_G4 x1 = some r) : ctI l (wC ad cs) D vwCl (kC D cs sK sV tA) yX1_pays cX1_pays 2 .int ro_bo_pays_G4 [.ref (ad 144), .int x1] τ r τ := by
  refine ct_I RX1 (by decide +kernel) rfl (Nat.le_of_ble_eq_true rfl) ?_
  intro p e s m args below meth c A X hK hA
  refine gr_eqL (L2 := [(0, .ref (ad 144)), (1, .int x1)]) rfl ?_
  unfold fc_bo_pays_G4 at hf
  refine gr_aload_n X dX1_pays_0 rfl 0 rfl ?_
  refine gr_iload_n X dX1_pays_1 rfl 1 rfl ?_
  obtain ⟨q1, hq_, hf⟩ := ot_b hf
  refine gc_Pi (rest := []) X kC_ok hK hA cw1_16 (hK.1.1 1 _ rfl).2 (rvC_G4 hK) (xc_gu_pays_G4 hq_) rfl ⟨rfl, rfl, Nat.le_of_ble_eq_true rfl, Nat.le_of_ble_eq_true rfl⟩ rfl (Nat.le_of_ble_eq_true rfl) dX1_pays_2 ?_
  refine gr_iconst (v := 1) X dX1_pays_5 (by decide) ?_
  refine gr_isub X dX1_pays_6 ?_
  exact gr_iret X dX1_pays_7 (Option.some.inj hf) rfl
abbrev ro_gu_pays_G5 : Room := { frames := 0, cells := 0, slots := 0, locals := 0 }
def fc_gu_pays_G5 (x1 : Int32) : Option Int32 := (some (4 : Int32))
set_option maxHeartbeats 4000000 in
set_option maxRecDepth 100000 in
theorem xc_gu_pays_G5 {l : Launch} {D : va_G} {cs : Nat → ClassId} {sK sV : Nat → Nat} {tA : Nat} {ad : Nat → Nat} {τ : SC} {x1 : Int32} {r : Int32} (hf : fc_gu_pays_G5 x1 = some r) : ctI l (wC ad cs) D vwCl (kC D cs sK sV tA) yX4_pays cX4_pays 2 .int ro_gu_pays_G5 [.ref (ad 145), .int x1] τ r τ := by
  refine ct_I RX4 (by decide +kernel) rfl (Nat.le_of_ble_eq_true rfl) ?_
  intro p e s m args below meth c A X hK hA
  refine gr_eqL (L2 := [(0, .ref (ad 145)), (1, .int x1)]) rfl ?_
  unfold fc_gu_pays_G5 at hf
  refine gr_iconst (v := 4) X dX4_pays_0 (by decide) ?_
  exact gr_iret X dX4_pays_1 (Option.some.inj hf) rfl
abbrev ro_bo_pays_G5 : Room := { frames := 1, cells := 0, slots := 0, locals := 21 }
def fc_bo_pays_G5 (x1 : Int32) : Option Int32 := (Option.bind (fc_gu_pays_G5 x1) fun q1 => (some (q1 - (1 : Int32))))
set_option maxHeartbeats 4000000 in
set_option maxRecDepth 100000 in
theorem xc_bo_pays_G5 {l : Launch} {D : va_G} {cs : Nat → ClassId} {sK sV : Nat → Nat} {tA : Nat} {ad : Nat → Nat} {τ : SC} {x1 : Int32} {r : Int32} (hf : fc_bo_pays_G5 x1 = some r) : ctI l (wC ad cs) D vwCl (kC D cs sK sV tA) yX1_pays cX1_pays 2 .int ro_bo_pays_G5 [.ref (ad 145), .int x1] τ r τ := by
  refine ct_I RX1 (by decide +kernel) rfl (Nat.le_of_ble_eq_true rfl) ?_
  intro p e s m args below meth c A X hK hA
  refine gr_eqL (L2 := [(0, .ref (ad 145)), (1, .int x1)]) rfl ?_
  unfold fc_bo_pays_G5 at hf
  refine gr_aload_n X dX1_pays_0 rfl 0 rfl ?_
  refine gr_iload_n X dX1_pays_1 rfl 1 rfl ?_
  obtain ⟨q1, hq_, hf⟩ := ot_b hf
  refine gc_Pi (rest := []) X kC_ok hK hA cw1_16 (hK.1.1 2 _ rfl).2 (rvC_G5 hK) (xc_gu_pays_G5 hq_) rfl ⟨rfl, rfl, Nat.le_of_ble_eq_true rfl, Nat.le_of_ble_eq_true rfl⟩ rfl (Nat.le_of_ble_eq_true rfl) dX1_pays_2 ?_
  refine gr_iconst (v := 1) X dX1_pays_5 (by decide) ?_
  refine gr_isub X dX1_pays_6 ?_
  exact gr_iret X dX1_pays_7 (Option.some.inj hf) rfl
abbrev ro_ca_pays_G5 : Room := { frames := 2, cells := 0, slots := 0, locals := 42 }
def fc_ca_pays_G5 (x1 : Int32) : Option Int32 := (Option.bind (fc_bo_pays_G5 x1) fun q1 => (some (q1 / (2 : Int32))))
set_option maxHeartbeats 4000000 in
set_option maxRecDepth 100000 in
theorem xc_ca_pays_G5 {l : Launch} {D : va_G} {cs : Nat → ClassId} {sK sV : Nat → Nat} {tA : Nat} {ad : Nat → Nat} {τ : SC} {x1 : Int32} {r : Int32} (hf : fc_ca_pays_G5 x1 = some r) : ctI l (wC ad cs) D vwCl (kC D cs sK sV tA) yX2_pays cX2_pays 2 .int ro_ca_pays_G5 [.ref (ad 145), .int x1] τ r τ := by
  refine ct_I RX2 (by decide +kernel) rfl (Nat.le_of_ble_eq_true rfl) ?_
  intro p e s m args below meth c A X hK hA
  refine gr_eqL (L2 := [(0, .ref (ad 145)), (1, .int x1)]) rfl ?_
  unfold fc_ca_pays_G5 at hf
  refine gr_aload_n X dX2_pays_0 rfl 0 rfl ?_
  refine gr_iload_n X dX2_pays_1 rfl 1 rfl ?_
  obtain ⟨q1, hq_, hf⟩ := ot_b hf
  refine gc_Pi (rest := []) X kC_ok hK hA cw2_11 (hK.1.1 2 _ rfl).2 (rvC_G5 hK) (xc_bo_pays_G5 hq_) rfl ⟨rfl, rfl, Nat.le_of_ble_eq_true rfl, Nat.le_of_ble_eq_true rfl⟩ rfl (Nat.le_of_ble_eq_true rfl) dX2_pays_2 ?_
  refine gr_iconst (v := 2) X dX2_pays_5 (by decide) ?_
  refine gr_idiv X dX2_pays_6 (by decide) ?_
  exact gr_iret X dX2_pays_7 (Option.some.inj hf) rfl
def fN_pays (n : Nat) (x0 : Int32) : Option Int32 := (if n = 0 then fc_gu_pays_G0 x0 else (if n = 1 then fc_ba_pays_G1 x0 else (if n = 2 then fc_la_pays_G2 x0 else (if n = 3 then fc_do_pays_G3 x0 else (if n = 4 then fc_bo_pays_G4 x0 else (if n = 5 then fc_ca_pays_G5 x0 else none))))))
set_option maxHeartbeats 4000000 in
theorem gN9_146 {p : Program} {l : Launch} {e : Env} {R : Room} {s : State} {m : MethodId} {args : Array Value} {below : List Frame} {meth : Method} {c : Code} {A : Nat → Prop} {D : va_G} {cs : Nat → ClassId} {sK sV : Nat → Nat} {tA : Nat} {ad : Nat → Nat} {cc : ByteArray} {ret : Option FieldType} {pc nL : Nat} {L : List (Nat × Value)} {Q : State → Prop} {rest st0 : List Value} {τ : SC} {n : Nat} {x0 : Int32} {r : Int32} (X : hc p s m args meth c RX9 cc nL ret) (hK : kC D cs sK sV tA A s) (hA : ∀ q, s.heap.size ≤ q → A q) (hf : fN_pays n x0 = some r) (hst : st0 = [.int x0] ++ .ref (ad (140 + n)) :: rest) (hR : 3 ≤ R.frames ∧ 63 ≤ R.locals) (hcat : (rest.map fun v => v.category).sum ≤ 8) (hdg : decode cc pc = .ok (.invokevirtual 146, 3)) (kk : gg p l e R s m args below meth c (wC ad cs) D vwCl A nL Q (pc + 3) L (.int r :: rest) τ) : gg p l e R s m args below meth c (wC ad cs) D vwCl A nL Q pc L st0 τ := by
  subst hst
  unfold fN_pays at hf
  by_cases h0 : n = 0
  · subst h0
    replace hf := ot_t hf rfl
    exact gc_Ui (rest := rest) (As := [.int x0]) (b := ad 140) X kC_ok hK hA cu9_146_4 (rvC_G0 hK) (xc_gu_pays_G0 hf) rfl ⟨rfl, rfl, Nat.le_trans (Nat.le_of_ble_eq_true rfl) hR.1, Nat.le_trans (Nat.le_of_ble_eq_true rfl) hR.2⟩ rfl hcat hdg kk
  replace hf := ot_f hf h0
  by_cases h1 : n = 1
  · subst h1
    replace hf := ot_t hf rfl
    exact gc_Ui (rest := rest) (As := [.int x0]) (b := ad 141) X kC_ok hK hA cu9_146_0 (rvC_G1 hK) (xc_ba_pays_G1 hf) rfl ⟨rfl, rfl, Nat.le_trans (Nat.le_of_ble_eq_true rfl) hR.1, Nat.le_trans (Nat.le_of_ble_eq_true rfl) hR.2⟩ rfl hcat hdg kk
  replace hf := ot_f hf h1
  by_cases h2 : n = 2
  · subst h2
    replace hf := ot_t hf rfl
    exact gc_Ui (rest := rest) (As := [.int x0]) (b := ad 142) X kC_ok hK hA cu9_146_5 (rvC_G2 hK) (xc_la_pays_G2 hf) rfl ⟨rfl, rfl, Nat.le_trans (Nat.le_of_ble_eq_true rfl) hR.1, Nat.le_trans (Nat.le_of_ble_eq_true rfl) hR.2⟩ rfl hcat hdg kk
  replace hf := ot_f hf h2
  by_cases h3 : n = 3
  · subst h3
    replace hf := ot_t hf rfl
    exact gc_Ui (rest := rest) (As := [.int x0]) (b := ad 143) X kC_ok hK hA cu9_146_3 (rvC_G3 hK) (xc_do_pays_G3 hf) rfl ⟨rfl, rfl, Nat.le_trans (Nat.le_of_ble_eq_true rfl) hR.1, Nat.le_trans (Nat.le_of_ble_eq_true rfl) hR.2⟩ rfl hcat hdg kk
  replace hf := ot_f hf h3
  by_cases h4 : n = 4
  · subst h4
    replace hf := ot_t hf rfl
    exact gc_Ui (rest := rest) (As := [.int x0]) (b := ad 144) X kC_ok hK hA cu9_146_1 (rvC_G4 hK) (xc_bo_pays_G4 hf) rfl ⟨rfl, rfl, Nat.le_trans (Nat.le_of_ble_eq_true rfl) hR.1, Nat.le_trans (Nat.le_of_ble_eq_true rfl) hR.2⟩ rfl hcat hdg kk
  replace hf := ot_f hf h4
  by_cases h5 : n = 5
  · subst h5
    replace hf := ot_t hf rfl
    exact gc_Ui (rest := rest) (As := [.int x0]) (b := ad 145) X kC_ok hK hA cu9_146_2 (rvC_G5 hK) (xc_ca_pays_G5 hf) rfl ⟨rfl, rfl, Nat.le_trans (Nat.le_of_ble_eq_true rfl) hR.1, Nat.le_trans (Nat.le_of_ble_eq_true rfl) hR.2⟩ rfl hcat hdg kk
  replace hf := ot_f hf h5
  cases hf
abbrev ro_to_paysOf : Room := { frames := 3, cells := 0, slots := 0, locals := 63 }
def fc_to_paysOf (τ : SC) (x1 : Int32) : Option Int32 := (oc (hin x1 6) (oc (hin (τ.1 114 (Int32.toNatClampNeg x1)) 6) (Option.bind (fN_pays (Int32.toNatClampNeg (τ.1 114 (Int32.toNatClampNeg x1))) x1) fun q1 => (some q1))))
set_option maxHeartbeats 4000000 in
set_option maxRecDepth 100000 in
theorem xc_to_paysOf {l : Launch} {D : va_G} {cs : Nat → ClassId} {sK sV : Nat → Nat} {tA : Nat} {ad : Nat → Nat} {τ : SC} {x1 : Int32} {r : Int32} (hf : fc_to_paysOf τ x1 = some r) : ctI l (wC ad cs) D vwCl (kC D cs sK sV tA) yX9_paysOf cX9_paysOf 2 .int ro_to_paysOf [.ref (ad 130), .int x1] τ r τ := by
  refine ct_I RX9 (by decide +kernel) rfl (Nat.le_of_ble_eq_true rfl) ?_
  intro p e s m args below meth c A X hK hA
  refine gr_eqL (L2 := [(0, .ref (ad 130)), (1, .int x1)]) rfl ?_
  unfold fc_to_paysOf at hf
  refine gr_aload_n X dX9_paysOf_0 rfl 0 rfl ?_
  refine gC_get_T0_0 X hK fk9_27 dX9_paysOf_1 ?_
  refine gr_aload_n X dX9_paysOf_4 rfl 0 rfl ?_
  refine gC_get_T0_14 X hK fk9_60 dX9_paysOf_5 ?_
  refine gr_iload_n X dX9_paysOf_8 rfl 1 rfl ?_
  have hi_ := oc_1 hf
  replace hf := oc_2 hf
  refine gC_ald_114 X hK (Int32.toNatClampNeg x1) hi_ rfl dX9_paysOf_9 ?_
  have hi_ := oc_1 hf
  replace hf := oc_2 hf
  refine gC_aald_N X hK (Int32.toNatClampNeg (τ.1 114 (Int32.toNatClampNeg x1))) hi_ rfl dX9_paysOf_10 ?_
  refine gr_iload_n X dX9_paysOf_11 rfl 1 rfl ?_
  obtain ⟨q1, hq_, hf⟩ := ot_b hf
  refine gN9_146 (rest := []) X hK hA hq_ rfl ⟨Nat.le_of_ble_eq_true rfl, Nat.le_of_ble_eq_true rfl⟩ (Nat.le_of_ble_eq_true rfl) dX9_paysOf_12 ?_
  exact gr_iret X dX9_paysOf_15 (Option.some.inj hf) rfl
abbrev ro_to_dueWithShift : Room := { frames := 0, cells := 0, slots := 0, locals := 0 }
def fc_to_dueWithShift (τ : SC) (x1 : Int32) : Option Int32 := (oc (hin x1 6) (oc (hin x1 6) (oc (hin (τ.1 117 (Int32.toNatClampNeg x1)) 6) (some ((τ.1 115 (Int32.toNatClampNeg x1)) + (τ.1 111 (Int32.toNatClampNeg (τ.1 117 (Int32.toNatClampNeg x1)))))))))
set_option maxHeartbeats 4000000 in
set_option maxRecDepth 100000 in
theorem xc_to_dueWithShift {l : Launch} {D : va_G} {cs : Nat → ClassId} {sK sV : Nat → Nat} {tA : Nat} {ad : Nat → Nat} {τ : SC} {x1 : Int32} {r : Int32} (hf : fc_to_dueWithShift τ x1 = some r) : ctI l (wC ad cs) D vwCl (kC D cs sK sV tA) yX9_dueWithShift cX9_dueWithShift 2 .int ro_to_dueWithShift [.ref (ad 130), .int x1] τ r τ := by
  refine ct_I RX9 (by decide +kernel) rfl (Nat.le_of_ble_eq_true rfl) ?_
  intro p e s m args below meth c A X hK hA
  refine gr_eqL (L2 := [(0, .ref (ad 130)), (1, .int x1)]) rfl ?_
  unfold fc_to_dueWithShift at hf
  refine gr_aload_n X dX9_dueWithShift_0 rfl 0 rfl ?_
  refine gC_get_T0_15 X hK fk9_63 dX9_dueWithShift_1 ?_
  refine gr_iload_n X dX9_dueWithShift_4 rfl 1 rfl ?_
  have hi_ := oc_1 hf
  replace hf := oc_2 hf
  refine gC_ald_115 X hK (Int32.toNatClampNeg x1) hi_ rfl dX9_dueWithShift_5 ?_
  refine gr_aload_n X dX9_dueWithShift_6 rfl 0 rfl ?_
  refine gC_get_T0_11 X hK fk9_54 dX9_dueWithShift_7 ?_
  refine gr_aload_n X dX9_dueWithShift_10 rfl 0 rfl ?_
  refine gC_get_T0_17 X hK fk9_69 dX9_dueWithShift_11 ?_
  refine gr_iload_n X dX9_dueWithShift_14 rfl 1 rfl ?_
  have hi_ := oc_1 hf
  replace hf := oc_2 hf
  refine gC_ald_117 X hK (Int32.toNatClampNeg x1) hi_ rfl dX9_dueWithShift_15 ?_
  have hi_ := oc_1 hf
  replace hf := oc_2 hf
  refine gC_ald_111 X hK (Int32.toNatClampNeg (τ.1 117 (Int32.toNatClampNeg x1))) hi_ rfl dX9_dueWithShift_16 ?_
  refine gr_iadd X dX9_dueWithShift_17 ?_
  exact gr_iret X dX9_dueWithShift_18 (Option.some.inj hf) rfl
abbrev ro_to_late : Room := { frames := 1, cells := 0, slots := 0, locals := 24 }
def fc_to_late (τ : SC) (x1 : Int32) : Option Int32 := (Option.bind (fc_to_dueWithShift τ x1) fun q1 => (some (habs ((τ.1 106 0) - q1))))
set_option maxHeartbeats 4000000 in
set_option maxRecDepth 100000 in
theorem xc_to_late {l : Launch} {D : va_G} {cs : Nat → ClassId} {sK sV : Nat → Nat} {tA : Nat} {ad : Nat → Nat} {τ : SC} {x1 : Int32} {r : Int32} (hf : fc_to_late τ x1 = some r) : ctI l (wC ad cs) D vwCl (kC D cs sK sV tA) yX9_late cX9_late 2 .int ro_to_late [.ref (ad 130), .int x1] τ r τ := by
  refine ct_I RX9 (by decide +kernel) rfl (Nat.le_of_ble_eq_true rfl) ?_
  intro p e s m args below meth c A X hK hA
  refine gr_eqL (L2 := [(0, .ref (ad 130)), (1, .int x1)]) rfl ?_
  unfold fc_to_late at hf
  refine gr_aload_n X dX9_late_0 rfl 0 rfl ?_
  refine gC_get_T0_6 X hK fk9_111 dX9_late_1 ?_
  refine gr_aload_n X dX9_late_4 rfl 0 rfl ?_
  refine gr_iload_n X dX9_late_5 rfl 1 rfl ?_
  obtain ⟨q1, hq_, hf⟩ := ot_b hf
  refine gc_Vi (rest := [.int (τ.1 106 0)]) X kC_ok hK hA cw9_136 (rvC_T0 hK) (xc_to_dueWithShift hq_) rfl ⟨rfl, rfl, Nat.le_of_ble_eq_true rfl, Nat.le_of_ble_eq_true rfl⟩ rfl (Nat.le_of_ble_eq_true rfl) dX9_late_6 ?_
  refine gr_isub X dX9_late_9 ?_
  refine gr_mabs X mk9_140 ⟨Nat.le_of_ble_eq_true rfl, Nat.le_of_ble_eq_true rfl⟩ dX9_late_10 ?_
  exact gr_iret X dX9_late_13 (Option.some.inj hf) rfl
