abbrev ro_hh_hasItem : Room := { frames := 0, cells := 0, slots := 0, locals := 0 }
def fc_hh_hasItem (τ : SC) (x1 : Int32) (x2 : Int32) : Option Int32 := (if x2 < 0 then (some (0 : Int32)) else (oc (hin x1 4) (if (τ.1 11 (Int32.toNatClampNeg x1)) ≤ x2 then (some (0 : Int32)) else (some (1 : Int32)))))
set_option maxHeartbeats 4000000 in
set_option maxRecDepth 100000 in
theorem xc_hh_hasItem {l : Launch} {D : va_G} {cs : Nat → ClassId} {sK sV : Nat → Nat} {tA : Nat} {ad : Nat → Nat} {τ : SC} {x1 : Int32} {x2 : Int32} {r : Int32} (hf : fc_hh_hasItem τ x1 x2 = some r) : ctI l (wC ad cs) D vwCl (kC D cs sK sV tA) yX11_hasItem cX11_hasItem 3 .boolean ro_hh_hasItem [.ref (ad 16), .int x1, .int x2] τ r τ := by
  refine ct_I RX11 (by decide +kernel) rfl (Nat.le_of_ble_eq_true rfl) ?_
  intro p e s m args below meth c A X hK hA
  refine gr_eqL (L2 := [(0, .ref (ad 16)), (1, .int x1), (2, .int x2)]) rfl ?_
  unfold fc_hh_hasItem at hf
  refine gr_iload_n X dX11_hasItem_0 rfl 2 rfl ?_
  refine gr_if_lt X 18 dX11_hasItem_1 (by decide) (fun hc_ => ?_) (fun hc_ => ?_)
  · replace hf := ot_t hf hc_
    refine gr_iconst (v := 0) X dX11_hasItem_18 (by decide) ?_
    exact gr_zret X dX11_hasItem_19 (by decide) (Option.some.inj hf) rfl
  · replace hf := ot_f hf hc_
    refine gr_iload_n X dX11_hasItem_4 rfl 2 rfl ?_
    refine gr_aload_n X dX11_hasItem_5 rfl 0 rfl ?_
    refine gC_get_HH_11 X hK fk11_53 dX11_hasItem_6 ?_
    refine gr_iload_n X dX11_hasItem_9 rfl 1 rfl ?_
    have hi_ := oc_1 hf
    replace hf := oc_2 hf
    refine gC_ald_11 X hK (Int32.toNatClampNeg x1) hi_ rfl dX11_hasItem_10 ?_
    refine gr_icmp_ge X 18 dX11_hasItem_11 (by decide) (fun hc_ => ?_) (fun hc_ => ?_)
    · replace hf := ot_t hf hc_
      refine gr_iconst (v := 0) X dX11_hasItem_18 (by decide) ?_
      exact gr_zret X dX11_hasItem_19 (by decide) (Option.some.inj hf) rfl
    · replace hf := ot_f hf hc_
      refine gr_iconst (v := 1) X dX11_hasItem_14 (by decide) ?_
      refine gr_goto X 19 dX11_hasItem_15 (by decide) ?_
      exact gr_zret X dX11_hasItem_19 (by decide) (Option.some.inj hf) rfl
abbrev ro_hh_narrowed : Room := { frames := 0, cells := 0, slots := 0, locals := 0 }
def fc_hh_narrowed (x0 : Int32) (x1 : Int32) : Option Int64 := (if x0 = 0 then (some (Int32.toInt64 (Int8.toInt32 (Int32.toInt8 x1)))) else (if x0 = 1 then (some (Int32.toInt64 (Int16.toInt32 (Int32.toInt16 x1)))) else (if x0 = 2 then (some (Int32.toInt64 x1)) else (if x0 = 3 then (some (Int32.toInt64 x1)) else (if x1 = 0 then (some (0 : Int64)) else (some (1 : Int64)))))))
set_option maxHeartbeats 4000000 in
set_option maxRecDepth 100000 in
theorem xc_hh_narrowed {l : Launch} {D : va_G} {cs : Nat → ClassId} {sK sV : Nat → Nat} {tA : Nat} {ad : Nat → Nat} {τ : SC} {x0 : Int32} {x1 : Int32} {r : Int64} (hf : fc_hh_narrowed x0 x1 = some r) : ctL l (wC ad cs) D vwCl (kC D cs sK sV tA) yX11_narrowed cX11_narrowed 2 .long ro_hh_narrowed [.int x0, .int x1] τ r τ := by
  refine ct_L RX11 (by decide +kernel) rfl (Nat.le_of_ble_eq_true rfl) ?_
  intro p e s m args below meth c A X hK hA
  refine gr_eqL (L2 := [(0, .int x0), (1, .int x1)]) rfl ?_
  unfold fc_hh_narrowed at hf
  refine gr_iload_n X dX11_narrowed_0 rfl 0 rfl ?_
  by_cases hs0 : x0 = 0
  · replace hf := ot_t hf hs0
    refine gr_tin X (0) 32 dX11_narrowed_1 (by rw [hs0]; decide) (by decide) (by decide) rfl (by decide) ?_
    refine gr_iload_n X dX11_narrowed_32 rfl 1 rfl ?_
    refine gr_i2b X dX11_narrowed_33 ?_
    refine gr_i2l X dX11_narrowed_34 ?_
    exact gr_lret X dX11_narrowed_35 (Option.some.inj hf) rfl
  replace hf := ot_f hf hs0
  by_cases hs1 : x0 = 1
  · replace hf := ot_t hf hs1
    refine gr_tin X (1) 36 dX11_narrowed_1 (by rw [hs1]; decide) (by decide) (by decide) rfl (by decide) ?_
    refine gr_iload_n X dX11_narrowed_36 rfl 1 rfl ?_
    refine gr_i2s X dX11_narrowed_37 ?_
    refine gr_i2l X dX11_narrowed_38 ?_
    exact gr_lret X dX11_narrowed_39 (Option.some.inj hf) rfl
  replace hf := ot_f hf hs1
  by_cases hs2 : x0 = 2
  · replace hf := ot_t hf hs2
    refine gr_tin X (2) 40 dX11_narrowed_1 (by rw [hs2]; decide) (by decide) (by decide) rfl (by decide) ?_
    refine gr_iload_n X dX11_narrowed_40 rfl 1 rfl ?_
    refine gr_i2l X dX11_narrowed_41 ?_
    exact gr_lret X dX11_narrowed_42 (Option.some.inj hf) rfl
  replace hf := ot_f hf hs2
  by_cases hs3 : x0 = 3
  · replace hf := ot_t hf hs3
    refine gr_tin X (3) 40 dX11_narrowed_1 (by rw [hs3]; decide) (by decide) (by decide) rfl (by decide) ?_
    refine gr_iload_n X dX11_narrowed_40 rfl 1 rfl ?_
    refine gr_i2l X dX11_narrowed_41 ?_
    exact gr_lret X dX11_narrowed_42 (Option.some.inj hf) rfl
  replace hf := ot_f hf hs3
  refine gr_tout X 43 dX11_narrowed_1 (by have := lv_neT hs0 (show (0 : Int32).toInt = 0 by decide); have := lv_neT hs1 (show (1 : Int32).toInt = 1 by decide); have := lv_neT hs2 (show (2 : Int32).toInt = 2 by decide); have := lv_neT hs3 (show (3 : Int32).toInt = 3 by decide); omega) (by decide) ?_
  refine gr_iload_n X dX11_narrowed_43 rfl 1 rfl ?_
  refine gr_if_eq X 51 dX11_narrowed_44 (by decide) (fun hc_ => ?_) (fun hc_ => ?_)
  · replace hf := ot_t hf hc_
    refine gr_lconst (v := 0) X dX11_narrowed_51 (by decide) ?_
    exact gr_lret X dX11_narrowed_52 (Option.some.inj hf) rfl
  · replace hf := ot_f hf hc_
    refine gr_lconst (v := 1) X dX11_narrowed_47 (by decide) ?_
    refine gr_goto X 52 dX11_narrowed_48 (by decide) ?_
    exact gr_lret X dX11_narrowed_52 (Option.some.inj hf) rfl
abbrev ro_hh_write : Room := { frames := 1, cells := 0, slots := 0, locals := 22 }
def fc_hh_write (x1 : Int32) (x2 : Int32) (x3 : Int32) (τ : SC) : Option (Int32 × SC) := (Option.bind (fc_hh_within x1 (3 : Int32)) fun q1 => (if ¬ q1 = 0 then (oc (hin x1 4) (if ¬ (τ.1 10 (Int32.toNatClampNeg x1)) = (-1 : Int32) then (Option.bind (fc_hh_hasItem τ x1 x2) fun q2 => (if ¬ q2 = 0 then (oc (hin x1 4) (Option.bind (fc_hh_narrowed (τ.1 10 (Int32.toNatClampNeg x1)) x3) fun q3 => (oc (hin ((x1 * (40 : Int32)) + x2) 160) (hl (sl τ (vp_updL τ.2 (Int32.toNatClampNeg ((x1 * (40 : Int32)) + x2)) q3)) fun τ4 => (some ((1 : Int32), τ4)))))) else (some ((-12 : Int32), τ)))) else (some ((-11 : Int32), τ)))) else (some ((-1 : Int32), τ))))
set_option maxHeartbeats 4000000 in
set_option maxRecDepth 100000 in
theorem xc_hh_write {l : Launch} {D : va_G} {cs : Nat → ClassId} {sK sV : Nat → Nat} {tA : Nat} {ad : Nat → Nat} {τ : SC} {x1 : Int32} {x2 : Int32} {x3 : Int32} {r : Int32} {υ : SC} (hf : fc_hh_write x1 x2 x3 τ = some (r, υ)) : ctI l (wC ad cs) D vwCl (kC D cs sK sV tA) yX11_write cX11_write 4 .int ro_hh_write [.ref (ad 16), .int x1, .int x2, .int x3] τ r υ := by
  refine ct_I RX11 (by decide +kernel) rfl (Nat.le_of_ble_eq_true rfl) ?_
  intro p e s m args below meth c A X hK hA
  refine gr_eqL (L2 := [(0, .ref (ad 16)), (1, .int x1), (2, .int x2), (3, .int x3)]) rfl ?_
  unfold fc_hh_write at hf
  refine gr_iload_n X dX11_write_0 rfl 1 rfl ?_
  refine gr_iconst (v := 3) X dX11_write_1 (by decide) ?_
  obtain ⟨q1, hq_, hf⟩ := ot_b hf
  refine gc_Si (rest := []) X kC_ok hK hA cw11_79 (xc_hh_within hq_) rfl ⟨rfl, rfl, Nat.le_of_ble_eq_true rfl, Nat.le_of_ble_eq_true rfl⟩ rfl (Nat.le_of_ble_eq_true rfl) dX11_write_2 ?_
  refine gr_if_ne X 10 dX11_write_5 (by decide) (fun hc_ => ?_) (fun hc_ => ?_)
  · replace hf := ot_t hf hc_
    refine gr_aload_n X dX11_write_10 rfl 0 rfl ?_
    refine gC_get_HH_10 X hK fk11_50 dX11_write_11 ?_
    refine gr_iload_n X dX11_write_14 rfl 1 rfl ?_
    have hi_ := oc_1 hf
    replace hf := oc_2 hf
    refine gC_ald_10 X hK (Int32.toNatClampNeg x1) hi_ rfl dX11_write_15 ?_
    refine gr_iconst (v := -1) X dX11_write_16 (by decide) ?_
    refine gr_icmp_ne X 23 dX11_write_17 (by decide) (fun hc_ => ?_) (fun hc_ => ?_)
    · replace hf := ot_t hf hc_
      refine gr_aload_n X dX11_write_23 rfl 0 rfl ?_
      refine gr_iload_n X dX11_write_24 rfl 1 rfl ?_
      refine gr_iload_n X dX11_write_25 rfl 2 rfl ?_
      obtain ⟨q2, hq_, hf⟩ := ot_b hf
      refine gc_Vi (rest := []) X kC_ok hK hA cw11_324 (rvC_HH hK) (xc_hh_hasItem hq_) rfl ⟨rfl, rfl, Nat.le_of_ble_eq_true rfl, Nat.le_of_ble_eq_true rfl⟩ rfl (Nat.le_of_ble_eq_true rfl) dX11_write_26 ?_
      refine gr_if_ne X 35 dX11_write_29 (by decide) (fun hc_ => ?_) (fun hc_ => ?_)
      · replace hf := ot_t hf hc_
        refine gr_aload_n X dX11_write_35 rfl 0 rfl ?_
        refine gC_get_HH_12 X hK fk11_56 dX11_write_36 ?_
        refine gr_iload_n X dX11_write_39 rfl 1 rfl ?_
        refine gr_bipush (v := 40) X dX11_write_40 (by decide) ?_
        refine gr_imul X dX11_write_42 ?_
        refine gr_iload_n X dX11_write_43 rfl 2 rfl ?_
        refine gr_iadd X dX11_write_44 ?_
        refine gr_aload_n X dX11_write_45 rfl 0 rfl ?_
        refine gC_get_HH_10 X hK fk11_50 dX11_write_46 ?_
        refine gr_iload_n X dX11_write_49 rfl 1 rfl ?_
        have hi_ := oc_1 hf
        replace hf := oc_2 hf
        refine gC_ald_10 X hK (Int32.toNatClampNeg x1) hi_ rfl dX11_write_50 ?_
        refine gr_iload_n X dX11_write_51 rfl 3 rfl ?_
        obtain ⟨q3, hq_, hf⟩ := ot_b hf
        refine gc_SL (rest := [.int ((x1 * (40 : Int32)) + x2), .ref (ad 12)]) X kC_ok hK hA cw11_327 (xc_hh_narrowed hq_) rfl ⟨rfl, rfl, Nat.le_of_ble_eq_true rfl, Nat.le_of_ble_eq_true rfl⟩ rfl (Nat.le_of_ble_eq_true rfl) dX11_write_52 ?_
        have hi_ := oc_1 hf
        replace hf := oc_2 hf
        refine gC_ast_12 X hK (Int32.toNatClampNeg ((x1 * (40 : Int32)) + x2)) hi_ rfl dX11_write_55 ?_
        refine gC_gen (fun τ4 e_τ4 => ?_)
        replace hf := ot_l hf e_τ4
        refine gr_iconst (v := 1) X dX11_write_56 (by decide) ?_
        exact gr_iret X dX11_write_57 (Prod.mk.inj (Option.some.inj hf)).1 (Prod.mk.inj (Option.some.inj hf)).2
      · replace hf := ot_f hf hc_
        refine gr_bipush (v := -12) X dX11_write_32 (by decide) ?_
        exact gr_iret X dX11_write_34 (Prod.mk.inj (Option.some.inj hf)).1 (Prod.mk.inj (Option.some.inj hf)).2
    · replace hf := ot_f hf hc_
      refine gr_bipush (v := -11) X dX11_write_20 (by decide) ?_
      exact gr_iret X dX11_write_22 (Prod.mk.inj (Option.some.inj hf)).1 (Prod.mk.inj (Option.some.inj hf)).2
  · replace hf := ot_f hf hc_
    refine gr_iconst (v := -1) X dX11_write_8 (by decide) ?_
    exact gr_iret X dX11_write_9 (Prod.mk.inj (Option.some.inj hf)).1 (Prod.mk.inj (Option.some.inj hf)).2
abbrev ro_hh_refusalAs : Room := { frames := 0, cells := 0, slots := 0, locals := 0 }
def fc_hh_refusalAs (τ : SC) (x1 : Int32) (x2 : Int32) : Option Int32 := (oc (hin x1 4) (if ¬ (τ.1 10 (Int32.toNatClampNeg x1)) = (-1 : Int32) then (oc (hin x1 4) (if ¬ (τ.1 10 (Int32.toNatClampNeg x1)) = x2 then (some (-13 : Int32)) else (some (0 : Int32)))) else (some (-11 : Int32))))
set_option maxHeartbeats 4000000 in
set_option maxRecDepth 100000 in
theorem xc_hh_refusalAs {l : Launch} {D : va_G} {cs : Nat → ClassId} {sK sV : Nat → Nat} {tA : Nat} {ad : Nat → Nat} {τ : SC} {x1 : Int32} {x2 : Int32} {r : Int32} (hf : fc_hh_refusalAs τ x1 x2 = some r) : ctI l (wC ad cs) D vwCl (kC D cs sK sV tA) yX11_refusalAs cX11_refusalAs 3 .int ro_hh_refusalAs [.ref (ad 16), .int x1, .int x2] τ r τ := by
  refine ct_I RX11 (by decide +kernel) rfl (Nat.le_of_ble_eq_true rfl) ?_
  intro p e s m args below meth c A X hK hA
  refine gr_eqL (L2 := [(0, .ref (ad 16)), (1, .int x1), (2, .int x2)]) rfl ?_
  unfold fc_hh_refusalAs at hf
  refine gr_aload_n X dX11_refusalAs_0 rfl 0 rfl ?_
  refine gC_get_HH_10 X hK fk11_50 dX11_refusalAs_1 ?_
  refine gr_iload_n X dX11_refusalAs_4 rfl 1 rfl ?_
  have hi_ := oc_1 hf
  replace hf := oc_2 hf
  refine gC_ald_10 X hK (Int32.toNatClampNeg x1) hi_ rfl dX11_refusalAs_5 ?_
  refine gr_iconst (v := -1) X dX11_refusalAs_6 (by decide) ?_
  refine gr_icmp_ne X 13 dX11_refusalAs_7 (by decide) (fun hc_ => ?_) (fun hc_ => ?_)
  · replace hf := ot_t hf hc_
    refine gr_aload_n X dX11_refusalAs_13 rfl 0 rfl ?_
    refine gC_get_HH_10 X hK fk11_50 dX11_refusalAs_14 ?_
    refine gr_iload_n X dX11_refusalAs_17 rfl 1 rfl ?_
    have hi_ := oc_1 hf
    replace hf := oc_2 hf
    refine gC_ald_10 X hK (Int32.toNatClampNeg x1) hi_ rfl dX11_refusalAs_18 ?_
    refine gr_iload_n X dX11_refusalAs_19 rfl 2 rfl ?_
    refine gr_icmp_ne X 27 dX11_refusalAs_20 (by decide) (fun hc_ => ?_) (fun hc_ => ?_)
    · replace hf := ot_t hf hc_
      refine gr_bipush (v := -13) X dX11_refusalAs_27 (by decide) ?_
      exact gr_iret X dX11_refusalAs_29 (Option.some.inj hf) rfl
    · replace hf := ot_f hf hc_
      refine gr_iconst (v := 0) X dX11_refusalAs_23 (by decide) ?_
      refine gr_goto X 29 dX11_refusalAs_24 (by decide) ?_
      exact gr_iret X dX11_refusalAs_29 (Option.some.inj hf) rfl
  · replace hf := ot_f hf hc_
    refine gr_bipush (v := -11) X dX11_refusalAs_10 (by decide) ?_
    exact gr_iret X dX11_refusalAs_12 (Option.some.inj hf) rfl
abbrev ro_hh_item : Room := { frames := 1, cells := 0, slots := 0, locals := 22 }
def fc_hh_item (τ : SC) (x1 : Int32) (x2 : Int32) (x3 : Int32) : Option Int32 := (Option.bind (fc_hh_within x1 (3 : Int32)) fun q1 => (if q1 = 0 then (some (-1 : Int32)) else (Option.bind (fc_hh_within x2 (4 : Int32)) fun q2 => (if ¬ q2 = 0 then (Option.bind (fc_hh_refusalAs τ x1 x2) fun q3 => (if q3 = 0 then (Option.bind (fc_hh_hasItem τ x1 x3) fun q4 => (if q4 = 0 then (some (-12 : Int32)) else (oc (hin ((x1 * (40 : Int32)) + x3) 160) (some (Int64.toInt32 (τ.2 (Int32.toNatClampNeg ((x1 * (40 : Int32)) + x3)))))))) else (some q3))) else (some (-1 : Int32))))))
set_option maxHeartbeats 4000000 in
set_option maxRecDepth 100000 in
theorem xc_hh_item {l : Launch} {D : va_G} {cs : Nat → ClassId} {sK sV : Nat → Nat} {tA : Nat} {ad : Nat → Nat} {τ : SC} {x1 : Int32} {x2 : Int32} {x3 : Int32} {r : Int32} (hf : fc_hh_item τ x1 x2 x3 = some r) : ctI l (wC ad cs) D vwCl (kC D cs sK sV tA) yX11_item cX11_item 5 .int ro_hh_item [.ref (ad 16), .int x1, .int x2, .int x3] τ r τ := by
  refine ct_I RX11 (by decide +kernel) rfl (Nat.le_of_ble_eq_true rfl) ?_
  intro p e s m args below meth c A X hK hA
  refine gr_eqL (L2 := [(0, .ref (ad 16)), (1, .int x1), (2, .int x2), (3, .int x3)]) rfl ?_
  unfold fc_hh_item at hf
  refine gr_iload_n X dX11_item_0 rfl 1 rfl ?_
  refine gr_iconst (v := 3) X dX11_item_1 (by decide) ?_
  obtain ⟨q1, hq_, hf⟩ := ot_b hf
  refine gc_Si (rest := []) X kC_ok hK hA cw11_79 (xc_hh_within hq_) rfl ⟨rfl, rfl, Nat.le_of_ble_eq_true rfl, Nat.le_of_ble_eq_true rfl⟩ rfl (Nat.le_of_ble_eq_true rfl) dX11_item_2 ?_
  refine gr_if_eq X 16 dX11_item_5 (by decide) (fun hc_ => ?_) (fun hc_ => ?_)
  · replace hf := ot_t hf hc_
    refine gr_iconst (v := -1) X dX11_item_16 (by decide) ?_
    exact gr_iret X dX11_item_17 (Option.some.inj hf) rfl
  · replace hf := ot_f hf hc_
    refine gr_iload_n X dX11_item_8 rfl 2 rfl ?_
    refine gr_iconst (v := 4) X dX11_item_9 (by decide) ?_
    obtain ⟨q2, hq_, hf⟩ := ot_b hf
    refine gc_Si (rest := []) X kC_ok hK hA cw11_79 (xc_hh_within hq_) rfl ⟨rfl, rfl, Nat.le_of_ble_eq_true rfl, Nat.le_of_ble_eq_true rfl⟩ rfl (Nat.le_of_ble_eq_true rfl) dX11_item_10 ?_
    refine gr_if_ne X 18 dX11_item_13 (by decide) (fun hc_ => ?_) (fun hc_ => ?_)
    · replace hf := ot_t hf hc_
      refine gr_aload_n X dX11_item_18 rfl 0 rfl ?_
      refine gr_iload_n X dX11_item_19 rfl 1 rfl ?_
      refine gr_iload_n X dX11_item_20 rfl 2 rfl ?_
      obtain ⟨q3, hq_, hf⟩ := ot_b hf
      refine gc_Vi (rest := []) X kC_ok hK hA cw11_331 (rvC_HH hK) (xc_hh_refusalAs hq_) rfl ⟨rfl, rfl, Nat.le_of_ble_eq_true rfl, Nat.le_of_ble_eq_true rfl⟩ rfl (Nat.le_of_ble_eq_true rfl) dX11_item_21 ?_
      refine gr_istore (L2 := [(4, .int q3), (0, .ref (ad 16)), (1, .int x1), (2, .int x2), (3, .int x3)]) X dX11_item_24 (by decide) rfl ?_
      refine gr_iload X dX11_item_26 0 rfl ?_
      refine gr_if_eq X 34 dX11_item_28 (by decide) (fun hc_ => ?_) (fun hc_ => ?_)
      · replace hf := ot_t hf hc_
        refine gr_aload_n X dX11_item_34 rfl 1 rfl ?_
        refine gr_iload_n X dX11_item_35 rfl 2 rfl ?_
        refine gr_iload_n X dX11_item_36 rfl 4 rfl ?_
        obtain ⟨q4, hq_, hf⟩ := ot_b hf
        refine gc_Vi (rest := []) X kC_ok hK hA cw11_324 (rvC_HH hK) (xc_hh_hasItem hq_) rfl ⟨rfl, rfl, Nat.le_of_ble_eq_true rfl, Nat.le_of_ble_eq_true rfl⟩ rfl (Nat.le_of_ble_eq_true rfl) dX11_item_37 ?_
        refine gr_if_eq X 58 dX11_item_40 (by decide) (fun hc_ => ?_) (fun hc_ => ?_)
        · replace hf := ot_t hf hc_
          refine gr_bipush (v := -12) X dX11_item_58 (by decide) ?_
          exact gr_iret X dX11_item_60 (Option.some.inj hf) rfl
        · replace hf := ot_f hf hc_
          refine gr_aload_n X dX11_item_43 rfl 1 rfl ?_
          refine gC_get_HH_12 X hK fk11_56 dX11_item_44 ?_
          refine gr_iload_n X dX11_item_47 rfl 2 rfl ?_
          refine gr_bipush (v := 40) X dX11_item_48 (by decide) ?_
          refine gr_imul X dX11_item_50 ?_
          refine gr_iload_n X dX11_item_51 rfl 4 rfl ?_
          refine gr_iadd X dX11_item_52 ?_
          have hi_ := oc_1 hf
          replace hf := oc_2 hf
          refine gC_ald_12 X hK (Int32.toNatClampNeg ((x1 * (40 : Int32)) + x3)) hi_ rfl dX11_item_53 ?_
          refine gr_l2i X dX11_item_54 ?_
          refine gr_goto X 60 dX11_item_55 (by decide) ?_
          exact gr_iret X dX11_item_60 (Option.some.inj hf) rfl
      · replace hf := ot_f hf hc_
        refine gr_iload X dX11_item_31 0 rfl ?_
        exact gr_iret X dX11_item_33 (Option.some.inj hf) rfl
    · replace hf := ot_f hf hc_
      refine gr_iconst (v := -1) X dX11_item_16 (by decide) ?_
      exact gr_iret X dX11_item_17 (Option.some.inj hf) rfl
abbrev ro_hh_goAll : Room := { frames := 6, cells := 0, slots := 0, locals := 138 }
def fc_hh_goAll_b119 (K41 : Int32 → Int32 → Int32 → Int32 → Int32 → SC → Option (Int32 × SC)) (x1 : Int32) (x2 : Int32) (x3 : Int32) (x5 : Int32) (x6 : Int32) (τ : SC) : Option (Int32 × SC) := (K41 x1 x2 x3 x5 (x6 + (1 : Int32)) τ)
def fc_hh_goAll_l41 : Nat → Int32 → Int32 → Int32 → Int32 → Int32 → SC → Option (Int32 × SC)
  | 0, _, _, _, _, _, _ => none
  | n + 1, x1, x2, x3, x5, x6, τ => (if x3 ≤ x6 then (some (x5, τ)) else (Option.bind (fc_hh_hasItem τ x1 (x2 + x6)) fun q4 => (if ¬ q4 = 0 then (oc (hin (((x1 * (40 : Int32)) + x2) + x6) 160) (hl (Int64.toInt32 (τ.2 (Int32.toNatClampNeg (((x1 * (40 : Int32)) + x2) + x6)))) fun v5 => (Option.bind (fc_to_isAct τ v5) fun q6 => (if q6 = 0 then (fc_hh_goAll_b119 (fc_hh_goAll_l41 n) x1 x2 x3 x5 x6 τ) else (Option.bind (fc_to_isOver τ) fun q7 => (if ¬ q7 = 0 then (fc_hh_goAll_b119 (fc_hh_goAll_l41 n) x1 x2 x3 x5 x6 τ) else (Option.bind (fc_to_pass v5 τ) fun p_ => hl p_.1 fun q8 => hl p_.2 fun τ9 => (Option.bind (fc_hh_scored q8 τ9) fun p_ => hl p_.1 fun q10 => hl p_.2 fun τ11 => (hl (x5 + q10) fun v12 => (fc_hh_goAll_b119 (fc_hh_goAll_l41 n) x1 x2 x3 v12 x6 τ11)))))))))) else (some ((-12 : Int32), τ)))))
def fc_hh_goAll (x1 : Int32) (x2 : Int32) (x3 : Int32) (τ : SC) : Option (Int32 × SC) := (Option.bind (fc_hh_within x1 (3 : Int32)) fun q1 => (if q1 = 0 then (some ((-1 : Int32), τ)) else (Option.bind (fc_hh_within x3 (20 : Int32)) fun q2 => (if ¬ q2 = 0 then (Option.bind (fc_hh_refusalAs τ x1 (0 : Int32)) fun q3 => (if q3 = 0 then (fc_hh_goAll_l41 hFU x1 x2 x3 (0 : Int32) (0 : Int32) τ) else (some (q3, τ)))) else (some ((-1 : Int32), τ))))))
set_option maxHeartbeats 4000000 in
set_option maxRecDepth 100000 in
theorem wc_hh_goAll_b119 {p : Program} {l : Launch} {e : Env} {s : State} {m : MethodId} {args : Array Value} {below : List Frame} {meth : Method} {c : Code} {A : Nat → Prop} {D : va_G} {cs : Nat → ClassId} {sK sV : Nat → Nat} {tA : Nat} {ad : Nat → Nat} {r : Int32} {υ : SC} {K41 : Int32 → Int32 → Int32 → Int32 → Int32 → SC → Option (Int32 × SC)} (X : hc p s m args meth c RX11 cX11_goAll 8 (some .int)) (hK : kC D cs sK sV tA A s) (hA : ∀ q, s.heap.size ≤ q → A q) (hK41 : (∀ (x1 : Int32) (x2 : Int32) (x3 : Int32) (x5 : Int32) (x6 : Int32) (τ : SC), K41 x1 x2 x3 x5 x6 τ = some (r, υ) → gg p l e ro_hh_goAll s m args below meth c (wC ad cs) D vwCl A 8 (QI below args s (wC ad cs) D vwCl A r υ) 41 [(0, .ref (ad 16)), (1, .int x1), (2, .int x2), (3, .int x3), (5, .int x5), (6, .int x6)] [] τ))  (x1 : Int32) (x2 : Int32) (x3 : Int32) (x5 : Int32) (x6 : Int32) (τ : SC) (hf : fc_hh_goAll_b119 K41 x1 x2 x3 x5 x6 τ = some (r, υ)) : gg p l e ro_hh_goAll s m args below meth c (wC ad cs) D vwCl A 8 (QI below args s (wC ad cs) D vwCl A r υ) 119 [(0, .ref (ad 16)), (1, .int x1), (2, .int x2), (3, .int x3), (5, .int x5), (6, .int x6)] [] τ := by
  unfold fc_hh_goAll_b119 at hf
  refine gr_iinc (k := 5) (v := 1) (L2 := [(6, .int (x6 + (1 : Int32))), (0, .ref (ad 16)), (1, .int x1), (2, .int x2), (3, .int x3), (5, .int x5)]) X dX11_goAll_119 rfl (by decide) (by decide) rfl ?_
  refine gr_goto X 41 dX11_goAll_122 (by decide) ?_
  refine gr_sub [1, 2, 3, 4, 5, 0] rfl ?_
  exact hK41 _ _ _ _ _ _ hf
set_option maxHeartbeats 4000000 in
set_option maxRecDepth 100000 in
theorem wc_hh_goAll_l41 {p : Program} {l : Launch} {e : Env} {s : State} {m : MethodId} {args : Array Value} {below : List Frame} {meth : Method} {c : Code} {A : Nat → Prop} {D : va_G} {cs : Nat → ClassId} {sK sV : Nat → Nat} {tA : Nat} {ad : Nat → Nat} {r : Int32} {υ : SC} (X : hc p s m args meth c RX11 cX11_goAll 8 (some .int)) (hK : kC D cs sK sV tA A s) (hA : ∀ q, s.heap.size ≤ q → A q)  : ∀ (n : Nat) (x1 : Int32) (x2 : Int32) (x3 : Int32) (x5 : Int32) (x6 : Int32) (τ : SC), fc_hh_goAll_l41 n x1 x2 x3 x5 x6 τ = some (r, υ) → gg p l e ro_hh_goAll s m args below meth c (wC ad cs) D vwCl A 8 (QI below args s (wC ad cs) D vwCl A r υ) 41 [(0, .ref (ad 16)), (1, .int x1), (2, .int x2), (3, .int x3), (5, .int x5), (6, .int x6)] [] τ := by
  intro n
  induction n with
  | zero =>
    intro x1 x2 x3 x5 x6 τ hf
    cases (show (none : Option (Int32 × SC)) = some (r, υ) from hf)
  | succ n ih =>
    intro x1 x2 x3 x5 x6 τ hf
    unfold fc_hh_goAll_l41 at hf
    refine gr_iload X dX11_goAll_41 5 rfl ?_
    refine gr_iload_n X dX11_goAll_43 rfl 3 rfl ?_
    refine gr_icmp_ge X 125 dX11_goAll_44 (by decide) (fun hc_ => ?_) (fun hc_ => ?_)
    · replace hf := ot_t hf hc_
      refine gr_iload X dX11_goAll_125 4 rfl ?_
      exact gr_iret X dX11_goAll_127 (Prod.mk.inj (Option.some.inj hf)).1 (Prod.mk.inj (Option.some.inj hf)).2
    · replace hf := ot_f hf hc_
      refine gr_aload_n X dX11_goAll_47 rfl 0 rfl ?_
      refine gr_iload_n X dX11_goAll_48 rfl 1 rfl ?_
      refine gr_iload_n X dX11_goAll_49 rfl 2 rfl ?_
      refine gr_iload X dX11_goAll_50 5 rfl ?_
      refine gr_iadd X dX11_goAll_52 ?_
      obtain ⟨q4, hq_, hf⟩ := ot_b hf
      refine gc_Vi (rest := []) X kC_ok hK hA cw11_324 (rvC_HH hK) (xc_hh_hasItem hq_) rfl ⟨rfl, rfl, Nat.le_of_ble_eq_true rfl, Nat.le_of_ble_eq_true rfl⟩ rfl (Nat.le_of_ble_eq_true rfl) dX11_goAll_53 ?_
      refine gr_if_ne X 62 dX11_goAll_56 (by decide) (fun hc_ => ?_) (fun hc_ => ?_)
      · replace hf := ot_t hf hc_
        refine gr_aload_n X dX11_goAll_62 rfl 0 rfl ?_
        refine gC_get_HH_12 X hK fk11_56 dX11_goAll_63 ?_
        refine gr_iload_n X dX11_goAll_66 rfl 1 rfl ?_
        refine gr_bipush (v := 40) X dX11_goAll_67 (by decide) ?_
        refine gr_imul X dX11_goAll_69 ?_
        refine gr_iload_n X dX11_goAll_70 rfl 2 rfl ?_
        refine gr_iadd X dX11_goAll_71 ?_
        refine gr_iload X dX11_goAll_72 5 rfl ?_
        refine gr_iadd X dX11_goAll_74 ?_
        have hi_ := oc_1 hf
        replace hf := oc_2 hf
        refine gC_ald_12 X hK (Int32.toNatClampNeg (((x1 * (40 : Int32)) + x2) + x6)) hi_ rfl dX11_goAll_75 ?_
        refine gr_l2i X dX11_goAll_76 ?_
        refine gC_top (fun v5 e_v5 => ?_)
        replace hf := ot_l hf e_v5
        refine gr_istore (L2 := [(7, .int v5), (0, .ref (ad 16)), (1, .int x1), (2, .int x2), (3, .int x3), (5, .int x5), (6, .int x6)]) X dX11_goAll_77 (by decide) rfl ?_
        refine gr_aload_n X dX11_goAll_79 rfl 1 rfl ?_
        refine gC_get_HH_0 X hK fk11_10 dX11_goAll_80 ?_
        refine gr_iload X dX11_goAll_83 0 rfl ?_
        obtain ⟨q6, hq_, hf⟩ := ot_b hf
        refine gc_Vi (rest := []) X kC_ok hK hA cw11_318 (rvC_T0 hK) (xc_to_isAct hq_) rfl ⟨rfl, rfl, Nat.le_of_ble_eq_true rfl, Nat.le_of_ble_eq_true rfl⟩ rfl (Nat.le_of_ble_eq_true rfl) dX11_goAll_85 ?_
        refine gr_if_eq X 119 dX11_goAll_88 (by decide) (fun hc_ => ?_) (fun hc_ => ?_)
        · replace hf := ot_t hf hc_
          refine gr_sub [1, 2, 3, 4, 5, 6] rfl ?_
          exact wc_hh_goAll_b119 X hK hA ih _ _ _ _ _ _ hf
        · replace hf := ot_f hf hc_
          refine gr_aload_n X dX11_goAll_91 rfl 1 rfl ?_
          refine gC_get_HH_0 X hK fk11_10 dX11_goAll_92 ?_
          obtain ⟨q7, hq_, hf⟩ := ot_b hf
          refine gc_Vi (rest := []) X kC_ok hK hA cw11_170 (rvC_T0 hK) (xc_to_isOver hq_) rfl ⟨rfl, rfl, Nat.le_of_ble_eq_true rfl, Nat.le_of_ble_eq_true rfl⟩ rfl (Nat.le_of_ble_eq_true rfl) dX11_goAll_95 ?_
          refine gr_if_ne X 119 dX11_goAll_98 (by decide) (fun hc_ => ?_) (fun hc_ => ?_)
          · replace hf := ot_t hf hc_
            refine gr_sub [1, 2, 3, 4, 5, 6] rfl ?_
            exact wc_hh_goAll_b119 X hK hA ih _ _ _ _ _ _ hf
          · replace hf := ot_f hf hc_
            refine gr_iload X dX11_goAll_101 5 rfl ?_
            refine gr_aload_n X dX11_goAll_103 rfl 1 rfl ?_
            refine gr_aload_n X dX11_goAll_104 rfl 1 rfl ?_
            refine gC_get_HH_0 X hK fk11_10 dX11_goAll_105 ?_
            refine gr_iload X dX11_goAll_108 0 rfl ?_
            obtain ⟨⟨q8, τ9⟩, hq_, hf⟩ := ot_b hf
            replace hf := ot_l (y := q8) hf rfl
            replace hf := ot_l (y := τ9) hf rfl
            refine gc_Vi (rest := [.ref (ad 16), .int x5]) X kC_ok hK hA cw11_309 (rvC_T0 hK) (xc_to_pass hq_) rfl ⟨rfl, rfl, Nat.le_of_ble_eq_true rfl, Nat.le_of_ble_eq_true rfl⟩ rfl (Nat.le_of_ble_eq_true rfl) dX11_goAll_110 ?_
            obtain ⟨⟨q10, τ11⟩, hq_, hf⟩ := ot_b hf
            replace hf := ot_l (y := q10) hf rfl
            replace hf := ot_l (y := τ11) hf rfl
            refine gc_Vi (rest := [.int x5]) X kC_ok hK hA cw11_206 (rvC_HH hK) (xc_hh_scored hq_) rfl ⟨rfl, rfl, Nat.le_of_ble_eq_true rfl, Nat.le_of_ble_eq_true rfl⟩ rfl (Nat.le_of_ble_eq_true rfl) dX11_goAll_113 ?_
            refine gr_iadd X dX11_goAll_116 ?_
            refine gC_top (fun v12 e_v12 => ?_)
            replace hf := ot_l hf e_v12
            refine gr_istore (L2 := [(5, .int v12), (7, .int v5), (0, .ref (ad 16)), (1, .int x1), (2, .int x2), (3, .int x3), (6, .int x6)]) X dX11_goAll_117 (by decide) rfl ?_
            refine gr_sub [2, 3, 4, 5, 0, 6] rfl ?_
            exact wc_hh_goAll_b119 X hK hA ih _ _ _ _ _ _ hf
      · replace hf := ot_f hf hc_
        refine gr_bipush (v := -12) X dX11_goAll_59 (by decide) ?_
        exact gr_iret X dX11_goAll_61 (Prod.mk.inj (Option.some.inj hf)).1 (Prod.mk.inj (Option.some.inj hf)).2
set_option maxHeartbeats 4000000 in
set_option maxRecDepth 100000 in
theorem xc_hh_goAll {l : Launch} {D : va_G} {cs : Nat → ClassId} {sK sV : Nat → Nat} {tA : Nat} {ad : Nat → Nat} {τ : SC} {x1 : Int32} {x2 : Int32} {x3 : Int32} {r : Int32} {υ : SC} (hf : fc_hh_goAll x1 x2 x3 τ = some (r, υ)) : ctI l (wC ad cs) D vwCl (kC D cs sK sV tA) yX11_goAll cX11_goAll 8 .int ro_hh_goAll [.ref (ad 16), .int x1, .int x2, .int x3] τ r υ := by
  refine ct_I RX11 (by decide +kernel) rfl (Nat.le_of_ble_eq_true rfl) ?_
  intro p e s m args below meth c A X hK hA
  refine gr_eqL (L2 := [(0, .ref (ad 16)), (1, .int x1), (2, .int x2), (3, .int x3)]) rfl ?_
  unfold fc_hh_goAll at hf
  refine gr_iload_n X dX11_goAll_0 rfl 1 rfl ?_
  refine gr_iconst (v := 3) X dX11_goAll_1 (by decide) ?_
  obtain ⟨q1, hq_, hf⟩ := ot_b hf
  refine gc_Si (rest := []) X kC_ok hK hA cw11_79 (xc_hh_within hq_) rfl ⟨rfl, rfl, Nat.le_of_ble_eq_true rfl, Nat.le_of_ble_eq_true rfl⟩ rfl (Nat.le_of_ble_eq_true rfl) dX11_goAll_2 ?_
  refine gr_if_eq X 17 dX11_goAll_5 (by decide) (fun hc_ => ?_) (fun hc_ => ?_)
  · replace hf := ot_t hf hc_
    refine gr_iconst (v := -1) X dX11_goAll_17 (by decide) ?_
    exact gr_iret X dX11_goAll_18 (Prod.mk.inj (Option.some.inj hf)).1 (Prod.mk.inj (Option.some.inj hf)).2
  · replace hf := ot_f hf hc_
    refine gr_iload_n X dX11_goAll_8 rfl 3 rfl ?_
    refine gr_bipush (v := 20) X dX11_goAll_9 (by decide) ?_
    obtain ⟨q2, hq_, hf⟩ := ot_b hf
    refine gc_Si (rest := []) X kC_ok hK hA cw11_79 (xc_hh_within hq_) rfl ⟨rfl, rfl, Nat.le_of_ble_eq_true rfl, Nat.le_of_ble_eq_true rfl⟩ rfl (Nat.le_of_ble_eq_true rfl) dX11_goAll_11 ?_
    refine gr_if_ne X 19 dX11_goAll_14 (by decide) (fun hc_ => ?_) (fun hc_ => ?_)
    · replace hf := ot_t hf hc_
      refine gr_aload_n X dX11_goAll_19 rfl 0 rfl ?_
      refine gr_iload_n X dX11_goAll_20 rfl 1 rfl ?_
      refine gr_iconst (v := 0) X dX11_goAll_21 (by decide) ?_
      obtain ⟨q3, hq_, hf⟩ := ot_b hf
      refine gc_Vi (rest := []) X kC_ok hK hA cw11_331 (rvC_HH hK) (xc_hh_refusalAs hq_) rfl ⟨rfl, rfl, Nat.le_of_ble_eq_true rfl, Nat.le_of_ble_eq_true rfl⟩ rfl (Nat.le_of_ble_eq_true rfl) dX11_goAll_22 ?_
      refine gr_istore (L2 := [(4, .int q3), (0, .ref (ad 16)), (1, .int x1), (2, .int x2), (3, .int x3)]) X dX11_goAll_25 (by decide) rfl ?_
      refine gr_iload X dX11_goAll_27 0 rfl ?_
      refine gr_if_eq X 35 dX11_goAll_29 (by decide) (fun hc_ => ?_) (fun hc_ => ?_)
      · replace hf := ot_t hf hc_
        refine gr_iconst (v := 0) X dX11_goAll_35 (by decide) ?_
        refine gr_istore (L2 := [(5, .int (0 : Int32)), (4, .int q3), (0, .ref (ad 16)), (1, .int x1), (2, .int x2), (3, .int x3)]) X dX11_goAll_36 (by decide) rfl ?_
        refine gr_iconst (v := 0) X dX11_goAll_38 (by decide) ?_
        refine gr_istore (L2 := [(6, .int (0 : Int32)), (5, .int (0 : Int32)), (4, .int q3), (0, .ref (ad 16)), (1, .int x1), (2, .int x2), (3, .int x3)]) X dX11_goAll_39 (by decide) rfl ?_
        refine gr_sub [3, 4, 5, 6, 1, 0] rfl ?_
        refine wc_hh_goAll_l41 X hK hA  hFU _ _ _ _ _ _ hf
      · replace hf := ot_f hf hc_
        refine gr_iload X dX11_goAll_32 0 rfl ?_
        exact gr_iret X dX11_goAll_34 (Prod.mk.inj (Option.some.inj hf)).1 (Prod.mk.inj (Option.some.inj hf)).2
    · replace hf := ot_f hf hc_
      refine gr_iconst (v := -1) X dX11_goAll_17 (by decide) ?_
      exact gr_iret X dX11_goAll_18 (Prod.mk.inj (Option.some.inj hf)).1 (Prod.mk.inj (Option.some.inj hf)).2
abbrev ro_hh_worthOfItems : Room := { frames := 6, cells := 0, slots := 0, locals := 138 }
def fc_hh_worthOfItems_l6 : Nat → Int32 → Int32 → Int32 → Int32 → Int32 → SC → Option (Int32 × SC)
  | 0, _, _, _, _, _, _ => none
  | n + 1, x1, x2, x3, x4, x5, τ => (if x3 ≤ x5 then (some (x4, τ)) else (Option.bind (fc_hh_hasItem τ x1 (x2 + x5)) fun q1 => (if ¬ q1 = 0 then (oc (hin (((x1 * (40 : Int32)) + x2) + x5) 160) (hl (Int64.toInt32 (τ.2 (Int32.toNatClampNeg (((x1 * (40 : Int32)) + x2) + x5)))) fun v2 => (Option.bind (fc_to_isAct τ v2) fun q3 => (if q3 = 0 then (some ((-4 : Int32), τ)) else (Option.bind (fc_to_isOver τ) fun q4 => (if q4 = 0 then (Option.bind (fc_to_pass v2 τ) fun p_ => hl p_.1 fun q5 => hl p_.2 fun τ6 => (hl (x4 + q5) fun v7 => ((fc_hh_worthOfItems_l6 n) x1 x2 x3 v7 (x5 + (1 : Int32)) τ6))) else (some ((-4 : Int32), τ)))))))) else (some ((-12 : Int32), τ)))))
def fc_hh_worthOfItems (x1 : Int32) (x2 : Int32) (x3 : Int32) (τ : SC) : Option (Int32 × SC) := (fc_hh_worthOfItems_l6 hFU x1 x2 x3 (0 : Int32) (0 : Int32) τ)
set_option maxHeartbeats 4000000 in
set_option maxRecDepth 100000 in
theorem wc_hh_worthOfItems_l6 {p : Program} {l : Launch} {e : Env} {s : State} {m : MethodId} {args : Array Value} {below : List Frame} {meth : Method} {c : Code} {A : Nat → Prop} {D : va_G} {cs : Nat → ClassId} {sK sV : Nat → Nat} {tA : Nat} {ad : Nat → Nat} {r : Int32} {υ : SC} (X : hc p s m args meth c RX11 cX11_worthOfItems 7 (some .int)) (hK : kC D cs sK sV tA A s) (hA : ∀ q, s.heap.size ≤ q → A q)  : ∀ (n : Nat) (x1 : Int32) (x2 : Int32) (x3 : Int32) (x4 : Int32) (x5 : Int32) (τ : SC), fc_hh_worthOfItems_l6 n x1 x2 x3 x4 x5 τ = some (r, υ) → gg p l e ro_hh_worthOfItems s m args below meth c (wC ad cs) D vwCl A 7 (QI below args s (wC ad cs) D vwCl A r υ) 6 [(0, .ref (ad 16)), (1, .int x1), (2, .int x2), (3, .int x3), (4, .int x4), (5, .int x5)] [] τ := by
  intro n
  induction n with
  | zero =>
    intro x1 x2 x3 x4 x5 τ hf
    cases (show (none : Option (Int32 × SC)) = some (r, υ) from hf)
  | succ n ih =>
    intro x1 x2 x3 x4 x5 τ hf
    unfold fc_hh_worthOfItems_l6 at hf
    refine gr_iload X dX11_worthOfItems_6 5 rfl ?_
    refine gr_iload_n X dX11_worthOfItems_8 rfl 3 rfl ?_
    refine gr_icmp_ge X 89 dX11_worthOfItems_9 (by decide) (fun hc_ => ?_) (fun hc_ => ?_)
    · replace hf := ot_t hf hc_
      refine gr_iload X dX11_worthOfItems_89 4 rfl ?_
      exact gr_iret X dX11_worthOfItems_91 (Prod.mk.inj (Option.some.inj hf)).1 (Prod.mk.inj (Option.some.inj hf)).2
    · replace hf := ot_f hf hc_
      refine gr_aload_n X dX11_worthOfItems_12 rfl 0 rfl ?_
      refine gr_iload_n X dX11_worthOfItems_13 rfl 1 rfl ?_
      refine gr_iload_n X dX11_worthOfItems_14 rfl 2 rfl ?_
      refine gr_iload X dX11_worthOfItems_15 5 rfl ?_
      refine gr_iadd X dX11_worthOfItems_17 ?_
      obtain ⟨q1, hq_, hf⟩ := ot_b hf
      refine gc_Vi (rest := []) X kC_ok hK hA cw11_324 (rvC_HH hK) (xc_hh_hasItem hq_) rfl ⟨rfl, rfl, Nat.le_of_ble_eq_true rfl, Nat.le_of_ble_eq_true rfl⟩ rfl (Nat.le_of_ble_eq_true rfl) dX11_worthOfItems_18 ?_
      refine gr_if_ne X 27 dX11_worthOfItems_21 (by decide) (fun hc_ => ?_) (fun hc_ => ?_)
      · replace hf := ot_t hf hc_
        refine gr_aload_n X dX11_worthOfItems_27 rfl 0 rfl ?_
        refine gC_get_HH_12 X hK fk11_56 dX11_worthOfItems_28 ?_
        refine gr_iload_n X dX11_worthOfItems_31 rfl 1 rfl ?_
        refine gr_bipush (v := 40) X dX11_worthOfItems_32 (by decide) ?_
        refine gr_imul X dX11_worthOfItems_34 ?_
        refine gr_iload_n X dX11_worthOfItems_35 rfl 2 rfl ?_
        refine gr_iadd X dX11_worthOfItems_36 ?_
        refine gr_iload X dX11_worthOfItems_37 5 rfl ?_
        refine gr_iadd X dX11_worthOfItems_39 ?_
        have hi_ := oc_1 hf
        replace hf := oc_2 hf
        refine gC_ald_12 X hK (Int32.toNatClampNeg (((x1 * (40 : Int32)) + x2) + x5)) hi_ rfl dX11_worthOfItems_40 ?_
        refine gr_l2i X dX11_worthOfItems_41 ?_
        refine gC_top (fun v2 e_v2 => ?_)
        replace hf := ot_l hf e_v2
        refine gr_istore (L2 := [(6, .int v2), (0, .ref (ad 16)), (1, .int x1), (2, .int x2), (3, .int x3), (4, .int x4), (5, .int x5)]) X dX11_worthOfItems_42 (by decide) rfl ?_
        refine gr_aload_n X dX11_worthOfItems_44 rfl 1 rfl ?_
        refine gC_get_HH_0 X hK fk11_10 dX11_worthOfItems_45 ?_
        refine gr_iload X dX11_worthOfItems_48 0 rfl ?_
        obtain ⟨q3, hq_, hf⟩ := ot_b hf
        refine gc_Vi (rest := []) X kC_ok hK hA cw11_318 (rvC_T0 hK) (xc_to_isAct hq_) rfl ⟨rfl, rfl, Nat.le_of_ble_eq_true rfl, Nat.le_of_ble_eq_true rfl⟩ rfl (Nat.le_of_ble_eq_true rfl) dX11_worthOfItems_50 ?_
        refine gr_if_eq X 66 dX11_worthOfItems_53 (by decide) (fun hc_ => ?_) (fun hc_ => ?_)
        · replace hf := ot_t hf hc_
          refine gr_bipush (v := -4) X dX11_worthOfItems_66 (by decide) ?_
          exact gr_iret X dX11_worthOfItems_68 (Prod.mk.inj (Option.some.inj hf)).1 (Prod.mk.inj (Option.some.inj hf)).2
        · replace hf := ot_f hf hc_
          refine gr_aload_n X dX11_worthOfItems_56 rfl 1 rfl ?_
          refine gC_get_HH_0 X hK fk11_10 dX11_worthOfItems_57 ?_
          obtain ⟨q4, hq_, hf⟩ := ot_b hf
          refine gc_Vi (rest := []) X kC_ok hK hA cw11_170 (rvC_T0 hK) (xc_to_isOver hq_) rfl ⟨rfl, rfl, Nat.le_of_ble_eq_true rfl, Nat.le_of_ble_eq_true rfl⟩ rfl (Nat.le_of_ble_eq_true rfl) dX11_worthOfItems_60 ?_
          refine gr_if_eq X 69 dX11_worthOfItems_63 (by decide) (fun hc_ => ?_) (fun hc_ => ?_)
          · replace hf := ot_t hf hc_
            refine gr_iload X dX11_worthOfItems_69 5 rfl ?_
            refine gr_aload_n X dX11_worthOfItems_71 rfl 1 rfl ?_
            refine gC_get_HH_0 X hK fk11_10 dX11_worthOfItems_72 ?_
            refine gr_iload X dX11_worthOfItems_75 0 rfl ?_
            obtain ⟨⟨q5, τ6⟩, hq_, hf⟩ := ot_b hf
            replace hf := ot_l (y := q5) hf rfl
            replace hf := ot_l (y := τ6) hf rfl
            refine gc_Vi (rest := [.int x4]) X kC_ok hK hA cw11_309 (rvC_T0 hK) (xc_to_pass hq_) rfl ⟨rfl, rfl, Nat.le_of_ble_eq_true rfl, Nat.le_of_ble_eq_true rfl⟩ rfl (Nat.le_of_ble_eq_true rfl) dX11_worthOfItems_77 ?_
            refine gr_iadd X dX11_worthOfItems_80 ?_
            refine gC_top (fun v7 e_v7 => ?_)
            replace hf := ot_l hf e_v7
            refine gr_istore (L2 := [(4, .int v7), (6, .int v2), (0, .ref (ad 16)), (1, .int x1), (2, .int x2), (3, .int x3), (5, .int x5)]) X dX11_worthOfItems_81 (by decide) rfl ?_
            refine gr_iinc (k := 6) (v := 1) (L2 := [(5, .int (x5 + (1 : Int32))), (4, .int v7), (6, .int v2), (0, .ref (ad 16)), (1, .int x1), (2, .int x2), (3, .int x3)]) X dX11_worthOfItems_83 rfl (by decide) (by decide) rfl ?_
            refine gr_goto X 6 dX11_worthOfItems_86 (by decide) ?_
            refine gr_sub [3, 4, 5, 6, 1, 0] rfl ?_
            exact ih _ _ _ _ _ _ hf
          · replace hf := ot_f hf hc_
            refine gr_bipush (v := -4) X dX11_worthOfItems_66 (by decide) ?_
            exact gr_iret X dX11_worthOfItems_68 (Prod.mk.inj (Option.some.inj hf)).1 (Prod.mk.inj (Option.some.inj hf)).2
      · replace hf := ot_f hf hc_
        refine gr_bipush (v := -12) X dX11_worthOfItems_24 (by decide) ?_
        exact gr_iret X dX11_worthOfItems_26 (Prod.mk.inj (Option.some.inj hf)).1 (Prod.mk.inj (Option.some.inj hf)).2
set_option maxHeartbeats 4000000 in
set_option maxRecDepth 100000 in
theorem xc_hh_worthOfItems {l : Launch} {D : va_G} {cs : Nat → ClassId} {sK sV : Nat → Nat} {tA : Nat} {ad : Nat → Nat} {τ : SC} {x1 : Int32} {x2 : Int32} {x3 : Int32} {r : Int32} {υ : SC} (hf : fc_hh_worthOfItems x1 x2 x3 τ = some (r, υ)) : ctI l (wC ad cs) D vwCl (kC D cs sK sV tA) yX11_worthOfItems cX11_worthOfItems 7 .int ro_hh_worthOfItems [.ref (ad 16), .int x1, .int x2, .int x3] τ r υ := by
  refine ct_I RX11 (by decide +kernel) rfl (Nat.le_of_ble_eq_true rfl) ?_
  intro p e s m args below meth c A X hK hA
  refine gr_eqL (L2 := [(0, .ref (ad 16)), (1, .int x1), (2, .int x2), (3, .int x3)]) rfl ?_
  unfold fc_hh_worthOfItems at hf
  refine gr_iconst (v := 0) X dX11_worthOfItems_0 (by decide) ?_
  refine gr_istore (L2 := [(4, .int (0 : Int32)), (0, .ref (ad 16)), (1, .int x1), (2, .int x2), (3, .int x3)]) X dX11_worthOfItems_1 (by decide) rfl ?_
  refine gr_iconst (v := 0) X dX11_worthOfItems_3 (by decide) ?_
  refine gr_istore (L2 := [(5, .int (0 : Int32)), (4, .int (0 : Int32)), (0, .ref (ad 16)), (1, .int x1), (2, .int x2), (3, .int x3)]) X dX11_worthOfItems_4 (by decide) rfl ?_
  refine gr_sub [2, 3, 4, 5, 1, 0] rfl ?_
  refine wc_hh_worthOfItems_l6 X hK hA  hFU _ _ _ _ _ _ hf
abbrev ro_hh_wouldBe : Room := { frames := 7, cells := 0, slots := 0, locals := 164 }
def fc_hh_wouldBe (x1 : Int32) (x2 : Int32) (x3 : Int32) (τ : SC) : Option (Int32 × SC) := (Option.bind (fc_hh_within x1 (3 : Int32)) fun q1 => (if q1 = 0 then (some ((-1 : Int32), τ)) else (Option.bind (fc_hh_within x3 (20 : Int32)) fun q2 => (if ¬ q2 = 0 then (Option.bind (fc_hh_refusalAs τ x1 (0 : Int32)) fun q3 => (if q3 = 0 then (Option.bind (fc_to_moment τ) fun q4 => (Option.bind (fc_hh_worthOfItems x1 x2 x3 τ) fun p_ => hl p_.1 fun q5 => hl p_.2 fun τ6 => (Option.bind (fc_to_recall q4 τ6) fun τ8 => (some (q5, τ8))))) else (some (q3, τ)))) else (some ((-1 : Int32), τ))))))
set_option maxHeartbeats 4000000 in
set_option maxRecDepth 100000 in
theorem xc_hh_wouldBe {l : Launch} {D : va_G} {cs : Nat → ClassId} {sK sV : Nat → Nat} {tA : Nat} {ad : Nat → Nat} {τ : SC} {x1 : Int32} {x2 : Int32} {x3 : Int32} {r : Int32} {υ : SC} (hf : fc_hh_wouldBe x1 x2 x3 τ = some (r, υ)) : ctI l (wC ad cs) D vwCl (kC D cs sK sV tA) yX11_wouldBe cX11_wouldBe 7 .int ro_hh_wouldBe [.ref (ad 16), .int x1, .int x2, .int x3] τ r υ := by
  refine ct_I RX11 (by decide +kernel) rfl (Nat.le_of_ble_eq_true rfl) ?_
  intro p e s m args below meth c A X hK hA
  refine gr_eqL (L2 := [(0, .ref (ad 16)), (1, .int x1), (2, .int x2), (3, .int x3)]) rfl ?_
  unfold fc_hh_wouldBe at hf
  refine gr_iload_n X dX11_wouldBe_0 rfl 1 rfl ?_
  refine gr_iconst (v := 3) X dX11_wouldBe_1 (by decide) ?_
  obtain ⟨q1, hq_, hf⟩ := ot_b hf
  refine gc_Si (rest := []) X kC_ok hK hA cw11_79 (xc_hh_within hq_) rfl ⟨rfl, rfl, Nat.le_of_ble_eq_true rfl, Nat.le_of_ble_eq_true rfl⟩ rfl (Nat.le_of_ble_eq_true rfl) dX11_wouldBe_2 ?_
  refine gr_if_eq X 17 dX11_wouldBe_5 (by decide) (fun hc_ => ?_) (fun hc_ => ?_)
  · replace hf := ot_t hf hc_
    refine gr_iconst (v := -1) X dX11_wouldBe_17 (by decide) ?_
    exact gr_iret X dX11_wouldBe_18 (Prod.mk.inj (Option.some.inj hf)).1 (Prod.mk.inj (Option.some.inj hf)).2
  · replace hf := ot_f hf hc_
    refine gr_iload_n X dX11_wouldBe_8 rfl 3 rfl ?_
    refine gr_bipush (v := 20) X dX11_wouldBe_9 (by decide) ?_
    obtain ⟨q2, hq_, hf⟩ := ot_b hf
    refine gc_Si (rest := []) X kC_ok hK hA cw11_79 (xc_hh_within hq_) rfl ⟨rfl, rfl, Nat.le_of_ble_eq_true rfl, Nat.le_of_ble_eq_true rfl⟩ rfl (Nat.le_of_ble_eq_true rfl) dX11_wouldBe_11 ?_
    refine gr_if_ne X 19 dX11_wouldBe_14 (by decide) (fun hc_ => ?_) (fun hc_ => ?_)
    · replace hf := ot_t hf hc_
      refine gr_aload_n X dX11_wouldBe_19 rfl 0 rfl ?_
      refine gr_iload_n X dX11_wouldBe_20 rfl 1 rfl ?_
      refine gr_iconst (v := 0) X dX11_wouldBe_21 (by decide) ?_
      obtain ⟨q3, hq_, hf⟩ := ot_b hf
      refine gc_Vi (rest := []) X kC_ok hK hA cw11_331 (rvC_HH hK) (xc_hh_refusalAs hq_) rfl ⟨rfl, rfl, Nat.le_of_ble_eq_true rfl, Nat.le_of_ble_eq_true rfl⟩ rfl (Nat.le_of_ble_eq_true rfl) dX11_wouldBe_22 ?_
      refine gr_istore (L2 := [(4, .int q3), (0, .ref (ad 16)), (1, .int x1), (2, .int x2), (3, .int x3)]) X dX11_wouldBe_25 (by decide) rfl ?_
      refine gr_iload X dX11_wouldBe_27 0 rfl ?_
      refine gr_if_eq X 35 dX11_wouldBe_29 (by decide) (fun hc_ => ?_) (fun hc_ => ?_)
      · replace hf := ot_t hf hc_
        refine gr_aload_n X dX11_wouldBe_35 rfl 1 rfl ?_
        refine gC_get_HH_0 X hK fk11_10 dX11_wouldBe_36 ?_
        obtain ⟨q4, hq_, hf⟩ := ot_b hf
        refine gc_Vi (rest := []) X kC_ok hK hA cw11_209 (rvC_T0 hK) (xc_to_moment hq_) rfl ⟨rfl, rfl, Nat.le_of_ble_eq_true rfl, Nat.le_of_ble_eq_true rfl⟩ rfl (Nat.le_of_ble_eq_true rfl) dX11_wouldBe_39 ?_
        refine gr_istore (L2 := [(5, .int q4), (4, .int q3), (0, .ref (ad 16)), (1, .int x1), (2, .int x2), (3, .int x3)]) X dX11_wouldBe_42 (by decide) rfl ?_
        refine gr_aload_n X dX11_wouldBe_44 rfl 2 rfl ?_
        refine gr_iload_n X dX11_wouldBe_45 rfl 3 rfl ?_
        refine gr_iload_n X dX11_wouldBe_46 rfl 4 rfl ?_
        refine gr_iload_n X dX11_wouldBe_47 rfl 5 rfl ?_
        obtain ⟨⟨q5, τ6⟩, hq_, hf⟩ := ot_b hf
        replace hf := ot_l (y := q5) hf rfl
        replace hf := ot_l (y := τ6) hf rfl
        refine gc_Vi (rest := []) X kC_ok hK hA cw11_334 (rvC_HH hK) (xc_hh_worthOfItems hq_) rfl ⟨rfl, rfl, Nat.le_of_ble_eq_true rfl, Nat.le_of_ble_eq_true rfl⟩ rfl (Nat.le_of_ble_eq_true rfl) dX11_wouldBe_48 ?_
        refine gr_istore (L2 := [(6, .int q5), (5, .int q4), (4, .int q3), (0, .ref (ad 16)), (1, .int x1), (2, .int x2), (3, .int x3)]) X dX11_wouldBe_51 (by decide) rfl ?_
        refine gr_aload_n X dX11_wouldBe_53 rfl 3 rfl ?_
        refine gC_get_HH_0 X hK fk11_10 dX11_wouldBe_54 ?_
        refine gr_iload X dX11_wouldBe_57 1 rfl ?_
        obtain ⟨τ8, hq_, hf⟩ := ot_b hf
        refine gc_Vv (rest := []) X kC_ok hK hA cw11_215 (rvC_T0 hK) (xc_to_recall hq_) rfl ⟨rfl, rfl, Nat.le_of_ble_eq_true rfl, Nat.le_of_ble_eq_true rfl⟩ rfl (Nat.le_of_ble_eq_true rfl) dX11_wouldBe_59 ?_
        refine gr_iload X dX11_wouldBe_62 0 rfl ?_
        exact gr_iret X dX11_wouldBe_64 (Prod.mk.inj (Option.some.inj hf)).1 (Prod.mk.inj (Option.some.inj hf)).2
      · replace hf := ot_f hf hc_
        refine gr_iload X dX11_wouldBe_32 0 rfl ?_
        exact gr_iret X dX11_wouldBe_34 (Prod.mk.inj (Option.some.inj hf)).1 (Prod.mk.inj (Option.some.inj hf)).2
    · replace hf := ot_f hf hc_
      refine gr_iconst (v := -1) X dX11_wouldBe_17 (by decide) ?_
      exact gr_iret X dX11_wouldBe_18 (Prod.mk.inj (Option.some.inj hf)).1 (Prod.mk.inj (Option.some.inj hf)).2
abbrev ro_hh_put : Room := { frames := 0, cells := 0, slots := 0, locals := 0 }
def fc_hh_put (x1 : Int32) (x2 : Int32) (x3 : Int32) (x4 : Int32) (τ : SC) : Option (Int32 × SC) := (oc (hin x1 4) (hl (sc τ 13 (upd (τ.1 13) (Int32.toNatClampNeg x1) x2)) fun τ1 => (oc (hin x1 4) (hl (sc τ1 14 (upd (τ1.1 14) (Int32.toNatClampNeg x1) x3)) fun τ2 => (oc (hin x1 4) (hl (sc τ2 15 (upd (τ2.1 15) (Int32.toNatClampNeg x1) x4)) fun τ3 => (some ((1 : Int32), τ3))))))))
set_option maxHeartbeats 4000000 in
set_option maxRecDepth 100000 in
theorem xc_hh_put {l : Launch} {D : va_G} {cs : Nat → ClassId} {sK sV : Nat → Nat} {tA : Nat} {ad : Nat → Nat} {τ : SC} {x1 : Int32} {x2 : Int32} {x3 : Int32} {x4 : Int32} {r : Int32} {υ : SC} (hf : fc_hh_put x1 x2 x3 x4 τ = some (r, υ)) : ctI l (wC ad cs) D vwCl (kC D cs sK sV tA) yX11_put cX11_put 5 .int ro_hh_put [.ref (ad 16), .int x1, .int x2, .int x3, .int x4] τ r υ := by
  refine ct_I RX11 (by decide +kernel) rfl (Nat.le_of_ble_eq_true rfl) ?_
  intro p e s m args below meth c A X hK hA
  refine gr_eqL (L2 := [(0, .ref (ad 16)), (1, .int x1), (2, .int x2), (3, .int x3), (4, .int x4)]) rfl ?_
  unfold fc_hh_put at hf
  refine gr_aload_n X dX11_put_0 rfl 0 rfl ?_
  refine gC_get_HH_13 X hK fk11_60 dX11_put_1 ?_
  refine gr_iload_n X dX11_put_4 rfl 1 rfl ?_
  refine gr_iload_n X dX11_put_5 rfl 2 rfl ?_
  have hi_ := oc_1 hf
  replace hf := oc_2 hf
  refine gC_ast_13 X hK (Int32.toNatClampNeg x1) hi_ rfl dX11_put_6 ?_
  refine gC_gen (fun τ1 e_τ1 => ?_)
  replace hf := ot_l hf e_τ1
  refine gr_aload_n X dX11_put_7 rfl 0 rfl ?_
  refine gC_get_HH_14 X hK fk11_63 dX11_put_8 ?_
  refine gr_iload_n X dX11_put_11 rfl 1 rfl ?_
  refine gr_iload_n X dX11_put_12 rfl 3 rfl ?_
  have hi_ := oc_1 hf
  replace hf := oc_2 hf
  refine gC_ast_14 X hK (Int32.toNatClampNeg x1) hi_ rfl dX11_put_13 ?_
  refine gC_gen (fun τ2 e_τ2 => ?_)
  replace hf := ot_l hf e_τ2
  refine gr_aload_n X dX11_put_14 rfl 0 rfl ?_
  refine gC_get_HH_15 X hK fk11_66 dX11_put_15 ?_
  refine gr_iload_n X dX11_put_18 rfl 1 rfl ?_
  refine gr_iload X dX11_put_19 4 rfl ?_
  have hi_ := oc_1 hf
  replace hf := oc_2 hf
  refine gC_ast_15 X hK (Int32.toNatClampNeg x1) hi_ rfl dX11_put_21 ?_
  refine gC_gen (fun τ3 e_τ3 => ?_)
  replace hf := ot_l hf e_τ3
  refine gr_iconst (v := 1) X dX11_put_22 (by decide) ?_
  exact gr_iret X dX11_put_23 (Prod.mk.inj (Option.some.inj hf)).1 (Prod.mk.inj (Option.some.inj hf)).2
abbrev ro_hh_shelf : Room := { frames := 1, cells := 0, slots := 0, locals := 24 }
def fc_hh_shelf (x1 : Int32) (x2 : Int32) (x3 : Int32) (τ : SC) : Option (Int32 × SC) := (Option.bind (fc_hh_within x1 (3 : Int32)) fun q1 => (if q1 = 0 then (some ((-1 : Int32), τ)) else (Option.bind (fc_hh_within x2 (2 : Int32)) fun q2 => (if ¬ q2 = 0 then (if ¬ x2 = 0 then (if ¬ x2 = (2 : Int32) then (Option.bind (fc_hh_within x3 (3 : Int32)) fun q3 => (if ¬ q3 = 0 then (oc (hin x3 4) (if ¬ (τ.1 10 (Int32.toNatClampNeg x3)) = (-1 : Int32) then (oc (hin x3 4) (oc (hin x3 4) (Option.bind (fc_hh_put x1 (2 : Int32) (τ.1 10 (Int32.toNatClampNeg x3)) (τ.1 11 (Int32.toNatClampNeg x3)) τ) fun p_ => hl p_.1 fun q4 => hl p_.2 fun τ5 => (some (q4, τ5))))) else (Option.bind (fc_hh_put x1 (0 : Int32) (0 : Int32) (0 : Int32) τ) fun p_ => hl p_.1 fun q6 => hl p_.2 fun τ7 => (some (q6, τ7))))) else (some ((-1 : Int32), τ)))) else (Option.bind (fc_hh_put x1 (0 : Int32) (0 : Int32) (0 : Int32) τ) fun p_ => hl p_.1 fun q8 => hl p_.2 fun τ9 => (some (q8, τ9)))) else (Option.bind (fc_to_has τ x3) fun q10 => (if q10 = 0 then (some ((-1 : Int32), τ)) else (Option.bind (fc_hh_put x1 (1 : Int32) (0 : Int32) x3 τ) fun p_ => hl p_.1 fun q11 => hl p_.2 fun τ12 => (some (q11, τ12)))))) else (some ((-1 : Int32), τ))))))
set_option maxHeartbeats 4000000 in
set_option maxRecDepth 100000 in
theorem xc_hh_shelf {l : Launch} {D : va_G} {cs : Nat → ClassId} {sK sV : Nat → Nat} {tA : Nat} {ad : Nat → Nat} {τ : SC} {x1 : Int32} {x2 : Int32} {x3 : Int32} {r : Int32} {υ : SC} (hf : fc_hh_shelf x1 x2 x3 τ = some (r, υ)) : ctI l (wC ad cs) D vwCl (kC D cs sK sV tA) yX11_shelf cX11_shelf 4 .int ro_hh_shelf [.ref (ad 16), .int x1, .int x2, .int x3] τ r υ := by
  refine ct_I RX11 (by decide +kernel) rfl (Nat.le_of_ble_eq_true rfl) ?_
  intro p e s m args below meth c A X hK hA
  refine gr_eqL (L2 := [(0, .ref (ad 16)), (1, .int x1), (2, .int x2), (3, .int x3)]) rfl ?_
  unfold fc_hh_shelf at hf
  refine gr_iload_n X dX11_shelf_0 rfl 1 rfl ?_
  refine gr_iconst (v := 3) X dX11_shelf_1 (by decide) ?_
  obtain ⟨q1, hq_, hf⟩ := ot_b hf
  refine gc_Si (rest := []) X kC_ok hK hA cw11_79 (xc_hh_within hq_) rfl ⟨rfl, rfl, Nat.le_of_ble_eq_true rfl, Nat.le_of_ble_eq_true rfl⟩ rfl (Nat.le_of_ble_eq_true rfl) dX11_shelf_2 ?_
  refine gr_if_eq X 16 dX11_shelf_5 (by decide) (fun hc_ => ?_) (fun hc_ => ?_)
  · replace hf := ot_t hf hc_
    refine gr_iconst (v := -1) X dX11_shelf_16 (by decide) ?_
    exact gr_iret X dX11_shelf_17 (Prod.mk.inj (Option.some.inj hf)).1 (Prod.mk.inj (Option.some.inj hf)).2
  · replace hf := ot_f hf hc_
    refine gr_iload_n X dX11_shelf_8 rfl 2 rfl ?_
    refine gr_iconst (v := 2) X dX11_shelf_9 (by decide) ?_
    obtain ⟨q2, hq_, hf⟩ := ot_b hf
    refine gc_Si (rest := []) X kC_ok hK hA cw11_79 (xc_hh_within hq_) rfl ⟨rfl, rfl, Nat.le_of_ble_eq_true rfl, Nat.le_of_ble_eq_true rfl⟩ rfl (Nat.le_of_ble_eq_true rfl) dX11_shelf_10 ?_
    refine gr_if_ne X 18 dX11_shelf_13 (by decide) (fun hc_ => ?_) (fun hc_ => ?_)
    · replace hf := ot_t hf hc_
      refine gr_iload_n X dX11_shelf_18 rfl 2 rfl ?_
      refine gr_if_ne X 46 dX11_shelf_19 (by decide) (fun hc_ => ?_) (fun hc_ => ?_)
      · replace hf := ot_t hf hc_
        refine gr_iload_n X dX11_shelf_46 rfl 2 rfl ?_
        refine gr_iconst (v := 2) X dX11_shelf_47 (by decide) ?_
        refine gr_icmp_ne X 60 dX11_shelf_48 (by decide) (fun hc_ => ?_) (fun hc_ => ?_)
        · replace hf := ot_t hf hc_
          refine gr_iload_n X dX11_shelf_60 rfl 3 rfl ?_
          refine gr_iconst (v := 3) X dX11_shelf_61 (by decide) ?_
          obtain ⟨q3, hq_, hf⟩ := ot_b hf
          refine gc_Si (rest := []) X kC_ok hK hA cw11_79 (xc_hh_within hq_) rfl ⟨rfl, rfl, Nat.le_of_ble_eq_true rfl, Nat.le_of_ble_eq_true rfl⟩ rfl (Nat.le_of_ble_eq_true rfl) dX11_shelf_62 ?_
          refine gr_if_ne X 70 dX11_shelf_65 (by decide) (fun hc_ => ?_) (fun hc_ => ?_)
          · replace hf := ot_t hf hc_
            refine gr_aload_n X dX11_shelf_70 rfl 0 rfl ?_
            refine gC_get_HH_10 X hK fk11_50 dX11_shelf_71 ?_
            refine gr_iload_n X dX11_shelf_74 rfl 3 rfl ?_
            have hi_ := oc_1 hf
            replace hf := oc_2 hf
            refine gC_ald_10 X hK (Int32.toNatClampNeg x3) hi_ rfl dX11_shelf_75 ?_
            refine gr_iconst (v := -1) X dX11_shelf_76 (by decide) ?_
            refine gr_icmp_ne X 89 dX11_shelf_77 (by decide) (fun hc_ => ?_) (fun hc_ => ?_)
            · replace hf := ot_t hf hc_
              refine gr_aload_n X dX11_shelf_89 rfl 0 rfl ?_
              refine gr_iload_n X dX11_shelf_90 rfl 1 rfl ?_
              refine gr_iconst (v := 2) X dX11_shelf_91 (by decide) ?_
              refine gr_aload_n X dX11_shelf_92 rfl 0 rfl ?_
              refine gC_get_HH_10 X hK fk11_50 dX11_shelf_93 ?_
              refine gr_iload_n X dX11_shelf_96 rfl 3 rfl ?_
              have hi_ := oc_1 hf
              replace hf := oc_2 hf
              refine gC_ald_10 X hK (Int32.toNatClampNeg x3) hi_ rfl dX11_shelf_97 ?_
              refine gr_aload_n X dX11_shelf_98 rfl 0 rfl ?_
              refine gC_get_HH_11 X hK fk11_53 dX11_shelf_99 ?_
              refine gr_iload_n X dX11_shelf_102 rfl 3 rfl ?_
              have hi_ := oc_1 hf
              replace hf := oc_2 hf
              refine gC_ald_11 X hK (Int32.toNatClampNeg x3) hi_ rfl dX11_shelf_103 ?_
              obtain ⟨⟨q4, τ5⟩, hq_, hf⟩ := ot_b hf
              replace hf := ot_l (y := q4) hf rfl
              replace hf := ot_l (y := τ5) hf rfl
              refine gc_Vi (rest := []) X kC_ok hK hA cw11_337 (rvC_HH hK) (xc_hh_put hq_) rfl ⟨rfl, rfl, Nat.le_of_ble_eq_true rfl, Nat.le_of_ble_eq_true rfl⟩ rfl (Nat.le_of_ble_eq_true rfl) dX11_shelf_104 ?_
              exact gr_iret X dX11_shelf_107 (Prod.mk.inj (Option.some.inj hf)).1 (Prod.mk.inj (Option.some.inj hf)).2
            · replace hf := ot_f hf hc_
              refine gr_aload_n X dX11_shelf_80 rfl 0 rfl ?_
              refine gr_iload_n X dX11_shelf_81 rfl 1 rfl ?_
              refine gr_iconst (v := 0) X dX11_shelf_82 (by decide) ?_
              refine gr_iconst (v := 0) X dX11_shelf_83 (by decide) ?_
              refine gr_iconst (v := 0) X dX11_shelf_84 (by decide) ?_
              obtain ⟨⟨q6, τ7⟩, hq_, hf⟩ := ot_b hf
              replace hf := ot_l (y := q6) hf rfl
              replace hf := ot_l (y := τ7) hf rfl
              refine gc_Vi (rest := []) X kC_ok hK hA cw11_337 (rvC_HH hK) (xc_hh_put hq_) rfl ⟨rfl, rfl, Nat.le_of_ble_eq_true rfl, Nat.le_of_ble_eq_true rfl⟩ rfl (Nat.le_of_ble_eq_true rfl) dX11_shelf_85 ?_
              exact gr_iret X dX11_shelf_88 (Prod.mk.inj (Option.some.inj hf)).1 (Prod.mk.inj (Option.some.inj hf)).2
          · replace hf := ot_f hf hc_
            refine gr_iconst (v := -1) X dX11_shelf_68 (by decide) ?_
            exact gr_iret X dX11_shelf_69 (Prod.mk.inj (Option.some.inj hf)).1 (Prod.mk.inj (Option.some.inj hf)).2
        · replace hf := ot_f hf hc_
          refine gr_aload_n X dX11_shelf_51 rfl 0 rfl ?_
          refine gr_iload_n X dX11_shelf_52 rfl 1 rfl ?_
          refine gr_iconst (v := 0) X dX11_shelf_53 (by decide) ?_
          refine gr_iconst (v := 0) X dX11_shelf_54 (by decide) ?_
          refine gr_iconst (v := 0) X dX11_shelf_55 (by decide) ?_
          obtain ⟨⟨q8, τ9⟩, hq_, hf⟩ := ot_b hf
          replace hf := ot_l (y := q8) hf rfl
          replace hf := ot_l (y := τ9) hf rfl
          refine gc_Vi (rest := []) X kC_ok hK hA cw11_337 (rvC_HH hK) (xc_hh_put hq_) rfl ⟨rfl, rfl, Nat.le_of_ble_eq_true rfl, Nat.le_of_ble_eq_true rfl⟩ rfl (Nat.le_of_ble_eq_true rfl) dX11_shelf_56 ?_
          exact gr_iret X dX11_shelf_59 (Prod.mk.inj (Option.some.inj hf)).1 (Prod.mk.inj (Option.some.inj hf)).2
      · replace hf := ot_f hf hc_
        refine gr_aload_n X dX11_shelf_22 rfl 0 rfl ?_
        refine gC_get_HH_0 X hK fk11_10 dX11_shelf_23 ?_
        refine gr_iload_n X dX11_shelf_26 rfl 3 rfl ?_
        obtain ⟨q10, hq_, hf⟩ := ot_b hf
        refine gc_Vi (rest := []) X kC_ok hK hA cw11_91 (rvC_T0 hK) (xc_to_has hq_) rfl ⟨rfl, rfl, Nat.le_of_ble_eq_true rfl, Nat.le_of_ble_eq_true rfl⟩ rfl (Nat.le_of_ble_eq_true rfl) dX11_shelf_27 ?_
        refine gr_if_eq X 44 dX11_shelf_30 (by decide) (fun hc_ => ?_) (fun hc_ => ?_)
        · replace hf := ot_t hf hc_
          refine gr_iconst (v := -1) X dX11_shelf_44 (by decide) ?_
          exact gr_iret X dX11_shelf_45 (Prod.mk.inj (Option.some.inj hf)).1 (Prod.mk.inj (Option.some.inj hf)).2
        · replace hf := ot_f hf hc_
          refine gr_aload_n X dX11_shelf_33 rfl 0 rfl ?_
          refine gr_iload_n X dX11_shelf_34 rfl 1 rfl ?_
          refine gr_iconst (v := 1) X dX11_shelf_35 (by decide) ?_
          refine gr_iconst (v := 0) X dX11_shelf_36 (by decide) ?_
          refine gr_iload_n X dX11_shelf_37 rfl 3 rfl ?_
          obtain ⟨⟨q11, τ12⟩, hq_, hf⟩ := ot_b hf
          replace hf := ot_l (y := q11) hf rfl
          replace hf := ot_l (y := τ12) hf rfl
          refine gc_Vi (rest := []) X kC_ok hK hA cw11_337 (rvC_HH hK) (xc_hh_put hq_) rfl ⟨rfl, rfl, Nat.le_of_ble_eq_true rfl, Nat.le_of_ble_eq_true rfl⟩ rfl (Nat.le_of_ble_eq_true rfl) dX11_shelf_38 ?_
          refine gr_goto X 45 dX11_shelf_41 (by decide) ?_
          exact gr_iret X dX11_shelf_45 (Prod.mk.inj (Option.some.inj hf)).1 (Prod.mk.inj (Option.some.inj hf)).2
    · replace hf := ot_f hf hc_
      refine gr_iconst (v := -1) X dX11_shelf_16 (by decide) ?_
      exact gr_iret X dX11_shelf_17 (Prod.mk.inj (Option.some.inj hf)).1 (Prod.mk.inj (Option.some.inj hf)).2
abbrev ro_hh_holdsGuild : Room := { frames := 1, cells := 0, slots := 0, locals := 21 }
def fc_hh_holdsGuild (τ : SC) (x1 : Int32) : Option Int32 := (oc (hin x1 4) (if ¬ (τ.1 13 (Int32.toNatClampNeg x1)) = (1 : Int32) then (some (0 : Int32)) else (oc (hin x1 4) (Option.bind (fc_to_has τ (τ.1 15 (Int32.toNatClampNeg x1))) fun q1 => (if q1 = 0 then (some (0 : Int32)) else (some (1 : Int32)))))))
set_option maxHeartbeats 4000000 in
set_option maxRecDepth 100000 in
theorem xc_hh_holdsGuild {l : Launch} {D : va_G} {cs : Nat → ClassId} {sK sV : Nat → Nat} {tA : Nat} {ad : Nat → Nat} {τ : SC} {x1 : Int32} {r : Int32} (hf : fc_hh_holdsGuild τ x1 = some r) : ctI l (wC ad cs) D vwCl (kC D cs sK sV tA) yX11_holdsGuild cX11_holdsGuild 2 .boolean ro_hh_holdsGuild [.ref (ad 16), .int x1] τ r τ := by
  refine ct_I RX11 (by decide +kernel) rfl (Nat.le_of_ble_eq_true rfl) ?_
  intro p e s m args below meth c A X hK hA
  refine gr_eqL (L2 := [(0, .ref (ad 16)), (1, .int x1)]) rfl ?_
  unfold fc_hh_holdsGuild at hf
  refine gr_aload_n X dX11_holdsGuild_0 rfl 0 rfl ?_
  refine gC_get_HH_13 X hK fk11_60 dX11_holdsGuild_1 ?_
  refine gr_iload_n X dX11_holdsGuild_4 rfl 1 rfl ?_
  have hi_ := oc_1 hf
  replace hf := oc_2 hf
  refine gC_ald_13 X hK (Int32.toNatClampNeg x1) hi_ rfl dX11_holdsGuild_5 ?_
  refine gr_iconst (v := 1) X dX11_holdsGuild_6 (by decide) ?_
  refine gr_icmp_ne X 30 dX11_holdsGuild_7 (by decide) (fun hc_ => ?_) (fun hc_ => ?_)
  · replace hf := ot_t hf hc_
    refine gr_iconst (v := 0) X dX11_holdsGuild_30 (by decide) ?_
    exact gr_zret X dX11_holdsGuild_31 (by decide) (Option.some.inj hf) rfl
  · replace hf := ot_f hf hc_
    refine gr_aload_n X dX11_holdsGuild_10 rfl 0 rfl ?_
    refine gC_get_HH_0 X hK fk11_10 dX11_holdsGuild_11 ?_
    refine gr_aload_n X dX11_holdsGuild_14 rfl 0 rfl ?_
    refine gC_get_HH_15 X hK fk11_66 dX11_holdsGuild_15 ?_
    refine gr_iload_n X dX11_holdsGuild_18 rfl 1 rfl ?_
    have hi_ := oc_1 hf
    replace hf := oc_2 hf
    refine gC_ald_15 X hK (Int32.toNatClampNeg x1) hi_ rfl dX11_holdsGuild_19 ?_
    obtain ⟨q1, hq_, hf⟩ := ot_b hf
    refine gc_Vi (rest := []) X kC_ok hK hA cw11_91 (rvC_T0 hK) (xc_to_has hq_) rfl ⟨rfl, rfl, Nat.le_of_ble_eq_true rfl, Nat.le_of_ble_eq_true rfl⟩ rfl (Nat.le_of_ble_eq_true rfl) dX11_holdsGuild_20 ?_
    refine gr_if_eq X 30 dX11_holdsGuild_23 (by decide) (fun hc_ => ?_) (fun hc_ => ?_)
    · replace hf := ot_t hf hc_
      refine gr_iconst (v := 0) X dX11_holdsGuild_30 (by decide) ?_
      exact gr_zret X dX11_holdsGuild_31 (by decide) (Option.some.inj hf) rfl
    · replace hf := ot_f hf hc_
      refine gr_iconst (v := 1) X dX11_holdsGuild_26 (by decide) ?_
      refine gr_goto X 31 dX11_holdsGuild_27 (by decide) ?_
      exact gr_zret X dX11_holdsGuild_31 (by decide) (Option.some.inj hf) rfl
abbrev ro_hh_taken : Room := { frames := 2, cells := 0, slots := 0, locals := 42 }
def fc_hh_taken_b128 (τ : SC) (x1 : Int32) (x5 : Int32) : Option Int32 := (if x5 = 0 then (some (-13 : Int32)) else (oc (hin x1 4) (some (τ.1 15 (Int32.toNatClampNeg x1)))))
def fc_hh_taken_b120 (τ : SC) (x1 : Int32) (y0 : Int32) : Option Int32 := (fc_hh_taken_b128 τ x1 y0)
def fc_hh_taken_b119 (τ : SC) (x1 : Int32) : Option Int32 := (fc_hh_taken_b120 τ x1 (0 : Int32))
def fc_hh_taken_b77 (τ : SC) (x1 : Int32) (y0 : Int32) : Option Int32 := (fc_hh_taken_b128 τ x1 y0)
def fc_hh_taken_b76 (τ : SC) (x1 : Int32) : Option Int32 := (fc_hh_taken_b77 τ x1 (0 : Int32))
def fc_hh_taken_b44 (τ : SC) (x1 : Int32) (x2 : Int32) (x3 : Int32) (x4 : Int32) : Option Int32 := (oc (hin x1 4) (if ¬ (τ.1 13 (Int32.toNatClampNeg x1)) = (2 : Int32) then (Option.bind (fc_hh_holdsGuild τ x1) fun q3 => (if q3 = 0 then (some (-11 : Int32)) else (if x3 = 0 then (fc_hh_taken_b119 τ x1) else (oc (hin x1 4) (oc (hin (τ.1 15 (Int32.toNatClampNeg x1)) 6) (Option.bind (fc_ru_isOrUnder (τ.1 114 (Int32.toNatClampNeg (τ.1 15 (Int32.toNatClampNeg x1)))) x2) fun q4 => (if q4 = 0 then (fc_hh_taken_b119 τ x1) else (fc_hh_taken_b120 τ x1 (1 : Int32))))))))) else (if x4 = 0 then (fc_hh_taken_b76 τ x1) else (oc (hin x1 4) (if ¬ (τ.1 14 (Int32.toNatClampNeg x1)) = (x2 - (10 : Int32)) then (fc_hh_taken_b76 τ x1) else (fc_hh_taken_b77 τ x1 (1 : Int32)))))))
def fc_hh_taken_b23 (τ : SC) (x1 : Int32) (x2 : Int32) (x3 : Int32) (y0 : Int32) : Option Int32 := (Option.bind (fc_hh_within x1 (3 : Int32)) fun q2 => (if q2 = 0 then (some (-1 : Int32)) else (if ¬ x3 = 0 then (fc_hh_taken_b44 τ x1 x2 x3 y0) else (if ¬ y0 = 0 then (fc_hh_taken_b44 τ x1 x2 x3 y0) else (some (-1 : Int32))))))
def fc_hh_taken_b22 (τ : SC) (x1 : Int32) (x2 : Int32) (x3 : Int32) : Option Int32 := (fc_hh_taken_b23 τ x1 x2 x3 (0 : Int32))
def fc_hh_taken (τ : SC) (x1 : Int32) (x2 : Int32) : Option Int32 := (Option.bind (fc_hh_within x2 (5 : Int32)) fun q1 => (if x2 < (10 : Int32) then (fc_hh_taken_b22 τ x1 x2 q1) else (if (15 : Int32) ≤ x2 then (fc_hh_taken_b22 τ x1 x2 q1) else (fc_hh_taken_b23 τ x1 x2 q1 (1 : Int32)))))
set_option maxHeartbeats 4000000 in
set_option maxRecDepth 100000 in
theorem wc_hh_taken_b128 {p : Program} {l : Launch} {e : Env} {s : State} {m : MethodId} {args : Array Value} {below : List Frame} {meth : Method} {c : Code} {A : Nat → Prop} {D : va_G} {cs : Nat → ClassId} {sK sV : Nat → Nat} {tA : Nat} {ad : Nat → Nat} {r : Int32} {τ : SC} (X : hc p s m args meth c RX11 cX11_taken 6 (some .int)) (hK : kC D cs sK sV tA A s) (hA : ∀ q, s.heap.size ≤ q → A q)   (x1 : Int32) (x5 : Int32) (hf : fc_hh_taken_b128 τ x1 x5 = some r) : gg p l e ro_hh_taken s m args below meth c (wC ad cs) D vwCl A 6 (QI below args s (wC ad cs) D vwCl A r τ) 128 [(0, .ref (ad 16)), (1, .int x1), (5, .int x5)] [] τ := by
  unfold fc_hh_taken_b128 at hf
  refine gr_iload X dX11_taken_128 2 rfl ?_
  refine gr_if_eq X 142 dX11_taken_130 (by decide) (fun hc_ => ?_) (fun hc_ => ?_)
  · replace hf := ot_t hf hc_
    refine gr_bipush (v := -13) X dX11_taken_142 (by decide) ?_
    exact gr_iret X dX11_taken_144 (Option.some.inj hf) rfl
  · replace hf := ot_f hf hc_
    refine gr_aload_n X dX11_taken_133 rfl 0 rfl ?_
    refine gC_get_HH_15 X hK fk11_66 dX11_taken_134 ?_
    refine gr_iload_n X dX11_taken_137 rfl 1 rfl ?_
    have hi_ := oc_1 hf
    replace hf := oc_2 hf
    refine gC_ald_15 X hK (Int32.toNatClampNeg x1) hi_ rfl dX11_taken_138 ?_
    refine gr_goto X 144 dX11_taken_139 (by decide) ?_
    exact gr_iret X dX11_taken_144 (Option.some.inj hf) rfl
set_option maxHeartbeats 4000000 in
set_option maxRecDepth 100000 in
theorem wc_hh_taken_b120 {p : Program} {l : Launch} {e : Env} {s : State} {m : MethodId} {args : Array Value} {below : List Frame} {meth : Method} {c : Code} {A : Nat → Prop} {D : va_G} {cs : Nat → ClassId} {sK sV : Nat → Nat} {tA : Nat} {ad : Nat → Nat} {r : Int32} {τ : SC} (X : hc p s m args meth c RX11 cX11_taken 6 (some .int)) (hK : kC D cs sK sV tA A s) (hA : ∀ q, s.heap.size ≤ q → A q)   (x1 : Int32) (y0 : Int32) (hf : fc_hh_taken_b120 τ x1 y0 = some r) : gg p l e ro_hh_taken s m args below meth c (wC ad cs) D vwCl A 6 (QI below args s (wC ad cs) D vwCl A r τ) 120 [(0, .ref (ad 16)), (1, .int x1)] [.int y0] τ := by
  unfold fc_hh_taken_b120 at hf
  refine gr_istore (L2 := [(5, .int y0), (0, .ref (ad 16)), (1, .int x1)]) X dX11_taken_120 (by decide) rfl ?_
  refine gr_goto X 128 dX11_taken_122 (by decide) ?_
  refine gr_sub [1, 2, 0] rfl ?_
  exact wc_hh_taken_b128 X hK hA _ _ hf
set_option maxHeartbeats 4000000 in
set_option maxRecDepth 100000 in
theorem wc_hh_taken_b119 {p : Program} {l : Launch} {e : Env} {s : State} {m : MethodId} {args : Array Value} {below : List Frame} {meth : Method} {c : Code} {A : Nat → Prop} {D : va_G} {cs : Nat → ClassId} {sK sV : Nat → Nat} {tA : Nat} {ad : Nat → Nat} {r : Int32} {τ : SC} (X : hc p s m args meth c RX11 cX11_taken 6 (some .int)) (hK : kC D cs sK sV tA A s) (hA : ∀ q, s.heap.size ≤ q → A q)   (x1 : Int32) (hf : fc_hh_taken_b119 τ x1 = some r) : gg p l e ro_hh_taken s m args below meth c (wC ad cs) D vwCl A 6 (QI below args s (wC ad cs) D vwCl A r τ) 119 [(0, .ref (ad 16)), (1, .int x1)] [] τ := by
  unfold fc_hh_taken_b119 at hf
  refine gr_iconst (v := 0) X dX11_taken_119 (by decide) ?_
  refine gr_sub [0, 1] rfl ?_
  exact wc_hh_taken_b120 X hK hA _ _ hf
set_option maxHeartbeats 4000000 in
set_option maxRecDepth 100000 in
theorem wc_hh_taken_b77 {p : Program} {l : Launch} {e : Env} {s : State} {m : MethodId} {args : Array Value} {below : List Frame} {meth : Method} {c : Code} {A : Nat → Prop} {D : va_G} {cs : Nat → ClassId} {sK sV : Nat → Nat} {tA : Nat} {ad : Nat → Nat} {r : Int32} {τ : SC} (X : hc p s m args meth c RX11 cX11_taken 6 (some .int)) (hK : kC D cs sK sV tA A s) (hA : ∀ q, s.heap.size ≤ q → A q)   (x1 : Int32) (y0 : Int32) (hf : fc_hh_taken_b77 τ x1 y0 = some r) : gg p l e ro_hh_taken s m args below meth c (wC ad cs) D vwCl A 6 (QI below args s (wC ad cs) D vwCl A r τ) 77 [(0, .ref (ad 16)), (1, .int x1)] [.int y0] τ := by
  unfold fc_hh_taken_b77 at hf
  refine gr_istore (L2 := [(5, .int y0), (0, .ref (ad 16)), (1, .int x1)]) X dX11_taken_77 (by decide) rfl ?_
  refine gr_goto X 128 dX11_taken_79 (by decide) ?_
  refine gr_sub [1, 2, 0] rfl ?_
  exact wc_hh_taken_b128 X hK hA _ _ hf
set_option maxHeartbeats 4000000 in
set_option maxRecDepth 100000 in
theorem wc_hh_taken_b76 {p : Program} {l : Launch} {e : Env} {s : State} {m : MethodId} {args : Array Value} {below : List Frame} {meth : Method} {c : Code} {A : Nat → Prop} {D : va_G} {cs : Nat → ClassId} {sK sV : Nat → Nat} {tA : Nat} {ad : Nat → Nat} {r : Int32} {τ : SC} (X : hc p s m args meth c RX11 cX11_taken 6 (some .int)) (hK : kC D cs sK sV tA A s) (hA : ∀ q, s.heap.size ≤ q → A q)   (x1 : Int32) (hf : fc_hh_taken_b76 τ x1 = some r) : gg p l e ro_hh_taken s m args below meth c (wC ad cs) D vwCl A 6 (QI below args s (wC ad cs) D vwCl A r τ) 76 [(0, .ref (ad 16)), (1, .int x1)] [] τ := by
  unfold fc_hh_taken_b76 at hf
  refine gr_iconst (v := 0) X dX11_taken_76 (by decide) ?_
  refine gr_sub [0, 1] rfl ?_
  exact wc_hh_taken_b77 X hK hA _ _ hf
set_option maxHeartbeats 4000000 in
set_option maxRecDepth 100000 in
theorem wc_hh_taken_b44 {p : Program} {l : Launch} {e : Env} {s : State} {m : MethodId} {args : Array Value} {below : List Frame} {meth : Method} {c : Code} {A : Nat → Prop} {D : va_G} {cs : Nat → ClassId} {sK sV : Nat → Nat} {tA : Nat} {ad : Nat → Nat} {r : Int32} {τ : SC} (X : hc p s m args meth c RX11 cX11_taken 6 (some .int)) (hK : kC D cs sK sV tA A s) (hA : ∀ q, s.heap.size ≤ q → A q)   (x1 : Int32) (x2 : Int32) (x3 : Int32) (x4 : Int32) (hf : fc_hh_taken_b44 τ x1 x2 x3 x4 = some r) : gg p l e ro_hh_taken s m args below meth c (wC ad cs) D vwCl A 6 (QI below args s (wC ad cs) D vwCl A r τ) 44 [(0, .ref (ad 16)), (1, .int x1), (2, .int x2), (3, .int x3), (4, .int x4)] [] τ := by
  unfold fc_hh_taken_b44 at hf
  refine gr_aload_n X dX11_taken_44 rfl 0 rfl ?_
  refine gC_get_HH_13 X hK fk11_60 dX11_taken_45 ?_
  refine gr_iload_n X dX11_taken_48 rfl 1 rfl ?_
  have hi_ := oc_1 hf
  replace hf := oc_2 hf
  refine gC_ald_13 X hK (Int32.toNatClampNeg x1) hi_ rfl dX11_taken_49 ?_
  refine gr_iconst (v := 2) X dX11_taken_50 (by decide) ?_
  refine gr_icmp_ne X 82 dX11_taken_51 (by decide) (fun hc_ => ?_) (fun hc_ => ?_)
  · replace hf := ot_t hf hc_
    refine gr_aload_n X dX11_taken_82 rfl 0 rfl ?_
    refine gr_iload_n X dX11_taken_83 rfl 1 rfl ?_
    obtain ⟨q3, hq_, hf⟩ := ot_b hf
    refine gc_Vi (rest := []) X kC_ok hK hA cw11_340 (rvC_HH hK) (xc_hh_holdsGuild hq_) rfl ⟨rfl, rfl, Nat.le_of_ble_eq_true rfl, Nat.le_of_ble_eq_true rfl⟩ rfl (Nat.le_of_ble_eq_true rfl) dX11_taken_84 ?_
    refine gr_if_eq X 125 dX11_taken_87 (by decide) (fun hc_ => ?_) (fun hc_ => ?_)
    · replace hf := ot_t hf hc_
      refine gr_bipush (v := -11) X dX11_taken_125 (by decide) ?_
      exact gr_iret X dX11_taken_127 (Option.some.inj hf) rfl
    · replace hf := ot_f hf hc_
      refine gr_iload_n X dX11_taken_90 rfl 3 rfl ?_
      refine gr_if_eq X 119 dX11_taken_91 (by decide) (fun hc_ => ?_) (fun hc_ => ?_)
      · replace hf := ot_t hf hc_
        refine gr_sub [0, 1] rfl ?_
        exact wc_hh_taken_b119 X hK hA _ hf
      · replace hf := ot_f hf hc_
        refine gr_aload_n X dX11_taken_94 rfl 0 rfl ?_
        refine gC_get_HH_0 X hK fk11_10 dX11_taken_95 ?_
        refine gC_get_T0_14 X hK fk11_94 dX11_taken_98 ?_
        refine gr_aload_n X dX11_taken_101 rfl 0 rfl ?_
        refine gC_get_HH_15 X hK fk11_66 dX11_taken_102 ?_
        refine gr_iload_n X dX11_taken_105 rfl 1 rfl ?_
        have hi_ := oc_1 hf
        replace hf := oc_2 hf
        refine gC_ald_15 X hK (Int32.toNatClampNeg x1) hi_ rfl dX11_taken_106 ?_
        have hi_ := oc_1 hf
        replace hf := oc_2 hf
        refine gC_ald_114 X hK (Int32.toNatClampNeg (τ.1 15 (Int32.toNatClampNeg x1))) hi_ rfl dX11_taken_107 ?_
        refine gr_iload_n X dX11_taken_108 rfl 2 rfl ?_
        obtain ⟨q4, hq_, hf⟩ := ot_b hf
        refine gc_Si (rest := []) X kC_ok hK hA cw11_343 (xc_ru_isOrUnder hq_) rfl ⟨rfl, rfl, Nat.le_of_ble_eq_true rfl, Nat.le_of_ble_eq_true rfl⟩ rfl (Nat.le_of_ble_eq_true rfl) dX11_taken_109 ?_
        refine gr_if_eq X 119 dX11_taken_112 (by decide) (fun hc_ => ?_) (fun hc_ => ?_)
        · replace hf := ot_t hf hc_
          refine gr_sub [0, 1] rfl ?_
          exact wc_hh_taken_b119 X hK hA _ hf
        · replace hf := ot_f hf hc_
          refine gr_iconst (v := 1) X dX11_taken_115 (by decide) ?_
          refine gr_goto X 120 dX11_taken_116 (by decide) ?_
          refine gr_sub [0, 1] rfl ?_
          exact wc_hh_taken_b120 X hK hA _ _ hf
  · replace hf := ot_f hf hc_
    refine gr_iload X dX11_taken_54 4 rfl ?_
    refine gr_if_eq X 76 dX11_taken_56 (by decide) (fun hc_ => ?_) (fun hc_ => ?_)
    · replace hf := ot_t hf hc_
      refine gr_sub [0, 1] rfl ?_
      exact wc_hh_taken_b76 X hK hA _ hf
    · replace hf := ot_f hf hc_
      refine gr_aload_n X dX11_taken_59 rfl 0 rfl ?_
      refine gC_get_HH_14 X hK fk11_63 dX11_taken_60 ?_
      refine gr_iload_n X dX11_taken_63 rfl 1 rfl ?_
      have hi_ := oc_1 hf
      replace hf := oc_2 hf
      refine gC_ald_14 X hK (Int32.toNatClampNeg x1) hi_ rfl dX11_taken_64 ?_
      refine gr_iload_n X dX11_taken_65 rfl 2 rfl ?_
      refine gr_bipush (v := 10) X dX11_taken_66 (by decide) ?_
      refine gr_isub X dX11_taken_68 ?_
      refine gr_icmp_ne X 76 dX11_taken_69 (by decide) (fun hc_ => ?_) (fun hc_ => ?_)
      · replace hf := ot_t hf hc_
        refine gr_sub [0, 1] rfl ?_
        exact wc_hh_taken_b76 X hK hA _ hf
      · replace hf := ot_f hf hc_
        refine gr_iconst (v := 1) X dX11_taken_72 (by decide) ?_
        refine gr_goto X 77 dX11_taken_73 (by decide) ?_
        refine gr_sub [0, 1] rfl ?_
        exact wc_hh_taken_b77 X hK hA _ _ hf
set_option maxHeartbeats 4000000 in
set_option maxRecDepth 100000 in
theorem wc_hh_taken_b23 {p : Program} {l : Launch} {e : Env} {s : State} {m : MethodId} {args : Array Value} {below : List Frame} {meth : Method} {c : Code} {A : Nat → Prop} {D : va_G} {cs : Nat → ClassId} {sK sV : Nat → Nat} {tA : Nat} {ad : Nat → Nat} {r : Int32} {τ : SC} (X : hc p s m args meth c RX11 cX11_taken 6 (some .int)) (hK : kC D cs sK sV tA A s) (hA : ∀ q, s.heap.size ≤ q → A q)   (x1 : Int32) (x2 : Int32) (x3 : Int32) (y0 : Int32) (hf : fc_hh_taken_b23 τ x1 x2 x3 y0 = some r) : gg p l e ro_hh_taken s m args below meth c (wC ad cs) D vwCl A 6 (QI below args s (wC ad cs) D vwCl A r τ) 23 [(0, .ref (ad 16)), (1, .int x1), (2, .int x2), (3, .int x3)] [.int y0] τ := by
  unfold fc_hh_taken_b23 at hf
  refine gr_istore (L2 := [(4, .int y0), (0, .ref (ad 16)), (1, .int x1), (2, .int x2), (3, .int x3)]) X dX11_taken_23 (by decide) rfl ?_
  refine gr_iload_n X dX11_taken_25 rfl 2 rfl ?_
  refine gr_iconst (v := 3) X dX11_taken_26 (by decide) ?_
  obtain ⟨q2, hq_, hf⟩ := ot_b hf
  refine gc_Si (rest := []) X kC_ok hK hA cw11_79 (xc_hh_within hq_) rfl ⟨rfl, rfl, Nat.le_of_ble_eq_true rfl, Nat.le_of_ble_eq_true rfl⟩ rfl (Nat.le_of_ble_eq_true rfl) dX11_taken_27 ?_
  refine gr_if_eq X 42 dX11_taken_30 (by decide) (fun hc_ => ?_) (fun hc_ => ?_)
  · replace hf := ot_t hf hc_
    refine gr_iconst (v := -1) X dX11_taken_42 (by decide) ?_
    exact gr_iret X dX11_taken_43 (Option.some.inj hf) rfl
  · replace hf := ot_f hf hc_
    refine gr_iload_n X dX11_taken_33 rfl 4 rfl ?_
    refine gr_if_ne X 44 dX11_taken_34 (by decide) (fun hc_ => ?_) (fun hc_ => ?_)
    · replace hf := ot_t hf hc_
      refine gr_sub [1, 2, 3, 4, 0] rfl ?_
      exact wc_hh_taken_b44 X hK hA _ _ _ _ hf
    · replace hf := ot_f hf hc_
      refine gr_iload X dX11_taken_37 0 rfl ?_
      refine gr_if_ne X 44 dX11_taken_39 (by decide) (fun hc_ => ?_) (fun hc_ => ?_)
      · replace hf := ot_t hf hc_
        refine gr_sub [1, 2, 3, 4, 0] rfl ?_
        exact wc_hh_taken_b44 X hK hA _ _ _ _ hf
      · replace hf := ot_f hf hc_
        refine gr_iconst (v := -1) X dX11_taken_42 (by decide) ?_
        exact gr_iret X dX11_taken_43 (Option.some.inj hf) rfl
set_option maxHeartbeats 4000000 in
set_option maxRecDepth 100000 in
theorem wc_hh_taken_b22 {p : Program} {l : Launch} {e : Env} {s : State} {m : MethodId} {args : Array Value} {below : List Frame} {meth : Method} {c : Code} {A : Nat → Prop} {D : va_G} {cs : Nat → ClassId} {sK sV : Nat → Nat} {tA : Nat} {ad : Nat → Nat} {r : Int32} {τ : SC} (X : hc p s m args meth c RX11 cX11_taken 6 (some .int)) (hK : kC D cs sK sV tA A s) (hA : ∀ q, s.heap.size ≤ q → A q)   (x1 : Int32) (x2 : Int32) (x3 : Int32) (hf : fc_hh_taken_b22 τ x1 x2 x3 = some r) : gg p l e ro_hh_taken s m args below meth c (wC ad cs) D vwCl A 6 (QI below args s (wC ad cs) D vwCl A r τ) 22 [(0, .ref (ad 16)), (1, .int x1), (2, .int x2), (3, .int x3)] [] τ := by
  unfold fc_hh_taken_b22 at hf
  refine gr_iconst (v := 0) X dX11_taken_22 (by decide) ?_
  refine gr_sub [0, 1, 2, 3] rfl ?_
  exact wc_hh_taken_b23 X hK hA _ _ _ _ hf
set_option maxHeartbeats 4000000 in
set_option maxRecDepth 100000 in
theorem xc_hh_taken {l : Launch} {D : va_G} {cs : Nat → ClassId} {sK sV : Nat → Nat} {tA : Nat} {ad : Nat → Nat} {τ : SC} {x1 : Int32} {x2 : Int32} {r : Int32} (hf : fc_hh_taken τ x1 x2 = some r) : ctI l (wC ad cs) D vwCl (kC D cs sK sV tA) yX11_taken cX11_taken 6 .int ro_hh_taken [.ref (ad 16), .int x1, .int x2] τ r τ := by
  refine ct_I RX11 (by decide +kernel) rfl (Nat.le_of_ble_eq_true rfl) ?_
  intro p e s m args below meth c A X hK hA
  refine gr_eqL (L2 := [(0, .ref (ad 16)), (1, .int x1), (2, .int x2)]) rfl ?_
  unfold fc_hh_taken at hf
  refine gr_iload_n X dX11_taken_0 rfl 2 rfl ?_
  refine gr_iconst (v := 5) X dX11_taken_1 (by decide) ?_
  obtain ⟨q1, hq_, hf⟩ := ot_b hf
  refine gc_Si (rest := []) X kC_ok hK hA cw11_79 (xc_hh_within hq_) rfl ⟨rfl, rfl, Nat.le_of_ble_eq_true rfl, Nat.le_of_ble_eq_true rfl⟩ rfl (Nat.le_of_ble_eq_true rfl) dX11_taken_2 ?_
  refine gr_istore_n (L2 := [(3, .int q1), (0, .ref (ad 16)), (1, .int x1), (2, .int x2)]) X dX11_taken_5 rfl (by decide) rfl ?_
  refine gr_iload_n X dX11_taken_6 rfl 3 rfl ?_
  refine gr_bipush (v := 10) X dX11_taken_7 (by decide) ?_
  refine gr_icmp_lt X 22 dX11_taken_9 (by decide) (fun hc_ => ?_) (fun hc_ => ?_)
  · replace hf := ot_t hf hc_
    refine gr_sub [1, 2, 3, 0] rfl ?_
    exact wc_hh_taken_b22 X hK hA _ _ _ hf
  · replace hf := ot_f hf hc_
    refine gr_iload_n X dX11_taken_12 rfl 3 rfl ?_
    refine gr_bipush (v := 15) X dX11_taken_13 (by decide) ?_
    refine gr_icmp_ge X 22 dX11_taken_15 (by decide) (fun hc_ => ?_) (fun hc_ => ?_)
    · replace hf := ot_t hf hc_
      refine gr_sub [1, 2, 3, 0] rfl ?_
      exact wc_hh_taken_b22 X hK hA _ _ _ hf
    · replace hf := ot_f hf hc_
      refine gr_iconst (v := 1) X dX11_taken_18 (by decide) ?_
      refine gr_goto X 23 dX11_taken_19 (by decide) ?_
      refine gr_sub [1, 2, 3, 0] rfl ?_
      exact wc_hh_taken_b23 X hK hA _ _ _ _ hf
