abbrev ro_hh_play : Room := { frames := 57, cells := 0, slots := 0, locals := 1365 }
def fc_hh_play (x1 : Int32) (τ : SC) : Option (Int32 × SC) := (if x1 < (1 : Int32) then (some ((-1 : Int32), τ)) else (if x1 ≤ (4 : Int32) then (Option.bind (fc_to_isOver τ) fun q1 => (if q1 = 0 then (Option.bind (fc_to_hoursOf τ x1) fun q2 => (Option.bind (fc_pl_gameValueD 8 q2 (1 : Int32) τ) fun p_ => hl p_.1 fun q3 => hl p_.2 fun τ4 => (oc (hin q2 5) (oc (decide ((Int32.toNatClampNeg q2) < 5)) (some ((τ4.1 (410 + (Int32.toNatClampNeg q2)) 0), τ4)))))) else (some ((-3 : Int32), τ)))) else (some ((-1 : Int32), τ))))
set_option maxHeartbeats 4000000 in
set_option maxRecDepth 100000 in
theorem xc_hh_play {l : Launch} {D : va_G} {cs : Nat → ClassId} {sK sV : Nat → Nat} {tA : Nat} {ad : Nat → Nat} {τ : SC} {x1 : Int32} {r : Int32} {υ : SC} (hf : fc_hh_play x1 τ = some (r, υ)) : ctI l (wC ad cs) D vwCl (kC D cs sK sV tA) yX11_play cX11_play 3 .int ro_hh_play [.ref (ad 16), .int x1] τ r υ := by
  refine ct_I RX11 (by decide +kernel) rfl (Nat.le_of_ble_eq_true rfl) ?_
  intro p e s m args below meth c A X hK hA
  refine gr_eqL (L2 := [(0, .ref (ad 16)), (1, .int x1)]) rfl ?_
  unfold fc_hh_play at hf
  refine gr_iload_n X dX11_play_0 rfl 1 rfl ?_
  refine gr_iconst (v := 1) X dX11_play_1 (by decide) ?_
  refine gr_icmp_lt X 10 dX11_play_2 (by decide) (fun hc_ => ?_) (fun hc_ => ?_)
  · replace hf := ot_t hf hc_
    refine gr_iconst (v := -1) X dX11_play_10 (by decide) ?_
    exact gr_iret X dX11_play_11 (Prod.mk.inj (Option.some.inj hf)).1 (Prod.mk.inj (Option.some.inj hf)).2
  · replace hf := ot_f hf hc_
    refine gr_iload_n X dX11_play_5 rfl 1 rfl ?_
    refine gr_iconst (v := 4) X dX11_play_6 (by decide) ?_
    refine gr_icmp_le X 12 dX11_play_7 (by decide) (fun hc_ => ?_) (fun hc_ => ?_)
    · replace hf := ot_t hf hc_
      refine gr_aload_n X dX11_play_12 rfl 0 rfl ?_
      refine gC_get_HH_0 X hK fk11_10 dX11_play_13 ?_
      obtain ⟨q1, hq_, hf⟩ := ot_b hf
      refine gc_Vi (rest := []) X kC_ok hK hA cw11_170 (rvC_T0 hK) (xc_to_isOver hq_) rfl ⟨rfl, rfl, Nat.le_of_ble_eq_true rfl, Nat.le_of_ble_eq_true rfl⟩ rfl (Nat.le_of_ble_eq_true rfl) dX11_play_16 ?_
      refine gr_if_eq X 25 dX11_play_19 (by decide) (fun hc_ => ?_) (fun hc_ => ?_)
      · replace hf := ot_t hf hc_
        refine gr_aload_n X dX11_play_25 rfl 0 rfl ?_
        refine gC_get_HH_0 X hK fk11_10 dX11_play_26 ?_
        refine gr_iload_n X dX11_play_29 rfl 1 rfl ?_
        obtain ⟨q2, hq_, hf⟩ := ot_b hf
        refine gc_Vi (rest := []) X kC_ok hK hA cw11_212 (rvC_T0 hK) (xc_to_hoursOf hq_) rfl ⟨rfl, rfl, Nat.le_of_ble_eq_true rfl, Nat.le_of_ble_eq_true rfl⟩ rfl (Nat.le_of_ble_eq_true rfl) dX11_play_30 ?_
        refine gr_istore_n (L2 := [(2, .int q2), (0, .ref (ad 16)), (1, .int x1)]) X dX11_play_33 rfl (by decide) rfl ?_
        refine gr_aload_n X dX11_play_34 rfl 1 rfl ?_
        refine gC_get_HH_3 X hK fk11_24 dX11_play_35 ?_
        refine gr_iload_n X dX11_play_38 rfl 0 rfl ?_
        refine gr_iconst (v := 1) X dX11_play_39 (by decide) ?_
        obtain ⟨⟨q3, τ4⟩, hq_, hf⟩ := ot_b hf
        replace hf := ot_l (y := q3) hf rfl
        replace hf := ot_l (y := τ4) hf rfl
        refine gc_Vi (rest := []) X kC_ok hK hA cw11_272 (rvC_PL hK) (xc_pl_gameValueA 8 _ _ _ _ _ hq_) rfl ⟨rfl, rfl, Nat.le_of_ble_eq_true rfl, Nat.le_of_ble_eq_true rfl⟩ rfl (Nat.le_of_ble_eq_true rfl) dX11_play_40 ?_
        refine gr_pop X dX11_play_43 rfl ?_
        refine gr_aload_n X dX11_play_44 rfl 1 rfl ?_
        refine gC_get_HH_3 X hK fk11_24 dX11_play_45 ?_
        refine gC_get_PL_2 X hK fk11_254 dX11_play_48 ?_
        refine gr_iload_n X dX11_play_51 rfl 0 rfl ?_
        have hi_ := oc_1 hf
        replace hf := oc_2 hf
        refine gC_aald_Q X hK (Int32.toNatClampNeg q2) hi_ rfl dX11_play_52 ?_
        refine gr_iconst (v := 0) X dX11_play_53 (by decide) ?_
        have hq_ := oc_1 hf
        replace hf := oc_2 hf
        refine gC_ald_Q X hK hq_ 0 (by decide) (by decide) dX11_play_54 ?_
        exact gr_iret X dX11_play_55 (Prod.mk.inj (Option.some.inj hf)).1 (Prod.mk.inj (Option.some.inj hf)).2
      · replace hf := ot_f hf hc_
        refine gr_bipush (v := -3) X dX11_play_22 (by decide) ?_
        exact gr_iret X dX11_play_24 (Prod.mk.inj (Option.some.inj hf)).1 (Prod.mk.inj (Option.some.inj hf)).2
    · replace hf := ot_f hf hc_
      refine gr_iconst (v := -1) X dX11_play_10 (by decide) ?_
      exact gr_iret X dX11_play_11 (Prod.mk.inj (Option.some.inj hf)).1 (Prod.mk.inj (Option.some.inj hf)).2
abbrev ro_to_noteReport : Room := { frames := 0, cells := 0, slots := 0, locals := 0 }
def fc_to_noteReport (x1 : Int32) (x2 : Int32) (x3 : Int32) (x4 : Int32) (τ : SC) : Option (Int32 × SC) := (hl ((τ.1 118 0) * (4 : Int32)) fun v1 => (oc (hin v1 24) (hl (sc τ 119 (upd (τ.1 119) (Int32.toNatClampNeg v1) x1)) fun τ2 => (oc (hin (v1 + (1 : Int32)) 24) (hl (sc τ2 119 (upd (τ2.1 119) (Int32.toNatClampNeg (v1 + (1 : Int32))) x2)) fun τ3 => (oc (hin (v1 + (2 : Int32)) 24) (hl (sc τ3 119 (upd (τ3.1 119) (Int32.toNatClampNeg (v1 + (2 : Int32))) x3)) fun τ4 => (oc (hin (v1 + (3 : Int32)) 24) (hl (sc τ4 119 (upd (τ4.1 119) (Int32.toNatClampNeg (v1 + (3 : Int32))) x4)) fun τ5 => (hl (sc τ5 118 (fun _ => ((τ5.1 118 0) + (1 : Int32)))) fun τ6 => (some (((τ6.1 118 0) - (1 : Int32)), τ6))))))))))))
set_option maxHeartbeats 4000000 in
set_option maxRecDepth 100000 in
theorem xc_to_noteReport {l : Launch} {D : va_G} {cs : Nat → ClassId} {sK sV : Nat → Nat} {tA : Nat} {ad : Nat → Nat} {τ : SC} {x1 : Int32} {x2 : Int32} {x3 : Int32} {x4 : Int32} {r : Int32} {υ : SC} (hf : fc_to_noteReport x1 x2 x3 x4 τ = some (r, υ)) : ctI l (wC ad cs) D vwCl (kC D cs sK sV tA) yX9_noteReport cX9_noteReport 6 .int ro_to_noteReport [.ref (ad 130), .int x1, .int x2, .int x3, .int x4] τ r υ := by
  refine ct_I RX9 (by decide +kernel) rfl (Nat.le_of_ble_eq_true rfl) ?_
  intro p e s m args below meth c A X hK hA
  refine gr_eqL (L2 := [(0, .ref (ad 130)), (1, .int x1), (2, .int x2), (3, .int x3), (4, .int x4)]) rfl ?_
  unfold fc_to_noteReport at hf
  refine gr_aload_n X dX9_noteReport_0 rfl 0 rfl ?_
  refine gC_get_T0_18 X hK fk9_99 dX9_noteReport_1 ?_
  refine gr_iconst (v := 4) X dX9_noteReport_4 (by decide) ?_
  refine gr_imul X dX9_noteReport_5 ?_
  refine gC_top (fun v1 e_v1 => ?_)
  replace hf := ot_l hf e_v1
  refine gr_istore (L2 := [(5, .int v1), (0, .ref (ad 130)), (1, .int x1), (2, .int x2), (3, .int x3), (4, .int x4)]) X dX9_noteReport_6 (by decide) rfl ?_
  refine gr_aload_n X dX9_noteReport_8 rfl 1 rfl ?_
  refine gC_get_T0_19 X hK fk9_72 dX9_noteReport_9 ?_
  refine gr_iload X dX9_noteReport_12 0 rfl ?_
  refine gr_iload_n X dX9_noteReport_14 rfl 2 rfl ?_
  have hi_ := oc_1 hf
  replace hf := oc_2 hf
  refine gC_ast_119 X hK (Int32.toNatClampNeg v1) hi_ rfl dX9_noteReport_15 ?_
  refine gC_gen (fun τ2 e_τ2 => ?_)
  replace hf := ot_l hf e_τ2
  refine gr_aload_n X dX9_noteReport_16 rfl 1 rfl ?_
  refine gC_get_T0_19 X hK fk9_72 dX9_noteReport_17 ?_
  refine gr_iload X dX9_noteReport_20 0 rfl ?_
  refine gr_iconst (v := 1) X dX9_noteReport_22 (by decide) ?_
  refine gr_iadd X dX9_noteReport_23 ?_
  refine gr_iload_n X dX9_noteReport_24 rfl 3 rfl ?_
  have hi_ := oc_1 hf
  replace hf := oc_2 hf
  refine gC_ast_119 X hK (Int32.toNatClampNeg (v1 + (1 : Int32))) hi_ rfl dX9_noteReport_25 ?_
  refine gC_gen (fun τ3 e_τ3 => ?_)
  replace hf := ot_l hf e_τ3
  refine gr_aload_n X dX9_noteReport_26 rfl 1 rfl ?_
  refine gC_get_T0_19 X hK fk9_72 dX9_noteReport_27 ?_
  refine gr_iload X dX9_noteReport_30 0 rfl ?_
  refine gr_iconst (v := 2) X dX9_noteReport_32 (by decide) ?_
  refine gr_iadd X dX9_noteReport_33 ?_
  refine gr_iload_n X dX9_noteReport_34 rfl 4 rfl ?_
  have hi_ := oc_1 hf
  replace hf := oc_2 hf
  refine gC_ast_119 X hK (Int32.toNatClampNeg (v1 + (2 : Int32))) hi_ rfl dX9_noteReport_35 ?_
  refine gC_gen (fun τ4 e_τ4 => ?_)
  replace hf := ot_l hf e_τ4
  refine gr_aload_n X dX9_noteReport_36 rfl 1 rfl ?_
  refine gC_get_T0_19 X hK fk9_72 dX9_noteReport_37 ?_
  refine gr_iload X dX9_noteReport_40 0 rfl ?_
  refine gr_iconst (v := 3) X dX9_noteReport_42 (by decide) ?_
  refine gr_iadd X dX9_noteReport_43 ?_
  refine gr_iload X dX9_noteReport_44 5 rfl ?_
  have hi_ := oc_1 hf
  replace hf := oc_2 hf
  refine gC_ast_119 X hK (Int32.toNatClampNeg (v1 + (3 : Int32))) hi_ rfl dX9_noteReport_46 ?_
  refine gC_gen (fun τ5 e_τ5 => ?_)
  replace hf := ot_l hf e_τ5
  refine gr_aload_n X dX9_noteReport_47 rfl 1 rfl ?_
  refine gr_dup X dX9_noteReport_48 rfl ?_
  refine gC_get_T0_18 X hK fk9_99 dX9_noteReport_49 ?_
  refine gr_iconst (v := 1) X dX9_noteReport_52 (by decide) ?_
  refine gr_iadd X dX9_noteReport_53 ?_
  refine gC_put_T0_18 X hK fk9_99 dX9_noteReport_54 ?_
  refine gC_gen (fun τ6 e_τ6 => ?_)
  replace hf := ot_l hf e_τ6
  refine gr_aload_n X dX9_noteReport_57 rfl 1 rfl ?_
  refine gC_get_T0_18 X hK fk9_99 dX9_noteReport_58 ?_
  refine gr_iconst (v := 1) X dX9_noteReport_61 (by decide) ?_
  refine gr_isub X dX9_noteReport_62 ?_
  exact gr_iret X dX9_noteReport_63 (Prod.mk.inj (Option.some.inj hf)).1 (Prod.mk.inj (Option.some.inj hf)).2
abbrev ro_hh_report : Room := { frames := 1, cells := 0, slots := 0, locals := 25 }
def fc_hh_report_b42 (x1 : Int32) (x2 : Int32) (x3 : Int32) (x4 : Int32) (y0 : Int32) (y1 : Int32) (τ : SC) : Option (Int32 × SC) := (if y1 ≤ y0 then (if (τ.1 118 0) < (6 : Int32) then (Option.bind (fc_to_noteReport x1 x2 x3 x4 τ) fun p_ => hl p_.1 fun q3 => hl p_.2 fun τ4 => (some (q3, τ4))) else (some ((-2 : Int32), τ))) else (some ((-1 : Int32), τ)))
def fc_hh_report (x1 : Int32) (x2 : Int32) (x3 : Int32) (x4 : Int32) (τ : SC) : Option (Int32 × SC) := (Option.bind (fc_hh_within x1 (15 : Int32)) fun q1 => (if q1 = 0 then (some ((-1 : Int32), τ)) else (Option.bind (fc_hh_within x2 (1 : Int32)) fun q2 => (if q2 = 0 then (some ((-1 : Int32), τ)) else (if x3 < 0 then (some ((-1 : Int32), τ)) else (if x3 ≤ x4 then (if ¬ x2 = 0 then (fc_hh_report_b42 x1 x2 x3 x4 (9 : Int32) x4 τ) else (fc_hh_report_b42 x1 x2 x3 x4 (99 : Int32) x4 τ)) else (some ((-1 : Int32), τ))))))))
set_option maxHeartbeats 4000000 in
set_option maxRecDepth 100000 in
theorem wc_hh_report_b42 {p : Program} {l : Launch} {e : Env} {s : State} {m : MethodId} {args : Array Value} {below : List Frame} {meth : Method} {c : Code} {A : Nat → Prop} {D : va_G} {cs : Nat → ClassId} {sK sV : Nat → Nat} {tA : Nat} {ad : Nat → Nat} {r : Int32} {υ : SC} (X : hc p s m args meth c RX11 cX11_report 5 (some .int)) (hK : kC D cs sK sV tA A s) (hA : ∀ q, s.heap.size ≤ q → A q)   (x1 : Int32) (x2 : Int32) (x3 : Int32) (x4 : Int32) (y0 : Int32) (y1 : Int32) (τ : SC) (hf : fc_hh_report_b42 x1 x2 x3 x4 y0 y1 τ = some (r, υ)) : gg p l e ro_hh_report s m args below meth c (wC ad cs) D vwCl A 5 (QI below args s (wC ad cs) D vwCl A r υ) 42 [(0, .ref (ad 16)), (1, .int x1), (2, .int x2), (3, .int x3), (4, .int x4)] [.int y0, .int y1] τ := by
  unfold fc_hh_report_b42 at hf
  refine gr_icmp_le X 47 dX11_report_42 (by decide) (fun hc_ => ?_) (fun hc_ => ?_)
  · replace hf := ot_t hf hc_
    refine gr_aload_n X dX11_report_47 rfl 0 rfl ?_
    refine gC_get_HH_0 X hK fk11_10 dX11_report_48 ?_
    refine gC_get_T0_18 X hK fk11_276 dX11_report_51 ?_
    refine gr_bipush (v := 6) X dX11_report_54 (by decide) ?_
    refine gr_icmp_lt X 62 dX11_report_56 (by decide) (fun hc_ => ?_) (fun hc_ => ?_)
    · replace hf := ot_t hf hc_
      refine gr_aload_n X dX11_report_62 rfl 0 rfl ?_
      refine gC_get_HH_0 X hK fk11_10 dX11_report_63 ?_
      refine gr_iload_n X dX11_report_66 rfl 1 rfl ?_
      refine gr_iload_n X dX11_report_67 rfl 2 rfl ?_
      refine gr_iload_n X dX11_report_68 rfl 3 rfl ?_
      refine gr_iload X dX11_report_69 4 rfl ?_
      obtain ⟨⟨q3, τ4⟩, hq_, hf⟩ := ot_b hf
      replace hf := ot_l (y := q3) hf rfl
      replace hf := ot_l (y := τ4) hf rfl
      refine gc_Vi (rest := []) X kC_ok hK hA cw11_279 (rvC_T0 hK) (xc_to_noteReport hq_) rfl ⟨rfl, rfl, Nat.le_of_ble_eq_true rfl, Nat.le_of_ble_eq_true rfl⟩ rfl (Nat.le_of_ble_eq_true rfl) dX11_report_71 ?_
      exact gr_iret X dX11_report_74 (Prod.mk.inj (Option.some.inj hf)).1 (Prod.mk.inj (Option.some.inj hf)).2
    · replace hf := ot_f hf hc_
      refine gr_bipush (v := -2) X dX11_report_59 (by decide) ?_
      exact gr_iret X dX11_report_61 (Prod.mk.inj (Option.some.inj hf)).1 (Prod.mk.inj (Option.some.inj hf)).2
  · replace hf := ot_f hf hc_
    refine gr_iconst (v := -1) X dX11_report_45 (by decide) ?_
    exact gr_iret X dX11_report_46 (Prod.mk.inj (Option.some.inj hf)).1 (Prod.mk.inj (Option.some.inj hf)).2
set_option maxHeartbeats 4000000 in
set_option maxRecDepth 100000 in
theorem xc_hh_report {l : Launch} {D : va_G} {cs : Nat → ClassId} {sK sV : Nat → Nat} {tA : Nat} {ad : Nat → Nat} {τ : SC} {x1 : Int32} {x2 : Int32} {x3 : Int32} {x4 : Int32} {r : Int32} {υ : SC} (hf : fc_hh_report x1 x2 x3 x4 τ = some (r, υ)) : ctI l (wC ad cs) D vwCl (kC D cs sK sV tA) yX11_report cX11_report 5 .int ro_hh_report [.ref (ad 16), .int x1, .int x2, .int x3, .int x4] τ r υ := by
  refine ct_I RX11 (by decide +kernel) rfl (Nat.le_of_ble_eq_true rfl) ?_
  intro p e s m args below meth c A X hK hA
  refine gr_eqL (L2 := [(0, .ref (ad 16)), (1, .int x1), (2, .int x2), (3, .int x3), (4, .int x4)]) rfl ?_
  unfold fc_hh_report at hf
  refine gr_iload_n X dX11_report_0 rfl 1 rfl ?_
  refine gr_bipush (v := 15) X dX11_report_1 (by decide) ?_
  obtain ⟨q1, hq_, hf⟩ := ot_b hf
  refine gc_Si (rest := []) X kC_ok hK hA cw11_79 (xc_hh_within hq_) rfl ⟨rfl, rfl, Nat.le_of_ble_eq_true rfl, Nat.le_of_ble_eq_true rfl⟩ rfl (Nat.le_of_ble_eq_true rfl) dX11_report_3 ?_
  refine gr_if_eq X 27 dX11_report_6 (by decide) (fun hc_ => ?_) (fun hc_ => ?_)
  · replace hf := ot_t hf hc_
    refine gr_iconst (v := -1) X dX11_report_27 (by decide) ?_
    exact gr_iret X dX11_report_28 (Prod.mk.inj (Option.some.inj hf)).1 (Prod.mk.inj (Option.some.inj hf)).2
  · replace hf := ot_f hf hc_
    refine gr_iload_n X dX11_report_9 rfl 2 rfl ?_
    refine gr_iconst (v := 1) X dX11_report_10 (by decide) ?_
    obtain ⟨q2, hq_, hf⟩ := ot_b hf
    refine gc_Si (rest := []) X kC_ok hK hA cw11_79 (xc_hh_within hq_) rfl ⟨rfl, rfl, Nat.le_of_ble_eq_true rfl, Nat.le_of_ble_eq_true rfl⟩ rfl (Nat.le_of_ble_eq_true rfl) dX11_report_11 ?_
    refine gr_if_eq X 27 dX11_report_14 (by decide) (fun hc_ => ?_) (fun hc_ => ?_)
    · replace hf := ot_t hf hc_
      refine gr_iconst (v := -1) X dX11_report_27 (by decide) ?_
      exact gr_iret X dX11_report_28 (Prod.mk.inj (Option.some.inj hf)).1 (Prod.mk.inj (Option.some.inj hf)).2
    · replace hf := ot_f hf hc_
      refine gr_iload_n X dX11_report_17 rfl 3 rfl ?_
      refine gr_if_lt X 27 dX11_report_18 (by decide) (fun hc_ => ?_) (fun hc_ => ?_)
      · replace hf := ot_t hf hc_
        refine gr_iconst (v := -1) X dX11_report_27 (by decide) ?_
        exact gr_iret X dX11_report_28 (Prod.mk.inj (Option.some.inj hf)).1 (Prod.mk.inj (Option.some.inj hf)).2
      · replace hf := ot_f hf hc_
        refine gr_iload X dX11_report_21 4 rfl ?_
        refine gr_iload_n X dX11_report_23 rfl 3 rfl ?_
        refine gr_icmp_ge X 29 dX11_report_24 (by decide) (fun hc_ => ?_) (fun hc_ => ?_)
        · replace hf := ot_t hf hc_
          refine gr_iload X dX11_report_29 4 rfl ?_
          refine gr_iload_n X dX11_report_31 rfl 2 rfl ?_
          refine gr_if_ne X 40 dX11_report_32 (by decide) (fun hc_ => ?_) (fun hc_ => ?_)
          · replace hf := ot_t hf hc_
            refine gr_bipush (v := 9) X dX11_report_40 (by decide) ?_
            refine gr_sub [0, 1, 2, 3, 4] rfl ?_
            exact wc_hh_report_b42 X hK hA _ _ _ _ _ _ _ hf
          · replace hf := ot_f hf hc_
            refine gr_bipush (v := 99) X dX11_report_35 (by decide) ?_
            refine gr_goto X 42 dX11_report_37 (by decide) ?_
            refine gr_sub [0, 1, 2, 3, 4] rfl ?_
            exact wc_hh_report_b42 X hK hA _ _ _ _ _ _ _ hf
        · replace hf := ot_f hf hc_
          refine gr_iconst (v := -1) X dX11_report_27 (by decide) ?_
          exact gr_iret X dX11_report_28 (Prod.mk.inj (Option.some.inj hf)).1 (Prod.mk.inj (Option.some.inj hf)).2
abbrev ro_hh_forget : Room := { frames := 0, cells := 0, slots := 0, locals := 0 }
def fc_hh_forget (τ : SC) : Option (Int32 × SC) := (hl (τ.1 118 0) fun v1 => (hl (sc τ 118 (fun _ => (0 : Int32))) fun τ2 => (some (v1, τ2))))
set_option maxHeartbeats 4000000 in
set_option maxRecDepth 100000 in
theorem xc_hh_forget {l : Launch} {D : va_G} {cs : Nat → ClassId} {sK sV : Nat → Nat} {tA : Nat} {ad : Nat → Nat} {τ : SC} {r : Int32} {υ : SC} (hf : fc_hh_forget τ = some (r, υ)) : ctI l (wC ad cs) D vwCl (kC D cs sK sV tA) yX11_forget cX11_forget 2 .int ro_hh_forget [.ref (ad 16)] τ r υ := by
  refine ct_I RX11 (by decide +kernel) rfl (Nat.le_of_ble_eq_true rfl) ?_
  intro p e s m args below meth c A X hK hA
  refine gr_eqL (L2 := [(0, .ref (ad 16))]) rfl ?_
  unfold fc_hh_forget at hf
  refine gr_aload_n X dX11_forget_0 rfl 0 rfl ?_
  refine gC_get_HH_0 X hK fk11_10 dX11_forget_1 ?_
  refine gC_get_T0_18 X hK fk11_276 dX11_forget_4 ?_
  refine gC_top (fun v1 e_v1 => ?_)
  replace hf := ot_l hf e_v1
  refine gr_istore_n (L2 := [(1, .int v1), (0, .ref (ad 16))]) X dX11_forget_7 rfl (by decide) rfl ?_
  refine gr_aload_n X dX11_forget_8 rfl 1 rfl ?_
  refine gC_get_HH_0 X hK fk11_10 dX11_forget_9 ?_
  refine gr_iconst (v := 0) X dX11_forget_12 (by decide) ?_
  refine gC_put_T0_18 X hK fk11_276 dX11_forget_13 ?_
  refine gC_gen (fun τ2 e_τ2 => ?_)
  replace hf := ot_l hf e_τ2
  refine gr_iload_n X dX11_forget_16 rfl 0 rfl ?_
  exact gr_iret X dX11_forget_17 (Prod.mk.inj (Option.some.inj hf)).1 (Prod.mk.inj (Option.some.inj hf)).2
abbrev ro_hh_kindOfStranger : Room := { frames := 0, cells := 0, slots := 0, locals := 0 }
def fc_hh_kindOfStranger (x0 : Int32) : Option Int32 := (some ((1 : Int32) + (x0 / (100 : Int32))))
set_option maxHeartbeats 4000000 in
set_option maxRecDepth 100000 in
theorem xc_hh_kindOfStranger {l : Launch} {D : va_G} {cs : Nat → ClassId} {sK sV : Nat → Nat} {tA : Nat} {ad : Nat → Nat} {τ : SC} {x0 : Int32} {r : Int32} (hf : fc_hh_kindOfStranger x0 = some r) : ctI l (wC ad cs) D vwCl (kC D cs sK sV tA) yX11_kindOfStranger cX11_kindOfStranger 1 .int ro_hh_kindOfStranger [.int x0] τ r τ := by
  refine ct_I RX11 (by decide +kernel) rfl (Nat.le_of_ble_eq_true rfl) ?_
  intro p e s m args below meth c A X hK hA
  refine gr_eqL (L2 := [(0, .int x0)]) rfl ?_
  unfold fc_hh_kindOfStranger at hf
  refine gr_iconst (v := 1) X dX11_kindOfStranger_0 (by decide) ?_
  refine gr_iload_n X dX11_kindOfStranger_1 rfl 0 rfl ?_
  refine gr_bipush (v := 100) X dX11_kindOfStranger_2 (by decide) ?_
  refine gr_idiv X dX11_kindOfStranger_4 (by decide) ?_
  refine gr_iadd X dX11_kindOfStranger_5 ?_
  exact gr_iret X dX11_kindOfStranger_6 (Option.some.inj hf) rfl
abbrev ro_hh_giftOfStranger : Room := { frames := 0, cells := 0, slots := 0, locals := 0 }
def fc_hh_giftOfStranger (x0 : Int32) : Option Int32 := (some (hrem (x0 / (10 : Int32)) (10 : Int32)))
set_option maxHeartbeats 4000000 in
set_option maxRecDepth 100000 in
theorem xc_hh_giftOfStranger {l : Launch} {D : va_G} {cs : Nat → ClassId} {sK sV : Nat → Nat} {tA : Nat} {ad : Nat → Nat} {τ : SC} {x0 : Int32} {r : Int32} (hf : fc_hh_giftOfStranger x0 = some r) : ctI l (wC ad cs) D vwCl (kC D cs sK sV tA) yX11_giftOfStranger cX11_giftOfStranger 1 .int ro_hh_giftOfStranger [.int x0] τ r τ := by
  refine ct_I RX11 (by decide +kernel) rfl (Nat.le_of_ble_eq_true rfl) ?_
  intro p e s m args below meth c A X hK hA
  refine gr_eqL (L2 := [(0, .int x0)]) rfl ?_
  unfold fc_hh_giftOfStranger at hf
  refine gr_iload_n X dX11_giftOfStranger_0 rfl 0 rfl ?_
  refine gr_bipush (v := 10) X dX11_giftOfStranger_1 (by decide) ?_
  refine gr_idiv X dX11_giftOfStranger_3 (by decide) ?_
  refine gr_bipush (v := 10) X dX11_giftOfStranger_4 (by decide) ?_
  refine gr_irem X dX11_giftOfStranger_6 (by decide) ?_
  exact gr_iret X dX11_giftOfStranger_7 (Option.some.inj hf) rfl
abbrev ro_hh_moodOfStranger : Room := { frames := 0, cells := 0, slots := 0, locals := 0 }
def fc_hh_moodOfStranger (x0 : Int32) : Option Int32 := (some (hrem x0 (10 : Int32)))
set_option maxHeartbeats 4000000 in
set_option maxRecDepth 100000 in
theorem xc_hh_moodOfStranger {l : Launch} {D : va_G} {cs : Nat → ClassId} {sK sV : Nat → Nat} {tA : Nat} {ad : Nat → Nat} {τ : SC} {x0 : Int32} {r : Int32} (hf : fc_hh_moodOfStranger x0 = some r) : ctI l (wC ad cs) D vwCl (kC D cs sK sV tA) yX11_moodOfStranger cX11_moodOfStranger 1 .int ro_hh_moodOfStranger [.int x0] τ r τ := by
  refine ct_I RX11 (by decide +kernel) rfl (Nat.le_of_ble_eq_true rfl) ?_
  intro p e s m args below meth c A X hK hA
  refine gr_eqL (L2 := [(0, .int x0)]) rfl ?_
  unfold fc_hh_moodOfStranger at hf
  refine gr_iload_n X dX11_moodOfStranger_0 rfl 0 rfl ?_
  refine gr_bipush (v := 10) X dX11_moodOfStranger_1 (by decide) ?_
  refine gr_irem X dX11_moodOfStranger_3 (by decide) ?_
  exact gr_iret X dX11_moodOfStranger_4 (Option.some.inj hf) rfl
abbrev ro_to_lastHourReported : Room := { frames := 1, cells := 0, slots := 0, locals := 24 }
def fc_to_lastHourReported_l4 (τ : SC) : Nat → Int32 → Int32 → Option Int32
  | 0, _, _ => none
  | n + 1, x1, x2 => (if (τ.1 118 0) ≤ x2 then (some x1) else (oc (hin (x2 * (4 : Int32)) 24) (hl (hmax x1 (τ.1 119 (Int32.toNatClampNeg (x2 * (4 : Int32))))) fun v1 => ((fc_to_lastHourReported_l4 τ n) v1 (x2 + (1 : Int32))))))
def fc_to_lastHourReported (τ : SC) : Option Int32 := (fc_to_lastHourReported_l4 τ hFU (0 : Int32) (0 : Int32))
set_option maxHeartbeats 4000000 in
set_option maxRecDepth 100000 in
theorem wc_to_lastHourReported_l4 {p : Program} {l : Launch} {e : Env} {s : State} {m : MethodId} {args : Array Value} {below : List Frame} {meth : Method} {c : Code} {A : Nat → Prop} {D : va_G} {cs : Nat → ClassId} {sK sV : Nat → Nat} {tA : Nat} {ad : Nat → Nat} {r : Int32} {τ : SC} (X : hc p s m args meth c RX9 cX9_lastHourReported 3 (some .int)) (hK : kC D cs sK sV tA A s) (hA : ∀ q, s.heap.size ≤ q → A q)  : ∀ (n : Nat) (x1 : Int32) (x2 : Int32), fc_to_lastHourReported_l4 τ n x1 x2 = some r → gg p l e ro_to_lastHourReported s m args below meth c (wC ad cs) D vwCl A 3 (QI below args s (wC ad cs) D vwCl A r τ) 4 [(0, .ref (ad 130)), (1, .int x1), (2, .int x2)] [] τ := by
  intro n
  induction n with
  | zero =>
    intro x1 x2 hf
    cases (show (none : Option Int32) = some r from hf)
  | succ n ih =>
    intro x1 x2 hf
    unfold fc_to_lastHourReported_l4 at hf
    refine gr_iload_n X dX9_lastHourReported_4 rfl 2 rfl ?_
    refine gr_aload_n X dX9_lastHourReported_5 rfl 0 rfl ?_
    refine gC_get_T0_18 X hK fk9_99 dX9_lastHourReported_6 ?_
    refine gr_icmp_ge X 31 dX9_lastHourReported_9 (by decide) (fun hc_ => ?_) (fun hc_ => ?_)
    · replace hf := ot_t hf hc_
      refine gr_iload_n X dX9_lastHourReported_31 rfl 1 rfl ?_
      exact gr_iret X dX9_lastHourReported_32 (Option.some.inj hf) rfl
    · replace hf := ot_f hf hc_
      refine gr_iload_n X dX9_lastHourReported_12 rfl 1 rfl ?_
      refine gr_aload_n X dX9_lastHourReported_13 rfl 0 rfl ?_
      refine gC_get_T0_19 X hK fk9_72 dX9_lastHourReported_14 ?_
      refine gr_iload_n X dX9_lastHourReported_17 rfl 2 rfl ?_
      refine gr_iconst (v := 4) X dX9_lastHourReported_18 (by decide) ?_
      refine gr_imul X dX9_lastHourReported_19 ?_
      have hi_ := oc_1 hf
      replace hf := oc_2 hf
      refine gC_ald_119 X hK (Int32.toNatClampNeg (x2 * (4 : Int32))) hi_ rfl dX9_lastHourReported_20 ?_
      refine gr_mmax X mk9_127 ⟨Nat.le_of_ble_eq_true rfl, Nat.le_of_ble_eq_true rfl⟩ dX9_lastHourReported_21 ?_
      refine gC_top (fun v1 e_v1 => ?_)
      replace hf := ot_l hf e_v1
      refine gr_istore_n (L2 := [(1, .int v1), (0, .ref (ad 130)), (2, .int x2)]) X dX9_lastHourReported_24 rfl (by decide) rfl ?_
      refine gr_iinc (k := 2) (v := 1) (L2 := [(2, .int (x2 + (1 : Int32))), (1, .int v1), (0, .ref (ad 130))]) X dX9_lastHourReported_25 rfl (by decide) (by decide) rfl ?_
      refine gr_goto X 4 dX9_lastHourReported_28 (by decide) ?_
      refine gr_sub [2, 1, 0] rfl ?_
      exact ih _ _ hf
set_option maxHeartbeats 4000000 in
set_option maxRecDepth 100000 in
theorem xc_to_lastHourReported {l : Launch} {D : va_G} {cs : Nat → ClassId} {sK sV : Nat → Nat} {tA : Nat} {ad : Nat → Nat} {τ : SC} {r : Int32} (hf : fc_to_lastHourReported τ = some r) : ctI l (wC ad cs) D vwCl (kC D cs sK sV tA) yX9_lastHourReported cX9_lastHourReported 3 .int ro_to_lastHourReported [.ref (ad 130)] τ r τ := by
  refine ct_I RX9 (by decide +kernel) rfl (Nat.le_of_ble_eq_true rfl) ?_
  intro p e s m args below meth c A X hK hA
  refine gr_eqL (L2 := [(0, .ref (ad 130))]) rfl ?_
  unfold fc_to_lastHourReported at hf
  refine gr_iconst (v := 0) X dX9_lastHourReported_0 (by decide) ?_
  refine gr_istore_n (L2 := [(1, .int (0 : Int32)), (0, .ref (ad 130))]) X dX9_lastHourReported_1 rfl (by decide) rfl ?_
  refine gr_iconst (v := 0) X dX9_lastHourReported_2 (by decide) ?_
  refine gr_istore_n (L2 := [(2, .int (0 : Int32)), (1, .int (0 : Int32)), (0, .ref (ad 130))]) X dX9_lastHourReported_3 rfl (by decide) rfl ?_
  refine gr_sub [2, 1, 0] rfl ?_
  refine wc_to_lastHourReported_l4 X hK hA  hFU _ _ hf
abbrev ro_to_wrongBehind : Room := { frames := 0, cells := 0, slots := 0, locals := 0 }
def fc_to_wrongBehind_b88 (τ : SC) (K6 : Int32 → Int32 → Int32 → Int32 → Int32 → Option Int32) (x1 : Int32) (x2 : Int32) (x3 : Int32) (x4 : Int32) (x5 : Int32) : Option Int32 := (K6 x1 x2 x3 x4 (x5 + (1 : Int32)))
def fc_to_wrongBehind_b79 (τ : SC) (K6 : Int32 → Int32 → Int32 → Int32 → Int32 → Option Int32) (x1 : Int32) (x2 : Int32) (x3 : Int32) (x4 : Int32) (x5 : Int32) : Option Int32 := (hl (x4 ||| ((1 : Int32) <<< (x5 &&& 31))) fun v2 => (fc_to_wrongBehind_b88 τ K6 x1 x2 x3 v2 x5))
def fc_to_wrongBehind_b49 (τ : SC) (K6 : Int32 → Int32 → Int32 → Int32 → Int32 → Option Int32) (x1 : Int32) (x2 : Int32) (x3 : Int32) (x4 : Int32) (x5 : Int32) (x6 : Int32) (y0 : Int32) : Option Int32 := (oc (hin (x6 + (2 : Int32)) 24) (if y0 < (τ.1 119 (Int32.toNatClampNeg (x6 + (2 : Int32)))) then (fc_to_wrongBehind_b79 τ K6 x1 x2 x3 x4 x5) else (oc (hin (x6 + (3 : Int32)) 24) (if y0 ≤ (τ.1 119 (Int32.toNatClampNeg (x6 + (3 : Int32)))) then (fc_to_wrongBehind_b88 τ K6 x1 x2 x3 x4 x5) else (fc_to_wrongBehind_b79 τ K6 x1 x2 x3 x4 x5)))))
def fc_to_wrongBehind_l6 (τ : SC) : Nat → Int32 → Int32 → Int32 → Int32 → Int32 → Option Int32
  | 0, _, _, _, _, _ => none
  | n + 1, x1, x2, x3, x4, x5 => (if (τ.1 118 0) ≤ x5 then (some x4) else (hl (x5 * (4 : Int32)) fun v1 => (oc (hin v1 24) (if ¬ (τ.1 119 (Int32.toNatClampNeg v1)) = x1 then (fc_to_wrongBehind_b88 τ (fc_to_wrongBehind_l6 τ n) x1 x2 x3 x4 x5) else (oc (hin (v1 + (1 : Int32)) 24) (if ¬ (τ.1 119 (Int32.toNatClampNeg (v1 + (1 : Int32)))) = 0 then (fc_to_wrongBehind_b49 τ (fc_to_wrongBehind_l6 τ n) x1 x2 x3 x4 x5 v1 x3) else (fc_to_wrongBehind_b49 τ (fc_to_wrongBehind_l6 τ n) x1 x2 x3 x4 x5 v1 x2)))))))
def fc_to_wrongBehind (τ : SC) (x1 : Int32) (x2 : Int32) (x3 : Int32) : Option Int32 := (fc_to_wrongBehind_l6 τ hFU x1 x2 x3 (0 : Int32) (0 : Int32))
set_option maxHeartbeats 4000000 in
set_option maxRecDepth 100000 in
theorem wc_to_wrongBehind_b88 {p : Program} {l : Launch} {e : Env} {s : State} {m : MethodId} {args : Array Value} {below : List Frame} {meth : Method} {c : Code} {A : Nat → Prop} {D : va_G} {cs : Nat → ClassId} {sK sV : Nat → Nat} {tA : Nat} {ad : Nat → Nat} {r : Int32} {τ : SC} {K6 : Int32 → Int32 → Int32 → Int32 → Int32 → Option Int32} (X : hc p s m args meth c RX9 cX9_wrongBehind 8 (some .int)) (hK : kC D cs sK sV tA A s) (hA : ∀ q, s.heap.size ≤ q → A q) (hK6 : (∀ (x1 : Int32) (x2 : Int32) (x3 : Int32) (x4 : Int32) (x5 : Int32), K6 x1 x2 x3 x4 x5 = some r → gg p l e ro_to_wrongBehind s m args below meth c (wC ad cs) D vwCl A 8 (QI below args s (wC ad cs) D vwCl A r τ) 6 [(0, .ref (ad 130)), (1, .int x1), (2, .int x2), (3, .int x3), (4, .int x4), (5, .int x5)] [] τ))  (x1 : Int32) (x2 : Int32) (x3 : Int32) (x4 : Int32) (x5 : Int32) (hf : fc_to_wrongBehind_b88 τ K6 x1 x2 x3 x4 x5 = some r) : gg p l e ro_to_wrongBehind s m args below meth c (wC ad cs) D vwCl A 8 (QI below args s (wC ad cs) D vwCl A r τ) 88 [(0, .ref (ad 130)), (1, .int x1), (2, .int x2), (3, .int x3), (4, .int x4), (5, .int x5)] [] τ := by
  unfold fc_to_wrongBehind_b88 at hf
  refine gr_iinc (k := 5) (v := 1) (L2 := [(5, .int (x5 + (1 : Int32))), (0, .ref (ad 130)), (1, .int x1), (2, .int x2), (3, .int x3), (4, .int x4)]) X dX9_wrongBehind_88 rfl (by decide) (by decide) rfl ?_
  refine gr_goto X 6 dX9_wrongBehind_91 (by decide) ?_
  refine gr_sub [1, 2, 3, 4, 5, 0] rfl ?_
  exact hK6 _ _ _ _ _ hf
set_option maxHeartbeats 4000000 in
set_option maxRecDepth 100000 in
theorem wc_to_wrongBehind_b79 {p : Program} {l : Launch} {e : Env} {s : State} {m : MethodId} {args : Array Value} {below : List Frame} {meth : Method} {c : Code} {A : Nat → Prop} {D : va_G} {cs : Nat → ClassId} {sK sV : Nat → Nat} {tA : Nat} {ad : Nat → Nat} {r : Int32} {τ : SC} {K6 : Int32 → Int32 → Int32 → Int32 → Int32 → Option Int32} (X : hc p s m args meth c RX9 cX9_wrongBehind 8 (some .int)) (hK : kC D cs sK sV tA A s) (hA : ∀ q, s.heap.size ≤ q → A q) (hK6 : (∀ (x1 : Int32) (x2 : Int32) (x3 : Int32) (x4 : Int32) (x5 : Int32), K6 x1 x2 x3 x4 x5 = some r → gg p l e ro_to_wrongBehind s m args below meth c (wC ad cs) D vwCl A 8 (QI below args s (wC ad cs) D vwCl A r τ) 6 [(0, .ref (ad 130)), (1, .int x1), (2, .int x2), (3, .int x3), (4, .int x4), (5, .int x5)] [] τ))  (x1 : Int32) (x2 : Int32) (x3 : Int32) (x4 : Int32) (x5 : Int32) (hf : fc_to_wrongBehind_b79 τ K6 x1 x2 x3 x4 x5 = some r) : gg p l e ro_to_wrongBehind s m args below meth c (wC ad cs) D vwCl A 8 (QI below args s (wC ad cs) D vwCl A r τ) 79 [(0, .ref (ad 130)), (1, .int x1), (2, .int x2), (3, .int x3), (4, .int x4), (5, .int x5)] [] τ := by
  unfold fc_to_wrongBehind_b79 at hf
  refine gr_iload X dX9_wrongBehind_79 4 rfl ?_
  refine gr_iconst (v := 1) X dX9_wrongBehind_81 (by decide) ?_
  refine gr_iload X dX9_wrongBehind_82 5 rfl ?_
  refine gr_ishl X dX9_wrongBehind_84 ?_
  refine gr_ior X dX9_wrongBehind_85 ?_
  refine gC_top (fun v2 e_v2 => ?_)
  replace hf := ot_l hf e_v2
  refine gr_istore (L2 := [(4, .int v2), (0, .ref (ad 130)), (1, .int x1), (2, .int x2), (3, .int x3), (5, .int x5)]) X dX9_wrongBehind_86 (by decide) rfl ?_
  refine gr_sub [1, 2, 3, 4, 0, 5] rfl ?_
  exact wc_to_wrongBehind_b88 X hK hA hK6 _ _ _ _ _ hf
set_option maxHeartbeats 4000000 in
set_option maxRecDepth 100000 in
theorem wc_to_wrongBehind_b49 {p : Program} {l : Launch} {e : Env} {s : State} {m : MethodId} {args : Array Value} {below : List Frame} {meth : Method} {c : Code} {A : Nat → Prop} {D : va_G} {cs : Nat → ClassId} {sK sV : Nat → Nat} {tA : Nat} {ad : Nat → Nat} {r : Int32} {τ : SC} {K6 : Int32 → Int32 → Int32 → Int32 → Int32 → Option Int32} (X : hc p s m args meth c RX9 cX9_wrongBehind 8 (some .int)) (hK : kC D cs sK sV tA A s) (hA : ∀ q, s.heap.size ≤ q → A q) (hK6 : (∀ (x1 : Int32) (x2 : Int32) (x3 : Int32) (x4 : Int32) (x5 : Int32), K6 x1 x2 x3 x4 x5 = some r → gg p l e ro_to_wrongBehind s m args below meth c (wC ad cs) D vwCl A 8 (QI below args s (wC ad cs) D vwCl A r τ) 6 [(0, .ref (ad 130)), (1, .int x1), (2, .int x2), (3, .int x3), (4, .int x4), (5, .int x5)] [] τ))  (x1 : Int32) (x2 : Int32) (x3 : Int32) (x4 : Int32) (x5 : Int32) (x6 : Int32) (y0 : Int32) (hf : fc_to_wrongBehind_b49 τ K6 x1 x2 x3 x4 x5 x6 y0 = some r) : gg p l e ro_to_wrongBehind s m args below meth c (wC ad cs) D vwCl A 8 (QI below args s (wC ad cs) D vwCl A r τ) 49 [(0, .ref (ad 130)), (1, .int x1), (2, .int x2), (3, .int x3), (4, .int x4), (5, .int x5), (6, .int x6)] [.int y0] τ := by
  unfold fc_to_wrongBehind_b49 at hf
  refine gr_istore (L2 := [(7, .int y0), (0, .ref (ad 130)), (1, .int x1), (2, .int x2), (3, .int x3), (4, .int x4), (5, .int x5), (6, .int x6)]) X dX9_wrongBehind_49 (by decide) rfl ?_
  refine gr_iload X dX9_wrongBehind_51 0 rfl ?_
  refine gr_aload_n X dX9_wrongBehind_53 rfl 1 rfl ?_
  refine gC_get_T0_19 X hK fk9_72 dX9_wrongBehind_54 ?_
  refine gr_iload X dX9_wrongBehind_57 7 rfl ?_
  refine gr_iconst (v := 2) X dX9_wrongBehind_59 (by decide) ?_
  refine gr_iadd X dX9_wrongBehind_60 ?_
  have hi_ := oc_1 hf
  replace hf := oc_2 hf
  refine gC_ald_119 X hK (Int32.toNatClampNeg (x6 + (2 : Int32))) hi_ rfl dX9_wrongBehind_61 ?_
  refine gr_icmp_lt X 79 dX9_wrongBehind_62 (by decide) (fun hc_ => ?_) (fun hc_ => ?_)
  · replace hf := ot_t hf hc_
    refine gr_sub [1, 2, 3, 4, 5, 6] rfl ?_
    exact wc_to_wrongBehind_b79 X hK hA hK6 _ _ _ _ _ hf
  · replace hf := ot_f hf hc_
    refine gr_iload X dX9_wrongBehind_65 0 rfl ?_
    refine gr_aload_n X dX9_wrongBehind_67 rfl 1 rfl ?_
    refine gC_get_T0_19 X hK fk9_72 dX9_wrongBehind_68 ?_
    refine gr_iload X dX9_wrongBehind_71 7 rfl ?_
    refine gr_iconst (v := 3) X dX9_wrongBehind_73 (by decide) ?_
    refine gr_iadd X dX9_wrongBehind_74 ?_
    have hi_ := oc_1 hf
    replace hf := oc_2 hf
    refine gC_ald_119 X hK (Int32.toNatClampNeg (x6 + (3 : Int32))) hi_ rfl dX9_wrongBehind_75 ?_
    refine gr_icmp_le X 88 dX9_wrongBehind_76 (by decide) (fun hc_ => ?_) (fun hc_ => ?_)
    · replace hf := ot_t hf hc_
      refine gr_sub [1, 2, 3, 4, 5, 6] rfl ?_
      exact wc_to_wrongBehind_b88 X hK hA hK6 _ _ _ _ _ hf
    · replace hf := ot_f hf hc_
      refine gr_sub [1, 2, 3, 4, 5, 6] rfl ?_
      exact wc_to_wrongBehind_b79 X hK hA hK6 _ _ _ _ _ hf
set_option maxHeartbeats 4000000 in
set_option maxRecDepth 100000 in
theorem wc_to_wrongBehind_l6 {p : Program} {l : Launch} {e : Env} {s : State} {m : MethodId} {args : Array Value} {below : List Frame} {meth : Method} {c : Code} {A : Nat → Prop} {D : va_G} {cs : Nat → ClassId} {sK sV : Nat → Nat} {tA : Nat} {ad : Nat → Nat} {r : Int32} {τ : SC} (X : hc p s m args meth c RX9 cX9_wrongBehind 8 (some .int)) (hK : kC D cs sK sV tA A s) (hA : ∀ q, s.heap.size ≤ q → A q)  : ∀ (n : Nat) (x1 : Int32) (x2 : Int32) (x3 : Int32) (x4 : Int32) (x5 : Int32), fc_to_wrongBehind_l6 τ n x1 x2 x3 x4 x5 = some r → gg p l e ro_to_wrongBehind s m args below meth c (wC ad cs) D vwCl A 8 (QI below args s (wC ad cs) D vwCl A r τ) 6 [(0, .ref (ad 130)), (1, .int x1), (2, .int x2), (3, .int x3), (4, .int x4), (5, .int x5)] [] τ := by
  intro n
  induction n with
  | zero =>
    intro x1 x2 x3 x4 x5 hf
    cases (show (none : Option Int32) = some r from hf)
  | succ n ih =>
    intro x1 x2 x3 x4 x5 hf
    unfold fc_to_wrongBehind_l6 at hf
    refine gr_iload X dX9_wrongBehind_6 5 rfl ?_
    refine gr_aload_n X dX9_wrongBehind_8 rfl 0 rfl ?_
    refine gC_get_T0_18 X hK fk9_99 dX9_wrongBehind_9 ?_
    refine gr_icmp_ge X 94 dX9_wrongBehind_12 (by decide) (fun hc_ => ?_) (fun hc_ => ?_)
    · replace hf := ot_t hf hc_
      refine gr_iload X dX9_wrongBehind_94 4 rfl ?_
      exact gr_iret X dX9_wrongBehind_96 (Option.some.inj hf) rfl
    · replace hf := ot_f hf hc_
      refine gr_iload X dX9_wrongBehind_15 5 rfl ?_
      refine gr_iconst (v := 4) X dX9_wrongBehind_17 (by decide) ?_
      refine gr_imul X dX9_wrongBehind_18 ?_
      refine gC_top (fun v1 e_v1 => ?_)
      replace hf := ot_l hf e_v1
      refine gr_istore (L2 := [(6, .int v1), (0, .ref (ad 130)), (1, .int x1), (2, .int x2), (3, .int x3), (4, .int x4), (5, .int x5)]) X dX9_wrongBehind_19 (by decide) rfl ?_
      refine gr_aload_n X dX9_wrongBehind_21 rfl 1 rfl ?_
      refine gC_get_T0_19 X hK fk9_72 dX9_wrongBehind_22 ?_
      refine gr_iload X dX9_wrongBehind_25 0 rfl ?_
      have hi_ := oc_1 hf
      replace hf := oc_2 hf
      refine gC_ald_119 X hK (Int32.toNatClampNeg v1) hi_ rfl dX9_wrongBehind_27 ?_
      refine gr_iload_n X dX9_wrongBehind_28 rfl 2 rfl ?_
      refine gr_icmp_ne X 88 dX9_wrongBehind_29 (by decide) (fun hc_ => ?_) (fun hc_ => ?_)
      · replace hf := ot_t hf hc_
        refine gr_sub [1, 2, 3, 4, 5, 6] rfl ?_
        exact wc_to_wrongBehind_b88 X hK hA ih _ _ _ _ _ hf
      · replace hf := ot_f hf hc_
        refine gr_aload_n X dX9_wrongBehind_32 rfl 1 rfl ?_
        refine gC_get_T0_19 X hK fk9_72 dX9_wrongBehind_33 ?_
        refine gr_iload X dX9_wrongBehind_36 0 rfl ?_
        refine gr_iconst (v := 1) X dX9_wrongBehind_38 (by decide) ?_
        refine gr_iadd X dX9_wrongBehind_39 ?_
        have hi_ := oc_1 hf
        replace hf := oc_2 hf
        refine gC_ald_119 X hK (Int32.toNatClampNeg (v1 + (1 : Int32))) hi_ rfl dX9_wrongBehind_40 ?_
        refine gr_if_ne X 48 dX9_wrongBehind_41 (by decide) (fun hc_ => ?_) (fun hc_ => ?_)
        · replace hf := ot_t hf hc_
          refine gr_iload_n X dX9_wrongBehind_48 rfl 4 rfl ?_
          refine gr_sub [1, 2, 3, 4, 5, 6, 0] rfl ?_
          exact wc_to_wrongBehind_b49 X hK hA ih _ _ _ _ _ _ _ hf
        · replace hf := ot_f hf hc_
          refine gr_iload_n X dX9_wrongBehind_44 rfl 3 rfl ?_
          refine gr_goto X 49 dX9_wrongBehind_45 (by decide) ?_
          refine gr_sub [1, 2, 3, 4, 5, 6, 0] rfl ?_
          exact wc_to_wrongBehind_b49 X hK hA ih _ _ _ _ _ _ _ hf
set_option maxHeartbeats 4000000 in
set_option maxRecDepth 100000 in
theorem xc_to_wrongBehind {l : Launch} {D : va_G} {cs : Nat → ClassId} {sK sV : Nat → Nat} {tA : Nat} {ad : Nat → Nat} {τ : SC} {x1 : Int32} {x2 : Int32} {x3 : Int32} {r : Int32} (hf : fc_to_wrongBehind τ x1 x2 x3 = some r) : ctI l (wC ad cs) D vwCl (kC D cs sK sV tA) yX9_wrongBehind cX9_wrongBehind 8 .int ro_to_wrongBehind [.ref (ad 130), .int x1, .int x2, .int x3] τ r τ := by
  refine ct_I RX9 (by decide +kernel) rfl (Nat.le_of_ble_eq_true rfl) ?_
  intro p e s m args below meth c A X hK hA
  refine gr_eqL (L2 := [(0, .ref (ad 130)), (1, .int x1), (2, .int x2), (3, .int x3)]) rfl ?_
  unfold fc_to_wrongBehind at hf
  refine gr_iconst (v := 0) X dX9_wrongBehind_0 (by decide) ?_
  refine gr_istore (L2 := [(4, .int (0 : Int32)), (0, .ref (ad 130)), (1, .int x1), (2, .int x2), (3, .int x3)]) X dX9_wrongBehind_1 (by decide) rfl ?_
  refine gr_iconst (v := 0) X dX9_wrongBehind_3 (by decide) ?_
  refine gr_istore (L2 := [(5, .int (0 : Int32)), (4, .int (0 : Int32)), (0, .ref (ad 130)), (1, .int x1), (2, .int x2), (3, .int x3)]) X dX9_wrongBehind_4 (by decide) rfl ?_
  refine gr_sub [2, 3, 4, 5, 1, 0] rfl ?_
  refine wc_to_wrongBehind_l6 X hK hA  hFU _ _ _ _ _ hf
abbrev ro_to_wrongReports : Room := { frames := 3, cells := 0, slots := 0, locals := 68 }
def fc_to_wrongReports_b85 (τ : SC) (K44 : Nat → Int32 → Int32 → Int32 → Int32 → Int32 → Int32 → Option Int32) (x2 : Nat) (x3 : Int32) (x4 : Int32) (x5 : Int32) (x6 : Int32) (x7 : Int32) (x8 : Int32) : Option Int32 := (Option.bind (fc_to_handsAfter x5 x4) fun q7 => (Option.bind (fc_to_wrongBehind τ (x8 + (1 : Int32)) q7 x4) fun q8 => (hl (x7 ||| q8) fun v9 => (K44 x2 x3 x4 q7 x6 v9 (x8 + (1 : Int32))))))
def fc_to_wrongReports_l44 (τ : SC) : Nat → Nat → Int32 → Int32 → Int32 → Int32 → Int32 → Int32 → Option Int32
  | 0, _, _, _, _, _, _, _ => none
  | n + 1, x2, x3, x4, x5, x6, x7, x8 => (if x6 ≤ x8 then (some x7) else (Option.bind (fc_to_moodByNews τ x8 x4) fun q6 => (if ¬ (hrem x8 (2 : Int32)) = 0 then (fc_to_wrongReports_b85 τ (fc_to_wrongReports_l44 τ n) x2 x3 q6 x5 x6 x7 x8) else (Option.bind (fN_cheers x2 x3 x8) fun q10 => (Option.bind (fc_hh_held (q6 + q10) (9 : Int32)) fun q11 => (fc_to_wrongReports_b85 τ (fc_to_wrongReports_l44 τ n) x2 x3 q11 x5 x6 x7 x8))))))
def fc_to_wrongReports (τ : SC) (x1 : Int32) : Option Int32 := (Option.bind (fc_hh_kindOfStranger x1) fun q1 => (oc (hin q1 6) (Option.bind (fc_hh_giftOfStranger x1) fun q2 => (Option.bind (fc_hh_moodOfStranger x1) fun q3 => (Option.bind (fc_to_lastHourReported τ) fun q4 => (Option.bind (fc_to_wrongBehind τ (0 : Int32) (0 : Int32) q3) fun q5 => (fc_to_wrongReports_l44 τ hFU (Int32.toNatClampNeg q1) q2 q3 (0 : Int32) q4 q5 (0 : Int32))))))))
set_option maxHeartbeats 4000000 in
set_option maxRecDepth 100000 in
theorem wc_to_wrongReports_b85 {p : Program} {l : Launch} {e : Env} {s : State} {m : MethodId} {args : Array Value} {below : List Frame} {meth : Method} {c : Code} {A : Nat → Prop} {D : va_G} {cs : Nat → ClassId} {sK sV : Nat → Nat} {tA : Nat} {ad : Nat → Nat} {r : Int32} {τ : SC} {K44 : Nat → Int32 → Int32 → Int32 → Int32 → Int32 → Int32 → Option Int32} (X : hc p s m args meth c RX9 cX9_wrongReports 9 (some .int)) (hK : kC D cs sK sV tA A s) (hA : ∀ q, s.heap.size ≤ q → A q) (hK44 : (∀ (x2 : Nat) (x3 : Int32) (x4 : Int32) (x5 : Int32) (x6 : Int32) (x7 : Int32) (x8 : Int32), K44 x2 x3 x4 x5 x6 x7 x8 = some r → gg p l e ro_to_wrongReports s m args below meth c (wC ad cs) D vwCl A 9 (QI below args s (wC ad cs) D vwCl A r τ) 44 [(0, .ref (ad 130)), (2, .ref (ad (140 + x2))), (3, .int x3), (4, .int x4), (5, .int x5), (6, .int x6), (7, .int x7), (8, .int x8)] [] τ))  (x2 : Nat) (x3 : Int32) (x4 : Int32) (x5 : Int32) (x6 : Int32) (x7 : Int32) (x8 : Int32) (hf : fc_to_wrongReports_b85 τ K44 x2 x3 x4 x5 x6 x7 x8 = some r) : gg p l e ro_to_wrongReports s m args below meth c (wC ad cs) D vwCl A 9 (QI below args s (wC ad cs) D vwCl A r τ) 85 [(0, .ref (ad 130)), (2, .ref (ad (140 + x2))), (3, .int x3), (4, .int x4), (5, .int x5), (6, .int x6), (7, .int x7), (8, .int x8)] [] τ := by
  unfold fc_to_wrongReports_b85 at hf
  refine gr_iload X dX9_wrongReports_85 4 rfl ?_
  refine gr_iload X dX9_wrongReports_87 3 rfl ?_
  obtain ⟨q7, hq_, hf⟩ := ot_b hf
  refine gc_Si (rest := []) X kC_ok hK hA cw9_194 (xc_to_handsAfter hq_) rfl ⟨rfl, rfl, Nat.le_of_ble_eq_true rfl, Nat.le_of_ble_eq_true rfl⟩ rfl (Nat.le_of_ble_eq_true rfl) dX9_wrongReports_89 ?_
  refine gr_istore (L2 := [(5, .int q7), (0, .ref (ad 130)), (2, .ref (ad (140 + x2))), (3, .int x3), (4, .int x4), (6, .int x6), (7, .int x7), (8, .int x8)]) X dX9_wrongReports_92 (by decide) rfl ?_
  refine gr_iload X dX9_wrongReports_94 6 rfl ?_
  refine gr_aload_n X dX9_wrongReports_96 rfl 1 rfl ?_
  refine gr_iload X dX9_wrongReports_97 7 rfl ?_
  refine gr_iconst (v := 1) X dX9_wrongReports_99 (by decide) ?_
  refine gr_iadd X dX9_wrongReports_100 ?_
  refine gr_iload X dX9_wrongReports_101 0 rfl ?_
  refine gr_iload X dX9_wrongReports_103 4 rfl ?_
  obtain ⟨q8, hq_, hf⟩ := ot_b hf
  refine gc_Vi (rest := [.int x7]) X kC_ok hK hA cw9_221 (rvC_T0 hK) (xc_to_wrongBehind hq_) rfl ⟨rfl, rfl, Nat.le_of_ble_eq_true rfl, Nat.le_of_ble_eq_true rfl⟩ rfl (Nat.le_of_ble_eq_true rfl) dX9_wrongReports_105 ?_
  refine gr_ior X dX9_wrongReports_108 ?_
  refine gC_top (fun v9 e_v9 => ?_)
  replace hf := ot_l hf e_v9
  refine gr_istore (L2 := [(7, .int v9), (5, .int q7), (0, .ref (ad 130)), (2, .ref (ad (140 + x2))), (3, .int x3), (4, .int x4), (6, .int x6), (8, .int x8)]) X dX9_wrongReports_109 (by decide) rfl ?_
  refine gr_iinc (k := 7) (v := 1) (L2 := [(8, .int (x8 + (1 : Int32))), (7, .int v9), (5, .int q7), (0, .ref (ad 130)), (2, .ref (ad (140 + x2))), (3, .int x3), (4, .int x4), (6, .int x6)]) X dX9_wrongReports_111 rfl (by decide) (by decide) rfl ?_
  refine gr_goto X 44 dX9_wrongReports_114 (by decide) ?_
  refine gr_sub [3, 4, 5, 6, 2, 7, 1, 0] rfl ?_
  exact hK44 _ _ _ _ _ _ _ hf
set_option maxHeartbeats 4000000 in
set_option maxRecDepth 100000 in
theorem wc_to_wrongReports_l44 {p : Program} {l : Launch} {e : Env} {s : State} {m : MethodId} {args : Array Value} {below : List Frame} {meth : Method} {c : Code} {A : Nat → Prop} {D : va_G} {cs : Nat → ClassId} {sK sV : Nat → Nat} {tA : Nat} {ad : Nat → Nat} {r : Int32} {τ : SC} (X : hc p s m args meth c RX9 cX9_wrongReports 9 (some .int)) (hK : kC D cs sK sV tA A s) (hA : ∀ q, s.heap.size ≤ q → A q)  : ∀ (n : Nat) (x2 : Nat) (x3 : Int32) (x4 : Int32) (x5 : Int32) (x6 : Int32) (x7 : Int32) (x8 : Int32), fc_to_wrongReports_l44 τ n x2 x3 x4 x5 x6 x7 x8 = some r → gg p l e ro_to_wrongReports s m args below meth c (wC ad cs) D vwCl A 9 (QI below args s (wC ad cs) D vwCl A r τ) 44 [(0, .ref (ad 130)), (2, .ref (ad (140 + x2))), (3, .int x3), (4, .int x4), (5, .int x5), (6, .int x6), (7, .int x7), (8, .int x8)] [] τ := by
  intro n
  induction n with
  | zero =>
    intro x2 x3 x4 x5 x6 x7 x8 hf
    cases (show (none : Option Int32) = some r from hf)
  | succ n ih =>
    intro x2 x3 x4 x5 x6 x7 x8 hf
    unfold fc_to_wrongReports_l44 at hf
    refine gr_iload X dX9_wrongReports_44 7 rfl ?_
    refine gr_iload X dX9_wrongReports_46 5 rfl ?_
    refine gr_icmp_ge X 117 dX9_wrongReports_48 (by decide) (fun hc_ => ?_) (fun hc_ => ?_)
    · replace hf := ot_t hf hc_
      refine gr_iload X dX9_wrongReports_117 6 rfl ?_
      exact gr_iret X dX9_wrongReports_119 (Option.some.inj hf) rfl
    · replace hf := ot_f hf hc_
      refine gr_aload_n X dX9_wrongReports_51 rfl 0 rfl ?_
      refine gr_iload X dX9_wrongReports_52 7 rfl ?_
      refine gr_iload X dX9_wrongReports_54 3 rfl ?_
      obtain ⟨q6, hq_, hf⟩ := ot_b hf
      refine gc_Vi (rest := []) X kC_ok hK hA cw9_159 (rvC_T0 hK) (xc_to_moodByNews hq_) rfl ⟨rfl, rfl, Nat.le_of_ble_eq_true rfl, Nat.le_of_ble_eq_true rfl⟩ rfl (Nat.le_of_ble_eq_true rfl) dX9_wrongReports_56 ?_
      refine gr_istore (L2 := [(4, .int q6), (0, .ref (ad 130)), (2, .ref (ad (140 + x2))), (3, .int x3), (5, .int x5), (6, .int x6), (7, .int x7), (8, .int x8)]) X dX9_wrongReports_59 (by decide) rfl ?_
      refine gr_iload X dX9_wrongReports_61 7 rfl ?_
      refine gr_iconst (v := 2) X dX9_wrongReports_63 (by decide) ?_
      refine gr_irem X dX9_wrongReports_64 (by decide) ?_
      refine gr_if_ne X 85 dX9_wrongReports_65 (by decide) (fun hc_ => ?_) (fun hc_ => ?_)
      · replace hf := ot_t hf hc_
        refine gr_sub [1, 2, 3, 0, 4, 5, 6, 7] rfl ?_
        exact wc_to_wrongReports_b85 X hK hA ih _ _ _ _ _ _ _ hf
      · replace hf := ot_f hf hc_
        refine gr_iload X dX9_wrongReports_68 0 rfl ?_
        refine gr_aload_n X dX9_wrongReports_70 rfl 2 rfl ?_
        refine gr_iload_n X dX9_wrongReports_71 rfl 3 rfl ?_
        refine gr_iload X dX9_wrongReports_72 7 rfl ?_
        obtain ⟨q10, hq_, hf⟩ := ot_b hf
        refine gN9_143 (rest := [.int q6]) X hK hA hq_ rfl ⟨Nat.le_of_ble_eq_true rfl, Nat.le_of_ble_eq_true rfl⟩ (Nat.le_of_ble_eq_true rfl) dX9_wrongReports_74 ?_
        refine gr_iadd X dX9_wrongReports_77 ?_
        refine gr_bipush (v := 9) X dX9_wrongReports_78 (by decide) ?_
        obtain ⟨q11, hq_, hf⟩ := ot_b hf
        refine gc_Ni (rest := []) X kC_ok hK hA cw9_182 (hK.2.1 _ nw9_182) (xc_hh_held hq_) rfl ⟨rfl, rfl, Nat.le_of_ble_eq_true rfl, Nat.le_of_ble_eq_true rfl⟩ rfl (Nat.le_of_ble_eq_true rfl) dX9_wrongReports_80 ?_
        refine gr_istore (L2 := [(4, .int q11), (0, .ref (ad 130)), (2, .ref (ad (140 + x2))), (3, .int x3), (5, .int x5), (6, .int x6), (7, .int x7), (8, .int x8)]) X dX9_wrongReports_83 (by decide) rfl ?_
        refine gr_sub [1, 2, 3, 0, 4, 5, 6, 7] rfl ?_
        exact wc_to_wrongReports_b85 X hK hA ih _ _ _ _ _ _ _ hf
set_option maxHeartbeats 4000000 in
set_option maxRecDepth 100000 in
theorem xc_to_wrongReports {l : Launch} {D : va_G} {cs : Nat → ClassId} {sK sV : Nat → Nat} {tA : Nat} {ad : Nat → Nat} {τ : SC} {x1 : Int32} {r : Int32} (hf : fc_to_wrongReports τ x1 = some r) : ctI l (wC ad cs) D vwCl (kC D cs sK sV tA) yX9_wrongReports cX9_wrongReports 9 .int ro_to_wrongReports [.ref (ad 130), .int x1] τ r τ := by
  refine ct_I RX9 (by decide +kernel) rfl (Nat.le_of_ble_eq_true rfl) ?_
  intro p e s m args below meth c A X hK hA
  refine gr_eqL (L2 := [(0, .ref (ad 130)), (1, .int x1)]) rfl ?_
  unfold fc_to_wrongReports at hf
  refine gr_aload_n X dX9_wrongReports_0 rfl 0 rfl ?_
  refine gC_get_T0_0 X hK fk9_27 dX9_wrongReports_1 ?_
  refine gr_iload_n X dX9_wrongReports_4 rfl 1 rfl ?_
  obtain ⟨q1, hq_, hf⟩ := ot_b hf
  refine gc_Ni (rest := [.ref (ad 100)]) X kC_ok hK hA cw9_209 (hK.2.1 _ nw9_209) (xc_hh_kindOfStranger hq_) rfl ⟨rfl, rfl, Nat.le_of_ble_eq_true rfl, Nat.le_of_ble_eq_true rfl⟩ rfl (Nat.le_of_ble_eq_true rfl) dX9_wrongReports_5 ?_
  have hi_ := oc_1 hf
  replace hf := oc_2 hf
  refine gC_aald_N X hK (Int32.toNatClampNeg q1) hi_ rfl dX9_wrongReports_8 ?_
  refine gr_astore_n (L2 := [(2, .ref (ad (140 + (Int32.toNatClampNeg q1)))), (0, .ref (ad 130)), (1, .int x1)]) X dX9_wrongReports_9 rfl (by decide) rfl ?_
  refine gr_iload_n X dX9_wrongReports_10 rfl 2 rfl ?_
  obtain ⟨q2, hq_, hf⟩ := ot_b hf
  refine gc_Ni (rest := []) X kC_ok hK hA cw9_212 (hK.2.1 _ nw9_212) (xc_hh_giftOfStranger hq_) rfl ⟨rfl, rfl, Nat.le_of_ble_eq_true rfl, Nat.le_of_ble_eq_true rfl⟩ rfl (Nat.le_of_ble_eq_true rfl) dX9_wrongReports_11 ?_
  refine gr_istore_n (L2 := [(3, .int q2), (2, .ref (ad (140 + (Int32.toNatClampNeg q1)))), (0, .ref (ad 130)), (1, .int x1)]) X dX9_wrongReports_14 rfl (by decide) rfl ?_
  refine gr_iload_n X dX9_wrongReports_15 rfl 3 rfl ?_
  obtain ⟨q3, hq_, hf⟩ := ot_b hf
  refine gc_Ni (rest := []) X kC_ok hK hA cw9_215 (hK.2.1 _ nw9_215) (xc_hh_moodOfStranger hq_) rfl ⟨rfl, rfl, Nat.le_of_ble_eq_true rfl, Nat.le_of_ble_eq_true rfl⟩ rfl (Nat.le_of_ble_eq_true rfl) dX9_wrongReports_16 ?_
  refine gr_istore (L2 := [(4, .int q3), (3, .int q2), (2, .ref (ad (140 + (Int32.toNatClampNeg q1)))), (0, .ref (ad 130)), (1, .int x1)]) X dX9_wrongReports_19 (by decide) rfl ?_
  refine gr_iconst (v := 0) X dX9_wrongReports_21 (by decide) ?_
  refine gr_istore (L2 := [(5, .int (0 : Int32)), (4, .int q3), (3, .int q2), (2, .ref (ad (140 + (Int32.toNatClampNeg q1)))), (0, .ref (ad 130)), (1, .int x1)]) X dX9_wrongReports_22 (by decide) rfl ?_
  refine gr_aload_n X dX9_wrongReports_24 rfl 4 rfl ?_
  obtain ⟨q4, hq_, hf⟩ := ot_b hf
  refine gc_Vi (rest := []) X kC_ok hK hA cw9_218 (rvC_T0 hK) (xc_to_lastHourReported hq_) rfl ⟨rfl, rfl, Nat.le_of_ble_eq_true rfl, Nat.le_of_ble_eq_true rfl⟩ rfl (Nat.le_of_ble_eq_true rfl) dX9_wrongReports_25 ?_
  refine gr_istore (L2 := [(6, .int q4), (5, .int (0 : Int32)), (4, .int q3), (3, .int q2), (2, .ref (ad (140 + (Int32.toNatClampNeg q1)))), (0, .ref (ad 130)), (1, .int x1)]) X dX9_wrongReports_28 (by decide) rfl ?_
  refine gr_aload_n X dX9_wrongReports_30 rfl 5 rfl ?_
  refine gr_iconst (v := 0) X dX9_wrongReports_31 (by decide) ?_
  refine gr_iload X dX9_wrongReports_32 1 rfl ?_
  refine gr_iload X dX9_wrongReports_34 2 rfl ?_
  obtain ⟨q5, hq_, hf⟩ := ot_b hf
  refine gc_Vi (rest := []) X kC_ok hK hA cw9_221 (rvC_T0 hK) (xc_to_wrongBehind hq_) rfl ⟨rfl, rfl, Nat.le_of_ble_eq_true rfl, Nat.le_of_ble_eq_true rfl⟩ rfl (Nat.le_of_ble_eq_true rfl) dX9_wrongReports_36 ?_
  refine gr_istore (L2 := [(7, .int q5), (6, .int q4), (5, .int (0 : Int32)), (4, .int q3), (3, .int q2), (2, .ref (ad (140 + (Int32.toNatClampNeg q1)))), (0, .ref (ad 130)), (1, .int x1)]) X dX9_wrongReports_39 (by decide) rfl ?_
  refine gr_iconst (v := 0) X dX9_wrongReports_41 (by decide) ?_
  refine gr_istore (L2 := [(8, .int (0 : Int32)), (7, .int q5), (6, .int q4), (5, .int (0 : Int32)), (4, .int q3), (3, .int q2), (2, .ref (ad (140 + (Int32.toNatClampNeg q1)))), (0, .ref (ad 130)), (1, .int x1)]) X dX9_wrongReports_42 (by decide) rfl ?_
  refine gr_sub [7, 6, 5, 4, 3, 2, 1, 0] rfl ?_
  refine wc_to_wrongReports_l44 X hK hA  hFU _ _ _ _ _ _ _ hf
abbrev ro_hh_partOfStranger : Room := { frames := 1, cells := 0, slots := 0, locals := 20 }
def fc_hh_partOfStranger (x0 : Int32) (x1 : Int32) : Option Int32 := (if x1 = 1 then (Option.bind (fc_hh_kindOfStranger x0) fun q1 => (some q1)) else (if x1 = 2 then (Option.bind (fc_hh_giftOfStranger x0) fun q2 => (some q2)) else (Option.bind (fc_hh_moodOfStranger x0) fun q3 => (some q3))))
set_option maxHeartbeats 4000000 in
set_option maxRecDepth 100000 in
theorem xc_hh_partOfStranger {l : Launch} {D : va_G} {cs : Nat → ClassId} {sK sV : Nat → Nat} {tA : Nat} {ad : Nat → Nat} {τ : SC} {x0 : Int32} {x1 : Int32} {r : Int32} (hf : fc_hh_partOfStranger x0 x1 = some r) : ctI l (wC ad cs) D vwCl (kC D cs sK sV tA) yX11_partOfStranger cX11_partOfStranger 2 .int ro_hh_partOfStranger [.int x0, .int x1] τ r τ := by
  refine ct_I RX11 (by decide +kernel) rfl (Nat.le_of_ble_eq_true rfl) ?_
  intro p e s m args below meth c A X hK hA
  refine gr_eqL (L2 := [(0, .int x0), (1, .int x1)]) rfl ?_
  unfold fc_hh_partOfStranger at hf
  refine gr_iload_n X dX11_partOfStranger_0 rfl 1 rfl ?_
  by_cases hs0 : x1 = 1
  · replace hf := ot_t hf hs0
    refine gr_lsw (off := 27) X 28 dX11_partOfStranger_1 (by decide) (by rw [hs0]; decide) (by decide) ?_
    refine gr_iload_n X dX11_partOfStranger_28 rfl 0 rfl ?_
    obtain ⟨q1, hq_, hf⟩ := ot_b hf
    refine gc_Si (rest := []) X kC_ok hK hA cw11_288 (xc_hh_kindOfStranger hq_) rfl ⟨rfl, rfl, Nat.le_of_ble_eq_true rfl, Nat.le_of_ble_eq_true rfl⟩ rfl (Nat.le_of_ble_eq_true rfl) dX11_partOfStranger_29 ?_
    exact gr_iret X dX11_partOfStranger_32 (Option.some.inj hf) rfl
  replace hf := ot_f hf hs0
  by_cases hs1 : x1 = 2
  · replace hf := ot_t hf hs1
    refine gr_lsw (off := 32) X 33 dX11_partOfStranger_1 (by decide) (by rw [hs1]; decide) (by decide) ?_
    refine gr_iload_n X dX11_partOfStranger_33 rfl 0 rfl ?_
    obtain ⟨q2, hq_, hf⟩ := ot_b hf
    refine gc_Si (rest := []) X kC_ok hK hA cw11_291 (xc_hh_giftOfStranger hq_) rfl ⟨rfl, rfl, Nat.le_of_ble_eq_true rfl, Nat.le_of_ble_eq_true rfl⟩ rfl (Nat.le_of_ble_eq_true rfl) dX11_partOfStranger_34 ?_
    exact gr_iret X dX11_partOfStranger_37 (Option.some.inj hf) rfl
  replace hf := ot_f hf hs1
  refine gr_lsw (off := 37) X 38 dX11_partOfStranger_1 (by decide) (by show Op.lookupswitch.offset [(1, 27), (2, 32)] 37 _ = _; rw [lv_osw hs0 (show (1 : Int32).toInt = 1 by decide)]; rw [lv_osw hs1 (show (2 : Int32).toInt = 2 by decide)]; rfl) (by decide) ?_
  refine gr_iload_n X dX11_partOfStranger_38 rfl 0 rfl ?_
  obtain ⟨q3, hq_, hf⟩ := ot_b hf
  refine gc_Si (rest := []) X kC_ok hK hA cw11_294 (xc_hh_moodOfStranger hq_) rfl ⟨rfl, rfl, Nat.le_of_ble_eq_true rfl, Nat.le_of_ble_eq_true rfl⟩ rfl (Nat.le_of_ble_eq_true rfl) dX11_partOfStranger_39 ?_
  exact gr_iret X dX11_partOfStranger_42 (Option.some.inj hf) rfl
abbrev ro_hh_cause : Room := { frames := 4, cells := 0, slots := 0, locals := 96 }
def fc_hh_cause_b57 (τ : SC) (K63 : Int32 → Int32 → Int32 → Option Int32) (K18 : Int32 → Int32 → Int32 → Int32 → Option Int32) (x1 : Int32) (x2 : Int32) (x3 : Int32) (x4 : Int32) : Option Int32 := (K18 x1 x2 x3 (x4 + (1 : Int32)))
def fc_hh_cause_b50 (τ : SC) (K63 : Int32 → Int32 → Int32 → Option Int32) (K18 : Int32 → Int32 → Int32 → Int32 → Option Int32) (x1 : Int32) (x2 : Int32) (x3 : Int32) (x4 : Int32) : Option Int32 := (if x1 = 0 then (fc_hh_cause_b57 τ K63 K18 x1 x2 x3 x4) else (K63 x1 x2 x3))
def fc_hh_cause_l18 (τ : SC) (K63 : Int32 → Int32 → Int32 → Option Int32) : Nat → Int32 → Int32 → Int32 → Int32 → Option Int32
  | 0, _, _, _, _ => none
  | n + 1, x1, x2, x3, x4 => (if (500 : Int32) ≤ x4 then (K63 x1 x2 x3) else (Option.bind (fc_to_wrongReports τ x4) fun q2 => (if ¬ q2 = 0 then (fc_hh_cause_b57 τ K63 (fc_hh_cause_l18 τ K63 n) x1 x2 x3 x4) else (if ¬ x3 = (-3 : Int32) then (fc_hh_cause_b50 τ K63 (fc_hh_cause_l18 τ K63 n) x1 (x2 + (1 : Int32)) x3 x4) else (fc_hh_cause_b50 τ K63 (fc_hh_cause_l18 τ K63 n) x1 (x2 + (1 : Int32)) x4 x4)))))
def fc_hh_cause_b63 (τ : SC) (x1 : Int32) (x2 : Int32) (x3 : Int32) : Option Int32 := (if ¬ x1 = 0 then (if ¬ x3 = (-3 : Int32) then (Option.bind (fc_hh_partOfStranger x3 x1) fun q3 => (some q3)) else (some (-3 : Int32))) else (some x2))
def fc_hh_cause (τ : SC) (x1 : Int32) : Option Int32 := (Option.bind (fc_hh_within x1 (3 : Int32)) fun q1 => (if ¬ q1 = 0 then (fc_hh_cause_l18 τ (fun x1 x2 x3 => (fc_hh_cause_b63 τ x1 x2 x3)) hFU x1 (0 : Int32) (-3 : Int32) (0 : Int32)) else (some (-1 : Int32))))
set_option maxHeartbeats 4000000 in
set_option maxRecDepth 100000 in
theorem wc_hh_cause_b57 {p : Program} {l : Launch} {e : Env} {s : State} {m : MethodId} {args : Array Value} {below : List Frame} {meth : Method} {c : Code} {A : Nat → Prop} {D : va_G} {cs : Nat → ClassId} {sK sV : Nat → Nat} {tA : Nat} {ad : Nat → Nat} {r : Int32} {τ : SC} {K63 : Int32 → Int32 → Int32 → Option Int32} {K18 : Int32 → Int32 → Int32 → Int32 → Option Int32} (X : hc p s m args meth c RX11 cX11_cause 5 (some .int)) (hK : kC D cs sK sV tA A s) (hA : ∀ q, s.heap.size ≤ q → A q) (hK63 : (∀ (x1 : Int32) (x2 : Int32) (x3 : Int32), K63 x1 x2 x3 = some r → gg p l e ro_hh_cause s m args below meth c (wC ad cs) D vwCl A 5 (QI below args s (wC ad cs) D vwCl A r τ) 63 [(1, .int x1), (2, .int x2), (3, .int x3)] [] τ)) (hK18 : (∀ (x1 : Int32) (x2 : Int32) (x3 : Int32) (x4 : Int32), K18 x1 x2 x3 x4 = some r → gg p l e ro_hh_cause s m args below meth c (wC ad cs) D vwCl A 5 (QI below args s (wC ad cs) D vwCl A r τ) 18 [(0, .ref (ad 16)), (1, .int x1), (2, .int x2), (3, .int x3), (4, .int x4)] [] τ))  (x1 : Int32) (x2 : Int32) (x3 : Int32) (x4 : Int32) (hf : fc_hh_cause_b57 τ K63 K18 x1 x2 x3 x4 = some r) : gg p l e ro_hh_cause s m args below meth c (wC ad cs) D vwCl A 5 (QI below args s (wC ad cs) D vwCl A r τ) 57 [(0, .ref (ad 16)), (1, .int x1), (2, .int x2), (3, .int x3), (4, .int x4)] [] τ := by
  unfold fc_hh_cause_b57 at hf
  refine gr_iinc (k := 4) (v := 1) (L2 := [(4, .int (x4 + (1 : Int32))), (0, .ref (ad 16)), (1, .int x1), (2, .int x2), (3, .int x3)]) X dX11_cause_57 rfl (by decide) (by decide) rfl ?_
  refine gr_goto X 18 dX11_cause_60 (by decide) ?_
  refine gr_sub [1, 2, 3, 4, 0] rfl ?_
  exact hK18 _ _ _ _ hf
set_option maxHeartbeats 4000000 in
set_option maxRecDepth 100000 in
theorem wc_hh_cause_b50 {p : Program} {l : Launch} {e : Env} {s : State} {m : MethodId} {args : Array Value} {below : List Frame} {meth : Method} {c : Code} {A : Nat → Prop} {D : va_G} {cs : Nat → ClassId} {sK sV : Nat → Nat} {tA : Nat} {ad : Nat → Nat} {r : Int32} {τ : SC} {K63 : Int32 → Int32 → Int32 → Option Int32} {K18 : Int32 → Int32 → Int32 → Int32 → Option Int32} (X : hc p s m args meth c RX11 cX11_cause 5 (some .int)) (hK : kC D cs sK sV tA A s) (hA : ∀ q, s.heap.size ≤ q → A q) (hK63 : (∀ (x1 : Int32) (x2 : Int32) (x3 : Int32), K63 x1 x2 x3 = some r → gg p l e ro_hh_cause s m args below meth c (wC ad cs) D vwCl A 5 (QI below args s (wC ad cs) D vwCl A r τ) 63 [(1, .int x1), (2, .int x2), (3, .int x3)] [] τ)) (hK18 : (∀ (x1 : Int32) (x2 : Int32) (x3 : Int32) (x4 : Int32), K18 x1 x2 x3 x4 = some r → gg p l e ro_hh_cause s m args below meth c (wC ad cs) D vwCl A 5 (QI below args s (wC ad cs) D vwCl A r τ) 18 [(0, .ref (ad 16)), (1, .int x1), (2, .int x2), (3, .int x3), (4, .int x4)] [] τ))  (x1 : Int32) (x2 : Int32) (x3 : Int32) (x4 : Int32) (hf : fc_hh_cause_b50 τ K63 K18 x1 x2 x3 x4 = some r) : gg p l e ro_hh_cause s m args below meth c (wC ad cs) D vwCl A 5 (QI below args s (wC ad cs) D vwCl A r τ) 50 [(0, .ref (ad 16)), (1, .int x1), (2, .int x2), (3, .int x3), (4, .int x4)] [] τ := by
  unfold fc_hh_cause_b50 at hf
  refine gr_iload_n X dX11_cause_50 rfl 1 rfl ?_
  refine gr_if_eq X 57 dX11_cause_51 (by decide) (fun hc_ => ?_) (fun hc_ => ?_)
  · replace hf := ot_t hf hc_
    refine gr_sub [0, 1, 2, 3, 4] rfl ?_
    exact wc_hh_cause_b57 X hK hA hK63 hK18 _ _ _ _ hf
  · replace hf := ot_f hf hc_
    refine gr_goto X 63 dX11_cause_54 (by decide) ?_
    refine gr_sub [1, 2, 3] rfl ?_
    exact hK63 _ _ _ hf
set_option maxHeartbeats 4000000 in
set_option maxRecDepth 100000 in
theorem wc_hh_cause_l18 {p : Program} {l : Launch} {e : Env} {s : State} {m : MethodId} {args : Array Value} {below : List Frame} {meth : Method} {c : Code} {A : Nat → Prop} {D : va_G} {cs : Nat → ClassId} {sK sV : Nat → Nat} {tA : Nat} {ad : Nat → Nat} {r : Int32} {τ : SC} {K63 : Int32 → Int32 → Int32 → Option Int32} (X : hc p s m args meth c RX11 cX11_cause 5 (some .int)) (hK : kC D cs sK sV tA A s) (hA : ∀ q, s.heap.size ≤ q → A q) (hK63 : (∀ (x1 : Int32) (x2 : Int32) (x3 : Int32), K63 x1 x2 x3 = some r → gg p l e ro_hh_cause s m args below meth c (wC ad cs) D vwCl A 5 (QI below args s (wC ad cs) D vwCl A r τ) 63 [(1, .int x1), (2, .int x2), (3, .int x3)] [] τ)) : ∀ (n : Nat) (x1 : Int32) (x2 : Int32) (x3 : Int32) (x4 : Int32), fc_hh_cause_l18 τ K63 n x1 x2 x3 x4 = some r → gg p l e ro_hh_cause s m args below meth c (wC ad cs) D vwCl A 5 (QI below args s (wC ad cs) D vwCl A r τ) 18 [(0, .ref (ad 16)), (1, .int x1), (2, .int x2), (3, .int x3), (4, .int x4)] [] τ := by
  intro n
  induction n with
  | zero =>
    intro x1 x2 x3 x4 hf
    cases (show (none : Option Int32) = some r from hf)
  | succ n ih =>
    intro x1 x2 x3 x4 hf
    unfold fc_hh_cause_l18 at hf
    refine gr_iload X dX11_cause_18 4 rfl ?_
    refine gr_sipush (v := 500) X dX11_cause_20 (by decide) ?_
    refine gr_icmp_ge X 63 dX11_cause_23 (by decide) (fun hc_ => ?_) (fun hc_ => ?_)
    · replace hf := ot_t hf hc_
      refine gr_sub [1, 2, 3] rfl ?_
      exact hK63 _ _ _ hf
    · replace hf := ot_f hf hc_
      refine gr_aload_n X dX11_cause_26 rfl 0 rfl ?_
      refine gC_get_HH_0 X hK fk11_10 dX11_cause_27 ?_
      refine gr_iload X dX11_cause_30 4 rfl ?_
      obtain ⟨q2, hq_, hf⟩ := ot_b hf
      refine gc_Vi (rest := []) X kC_ok hK hA cw11_282 (rvC_T0 hK) (xc_to_wrongReports hq_) rfl ⟨rfl, rfl, Nat.le_of_ble_eq_true rfl, Nat.le_of_ble_eq_true rfl⟩ rfl (Nat.le_of_ble_eq_true rfl) dX11_cause_32 ?_
      refine gr_if_ne X 57 dX11_cause_35 (by decide) (fun hc_ => ?_) (fun hc_ => ?_)
      · replace hf := ot_t hf hc_
        refine gr_sub [0, 1, 2, 3, 4] rfl ?_
        exact wc_hh_cause_b57 X hK hA hK63 ih _ _ _ _ hf
      · replace hf := ot_f hf hc_
        refine gr_iinc (k := 2) (v := 1) (L2 := [(2, .int (x2 + (1 : Int32))), (0, .ref (ad 16)), (1, .int x1), (3, .int x3), (4, .int x4)]) X dX11_cause_38 rfl (by decide) (by decide) rfl ?_
        refine gr_iload_n X dX11_cause_41 rfl 3 rfl ?_
        refine gr_bipush (v := -3) X dX11_cause_42 (by decide) ?_
        refine gr_icmp_ne X 50 dX11_cause_44 (by decide) (fun hc_ => ?_) (fun hc_ => ?_)
        · replace hf := ot_t hf hc_
          refine gr_sub [1, 2, 0, 3, 4] rfl ?_
          exact wc_hh_cause_b50 X hK hA hK63 ih _ _ _ _ hf
        · replace hf := ot_f hf hc_
          refine gr_iload X dX11_cause_47 4 rfl ?_
          refine gr_istore_n (L2 := [(3, .int x4), (2, .int (x2 + (1 : Int32))), (0, .ref (ad 16)), (1, .int x1), (4, .int x4)]) X dX11_cause_49 rfl (by decide) rfl ?_
          refine gr_sub [2, 3, 1, 0, 4] rfl ?_
          exact wc_hh_cause_b50 X hK hA hK63 ih _ _ _ _ hf
set_option maxHeartbeats 4000000 in
set_option maxRecDepth 100000 in
theorem wc_hh_cause_b63 {p : Program} {l : Launch} {e : Env} {s : State} {m : MethodId} {args : Array Value} {below : List Frame} {meth : Method} {c : Code} {A : Nat → Prop} {D : va_G} {cs : Nat → ClassId} {sK sV : Nat → Nat} {tA : Nat} {ad : Nat → Nat} {r : Int32} {τ : SC} (X : hc p s m args meth c RX11 cX11_cause 5 (some .int)) (hK : kC D cs sK sV tA A s) (hA : ∀ q, s.heap.size ≤ q → A q)   (x1 : Int32) (x2 : Int32) (x3 : Int32) (hf : fc_hh_cause_b63 τ x1 x2 x3 = some r) : gg p l e ro_hh_cause s m args below meth c (wC ad cs) D vwCl A 5 (QI below args s (wC ad cs) D vwCl A r τ) 63 [(1, .int x1), (2, .int x2), (3, .int x3)] [] τ := by
  unfold fc_hh_cause_b63 at hf
  refine gr_iload_n X dX11_cause_63 rfl 0 rfl ?_
  refine gr_if_ne X 69 dX11_cause_64 (by decide) (fun hc_ => ?_) (fun hc_ => ?_)
  · replace hf := ot_t hf hc_
    refine gr_iload_n X dX11_cause_69 rfl 2 rfl ?_
    refine gr_bipush (v := -3) X dX11_cause_70 (by decide) ?_
    refine gr_icmp_ne X 80 dX11_cause_72 (by decide) (fun hc_ => ?_) (fun hc_ => ?_)
    · replace hf := ot_t hf hc_
      refine gr_iload_n X dX11_cause_80 rfl 2 rfl ?_
      refine gr_iload_n X dX11_cause_81 rfl 0 rfl ?_
      obtain ⟨q3, hq_, hf⟩ := ot_b hf
      refine gc_Si (rest := []) X kC_ok hK hA cw11_285 (xc_hh_partOfStranger hq_) rfl ⟨rfl, rfl, Nat.le_of_ble_eq_true rfl, Nat.le_of_ble_eq_true rfl⟩ rfl (Nat.le_of_ble_eq_true rfl) dX11_cause_82 ?_
      exact gr_iret X dX11_cause_85 (Option.some.inj hf) rfl
    · replace hf := ot_f hf hc_
      refine gr_bipush (v := -3) X dX11_cause_75 (by decide) ?_
      refine gr_goto X 85 dX11_cause_77 (by decide) ?_
      exact gr_iret X dX11_cause_85 (Option.some.inj hf) rfl
  · replace hf := ot_f hf hc_
    refine gr_iload_n X dX11_cause_67 rfl 1 rfl ?_
    exact gr_iret X dX11_cause_68 (Option.some.inj hf) rfl
set_option maxHeartbeats 4000000 in
set_option maxRecDepth 100000 in
theorem xc_hh_cause {l : Launch} {D : va_G} {cs : Nat → ClassId} {sK sV : Nat → Nat} {tA : Nat} {ad : Nat → Nat} {τ : SC} {x1 : Int32} {r : Int32} (hf : fc_hh_cause τ x1 = some r) : ctI l (wC ad cs) D vwCl (kC D cs sK sV tA) yX11_cause cX11_cause 5 .int ro_hh_cause [.ref (ad 16), .int x1] τ r τ := by
  refine ct_I RX11 (by decide +kernel) rfl (Nat.le_of_ble_eq_true rfl) ?_
  intro p e s m args below meth c A X hK hA
  refine gr_eqL (L2 := [(0, .ref (ad 16)), (1, .int x1)]) rfl ?_
  unfold fc_hh_cause at hf
  refine gr_iload_n X dX11_cause_0 rfl 1 rfl ?_
  refine gr_iconst (v := 3) X dX11_cause_1 (by decide) ?_
  obtain ⟨q1, hq_, hf⟩ := ot_b hf
  refine gc_Si (rest := []) X kC_ok hK hA cw11_79 (xc_hh_within hq_) rfl ⟨rfl, rfl, Nat.le_of_ble_eq_true rfl, Nat.le_of_ble_eq_true rfl⟩ rfl (Nat.le_of_ble_eq_true rfl) dX11_cause_2 ?_
  refine gr_if_ne X 10 dX11_cause_5 (by decide) (fun hc_ => ?_) (fun hc_ => ?_)
  · replace hf := ot_t hf hc_
    refine gr_iconst (v := 0) X dX11_cause_10 (by decide) ?_
    refine gr_istore_n (L2 := [(2, .int (0 : Int32)), (0, .ref (ad 16)), (1, .int x1)]) X dX11_cause_11 rfl (by decide) rfl ?_
    refine gr_bipush (v := -3) X dX11_cause_12 (by decide) ?_
    refine gr_istore_n (L2 := [(3, .int (-3 : Int32)), (2, .int (0 : Int32)), (0, .ref (ad 16)), (1, .int x1)]) X dX11_cause_14 rfl (by decide) rfl ?_
    refine gr_iconst (v := 0) X dX11_cause_15 (by decide) ?_
    refine gr_istore (L2 := [(4, .int (0 : Int32)), (3, .int (-3 : Int32)), (2, .int (0 : Int32)), (0, .ref (ad 16)), (1, .int x1)]) X dX11_cause_16 (by decide) rfl ?_
    refine gr_sub [3, 4, 2, 1, 0] rfl ?_
    refine wc_hh_cause_l18 X hK hA (fun x1 x2 x3 hf => ?_) hFU _ _ _ _ hf
    refine gr_sub [0, 1, 2] rfl ?_
    exact wc_hh_cause_b63 X hK hA _ _ _ hf
  · replace hf := ot_f hf hc_
    refine gr_iconst (v := -1) X dX11_cause_8 (by decide) ?_
    exact gr_iret X dX11_cause_9 (Option.some.inj hf) rfl
abbrev ro_j6_bitCount_0f7a4 : Room := { frames := 0, cells := 0, slots := 0, locals := 0 }
def fc_j6_bitCount_0f7a4 (x0 : Int32) : Option Int32 := (hl (x0 - ((hushr x0 (1 : Int32)) &&& (1431655765 : Int32))) fun v1 => (hl ((v1 &&& (858993459 : Int32)) + ((hushr v1 (2 : Int32)) &&& (858993459 : Int32))) fun v2 => (hl ((v2 + (hushr v2 (4 : Int32))) &&& (252645135 : Int32)) fun v3 => (hl (v3 + (hushr v3 (8 : Int32))) fun v4 => (hl (v4 + (hushr v4 (16 : Int32))) fun v5 => (some (v5 &&& (63 : Int32))))))))
set_option maxHeartbeats 4000000 in
set_option maxRecDepth 100000 in
theorem xc_j6_bitCount_0f7a4 {l : Launch} {D : va_G} {cs : Nat → ClassId} {sK sV : Nat → Nat} {tA : Nat} {ad : Nat → Nat} {τ : SC} {x0 : Int32} {r : Int32} (hf : fc_j6_bitCount_0f7a4 x0 = some r) : ctI l (wC ad cs) D vwCl (kC D cs sK sV tA) yJ6_bitCount_0f7a4 cJ6_bitCount_0f7a4 1 .int ro_j6_bitCount_0f7a4 [.int x0] τ r τ := by
  refine ct_I RJ6 (by decide +kernel) rfl (Nat.le_of_ble_eq_true rfl) ?_
  intro p e s m args below meth c A X hK hA
  refine gr_eqL (L2 := [(0, .int x0)]) rfl ?_
  unfold fc_j6_bitCount_0f7a4 at hf
  refine gr_iload_n X dJ6_bitCount_0f7a4_0 rfl 0 rfl ?_
  refine gr_iload_n X dJ6_bitCount_0f7a4_1 rfl 0 rfl ?_
  refine gr_iconst (v := 1) X dJ6_bitCount_0f7a4_2 (by decide) ?_
  refine gr_iushr X dJ6_bitCount_0f7a4_3 ?_
  refine gr_ldc_w X ckJ6_265 dJ6_bitCount_0f7a4_4 ?_
  refine gr_iand X dJ6_bitCount_0f7a4_7 ?_
  refine gr_isub X dJ6_bitCount_0f7a4_8 ?_
  refine gC_top (fun v1 e_v1 => ?_)
  replace hf := ot_l hf e_v1
  refine gr_istore_n (L2 := [(0, .int v1)]) X dJ6_bitCount_0f7a4_9 rfl (by decide) rfl ?_
  refine gr_iload_n X dJ6_bitCount_0f7a4_10 rfl 0 rfl ?_
  refine gr_ldc_w X ckJ6_266 dJ6_bitCount_0f7a4_11 ?_
  refine gr_iand X dJ6_bitCount_0f7a4_14 ?_
  refine gr_iload_n X dJ6_bitCount_0f7a4_15 rfl 0 rfl ?_
  refine gr_iconst (v := 2) X dJ6_bitCount_0f7a4_16 (by decide) ?_
  refine gr_iushr X dJ6_bitCount_0f7a4_17 ?_
  refine gr_ldc_w X ckJ6_266 dJ6_bitCount_0f7a4_18 ?_
  refine gr_iand X dJ6_bitCount_0f7a4_21 ?_
  refine gr_iadd X dJ6_bitCount_0f7a4_22 ?_
  refine gC_top (fun v2 e_v2 => ?_)
  replace hf := ot_l hf e_v2
  refine gr_istore_n (L2 := [(0, .int v2)]) X dJ6_bitCount_0f7a4_23 rfl (by decide) rfl ?_
  refine gr_iload_n X dJ6_bitCount_0f7a4_24 rfl 0 rfl ?_
  refine gr_iload_n X dJ6_bitCount_0f7a4_25 rfl 0 rfl ?_
  refine gr_iconst (v := 4) X dJ6_bitCount_0f7a4_26 (by decide) ?_
  refine gr_iushr X dJ6_bitCount_0f7a4_27 ?_
  refine gr_iadd X dJ6_bitCount_0f7a4_28 ?_
  refine gr_ldc_w X ckJ6_267 dJ6_bitCount_0f7a4_29 ?_
  refine gr_iand X dJ6_bitCount_0f7a4_32 ?_
  refine gC_top (fun v3 e_v3 => ?_)
  replace hf := ot_l hf e_v3
  refine gr_istore_n (L2 := [(0, .int v3)]) X dJ6_bitCount_0f7a4_33 rfl (by decide) rfl ?_
  refine gr_iload_n X dJ6_bitCount_0f7a4_34 rfl 0 rfl ?_
  refine gr_iload_n X dJ6_bitCount_0f7a4_35 rfl 0 rfl ?_
  refine gr_bipush (v := 8) X dJ6_bitCount_0f7a4_36 (by decide) ?_
  refine gr_iushr X dJ6_bitCount_0f7a4_38 ?_
  refine gr_iadd X dJ6_bitCount_0f7a4_39 ?_
  refine gC_top (fun v4 e_v4 => ?_)
  replace hf := ot_l hf e_v4
  refine gr_istore_n (L2 := [(0, .int v4)]) X dJ6_bitCount_0f7a4_40 rfl (by decide) rfl ?_
  refine gr_iload_n X dJ6_bitCount_0f7a4_41 rfl 0 rfl ?_
  refine gr_iload_n X dJ6_bitCount_0f7a4_42 rfl 0 rfl ?_
  refine gr_bipush (v := 16) X dJ6_bitCount_0f7a4_43 (by decide) ?_
  refine gr_iushr X dJ6_bitCount_0f7a4_45 ?_
  refine gr_iadd X dJ6_bitCount_0f7a4_46 ?_
  refine gC_top (fun v5 e_v5 => ?_)
  replace hf := ot_l hf e_v5
  refine gr_istore_n (L2 := [(0, .int v5)]) X dJ6_bitCount_0f7a4_47 rfl (by decide) rfl ?_
  refine gr_iload_n X dJ6_bitCount_0f7a4_48 rfl 0 rfl ?_
  refine gr_bipush (v := 63) X dJ6_bitCount_0f7a4_49 (by decide) ?_
  refine gr_iand X dJ6_bitCount_0f7a4_51 ?_
  exact gr_iret X dJ6_bitCount_0f7a4_52 (Option.some.inj hf) rfl
abbrev ro_hh_liar : Room := { frames := 4, cells := 0, slots := 0, locals := 96 }
def fc_hh_liar_b39 (τ : SC) (K45 : Int32 → Option Int32) (K4 : Int32 → Int32 → Option Int32) (x1 : Int32) (x2 : Int32) : Option Int32 := (K4 x1 (x2 + (1 : Int32)))
def fc_hh_liar_l4 (τ : SC) (K45 : Int32 → Option Int32) : Nat → Int32 → Int32 → Option Int32
  | 0, _, _ => none
  | n + 1, x1, x2 => (if (500 : Int32) ≤ x2 then (K45 x1) else (Option.bind (fc_to_wrongReports τ x2) fun q1 => (if ¬ q1 = 0 then (Option.bind (fc_j6_bitCount_0f7a4 q1) fun q2 => (if ¬ q2 = (1 : Int32) then (fc_hh_liar_b39 τ K45 (fc_hh_liar_l4 τ K45 n) x1 x2) else (hl (x1 ||| q1) fun v3 => (fc_hh_liar_b39 τ K45 (fc_hh_liar_l4 τ K45 n) v3 x2)))) else (some (-3 : Int32)))))
def fc_hh_liar (τ : SC) : Option Int32 := (fc_hh_liar_l4 τ (fun x1 => (if ¬ x1 = 0 then (Option.bind (fc_j6_numberOfTrailingZeros_0f7a4 x1) fun q4 => (some q4)) else (some (-3 : Int32)))) hFU (0 : Int32) (0 : Int32))
set_option maxHeartbeats 4000000 in
set_option maxRecDepth 100000 in
theorem wc_hh_liar_b39 {p : Program} {l : Launch} {e : Env} {s : State} {m : MethodId} {args : Array Value} {below : List Frame} {meth : Method} {c : Code} {A : Nat → Prop} {D : va_G} {cs : Nat → ClassId} {sK sV : Nat → Nat} {tA : Nat} {ad : Nat → Nat} {r : Int32} {τ : SC} {K45 : Int32 → Option Int32} {K4 : Int32 → Int32 → Option Int32} (X : hc p s m args meth c RX11 cX11_liar 4 (some .int)) (hK : kC D cs sK sV tA A s) (hA : ∀ q, s.heap.size ≤ q → A q) (hK45 : (∀ (x1 : Int32), K45 x1 = some r → gg p l e ro_hh_liar s m args below meth c (wC ad cs) D vwCl A 4 (QI below args s (wC ad cs) D vwCl A r τ) 45 [(1, .int x1)] [] τ)) (hK4 : (∀ (x1 : Int32) (x2 : Int32), K4 x1 x2 = some r → gg p l e ro_hh_liar s m args below meth c (wC ad cs) D vwCl A 4 (QI below args s (wC ad cs) D vwCl A r τ) 4 [(0, .ref (ad 16)), (1, .int x1), (2, .int x2)] [] τ))  (x1 : Int32) (x2 : Int32) (hf : fc_hh_liar_b39 τ K45 K4 x1 x2 = some r) : gg p l e ro_hh_liar s m args below meth c (wC ad cs) D vwCl A 4 (QI below args s (wC ad cs) D vwCl A r τ) 39 [(0, .ref (ad 16)), (1, .int x1), (2, .int x2)] [] τ := by
  unfold fc_hh_liar_b39 at hf
  refine gr_iinc (k := 2) (v := 1) (L2 := [(2, .int (x2 + (1 : Int32))), (0, .ref (ad 16)), (1, .int x1)]) X dX11_liar_39 rfl (by decide) (by decide) rfl ?_
  refine gr_goto X 4 dX11_liar_42 (by decide) ?_
  refine gr_sub [1, 2, 0] rfl ?_
  exact hK4 _ _ hf
set_option maxHeartbeats 4000000 in
set_option maxRecDepth 100000 in
theorem wc_hh_liar_l4 {p : Program} {l : Launch} {e : Env} {s : State} {m : MethodId} {args : Array Value} {below : List Frame} {meth : Method} {c : Code} {A : Nat → Prop} {D : va_G} {cs : Nat → ClassId} {sK sV : Nat → Nat} {tA : Nat} {ad : Nat → Nat} {r : Int32} {τ : SC} {K45 : Int32 → Option Int32} (X : hc p s m args meth c RX11 cX11_liar 4 (some .int)) (hK : kC D cs sK sV tA A s) (hA : ∀ q, s.heap.size ≤ q → A q) (hK45 : (∀ (x1 : Int32), K45 x1 = some r → gg p l e ro_hh_liar s m args below meth c (wC ad cs) D vwCl A 4 (QI below args s (wC ad cs) D vwCl A r τ) 45 [(1, .int x1)] [] τ)) : ∀ (n : Nat) (x1 : Int32) (x2 : Int32), fc_hh_liar_l4 τ K45 n x1 x2 = some r → gg p l e ro_hh_liar s m args below meth c (wC ad cs) D vwCl A 4 (QI below args s (wC ad cs) D vwCl A r τ) 4 [(0, .ref (ad 16)), (1, .int x1), (2, .int x2)] [] τ := by
  intro n
  induction n with
  | zero =>
    intro x1 x2 hf
    cases (show (none : Option Int32) = some r from hf)
  | succ n ih =>
    intro x1 x2 hf
    unfold fc_hh_liar_l4 at hf
    refine gr_iload_n X dX11_liar_4 rfl 2 rfl ?_
    refine gr_sipush (v := 500) X dX11_liar_5 (by decide) ?_
    refine gr_icmp_ge X 45 dX11_liar_8 (by decide) (fun hc_ => ?_) (fun hc_ => ?_)
    · replace hf := ot_t hf hc_
      refine gr_sub [1] rfl ?_
      exact hK45 _ hf
    · replace hf := ot_f hf hc_
      refine gr_aload_n X dX11_liar_11 rfl 0 rfl ?_
      refine gC_get_HH_0 X hK fk11_10 dX11_liar_12 ?_
      refine gr_iload_n X dX11_liar_15 rfl 2 rfl ?_
      obtain ⟨q1, hq_, hf⟩ := ot_b hf
      refine gc_Vi (rest := []) X kC_ok hK hA cw11_282 (rvC_T0 hK) (xc_to_wrongReports hq_) rfl ⟨rfl, rfl, Nat.le_of_ble_eq_true rfl, Nat.le_of_ble_eq_true rfl⟩ rfl (Nat.le_of_ble_eq_true rfl) dX11_liar_16 ?_
      refine gr_istore_n (L2 := [(3, .int q1), (0, .ref (ad 16)), (1, .int x1), (2, .int x2)]) X dX11_liar_19 rfl (by decide) rfl ?_
      refine gr_iload_n X dX11_liar_20 rfl 0 rfl ?_
      refine gr_if_ne X 27 dX11_liar_21 (by decide) (fun hc_ => ?_) (fun hc_ => ?_)
      · replace hf := ot_t hf hc_
        refine gr_iload_n X dX11_liar_27 rfl 0 rfl ?_
        obtain ⟨q2, hq_, hf⟩ := ot_b hf
        refine gc_Si (rest := []) X kC_ok hK hA cw11_297 (xc_j6_bitCount_0f7a4 hq_) rfl ⟨rfl, rfl, Nat.le_of_ble_eq_true rfl, Nat.le_of_ble_eq_true rfl⟩ rfl (Nat.le_of_ble_eq_true rfl) dX11_liar_28 ?_
        refine gr_iconst (v := 1) X dX11_liar_31 (by decide) ?_
        refine gr_icmp_ne X 39 dX11_liar_32 (by decide) (fun hc_ => ?_) (fun hc_ => ?_)
        · replace hf := ot_t hf hc_
          refine gr_sub [1, 2, 3] rfl ?_
          exact wc_hh_liar_b39 X hK hA hK45 ih _ _ hf
        · replace hf := ot_f hf hc_
          refine gr_iload_n X dX11_liar_35 rfl 2 rfl ?_
          refine gr_iload_n X dX11_liar_36 rfl 0 rfl ?_
          refine gr_ior X dX11_liar_37 ?_
          refine gC_top (fun v3 e_v3 => ?_)
          replace hf := ot_l hf e_v3
          refine gr_istore_n (L2 := [(1, .int v3), (3, .int q1), (0, .ref (ad 16)), (2, .int x2)]) X dX11_liar_38 rfl (by decide) rfl ?_
          refine gr_sub [2, 0, 3] rfl ?_
          exact wc_hh_liar_b39 X hK hA hK45 ih _ _ hf
      · replace hf := ot_f hf hc_
        refine gr_bipush (v := -3) X dX11_liar_24 (by decide) ?_
        exact gr_iret X dX11_liar_26 (Option.some.inj hf) rfl
set_option maxHeartbeats 4000000 in
set_option maxRecDepth 100000 in
theorem xc_hh_liar {l : Launch} {D : va_G} {cs : Nat → ClassId} {sK sV : Nat → Nat} {tA : Nat} {ad : Nat → Nat} {τ : SC} {r : Int32} (hf : fc_hh_liar τ = some r) : ctI l (wC ad cs) D vwCl (kC D cs sK sV tA) yX11_liar cX11_liar 4 .int ro_hh_liar [.ref (ad 16)] τ r τ := by
  refine ct_I RX11 (by decide +kernel) rfl (Nat.le_of_ble_eq_true rfl) ?_
  intro p e s m args below meth c A X hK hA
  refine gr_eqL (L2 := [(0, .ref (ad 16))]) rfl ?_
  unfold fc_hh_liar at hf
  refine gr_iconst (v := 0) X dX11_liar_0 (by decide) ?_
  refine gr_istore_n (L2 := [(1, .int (0 : Int32)), (0, .ref (ad 16))]) X dX11_liar_1 rfl (by decide) rfl ?_
  refine gr_iconst (v := 0) X dX11_liar_2 (by decide) ?_
  refine gr_istore_n (L2 := [(2, .int (0 : Int32)), (1, .int (0 : Int32)), (0, .ref (ad 16))]) X dX11_liar_3 rfl (by decide) rfl ?_
  refine gr_sub [2, 1, 0] rfl ?_
  refine wc_hh_liar_l4 X hK hA (fun x1 hf => ?_) hFU _ _ hf
  refine gr_iload_n X dX11_liar_45 rfl 0 rfl ?_
  refine gr_if_ne X 54 dX11_liar_46 (by decide) (fun hc_ => ?_) (fun hc_ => ?_)
  · replace hf := ot_t hf hc_
    refine gr_iload_n X dX11_liar_54 rfl 0 rfl ?_
    obtain ⟨q4, hq_, hf⟩ := ot_b hf
    refine gc_Si (rest := []) X kC_ok hK hA cw11_267 (xc_j6_numberOfTrailingZeros_0f7a4 hq_) rfl ⟨rfl, rfl, Nat.le_of_ble_eq_true rfl, Nat.le_of_ble_eq_true rfl⟩ rfl (Nat.le_of_ble_eq_true rfl) dX11_liar_55 ?_
    exact gr_iret X dX11_liar_58 (Option.some.inj hf) rfl
  · replace hf := ot_f hf hc_
    refine gr_bipush (v := -3) X dX11_liar_49 (by decide) ?_
    refine gr_goto X 58 dX11_liar_51 (by decide) ?_
    exact gr_iret X dX11_liar_58 (Option.some.inj hf) rfl
