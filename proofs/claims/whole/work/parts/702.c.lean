abbrev ro_hh_replaced_a114 : Room := { frames := 0, cells := 0, slots := 0, locals := 0 }
def fc_hh_replaced_a114 (x1 : Int32) (x2 : Int32) (τ : SC) : Option (Int32 × SC) := (oc (hin x1 6) (hl (τ.1 114 (Int32.toNatClampNeg x1)) fun v1 => (oc (hin x1 6) (hl (sc τ 114 (upd (τ.1 114) (Int32.toNatClampNeg x1) x2)) fun τ2 => (some (v1, τ2))))))
set_option maxHeartbeats 4000000 in
set_option maxRecDepth 100000 in
theorem xc_hh_replaced_a114 {l : Launch} {D : va_G} {cs : Nat → ClassId} {sK sV : Nat → Nat} {tA : Nat} {ad : Nat → Nat} {τ : SC} {x1 : Int32} {x2 : Int32} {r : Int32} {υ : SC} (hf : fc_hh_replaced_a114 x1 x2 τ = some (r, υ)) : ctI l (wC ad cs) D vwCl (kC D cs sK sV tA) yX11_replaced cX11_replaced 4 .int ro_hh_replaced_a114 [.ref (ad 114), .int x1, .int x2] τ r υ := by
  refine ct_I RX11 (by decide +kernel) rfl (Nat.le_of_ble_eq_true rfl) ?_
  intro p e s m args below meth c A X hK hA
  refine gr_eqL (L2 := [(0, .ref (ad 114)), (1, .int x1), (2, .int x2)]) rfl ?_
  unfold fc_hh_replaced_a114 at hf
  refine gr_aload_n X dX11_replaced_0 rfl 0 rfl ?_
  refine gr_iload_n X dX11_replaced_1 rfl 1 rfl ?_
  have hi_ := oc_1 hf
  replace hf := oc_2 hf
  refine gC_ald_114 X hK (Int32.toNatClampNeg x1) hi_ rfl dX11_replaced_2 ?_
  refine gC_top (fun v1 e_v1 => ?_)
  replace hf := ot_l hf e_v1
  refine gr_istore_n (L2 := [(3, .int v1), (0, .ref (ad 114)), (1, .int x1), (2, .int x2)]) X dX11_replaced_3 rfl (by decide) rfl ?_
  refine gr_aload_n X dX11_replaced_4 rfl 1 rfl ?_
  refine gr_iload_n X dX11_replaced_5 rfl 2 rfl ?_
  refine gr_iload_n X dX11_replaced_6 rfl 3 rfl ?_
  have hi_ := oc_1 hf
  replace hf := oc_2 hf
  refine gC_ast_114 X hK (Int32.toNatClampNeg x1) hi_ rfl dX11_replaced_7 ?_
  refine gC_gen (fun τ2 e_τ2 => ?_)
  replace hf := ot_l hf e_τ2
  refine gr_iload_n X dX11_replaced_8 rfl 0 rfl ?_
  exact gr_iret X dX11_replaced_9 (Prod.mk.inj (Option.some.inj hf)).1 (Prod.mk.inj (Option.some.inj hf)).2
abbrev ro_hh_remake : Room := { frames := 1, cells := 0, slots := 0, locals := 23 }
def fc_hh_remake (x1 : Int32) (x2 : Int32) (τ : SC) : Option (Int32 × SC) := (Option.bind (fc_to_has τ x1) fun q1 => (if q1 = 0 then (some ((-1 : Int32), τ)) else (Option.bind (fc_hh_isKind x2) fun q2 => (if ¬ q2 = 0 then (Option.bind (fc_hh_replaced_a114 x1 x2 τ) fun p_ => hl p_.1 fun q3 => hl p_.2 fun τ4 => (some (q3, τ4))) else (some ((-1 : Int32), τ))))))
set_option maxHeartbeats 4000000 in
set_option maxRecDepth 100000 in
theorem xc_hh_remake {l : Launch} {D : va_G} {cs : Nat → ClassId} {sK sV : Nat → Nat} {tA : Nat} {ad : Nat → Nat} {τ : SC} {x1 : Int32} {x2 : Int32} {r : Int32} {υ : SC} (hf : fc_hh_remake x1 x2 τ = some (r, υ)) : ctI l (wC ad cs) D vwCl (kC D cs sK sV tA) yX11_remake cX11_remake 3 .int ro_hh_remake [.ref (ad 16), .int x1, .int x2] τ r υ := by
  refine ct_I RX11 (by decide +kernel) rfl (Nat.le_of_ble_eq_true rfl) ?_
  intro p e s m args below meth c A X hK hA
  refine gr_eqL (L2 := [(0, .ref (ad 16)), (1, .int x1), (2, .int x2)]) rfl ?_
  unfold fc_hh_remake at hf
  refine gr_aload_n X dX11_remake_0 rfl 0 rfl ?_
  refine gC_get_HH_0 X hK fk11_10 dX11_remake_1 ?_
  refine gr_iload_n X dX11_remake_4 rfl 1 rfl ?_
  obtain ⟨q1, hq_, hf⟩ := ot_b hf
  refine gc_Vi (rest := []) X kC_ok hK hA cw11_91 (rvC_T0 hK) (xc_to_has hq_) rfl ⟨rfl, rfl, Nat.le_of_ble_eq_true rfl, Nat.le_of_ble_eq_true rfl⟩ rfl (Nat.le_of_ble_eq_true rfl) dX11_remake_5 ?_
  refine gr_if_eq X 18 dX11_remake_8 (by decide) (fun hc_ => ?_) (fun hc_ => ?_)
  · replace hf := ot_t hf hc_
    refine gr_iconst (v := -1) X dX11_remake_18 (by decide) ?_
    exact gr_iret X dX11_remake_19 (Prod.mk.inj (Option.some.inj hf)).1 (Prod.mk.inj (Option.some.inj hf)).2
  · replace hf := ot_f hf hc_
    refine gr_iload_n X dX11_remake_11 rfl 2 rfl ?_
    obtain ⟨q2, hq_, hf⟩ := ot_b hf
    refine gc_Si (rest := []) X kC_ok hK hA cw11_75 (xc_hh_isKind hq_) rfl ⟨rfl, rfl, Nat.le_of_ble_eq_true rfl, Nat.le_of_ble_eq_true rfl⟩ rfl (Nat.le_of_ble_eq_true rfl) dX11_remake_12 ?_
    refine gr_if_ne X 20 dX11_remake_15 (by decide) (fun hc_ => ?_) (fun hc_ => ?_)
    · replace hf := ot_t hf hc_
      refine gr_aload_n X dX11_remake_20 rfl 0 rfl ?_
      refine gC_get_HH_0 X hK fk11_10 dX11_remake_21 ?_
      refine gC_get_T0_14 X hK fk11_94 dX11_remake_24 ?_
      refine gr_iload_n X dX11_remake_27 rfl 1 rfl ?_
      refine gr_iload_n X dX11_remake_28 rfl 2 rfl ?_
      obtain ⟨⟨q3, τ4⟩, hq_, hf⟩ := ot_b hf
      replace hf := ot_l (y := q3) hf rfl
      replace hf := ot_l (y := τ4) hf rfl
      refine gc_Si (rest := []) X kC_ok hK hA cw11_129 (xc_hh_replaced_a114 hq_) rfl ⟨rfl, rfl, Nat.le_of_ble_eq_true rfl, Nat.le_of_ble_eq_true rfl⟩ rfl (Nat.le_of_ble_eq_true rfl) dX11_remake_29 ?_
      exact gr_iret X dX11_remake_32 (Prod.mk.inj (Option.some.inj hf)).1 (Prod.mk.inj (Option.some.inj hf)).2
    · replace hf := ot_f hf hc_
      refine gr_iconst (v := -1) X dX11_remake_18 (by decide) ?_
      exact gr_iret X dX11_remake_19 (Prod.mk.inj (Option.some.inj hf)).1 (Prod.mk.inj (Option.some.inj hf)).2
abbrev ro_hh_replaced_a110 : Room := { frames := 0, cells := 0, slots := 0, locals := 0 }
def fc_hh_replaced_a110 (x1 : Int32) (x2 : Int32) (τ : SC) : Option (Int32 × SC) := (oc (hin x1 16) (hl (τ.1 110 (Int32.toNatClampNeg x1)) fun v1 => (oc (hin x1 16) (hl (sc τ 110 (upd (τ.1 110) (Int32.toNatClampNeg x1) x2)) fun τ2 => (some (v1, τ2))))))
set_option maxHeartbeats 4000000 in
set_option maxRecDepth 100000 in
theorem xc_hh_replaced_a110 {l : Launch} {D : va_G} {cs : Nat → ClassId} {sK sV : Nat → Nat} {tA : Nat} {ad : Nat → Nat} {τ : SC} {x1 : Int32} {x2 : Int32} {r : Int32} {υ : SC} (hf : fc_hh_replaced_a110 x1 x2 τ = some (r, υ)) : ctI l (wC ad cs) D vwCl (kC D cs sK sV tA) yX11_replaced cX11_replaced 4 .int ro_hh_replaced_a110 [.ref (ad 110), .int x1, .int x2] τ r υ := by
  refine ct_I RX11 (by decide +kernel) rfl (Nat.le_of_ble_eq_true rfl) ?_
  intro p e s m args below meth c A X hK hA
  refine gr_eqL (L2 := [(0, .ref (ad 110)), (1, .int x1), (2, .int x2)]) rfl ?_
  unfold fc_hh_replaced_a110 at hf
  refine gr_aload_n X dX11_replaced_0 rfl 0 rfl ?_
  refine gr_iload_n X dX11_replaced_1 rfl 1 rfl ?_
  have hi_ := oc_1 hf
  replace hf := oc_2 hf
  refine gC_ald_110 X hK (Int32.toNatClampNeg x1) hi_ rfl dX11_replaced_2 ?_
  refine gC_top (fun v1 e_v1 => ?_)
  replace hf := ot_l hf e_v1
  refine gr_istore_n (L2 := [(3, .int v1), (0, .ref (ad 110)), (1, .int x1), (2, .int x2)]) X dX11_replaced_3 rfl (by decide) rfl ?_
  refine gr_aload_n X dX11_replaced_4 rfl 1 rfl ?_
  refine gr_iload_n X dX11_replaced_5 rfl 2 rfl ?_
  refine gr_iload_n X dX11_replaced_6 rfl 3 rfl ?_
  have hi_ := oc_1 hf
  replace hf := oc_2 hf
  refine gC_ast_110 X hK (Int32.toNatClampNeg x1) hi_ rfl dX11_replaced_7 ?_
  refine gC_gen (fun τ2 e_τ2 => ?_)
  replace hf := ot_l hf e_τ2
  refine gr_iload_n X dX11_replaced_8 rfl 0 rfl ?_
  exact gr_iret X dX11_replaced_9 (Prod.mk.inj (Option.some.inj hf)).1 (Prod.mk.inj (Option.some.inj hf)).2
abbrev ro_hh_news : Room := { frames := 1, cells := 0, slots := 0, locals := 23 }
def fc_hh_news (x1 : Int32) (x2 : Int32) (τ : SC) : Option (Int32 × SC) := (Option.bind (fc_hh_within x1 (15 : Int32)) fun q1 => (if q1 = 0 then (some ((-1 : Int32), τ)) else (Option.bind (fc_hh_within x2 (15 : Int32)) fun q2 => (if ¬ q2 = 0 then (Option.bind (fc_hh_replaced_a110 x1 x2 τ) fun p_ => hl p_.1 fun q3 => hl p_.2 fun τ4 => (some (q3, τ4))) else (some ((-1 : Int32), τ))))))
set_option maxHeartbeats 4000000 in
set_option maxRecDepth 100000 in
theorem xc_hh_news {l : Launch} {D : va_G} {cs : Nat → ClassId} {sK sV : Nat → Nat} {tA : Nat} {ad : Nat → Nat} {τ : SC} {x1 : Int32} {x2 : Int32} {r : Int32} {υ : SC} (hf : fc_hh_news x1 x2 τ = some (r, υ)) : ctI l (wC ad cs) D vwCl (kC D cs sK sV tA) yX11_news cX11_news 3 .int ro_hh_news [.ref (ad 16), .int x1, .int x2] τ r υ := by
  refine ct_I RX11 (by decide +kernel) rfl (Nat.le_of_ble_eq_true rfl) ?_
  intro p e s m args below meth c A X hK hA
  refine gr_eqL (L2 := [(0, .ref (ad 16)), (1, .int x1), (2, .int x2)]) rfl ?_
  unfold fc_hh_news at hf
  refine gr_iload_n X dX11_news_0 rfl 1 rfl ?_
  refine gr_bipush (v := 15) X dX11_news_1 (by decide) ?_
  obtain ⟨q1, hq_, hf⟩ := ot_b hf
  refine gc_Si (rest := []) X kC_ok hK hA cw11_79 (xc_hh_within hq_) rfl ⟨rfl, rfl, Nat.le_of_ble_eq_true rfl, Nat.le_of_ble_eq_true rfl⟩ rfl (Nat.le_of_ble_eq_true rfl) dX11_news_3 ?_
  refine gr_if_eq X 18 dX11_news_6 (by decide) (fun hc_ => ?_) (fun hc_ => ?_)
  · replace hf := ot_t hf hc_
    refine gr_iconst (v := -1) X dX11_news_18 (by decide) ?_
    exact gr_iret X dX11_news_19 (Prod.mk.inj (Option.some.inj hf)).1 (Prod.mk.inj (Option.some.inj hf)).2
  · replace hf := ot_f hf hc_
    refine gr_iload_n X dX11_news_9 rfl 2 rfl ?_
    refine gr_bipush (v := 15) X dX11_news_10 (by decide) ?_
    obtain ⟨q2, hq_, hf⟩ := ot_b hf
    refine gc_Si (rest := []) X kC_ok hK hA cw11_79 (xc_hh_within hq_) rfl ⟨rfl, rfl, Nat.le_of_ble_eq_true rfl, Nat.le_of_ble_eq_true rfl⟩ rfl (Nat.le_of_ble_eq_true rfl) dX11_news_12 ?_
    refine gr_if_ne X 20 dX11_news_15 (by decide) (fun hc_ => ?_) (fun hc_ => ?_)
    · replace hf := ot_t hf hc_
      refine gr_aload_n X dX11_news_20 rfl 0 rfl ?_
      refine gC_get_HH_0 X hK fk11_10 dX11_news_21 ?_
      refine gC_get_T0_10 X hK fk11_143 dX11_news_24 ?_
      refine gr_iload_n X dX11_news_27 rfl 1 rfl ?_
      refine gr_iload_n X dX11_news_28 rfl 2 rfl ?_
      obtain ⟨⟨q3, τ4⟩, hq_, hf⟩ := ot_b hf
      replace hf := ot_l (y := q3) hf rfl
      replace hf := ot_l (y := τ4) hf rfl
      refine gc_Si (rest := []) X kC_ok hK hA cw11_129 (xc_hh_replaced_a110 hq_) rfl ⟨rfl, rfl, Nat.le_of_ble_eq_true rfl, Nat.le_of_ble_eq_true rfl⟩ rfl (Nat.le_of_ble_eq_true rfl) dX11_news_29 ?_
      exact gr_iret X dX11_news_32 (Prod.mk.inj (Option.some.inj hf)).1 (Prod.mk.inj (Option.some.inj hf)).2
    · replace hf := ot_f hf hc_
      refine gr_iconst (v := -1) X dX11_news_18 (by decide) ?_
      exact gr_iret X dX11_news_19 (Prod.mk.inj (Option.some.inj hf)).1 (Prod.mk.inj (Option.some.inj hf)).2
abbrev ro_hh_replaced_a112 : Room := { frames := 0, cells := 0, slots := 0, locals := 0 }
def fc_hh_replaced_a112 (x1 : Int32) (x2 : Int32) (τ : SC) : Option (Int32 × SC) := (oc (hin x1 6) (hl (τ.1 112 (Int32.toNatClampNeg x1)) fun v1 => (oc (hin x1 6) (hl (sc τ 112 (upd (τ.1 112) (Int32.toNatClampNeg x1) x2)) fun τ2 => (some (v1, τ2))))))
set_option maxHeartbeats 4000000 in
set_option maxRecDepth 100000 in
theorem xc_hh_replaced_a112 {l : Launch} {D : va_G} {cs : Nat → ClassId} {sK sV : Nat → Nat} {tA : Nat} {ad : Nat → Nat} {τ : SC} {x1 : Int32} {x2 : Int32} {r : Int32} {υ : SC} (hf : fc_hh_replaced_a112 x1 x2 τ = some (r, υ)) : ctI l (wC ad cs) D vwCl (kC D cs sK sV tA) yX11_replaced cX11_replaced 4 .int ro_hh_replaced_a112 [.ref (ad 112), .int x1, .int x2] τ r υ := by
  refine ct_I RX11 (by decide +kernel) rfl (Nat.le_of_ble_eq_true rfl) ?_
  intro p e s m args below meth c A X hK hA
  refine gr_eqL (L2 := [(0, .ref (ad 112)), (1, .int x1), (2, .int x2)]) rfl ?_
  unfold fc_hh_replaced_a112 at hf
  refine gr_aload_n X dX11_replaced_0 rfl 0 rfl ?_
  refine gr_iload_n X dX11_replaced_1 rfl 1 rfl ?_
  have hi_ := oc_1 hf
  replace hf := oc_2 hf
  refine gC_ald_112 X hK (Int32.toNatClampNeg x1) hi_ rfl dX11_replaced_2 ?_
  refine gC_top (fun v1 e_v1 => ?_)
  replace hf := ot_l hf e_v1
  refine gr_istore_n (L2 := [(3, .int v1), (0, .ref (ad 112)), (1, .int x1), (2, .int x2)]) X dX11_replaced_3 rfl (by decide) rfl ?_
  refine gr_aload_n X dX11_replaced_4 rfl 1 rfl ?_
  refine gr_iload_n X dX11_replaced_5 rfl 2 rfl ?_
  refine gr_iload_n X dX11_replaced_6 rfl 3 rfl ?_
  have hi_ := oc_1 hf
  replace hf := oc_2 hf
  refine gC_ast_112 X hK (Int32.toNatClampNeg x1) hi_ rfl dX11_replaced_7 ?_
  refine gC_gen (fun τ2 e_τ2 => ?_)
  replace hf := ot_l hf e_τ2
  refine gr_iload_n X dX11_replaced_8 rfl 0 rfl ?_
  exact gr_iret X dX11_replaced_9 (Prod.mk.inj (Option.some.inj hf)).1 (Prod.mk.inj (Option.some.inj hf)).2
abbrev ro_hh_replaced_a111 : Room := { frames := 0, cells := 0, slots := 0, locals := 0 }
def fc_hh_replaced_a111 (x1 : Int32) (x2 : Int32) (τ : SC) : Option (Int32 × SC) := (oc (hin x1 6) (hl (τ.1 111 (Int32.toNatClampNeg x1)) fun v1 => (oc (hin x1 6) (hl (sc τ 111 (upd (τ.1 111) (Int32.toNatClampNeg x1) x2)) fun τ2 => (some (v1, τ2))))))
set_option maxHeartbeats 4000000 in
set_option maxRecDepth 100000 in
theorem xc_hh_replaced_a111 {l : Launch} {D : va_G} {cs : Nat → ClassId} {sK sV : Nat → Nat} {tA : Nat} {ad : Nat → Nat} {τ : SC} {x1 : Int32} {x2 : Int32} {r : Int32} {υ : SC} (hf : fc_hh_replaced_a111 x1 x2 τ = some (r, υ)) : ctI l (wC ad cs) D vwCl (kC D cs sK sV tA) yX11_replaced cX11_replaced 4 .int ro_hh_replaced_a111 [.ref (ad 111), .int x1, .int x2] τ r υ := by
  refine ct_I RX11 (by decide +kernel) rfl (Nat.le_of_ble_eq_true rfl) ?_
  intro p e s m args below meth c A X hK hA
  refine gr_eqL (L2 := [(0, .ref (ad 111)), (1, .int x1), (2, .int x2)]) rfl ?_
  unfold fc_hh_replaced_a111 at hf
  refine gr_aload_n X dX11_replaced_0 rfl 0 rfl ?_
  refine gr_iload_n X dX11_replaced_1 rfl 1 rfl ?_
  have hi_ := oc_1 hf
  replace hf := oc_2 hf
  refine gC_ald_111 X hK (Int32.toNatClampNeg x1) hi_ rfl dX11_replaced_2 ?_
  refine gC_top (fun v1 e_v1 => ?_)
  replace hf := ot_l hf e_v1
  refine gr_istore_n (L2 := [(3, .int v1), (0, .ref (ad 111)), (1, .int x1), (2, .int x2)]) X dX11_replaced_3 rfl (by decide) rfl ?_
  refine gr_aload_n X dX11_replaced_4 rfl 1 rfl ?_
  refine gr_iload_n X dX11_replaced_5 rfl 2 rfl ?_
  refine gr_iload_n X dX11_replaced_6 rfl 3 rfl ?_
  have hi_ := oc_1 hf
  replace hf := oc_2 hf
  refine gC_ast_111 X hK (Int32.toNatClampNeg x1) hi_ rfl dX11_replaced_7 ?_
  refine gC_gen (fun τ2 e_τ2 => ?_)
  replace hf := ot_l hf e_τ2
  refine gr_iload_n X dX11_replaced_8 rfl 0 rfl ?_
  exact gr_iret X dX11_replaced_9 (Prod.mk.inj (Option.some.inj hf)).1 (Prod.mk.inj (Option.some.inj hf)).2
abbrev ro_hh_street : Room := { frames := 1, cells := 0, slots := 0, locals := 23 }
def fc_hh_street_b36 (x1 : Int32) (x2 : Int32) (x3 : Int32) (τ : SC) : Option (Int32 × SC) := (if ¬ x2 = (1 : Int32) then (some ((-1 : Int32), τ)) else (Option.bind (fc_hh_within x3 (14 : Int32)) fun q2 => (if q2 = 0 then (some ((-1 : Int32), τ)) else (Option.bind (fc_hh_replaced_a112 x1 x3 τ) fun p_ => hl p_.1 fun q3 => hl p_.2 fun τ4 => (some (q3, τ4))))))
def fc_hh_street (x1 : Int32) (x2 : Int32) (x3 : Int32) (τ : SC) : Option (Int32 × SC) := (Option.bind (fc_hh_within x1 (5 : Int32)) fun q1 => (if ¬ q1 = 0 then (if ¬ x2 = 0 then (fc_hh_street_b36 x1 x2 x3 τ) else (Option.bind (fc_hh_within x3 (9 : Int32)) fun q5 => (if q5 = 0 then (fc_hh_street_b36 x1 x2 x3 τ) else (Option.bind (fc_hh_replaced_a111 x1 x3 τ) fun p_ => hl p_.1 fun q6 => hl p_.2 fun τ7 => (some (q6, τ7)))))) else (some ((-1 : Int32), τ))))
set_option maxHeartbeats 4000000 in
set_option maxRecDepth 100000 in
theorem wc_hh_street_b36 {p : Program} {l : Launch} {e : Env} {s : State} {m : MethodId} {args : Array Value} {below : List Frame} {meth : Method} {c : Code} {A : Nat → Prop} {D : va_G} {cs : Nat → ClassId} {sK sV : Nat → Nat} {tA : Nat} {ad : Nat → Nat} {r : Int32} {υ : SC} (X : hc p s m args meth c RX11 cX11_street 4 (some .int)) (hK : kC D cs sK sV tA A s) (hA : ∀ q, s.heap.size ≤ q → A q)   (x1 : Int32) (x2 : Int32) (x3 : Int32) (τ : SC) (hf : fc_hh_street_b36 x1 x2 x3 τ = some (r, υ)) : gg p l e ro_hh_street s m args below meth c (wC ad cs) D vwCl A 4 (QI below args s (wC ad cs) D vwCl A r υ) 36 [(0, .ref (ad 16)), (1, .int x1), (2, .int x2), (3, .int x3)] [] τ := by
  unfold fc_hh_street_b36 at hf
  refine gr_iload_n X dX11_street_36 rfl 2 rfl ?_
  refine gr_iconst (v := 1) X dX11_street_37 (by decide) ?_
  refine gr_icmp_ne X 63 dX11_street_38 (by decide) (fun hc_ => ?_) (fun hc_ => ?_)
  · replace hf := ot_t hf hc_
    refine gr_iconst (v := -1) X dX11_street_63 (by decide) ?_
    exact gr_iret X dX11_street_64 (Prod.mk.inj (Option.some.inj hf)).1 (Prod.mk.inj (Option.some.inj hf)).2
  · replace hf := ot_f hf hc_
    refine gr_iload_n X dX11_street_41 rfl 3 rfl ?_
    refine gr_bipush (v := 14) X dX11_street_42 (by decide) ?_
    obtain ⟨q2, hq_, hf⟩ := ot_b hf
    refine gc_Si (rest := []) X kC_ok hK hA cw11_79 (xc_hh_within hq_) rfl ⟨rfl, rfl, Nat.le_of_ble_eq_true rfl, Nat.le_of_ble_eq_true rfl⟩ rfl (Nat.le_of_ble_eq_true rfl) dX11_street_44 ?_
    refine gr_if_eq X 63 dX11_street_47 (by decide) (fun hc_ => ?_) (fun hc_ => ?_)
    · replace hf := ot_t hf hc_
      refine gr_iconst (v := -1) X dX11_street_63 (by decide) ?_
      exact gr_iret X dX11_street_64 (Prod.mk.inj (Option.some.inj hf)).1 (Prod.mk.inj (Option.some.inj hf)).2
    · replace hf := ot_f hf hc_
      refine gr_aload_n X dX11_street_50 rfl 0 rfl ?_
      refine gC_get_HH_0 X hK fk11_10 dX11_street_51 ?_
      refine gC_get_T0_12 X hK fk11_149 dX11_street_54 ?_
      refine gr_iload_n X dX11_street_57 rfl 1 rfl ?_
      refine gr_iload_n X dX11_street_58 rfl 3 rfl ?_
      obtain ⟨⟨q3, τ4⟩, hq_, hf⟩ := ot_b hf
      replace hf := ot_l (y := q3) hf rfl
      replace hf := ot_l (y := τ4) hf rfl
      refine gc_Si (rest := []) X kC_ok hK hA cw11_129 (xc_hh_replaced_a112 hq_) rfl ⟨rfl, rfl, Nat.le_of_ble_eq_true rfl, Nat.le_of_ble_eq_true rfl⟩ rfl (Nat.le_of_ble_eq_true rfl) dX11_street_59 ?_
      exact gr_iret X dX11_street_62 (Prod.mk.inj (Option.some.inj hf)).1 (Prod.mk.inj (Option.some.inj hf)).2
set_option maxHeartbeats 4000000 in
set_option maxRecDepth 100000 in
theorem xc_hh_street {l : Launch} {D : va_G} {cs : Nat → ClassId} {sK sV : Nat → Nat} {tA : Nat} {ad : Nat → Nat} {τ : SC} {x1 : Int32} {x2 : Int32} {x3 : Int32} {r : Int32} {υ : SC} (hf : fc_hh_street x1 x2 x3 τ = some (r, υ)) : ctI l (wC ad cs) D vwCl (kC D cs sK sV tA) yX11_street cX11_street 4 .int ro_hh_street [.ref (ad 16), .int x1, .int x2, .int x3] τ r υ := by
  refine ct_I RX11 (by decide +kernel) rfl (Nat.le_of_ble_eq_true rfl) ?_
  intro p e s m args below meth c A X hK hA
  refine gr_eqL (L2 := [(0, .ref (ad 16)), (1, .int x1), (2, .int x2), (3, .int x3)]) rfl ?_
  unfold fc_hh_street at hf
  refine gr_iload_n X dX11_street_0 rfl 1 rfl ?_
  refine gr_iconst (v := 5) X dX11_street_1 (by decide) ?_
  obtain ⟨q1, hq_, hf⟩ := ot_b hf
  refine gc_Si (rest := []) X kC_ok hK hA cw11_79 (xc_hh_within hq_) rfl ⟨rfl, rfl, Nat.le_of_ble_eq_true rfl, Nat.le_of_ble_eq_true rfl⟩ rfl (Nat.le_of_ble_eq_true rfl) dX11_street_2 ?_
  refine gr_if_ne X 10 dX11_street_5 (by decide) (fun hc_ => ?_) (fun hc_ => ?_)
  · replace hf := ot_t hf hc_
    refine gr_iload_n X dX11_street_10 rfl 2 rfl ?_
    refine gr_if_ne X 36 dX11_street_11 (by decide) (fun hc_ => ?_) (fun hc_ => ?_)
    · replace hf := ot_t hf hc_
      refine gr_sub [0, 1, 2, 3] rfl ?_
      exact wc_hh_street_b36 X hK hA _ _ _ _ hf
    · replace hf := ot_f hf hc_
      refine gr_iload_n X dX11_street_14 rfl 3 rfl ?_
      refine gr_bipush (v := 9) X dX11_street_15 (by decide) ?_
      obtain ⟨q5, hq_, hf⟩ := ot_b hf
      refine gc_Si (rest := []) X kC_ok hK hA cw11_79 (xc_hh_within hq_) rfl ⟨rfl, rfl, Nat.le_of_ble_eq_true rfl, Nat.le_of_ble_eq_true rfl⟩ rfl (Nat.le_of_ble_eq_true rfl) dX11_street_17 ?_
      refine gr_if_eq X 36 dX11_street_20 (by decide) (fun hc_ => ?_) (fun hc_ => ?_)
      · replace hf := ot_t hf hc_
        refine gr_sub [0, 1, 2, 3] rfl ?_
        exact wc_hh_street_b36 X hK hA _ _ _ _ hf
      · replace hf := ot_f hf hc_
        refine gr_aload_n X dX11_street_23 rfl 0 rfl ?_
        refine gC_get_HH_0 X hK fk11_10 dX11_street_24 ?_
        refine gC_get_T0_11 X hK fk11_146 dX11_street_27 ?_
        refine gr_iload_n X dX11_street_30 rfl 1 rfl ?_
        refine gr_iload_n X dX11_street_31 rfl 3 rfl ?_
        obtain ⟨⟨q6, τ7⟩, hq_, hf⟩ := ot_b hf
        replace hf := ot_l (y := q6) hf rfl
        replace hf := ot_l (y := τ7) hf rfl
        refine gc_Si (rest := []) X kC_ok hK hA cw11_129 (xc_hh_replaced_a111 hq_) rfl ⟨rfl, rfl, Nat.le_of_ble_eq_true rfl, Nat.le_of_ble_eq_true rfl⟩ rfl (Nat.le_of_ble_eq_true rfl) dX11_street_32 ?_
        exact gr_iret X dX11_street_35 (Prod.mk.inj (Option.some.inj hf)).1 (Prod.mk.inj (Option.some.inj hf)).2
  · replace hf := ot_f hf hc_
    refine gr_iconst (v := -1) X dX11_street_8 (by decide) ?_
    exact gr_iret X dX11_street_9 (Prod.mk.inj (Option.some.inj hf)).1 (Prod.mk.inj (Option.some.inj hf)).2
abbrev ro_hh_streetOf : Room := { frames := 1, cells := 0, slots := 0, locals := 21 }
def fc_hh_streetOf (τ : SC) (x1 : Int32) (x2 : Int32) : Option Int32 := (Option.bind (fc_hh_within x1 (5 : Int32)) fun q1 => (if q1 = 0 then (some (-1 : Int32)) else (Option.bind (fc_hh_within x2 (1 : Int32)) fun q2 => (if ¬ q2 = 0 then (if ¬ x2 = 0 then (oc (hin x1 6) (some (τ.1 112 (Int32.toNatClampNeg x1)))) else (oc (hin x1 6) (some (τ.1 111 (Int32.toNatClampNeg x1))))) else (some (-1 : Int32))))))
set_option maxHeartbeats 4000000 in
set_option maxRecDepth 100000 in
theorem xc_hh_streetOf {l : Launch} {D : va_G} {cs : Nat → ClassId} {sK sV : Nat → Nat} {tA : Nat} {ad : Nat → Nat} {τ : SC} {x1 : Int32} {x2 : Int32} {r : Int32} (hf : fc_hh_streetOf τ x1 x2 = some r) : ctI l (wC ad cs) D vwCl (kC D cs sK sV tA) yX11_streetOf cX11_streetOf 3 .int ro_hh_streetOf [.ref (ad 16), .int x1, .int x2] τ r τ := by
  refine ct_I RX11 (by decide +kernel) rfl (Nat.le_of_ble_eq_true rfl) ?_
  intro p e s m args below meth c A X hK hA
  refine gr_eqL (L2 := [(0, .ref (ad 16)), (1, .int x1), (2, .int x2)]) rfl ?_
  unfold fc_hh_streetOf at hf
  refine gr_iload_n X dX11_streetOf_0 rfl 1 rfl ?_
  refine gr_iconst (v := 5) X dX11_streetOf_1 (by decide) ?_
  obtain ⟨q1, hq_, hf⟩ := ot_b hf
  refine gc_Si (rest := []) X kC_ok hK hA cw11_79 (xc_hh_within hq_) rfl ⟨rfl, rfl, Nat.le_of_ble_eq_true rfl, Nat.le_of_ble_eq_true rfl⟩ rfl (Nat.le_of_ble_eq_true rfl) dX11_streetOf_2 ?_
  refine gr_if_eq X 16 dX11_streetOf_5 (by decide) (fun hc_ => ?_) (fun hc_ => ?_)
  · replace hf := ot_t hf hc_
    refine gr_iconst (v := -1) X dX11_streetOf_16 (by decide) ?_
    exact gr_iret X dX11_streetOf_17 (Option.some.inj hf) rfl
  · replace hf := ot_f hf hc_
    refine gr_iload_n X dX11_streetOf_8 rfl 2 rfl ?_
    refine gr_iconst (v := 1) X dX11_streetOf_9 (by decide) ?_
    obtain ⟨q2, hq_, hf⟩ := ot_b hf
    refine gc_Si (rest := []) X kC_ok hK hA cw11_79 (xc_hh_within hq_) rfl ⟨rfl, rfl, Nat.le_of_ble_eq_true rfl, Nat.le_of_ble_eq_true rfl⟩ rfl (Nat.le_of_ble_eq_true rfl) dX11_streetOf_10 ?_
    refine gr_if_ne X 18 dX11_streetOf_13 (by decide) (fun hc_ => ?_) (fun hc_ => ?_)
    · replace hf := ot_t hf hc_
      refine gr_iload_n X dX11_streetOf_18 rfl 2 rfl ?_
      refine gr_if_ne X 34 dX11_streetOf_19 (by decide) (fun hc_ => ?_) (fun hc_ => ?_)
      · replace hf := ot_t hf hc_
        refine gr_aload_n X dX11_streetOf_34 rfl 0 rfl ?_
        refine gC_get_HH_0 X hK fk11_10 dX11_streetOf_35 ?_
        refine gC_get_T0_12 X hK fk11_149 dX11_streetOf_38 ?_
        refine gr_iload_n X dX11_streetOf_41 rfl 1 rfl ?_
        have hi_ := oc_1 hf
        replace hf := oc_2 hf
        refine gC_ald_112 X hK (Int32.toNatClampNeg x1) hi_ rfl dX11_streetOf_42 ?_
        exact gr_iret X dX11_streetOf_43 (Option.some.inj hf) rfl
      · replace hf := ot_f hf hc_
        refine gr_aload_n X dX11_streetOf_22 rfl 0 rfl ?_
        refine gC_get_HH_0 X hK fk11_10 dX11_streetOf_23 ?_
        refine gC_get_T0_11 X hK fk11_146 dX11_streetOf_26 ?_
        refine gr_iload_n X dX11_streetOf_29 rfl 1 rfl ?_
        have hi_ := oc_1 hf
        replace hf := oc_2 hf
        refine gC_ald_111 X hK (Int32.toNatClampNeg x1) hi_ rfl dX11_streetOf_30 ?_
        refine gr_goto X 43 dX11_streetOf_31 (by decide) ?_
        exact gr_iret X dX11_streetOf_43 (Option.some.inj hf) rfl
    · replace hf := ot_f hf hc_
      refine gr_iconst (v := -1) X dX11_streetOf_16 (by decide) ?_
      exact gr_iret X dX11_streetOf_17 (Option.some.inj hf) rfl
abbrev ro_hh_heart : Room := { frames := 1, cells := 0, slots := 0, locals := 21 }
def fc_hh_heart_b32 (x1 : Int32) (x2 : Int32) (τ : SC) : Option (Int32 × SC) := (if ¬ x1 = (1 : Int32) then (some ((-1 : Int32), τ)) else (Option.bind (fc_hh_within x2 (99 : Int32)) fun q1 => (if q1 = 0 then (some ((-1 : Int32), τ)) else (hl (τ.1 106 0) fun v2 => (hl (sc τ 106 (fun _ => x2)) fun τ3 => (some (v2, τ3)))))))
def fc_hh_heart (x1 : Int32) (x2 : Int32) (τ : SC) : Option (Int32 × SC) := (if ¬ x1 = 0 then (fc_hh_heart_b32 x1 x2 τ) else (Option.bind (fc_hh_within x2 (9 : Int32)) fun q4 => (if q4 = 0 then (fc_hh_heart_b32 x1 x2 τ) else (hl (τ.1 105 0) fun v5 => (hl (sc τ 105 (fun _ => x2)) fun τ6 => (some (v5, τ6)))))))
set_option maxHeartbeats 4000000 in
set_option maxRecDepth 100000 in
theorem wc_hh_heart_b32 {p : Program} {l : Launch} {e : Env} {s : State} {m : MethodId} {args : Array Value} {below : List Frame} {meth : Method} {c : Code} {A : Nat → Prop} {D : va_G} {cs : Nat → ClassId} {sK sV : Nat → Nat} {tA : Nat} {ad : Nat → Nat} {r : Int32} {υ : SC} (X : hc p s m args meth c RX11 cX11_heart 4 (some .int)) (hK : kC D cs sK sV tA A s) (hA : ∀ q, s.heap.size ≤ q → A q)   (x1 : Int32) (x2 : Int32) (τ : SC) (hf : fc_hh_heart_b32 x1 x2 τ = some (r, υ)) : gg p l e ro_hh_heart s m args below meth c (wC ad cs) D vwCl A 4 (QI below args s (wC ad cs) D vwCl A r υ) 32 [(0, .ref (ad 16)), (1, .int x1), (2, .int x2)] [] τ := by
  unfold fc_hh_heart_b32 at hf
  refine gr_iload_n X dX11_heart_32 rfl 1 rfl ?_
  refine gr_iconst (v := 1) X dX11_heart_33 (by decide) ?_
  refine gr_icmp_ne X 65 dX11_heart_34 (by decide) (fun hc_ => ?_) (fun hc_ => ?_)
  · replace hf := ot_t hf hc_
    refine gr_iconst (v := -1) X dX11_heart_65 (by decide) ?_
    refine gr_istore_n (L2 := [(3, .int (-1 : Int32)), (0, .ref (ad 16)), (1, .int x1), (2, .int x2)]) X dX11_heart_66 rfl (by decide) rfl ?_
    refine gr_iload_n X dX11_heart_67 rfl 0 rfl ?_
    exact gr_iret X dX11_heart_68 (Prod.mk.inj (Option.some.inj hf)).1 (Prod.mk.inj (Option.some.inj hf)).2
  · replace hf := ot_f hf hc_
    refine gr_iload_n X dX11_heart_37 rfl 2 rfl ?_
    refine gr_bipush (v := 99) X dX11_heart_38 (by decide) ?_
    obtain ⟨q1, hq_, hf⟩ := ot_b hf
    refine gc_Si (rest := []) X kC_ok hK hA cw11_79 (xc_hh_within hq_) rfl ⟨rfl, rfl, Nat.le_of_ble_eq_true rfl, Nat.le_of_ble_eq_true rfl⟩ rfl (Nat.le_of_ble_eq_true rfl) dX11_heart_40 ?_
    refine gr_if_eq X 65 dX11_heart_43 (by decide) (fun hc_ => ?_) (fun hc_ => ?_)
    · replace hf := ot_t hf hc_
      refine gr_iconst (v := -1) X dX11_heart_65 (by decide) ?_
      refine gr_istore_n (L2 := [(3, .int (-1 : Int32)), (0, .ref (ad 16)), (1, .int x1), (2, .int x2)]) X dX11_heart_66 rfl (by decide) rfl ?_
      refine gr_iload_n X dX11_heart_67 rfl 0 rfl ?_
      exact gr_iret X dX11_heart_68 (Prod.mk.inj (Option.some.inj hf)).1 (Prod.mk.inj (Option.some.inj hf)).2
    · replace hf := ot_f hf hc_
      refine gr_aload_n X dX11_heart_46 rfl 0 rfl ?_
      refine gC_get_HH_0 X hK fk11_10 dX11_heart_47 ?_
      refine gC_get_T0_6 X hK fk11_155 dX11_heart_50 ?_
      refine gC_top (fun v2 e_v2 => ?_)
      replace hf := ot_l hf e_v2
      refine gr_istore_n (L2 := [(3, .int v2), (0, .ref (ad 16)), (1, .int x1), (2, .int x2)]) X dX11_heart_53 rfl (by decide) rfl ?_
      refine gr_aload_n X dX11_heart_54 rfl 1 rfl ?_
      refine gC_get_HH_0 X hK fk11_10 dX11_heart_55 ?_
      refine gr_iload_n X dX11_heart_58 rfl 3 rfl ?_
      refine gC_put_T0_6 X hK fk11_155 dX11_heart_59 ?_
      refine gC_gen (fun τ3 e_τ3 => ?_)
      replace hf := ot_l hf e_τ3
      refine gr_goto X 67 dX11_heart_62 (by decide) ?_
      refine gr_iload_n X dX11_heart_67 rfl 0 rfl ?_
      exact gr_iret X dX11_heart_68 (Prod.mk.inj (Option.some.inj hf)).1 (Prod.mk.inj (Option.some.inj hf)).2
set_option maxHeartbeats 4000000 in
set_option maxRecDepth 100000 in
theorem xc_hh_heart {l : Launch} {D : va_G} {cs : Nat → ClassId} {sK sV : Nat → Nat} {tA : Nat} {ad : Nat → Nat} {τ : SC} {x1 : Int32} {x2 : Int32} {r : Int32} {υ : SC} (hf : fc_hh_heart x1 x2 τ = some (r, υ)) : ctI l (wC ad cs) D vwCl (kC D cs sK sV tA) yX11_heart cX11_heart 4 .int ro_hh_heart [.ref (ad 16), .int x1, .int x2] τ r υ := by
  refine ct_I RX11 (by decide +kernel) rfl (Nat.le_of_ble_eq_true rfl) ?_
  intro p e s m args below meth c A X hK hA
  refine gr_eqL (L2 := [(0, .ref (ad 16)), (1, .int x1), (2, .int x2)]) rfl ?_
  unfold fc_hh_heart at hf
  refine gr_iload_n X dX11_heart_0 rfl 1 rfl ?_
  refine gr_if_ne X 32 dX11_heart_1 (by decide) (fun hc_ => ?_) (fun hc_ => ?_)
  · replace hf := ot_t hf hc_
    refine gr_sub [0, 1, 2] rfl ?_
    exact wc_hh_heart_b32 X hK hA _ _ _ hf
  · replace hf := ot_f hf hc_
    refine gr_iload_n X dX11_heart_4 rfl 2 rfl ?_
    refine gr_bipush (v := 9) X dX11_heart_5 (by decide) ?_
    obtain ⟨q4, hq_, hf⟩ := ot_b hf
    refine gc_Si (rest := []) X kC_ok hK hA cw11_79 (xc_hh_within hq_) rfl ⟨rfl, rfl, Nat.le_of_ble_eq_true rfl, Nat.le_of_ble_eq_true rfl⟩ rfl (Nat.le_of_ble_eq_true rfl) dX11_heart_7 ?_
    refine gr_if_eq X 32 dX11_heart_10 (by decide) (fun hc_ => ?_) (fun hc_ => ?_)
    · replace hf := ot_t hf hc_
      refine gr_sub [0, 1, 2] rfl ?_
      exact wc_hh_heart_b32 X hK hA _ _ _ hf
    · replace hf := ot_f hf hc_
      refine gr_aload_n X dX11_heart_13 rfl 0 rfl ?_
      refine gC_get_HH_0 X hK fk11_10 dX11_heart_14 ?_
      refine gC_get_T0_5 X hK fk11_152 dX11_heart_17 ?_
      refine gC_top (fun v5 e_v5 => ?_)
      replace hf := ot_l hf e_v5
      refine gr_istore_n (L2 := [(3, .int v5), (0, .ref (ad 16)), (1, .int x1), (2, .int x2)]) X dX11_heart_20 rfl (by decide) rfl ?_
      refine gr_aload_n X dX11_heart_21 rfl 1 rfl ?_
      refine gC_get_HH_0 X hK fk11_10 dX11_heart_22 ?_
      refine gr_iload_n X dX11_heart_25 rfl 3 rfl ?_
      refine gC_put_T0_5 X hK fk11_152 dX11_heart_26 ?_
      refine gC_gen (fun τ6 e_τ6 => ?_)
      replace hf := ot_l hf e_τ6
      refine gr_goto X 67 dX11_heart_29 (by decide) ?_
      refine gr_iload_n X dX11_heart_67 rfl 0 rfl ?_
      exact gr_iret X dX11_heart_68 (Prod.mk.inj (Option.some.inj hf)).1 (Prod.mk.inj (Option.some.inj hf)).2
abbrev ro_hh_ends : Room := { frames := 0, cells := 0, slots := 0, locals := 0 }
def fc_hh_ends (x1 : Int32) (τ : SC) : Option (Int32 × SC) := (if x1 < (1 : Int32) then (some ((-1 : Int32), τ)) else (if x1 ≤ (16 : Int32) then (if (τ.1 102 0) ≤ x1 then (hl (τ.1 103 0) fun v1 => (hl (sc τ 103 (fun _ => x1)) fun τ2 => (some (v1, τ2)))) else (some ((-4 : Int32), τ))) else (some ((-1 : Int32), τ))))
set_option maxHeartbeats 4000000 in
set_option maxRecDepth 100000 in
theorem xc_hh_ends {l : Launch} {D : va_G} {cs : Nat → ClassId} {sK sV : Nat → Nat} {tA : Nat} {ad : Nat → Nat} {τ : SC} {x1 : Int32} {r : Int32} {υ : SC} (hf : fc_hh_ends x1 τ = some (r, υ)) : ctI l (wC ad cs) D vwCl (kC D cs sK sV tA) yX11_ends cX11_ends 3 .int ro_hh_ends [.ref (ad 16), .int x1] τ r υ := by
  refine ct_I RX11 (by decide +kernel) rfl (Nat.le_of_ble_eq_true rfl) ?_
  intro p e s m args below meth c A X hK hA
  refine gr_eqL (L2 := [(0, .ref (ad 16)), (1, .int x1)]) rfl ?_
  unfold fc_hh_ends at hf
  refine gr_iload_n X dX11_ends_0 rfl 1 rfl ?_
  refine gr_iconst (v := 1) X dX11_ends_1 (by decide) ?_
  refine gr_icmp_lt X 11 dX11_ends_2 (by decide) (fun hc_ => ?_) (fun hc_ => ?_)
  · replace hf := ot_t hf hc_
    refine gr_iconst (v := -1) X dX11_ends_11 (by decide) ?_
    exact gr_iret X dX11_ends_12 (Prod.mk.inj (Option.some.inj hf)).1 (Prod.mk.inj (Option.some.inj hf)).2
  · replace hf := ot_f hf hc_
    refine gr_iload_n X dX11_ends_5 rfl 1 rfl ?_
    refine gr_bipush (v := 16) X dX11_ends_6 (by decide) ?_
    refine gr_icmp_le X 13 dX11_ends_8 (by decide) (fun hc_ => ?_) (fun hc_ => ?_)
    · replace hf := ot_t hf hc_
      refine gr_iload_n X dX11_ends_13 rfl 1 rfl ?_
      refine gr_aload_n X dX11_ends_14 rfl 0 rfl ?_
      refine gC_get_HH_0 X hK fk11_10 dX11_ends_15 ?_
      refine gC_get_T0_2 X hK fk11_158 dX11_ends_18 ?_
      refine gr_icmp_ge X 27 dX11_ends_21 (by decide) (fun hc_ => ?_) (fun hc_ => ?_)
      · replace hf := ot_t hf hc_
        refine gr_aload_n X dX11_ends_27 rfl 0 rfl ?_
        refine gC_get_HH_0 X hK fk11_10 dX11_ends_28 ?_
        refine gC_get_T0_3 X hK fk11_161 dX11_ends_31 ?_
        refine gC_top (fun v1 e_v1 => ?_)
        replace hf := ot_l hf e_v1
        refine gr_istore_n (L2 := [(2, .int v1), (0, .ref (ad 16)), (1, .int x1)]) X dX11_ends_34 rfl (by decide) rfl ?_
        refine gr_aload_n X dX11_ends_35 rfl 1 rfl ?_
        refine gC_get_HH_0 X hK fk11_10 dX11_ends_36 ?_
        refine gr_iload_n X dX11_ends_39 rfl 2 rfl ?_
        refine gC_put_T0_3 X hK fk11_161 dX11_ends_40 ?_
        refine gC_gen (fun τ2 e_τ2 => ?_)
        replace hf := ot_l hf e_τ2
        refine gr_iload_n X dX11_ends_43 rfl 0 rfl ?_
        exact gr_iret X dX11_ends_44 (Prod.mk.inj (Option.some.inj hf)).1 (Prod.mk.inj (Option.some.inj hf)).2
      · replace hf := ot_f hf hc_
        refine gr_bipush (v := -4) X dX11_ends_24 (by decide) ?_
        exact gr_iret X dX11_ends_26 (Prod.mk.inj (Option.some.inj hf)).1 (Prod.mk.inj (Option.some.inj hf)).2
    · replace hf := ot_f hf hc_
      refine gr_iconst (v := -1) X dX11_ends_11 (by decide) ?_
      exact gr_iret X dX11_ends_12 (Prod.mk.inj (Option.some.inj hf)).1 (Prod.mk.inj (Option.some.inj hf)).2
abbrev ro_to_everyGuild : Room := { frames := 0, cells := 0, slots := 0, locals := 0 }
def fc_to_everyGuild (τ : SC) : Option Int32 := (some (((1 : Int32) <<< ((τ.1 113 0) &&& 31)) - (1 : Int32)))
set_option maxHeartbeats 4000000 in
set_option maxRecDepth 100000 in
theorem xc_to_everyGuild {l : Launch} {D : va_G} {cs : Nat → ClassId} {sK sV : Nat → Nat} {tA : Nat} {ad : Nat → Nat} {τ : SC} {r : Int32} (hf : fc_to_everyGuild τ = some r) : ctI l (wC ad cs) D vwCl (kC D cs sK sV tA) yX9_everyGuild cX9_everyGuild 1 .int ro_to_everyGuild [.ref (ad 130)] τ r τ := by
  refine ct_I RX9 (by decide +kernel) rfl (Nat.le_of_ble_eq_true rfl) ?_
  intro p e s m args below meth c A X hK hA
  refine gr_eqL (L2 := [(0, .ref (ad 130))]) rfl ?_
  unfold fc_to_everyGuild at hf
  refine gr_iconst (v := 1) X dX9_everyGuild_0 (by decide) ?_
  refine gr_aload_n X dX9_everyGuild_1 rfl 0 rfl ?_
  refine gC_get_T0_13 X hK fk9_96 dX9_everyGuild_2 ?_
  refine gr_ishl X dX9_everyGuild_5 ?_
  refine gr_iconst (v := 1) X dX9_everyGuild_6 (by decide) ?_
  refine gr_isub X dX9_everyGuild_7 ?_
  exact gr_iret X dX9_everyGuild_8 (Option.some.inj hf) rfl
abbrev ro_to_startOver : Room := { frames := 1, cells := 0, slots := 0, locals := 20 }
def fc_to_startOver (τ : SC) : Option SC := (hl (sc τ 102 (fun _ => (0 : Int32))) fun τ1 => (hl (sc τ1 104 (fun _ => (0 : Int32))) fun τ2 => (hl (sc τ2 105 (fun _ => (5 : Int32))) fun τ3 => (hl (sc τ3 106 (fun _ => (0 : Int32))) fun τ4 => (Option.bind (fc_to_everyGuild τ4) fun q5 => (hl (sc τ4 107 (fun _ => q5)) fun τ6 => (hl (sc τ6 108 (fun _ => (0 : Int32))) fun τ7 => (some τ7))))))))
set_option maxHeartbeats 4000000 in
set_option maxRecDepth 100000 in
theorem xc_to_startOver {l : Launch} {D : va_G} {cs : Nat → ClassId} {sK sV : Nat → Nat} {tA : Nat} {ad : Nat → Nat} {τ : SC} {υ : SC} (hf : fc_to_startOver τ = some υ) : ctV l (wC ad cs) D vwCl (kC D cs sK sV tA) yX9_startOver cX9_startOver 1 ro_to_startOver [.ref (ad 130)] τ υ := by
  refine ct_V RX9 (by decide +kernel) rfl (Nat.le_of_ble_eq_true rfl) ?_
  intro p e s m args below meth c A X hK hA
  refine gr_eqL (L2 := [(0, .ref (ad 130))]) rfl ?_
  unfold fc_to_startOver at hf
  refine gr_aload_n X dX9_startOver_0 rfl 0 rfl ?_
  refine gr_iconst (v := 0) X dX9_startOver_1 (by decide) ?_
  refine gC_put_T0_2 X hK fk9_108 dX9_startOver_2 ?_
  refine gC_gen (fun τ1 e_τ1 => ?_)
  replace hf := ot_l hf e_τ1
  refine gr_aload_n X dX9_startOver_5 rfl 0 rfl ?_
  refine gr_iconst (v := 0) X dX9_startOver_6 (by decide) ?_
  refine gC_put_T0_4 X hK fk9_93 dX9_startOver_7 ?_
  refine gC_gen (fun τ2 e_τ2 => ?_)
  replace hf := ot_l hf e_τ2
  refine gr_aload_n X dX9_startOver_10 rfl 0 rfl ?_
  refine gr_iconst (v := 5) X dX9_startOver_11 (by decide) ?_
  refine gC_put_T0_5 X hK fk9_44 dX9_startOver_12 ?_
  refine gC_gen (fun τ3 e_τ3 => ?_)
  replace hf := ot_l hf e_τ3
  refine gr_aload_n X dX9_startOver_15 rfl 0 rfl ?_
  refine gr_iconst (v := 0) X dX9_startOver_16 (by decide) ?_
  refine gC_put_T0_6 X hK fk9_111 dX9_startOver_17 ?_
  refine gC_gen (fun τ4 e_τ4 => ?_)
  replace hf := ot_l hf e_τ4
  refine gr_aload_n X dX9_startOver_20 rfl 0 rfl ?_
  refine gr_aload_n X dX9_startOver_21 rfl 0 rfl ?_
  obtain ⟨q5, hq_, hf⟩ := ot_b hf
  refine gc_Vi (rest := [.ref (ad 130)]) X kC_ok hK hA cw9_124 (rvC_T0 hK) (xc_to_everyGuild hq_) rfl ⟨rfl, rfl, Nat.le_of_ble_eq_true rfl, Nat.le_of_ble_eq_true rfl⟩ rfl (Nat.le_of_ble_eq_true rfl) dX9_startOver_22 ?_
  refine gC_put_T0_7 X hK fk9_114 dX9_startOver_25 ?_
  refine gC_gen (fun τ6 e_τ6 => ?_)
  replace hf := ot_l hf e_τ6
  refine gr_aload_n X dX9_startOver_28 rfl 0 rfl ?_
  refine gr_iconst (v := 0) X dX9_startOver_29 (by decide) ?_
  refine gC_put_T0_8 X hK fk9_117 dX9_startOver_30 ?_
  refine gC_gen (fun τ7 e_τ7 => ?_)
  replace hf := ot_l hf e_τ7
  exact gr_vret X dX9_startOver_33 (Option.some.inj hf)
abbrev ro_hh_anew : Room := { frames := 2, cells := 0, slots := 0, locals := 40 }
def fc_hh_anew (τ : SC) : Option (Int32 × SC) := (hl (τ.1 102 0) fun v1 => (Option.bind (fc_to_startOver τ) fun τ3 => (some (v1, τ3))))
set_option maxHeartbeats 4000000 in
set_option maxRecDepth 100000 in
theorem xc_hh_anew {l : Launch} {D : va_G} {cs : Nat → ClassId} {sK sV : Nat → Nat} {tA : Nat} {ad : Nat → Nat} {τ : SC} {r : Int32} {υ : SC} (hf : fc_hh_anew τ = some (r, υ)) : ctI l (wC ad cs) D vwCl (kC D cs sK sV tA) yX11_anew cX11_anew 2 .int ro_hh_anew [.ref (ad 16)] τ r υ := by
  refine ct_I RX11 (by decide +kernel) rfl (Nat.le_of_ble_eq_true rfl) ?_
  intro p e s m args below meth c A X hK hA
  refine gr_eqL (L2 := [(0, .ref (ad 16))]) rfl ?_
  unfold fc_hh_anew at hf
  refine gr_aload_n X dX11_anew_0 rfl 0 rfl ?_
  refine gC_get_HH_0 X hK fk11_10 dX11_anew_1 ?_
  refine gC_get_T0_2 X hK fk11_158 dX11_anew_4 ?_
  refine gC_top (fun v1 e_v1 => ?_)
  replace hf := ot_l hf e_v1
  refine gr_istore_n (L2 := [(1, .int v1), (0, .ref (ad 16))]) X dX11_anew_7 rfl (by decide) rfl ?_
  refine gr_aload_n X dX11_anew_8 rfl 1 rfl ?_
  refine gC_get_HH_0 X hK fk11_10 dX11_anew_9 ?_
  obtain ⟨τ3, hq_, hf⟩ := ot_b hf
  refine gc_Vv (rest := []) X kC_ok hK hA cw11_164 (rvC_T0 hK) (xc_to_startOver hq_) rfl ⟨rfl, rfl, Nat.le_of_ble_eq_true rfl, Nat.le_of_ble_eq_true rfl⟩ rfl (Nat.le_of_ble_eq_true rfl) dX11_anew_12 ?_
  refine gr_iload_n X dX11_anew_15 rfl 0 rfl ?_
  exact gr_iret X dX11_anew_16 (Prod.mk.inj (Option.some.inj hf)).1 (Prod.mk.inj (Option.some.inj hf)).2
abbrev ro_to_isOver : Room := { frames := 0, cells := 0, slots := 0, locals := 0 }
def fc_to_isOver (τ : SC) : Option Int32 := (if (τ.1 102 0) < (τ.1 103 0) then (some (0 : Int32)) else (some (1 : Int32)))
set_option maxHeartbeats 4000000 in
set_option maxRecDepth 100000 in
theorem xc_to_isOver {l : Launch} {D : va_G} {cs : Nat → ClassId} {sK sV : Nat → Nat} {tA : Nat} {ad : Nat → Nat} {τ : SC} {r : Int32} (hf : fc_to_isOver τ = some r) : ctI l (wC ad cs) D vwCl (kC D cs sK sV tA) yX9_isOver cX9_isOver 1 .boolean ro_to_isOver [.ref (ad 130)] τ r τ := by
  refine ct_I RX9 (by decide +kernel) rfl (Nat.le_of_ble_eq_true rfl) ?_
  intro p e s m args below meth c A X hK hA
  refine gr_eqL (L2 := [(0, .ref (ad 130))]) rfl ?_
  unfold fc_to_isOver at hf
  refine gr_aload_n X dX9_isOver_0 rfl 0 rfl ?_
  refine gC_get_T0_2 X hK fk9_108 dX9_isOver_1 ?_
  refine gr_aload_n X dX9_isOver_4 rfl 0 rfl ?_
  refine gC_get_T0_3 X hK fk9_40 dX9_isOver_5 ?_
  refine gr_icmp_lt X 15 dX9_isOver_8 (by decide) (fun hc_ => ?_) (fun hc_ => ?_)
  · replace hf := ot_t hf hc_
    refine gr_iconst (v := 0) X dX9_isOver_15 (by decide) ?_
    exact gr_zret X dX9_isOver_16 (by decide) (Option.some.inj hf) rfl
  · replace hf := ot_f hf hc_
    refine gr_iconst (v := 1) X dX9_isOver_11 (by decide) ?_
    refine gr_goto X 16 dX9_isOver_12 (by decide) ?_
    exact gr_zret X dX9_isOver_16 (by decide) (Option.some.inj hf) rfl
abbrev ro_hh_state : Room := { frames := 1, cells := 0, slots := 0, locals := 20 }
def fc_hh_state (τ : SC) (x1 : Int32) : Option Int32 := (if x1 = 0 then (some (τ.1 102 0)) else (if x1 = 1 then (some (τ.1 103 0)) else (if x1 = 2 then (some (τ.1 104 0)) else (if x1 = 3 then (Option.bind (fc_to_isOver τ) fun q1 => (if q1 = 0 then (some (0 : Int32)) else (some (1 : Int32)))) else (if x1 = 4 then (some (τ.1 107 0)) else (if x1 = 5 then (some (τ.1 108 0)) else (if x1 = 6 then (if (16 : Int32) ≤ (τ.1 102 0) then (some (0 : Int32)) else (oc (hin (τ.1 102 0) 16) (some (τ.1 110 (Int32.toNatClampNeg (τ.1 102 0)))))) else (if x1 = 7 then (some (τ.1 105 0)) else (if x1 = 8 then (some (τ.1 106 0)) else (some (-1 : Int32)))))))))))
set_option maxHeartbeats 4000000 in
set_option maxRecDepth 100000 in
theorem xc_hh_state {l : Launch} {D : va_G} {cs : Nat → ClassId} {sK sV : Nat → Nat} {tA : Nat} {ad : Nat → Nat} {τ : SC} {x1 : Int32} {r : Int32} (hf : fc_hh_state τ x1 = some r) : ctI l (wC ad cs) D vwCl (kC D cs sK sV tA) yX11_state cX11_state 2 .int ro_hh_state [.ref (ad 16), .int x1] τ r τ := by
  refine ct_I RX11 (by decide +kernel) rfl (Nat.le_of_ble_eq_true rfl) ?_
  intro p e s m args below meth c A X hK hA
  refine gr_eqL (L2 := [(0, .ref (ad 16)), (1, .int x1)]) rfl ?_
  unfold fc_hh_state at hf
  refine gr_iload_n X dX11_state_0 rfl 1 rfl ?_
  by_cases hs0 : x1 = 0
  · replace hf := ot_t hf hs0
    refine gr_tin X (0) 52 dX11_state_1 (by rw [hs0]; decide) (by decide) (by decide) rfl (by decide) ?_
    refine gr_aload_n X dX11_state_52 rfl 0 rfl ?_
    refine gC_get_HH_0 X hK fk11_10 dX11_state_53 ?_
    refine gC_get_T0_2 X hK fk11_158 dX11_state_56 ?_
    exact gr_iret X dX11_state_59 (Option.some.inj hf) rfl
  replace hf := ot_f hf hs0
  by_cases hs1 : x1 = 1
  · replace hf := ot_t hf hs1
    refine gr_tin X (1) 60 dX11_state_1 (by rw [hs1]; decide) (by decide) (by decide) rfl (by decide) ?_
    refine gr_aload_n X dX11_state_60 rfl 0 rfl ?_
    refine gC_get_HH_0 X hK fk11_10 dX11_state_61 ?_
    refine gC_get_T0_3 X hK fk11_161 dX11_state_64 ?_
    exact gr_iret X dX11_state_67 (Option.some.inj hf) rfl
  replace hf := ot_f hf hs1
  by_cases hs2 : x1 = 2
  · replace hf := ot_t hf hs2
    refine gr_tin X (2) 68 dX11_state_1 (by rw [hs2]; decide) (by decide) (by decide) rfl (by decide) ?_
    refine gr_aload_n X dX11_state_68 rfl 0 rfl ?_
    refine gC_get_HH_0 X hK fk11_10 dX11_state_69 ?_
    refine gC_get_T0_4 X hK fk11_167 dX11_state_72 ?_
    exact gr_iret X dX11_state_75 (Option.some.inj hf) rfl
  replace hf := ot_f hf hs2
  by_cases hs3 : x1 = 3
  · replace hf := ot_t hf hs3
    refine gr_tin X (3) 76 dX11_state_1 (by rw [hs3]; decide) (by decide) (by decide) rfl (by decide) ?_
    refine gr_aload_n X dX11_state_76 rfl 0 rfl ?_
    refine gC_get_HH_0 X hK fk11_10 dX11_state_77 ?_
    obtain ⟨q1, hq_, hf⟩ := ot_b hf
    refine gc_Vi (rest := []) X kC_ok hK hA cw11_170 (rvC_T0 hK) (xc_to_isOver hq_) rfl ⟨rfl, rfl, Nat.le_of_ble_eq_true rfl, Nat.le_of_ble_eq_true rfl⟩ rfl (Nat.le_of_ble_eq_true rfl) dX11_state_80 ?_
    refine gr_if_eq X 90 dX11_state_83 (by decide) (fun hc_ => ?_) (fun hc_ => ?_)
    · replace hf := ot_t hf hc_
      refine gr_iconst (v := 0) X dX11_state_90 (by decide) ?_
      exact gr_iret X dX11_state_91 (Option.some.inj hf) rfl
    · replace hf := ot_f hf hc_
      refine gr_iconst (v := 1) X dX11_state_86 (by decide) ?_
      refine gr_goto X 91 dX11_state_87 (by decide) ?_
      exact gr_iret X dX11_state_91 (Option.some.inj hf) rfl
  replace hf := ot_f hf hs3
  by_cases hs4 : x1 = 4
  · replace hf := ot_t hf hs4
    refine gr_tin X (4) 92 dX11_state_1 (by rw [hs4]; decide) (by decide) (by decide) rfl (by decide) ?_
    refine gr_aload_n X dX11_state_92 rfl 0 rfl ?_
    refine gC_get_HH_0 X hK fk11_10 dX11_state_93 ?_
    refine gC_get_T0_7 X hK fk11_106 dX11_state_96 ?_
    exact gr_iret X dX11_state_99 (Option.some.inj hf) rfl
  replace hf := ot_f hf hs4
  by_cases hs5 : x1 = 5
  · replace hf := ot_t hf hs5
    refine gr_tin X (5) 100 dX11_state_1 (by rw [hs5]; decide) (by decide) (by decide) rfl (by decide) ?_
    refine gr_aload_n X dX11_state_100 rfl 0 rfl ?_
    refine gC_get_HH_0 X hK fk11_10 dX11_state_101 ?_
    refine gC_get_T0_8 X hK fk11_113 dX11_state_104 ?_
    exact gr_iret X dX11_state_107 (Option.some.inj hf) rfl
  replace hf := ot_f hf hs5
  by_cases hs6 : x1 = 6
  · replace hf := ot_t hf hs6
    refine gr_tin X (6) 108 dX11_state_1 (by rw [hs6]; decide) (by decide) (by decide) rfl (by decide) ?_
    refine gr_aload_n X dX11_state_108 rfl 0 rfl ?_
    refine gC_get_HH_0 X hK fk11_10 dX11_state_109 ?_
    refine gC_get_T0_2 X hK fk11_158 dX11_state_112 ?_
    refine gr_bipush (v := 16) X dX11_state_115 (by decide) ?_
    refine gr_icmp_ge X 138 dX11_state_117 (by decide) (fun hc_ => ?_) (fun hc_ => ?_)
    · replace hf := ot_t hf hc_
      refine gr_iconst (v := 0) X dX11_state_138 (by decide) ?_
      exact gr_iret X dX11_state_139 (Option.some.inj hf) rfl
    · replace hf := ot_f hf hc_
      refine gr_aload_n X dX11_state_120 rfl 0 rfl ?_
      refine gC_get_HH_0 X hK fk11_10 dX11_state_121 ?_
      refine gC_get_T0_10 X hK fk11_143 dX11_state_124 ?_
      refine gr_aload_n X dX11_state_127 rfl 0 rfl ?_
      refine gC_get_HH_0 X hK fk11_10 dX11_state_128 ?_
      refine gC_get_T0_2 X hK fk11_158 dX11_state_131 ?_
      have hi_ := oc_1 hf
      replace hf := oc_2 hf
      refine gC_ald_110 X hK (Int32.toNatClampNeg (τ.1 102 0)) hi_ rfl dX11_state_134 ?_
      refine gr_goto X 139 dX11_state_135 (by decide) ?_
      exact gr_iret X dX11_state_139 (Option.some.inj hf) rfl
  replace hf := ot_f hf hs6
  by_cases hs7 : x1 = 7
  · replace hf := ot_t hf hs7
    refine gr_tin X (7) 140 dX11_state_1 (by rw [hs7]; decide) (by decide) (by decide) rfl (by decide) ?_
    refine gr_aload_n X dX11_state_140 rfl 0 rfl ?_
    refine gC_get_HH_0 X hK fk11_10 dX11_state_141 ?_
    refine gC_get_T0_5 X hK fk11_152 dX11_state_144 ?_
    exact gr_iret X dX11_state_147 (Option.some.inj hf) rfl
  replace hf := ot_f hf hs7
  by_cases hs8 : x1 = 8
  · replace hf := ot_t hf hs8
    refine gr_tin X (8) 148 dX11_state_1 (by rw [hs8]; decide) (by decide) (by decide) rfl (by decide) ?_
    refine gr_aload_n X dX11_state_148 rfl 0 rfl ?_
    refine gC_get_HH_0 X hK fk11_10 dX11_state_149 ?_
    refine gC_get_T0_6 X hK fk11_155 dX11_state_152 ?_
    exact gr_iret X dX11_state_155 (Option.some.inj hf) rfl
  replace hf := ot_f hf hs8
  refine gr_tout X 156 dX11_state_1 (by have := lv_neT hs0 (show (0 : Int32).toInt = 0 by decide); have := lv_neT hs1 (show (1 : Int32).toInt = 1 by decide); have := lv_neT hs2 (show (2 : Int32).toInt = 2 by decide); have := lv_neT hs3 (show (3 : Int32).toInt = 3 by decide); have := lv_neT hs4 (show (4 : Int32).toInt = 4 by decide); have := lv_neT hs5 (show (5 : Int32).toInt = 5 by decide); have := lv_neT hs6 (show (6 : Int32).toInt = 6 by decide); have := lv_neT hs7 (show (7 : Int32).toInt = 7 by decide); have := lv_neT hs8 (show (8 : Int32).toInt = 8 by decide); omega) (by decide) ?_
  refine gr_iconst (v := -1) X dX11_state_156 (by decide) ?_
  exact gr_iret X dX11_state_157 (Option.some.inj hf) rfl
abbrev ro_hh_feed : Room := { frames := 0, cells := 0, slots := 0, locals := 0 }
def fc_hh_feed_l31 : Nat → Int64 → Int32 → Int32 → SC → Option (Int32 × SC)
  | 0, _, _, _, _ => none
  | n + 1, x1, x3, x4, τ => (if x3 ≤ x4 then (hl (sc τ 7 (fun _ => ((τ.1 7 0) + x3))) fun τ1 => (some ((τ1.1 7 0), τ1))) else (oc (hin ((τ.1 7 0) + x4) 200) (hl (sc τ 6 (upd (τ.1 6) (Int32.toNatClampNeg ((τ.1 7 0) + x4)) (vp_nar .byte (Int8.toInt32 (Int32.toInt8 (Int64.toInt32 (hlushr x1 ((8 : Int32) * x4)))))))) fun τ2 => ((fc_hh_feed_l31 n) x1 x3 (x4 + (1 : Int32)) τ2))))
def fc_hh_feed (x1 : Int64) (x3 : Int32) (τ : SC) : Option (Int32 × SC) := (if x3 < (1 : Int32) then (some ((-1 : Int32), τ)) else (if x3 ≤ (8 : Int32) then (if ((τ.1 7 0) + x3) ≤ (200 : Int32) then (fc_hh_feed_l31 hFU x1 x3 (0 : Int32) τ) else (some ((-2 : Int32), τ))) else (some ((-1 : Int32), τ))))
set_option maxHeartbeats 4000000 in
set_option maxRecDepth 100000 in
theorem wc_hh_feed_l31 {p : Program} {l : Launch} {e : Env} {s : State} {m : MethodId} {args : Array Value} {below : List Frame} {meth : Method} {c : Code} {A : Nat → Prop} {D : va_G} {cs : Nat → ClassId} {sK sV : Nat → Nat} {tA : Nat} {ad : Nat → Nat} {r : Int32} {υ : SC} (X : hc p s m args meth c RX11 cX11_feed 5 (some .int)) (hK : kC D cs sK sV tA A s) (hA : ∀ q, s.heap.size ≤ q → A q)  : ∀ (n : Nat) (x1 : Int64) (x3 : Int32) (x4 : Int32) (τ : SC), fc_hh_feed_l31 n x1 x3 x4 τ = some (r, υ) → gg p l e ro_hh_feed s m args below meth c (wC ad cs) D vwCl A 5 (QI below args s (wC ad cs) D vwCl A r υ) 31 [(0, .ref (ad 16)), (1, .long x1), (3, .int x3), (4, .int x4)] [] τ := by
  intro n
  induction n with
  | zero =>
    intro x1 x3 x4 τ hf
    cases (show (none : Option (Int32 × SC)) = some (r, υ) from hf)
  | succ n ih =>
    intro x1 x3 x4 τ hf
    unfold fc_hh_feed_l31 at hf
    refine gr_iload X dX11_feed_31 3 rfl ?_
    refine gr_iload_n X dX11_feed_33 rfl 2 rfl ?_
    refine gr_icmp_ge X 64 dX11_feed_34 (by decide) (fun hc_ => ?_) (fun hc_ => ?_)
    · replace hf := ot_t hf hc_
      refine gr_aload_n X dX11_feed_64 rfl 0 rfl ?_
      refine gr_dup X dX11_feed_65 rfl ?_
      refine gC_get_HH_7 X hK fk11_174 dX11_feed_66 ?_
      refine gr_iload_n X dX11_feed_69 rfl 2 rfl ?_
      refine gr_iadd X dX11_feed_70 ?_
      refine gC_put_HH_7 X hK fk11_174 dX11_feed_71 ?_
      refine gC_gen (fun τ1 e_τ1 => ?_)
      replace hf := ot_l hf e_τ1
      refine gr_aload_n X dX11_feed_74 rfl 0 rfl ?_
      refine gC_get_HH_7 X hK fk11_174 dX11_feed_75 ?_
      exact gr_iret X dX11_feed_78 (Prod.mk.inj (Option.some.inj hf)).1 (Prod.mk.inj (Option.some.inj hf)).2
    · replace hf := ot_f hf hc_
      refine gr_aload_n X dX11_feed_37 rfl 0 rfl ?_
      refine gC_get_HH_6 X hK fk11_42 dX11_feed_38 ?_
      refine gr_aload_n X dX11_feed_41 rfl 0 rfl ?_
      refine gC_get_HH_7 X hK fk11_174 dX11_feed_42 ?_
      refine gr_iload X dX11_feed_45 3 rfl ?_
      refine gr_iadd X dX11_feed_47 ?_
      refine gr_lload_n X dX11_feed_48 rfl 1 rfl ?_
      refine gr_bipush (v := 8) X dX11_feed_49 (by decide) ?_
      refine gr_iload X dX11_feed_51 3 rfl ?_
      refine gr_imul X dX11_feed_53 ?_
      refine gr_lushr X dX11_feed_54 ?_
      refine gr_l2i X dX11_feed_55 ?_
      refine gr_i2b X dX11_feed_56 ?_
      have hi_ := oc_1 hf
      replace hf := oc_2 hf
      refine gC_ast_6 X hK (Int32.toNatClampNeg ((τ.1 7 0) + x4)) hi_ rfl dX11_feed_57 ?_
      refine gC_gen (fun τ2 e_τ2 => ?_)
      replace hf := ot_l hf e_τ2
      refine gr_iinc (k := 3) (v := 1) (L2 := [(4, .int (x4 + (1 : Int32))), (0, .ref (ad 16)), (1, .long x1), (3, .int x3)]) X dX11_feed_58 rfl (by decide) (by decide) rfl ?_
      refine gr_goto X 31 dX11_feed_61 (by decide) ?_
      refine gr_sub [1, 2, 3, 0] rfl ?_
      exact ih _ _ _ _ hf
set_option maxHeartbeats 4000000 in
set_option maxRecDepth 100000 in
theorem xc_hh_feed {l : Launch} {D : va_G} {cs : Nat → ClassId} {sK sV : Nat → Nat} {tA : Nat} {ad : Nat → Nat} {τ : SC} {x1 : Int64} {x3 : Int32} {r : Int32} {υ : SC} (hf : fc_hh_feed x1 x3 τ = some (r, υ)) : ctI l (wC ad cs) D vwCl (kC D cs sK sV tA) yX11_feed cX11_feed 5 .int ro_hh_feed [.ref (ad 16), .long x1, .int x3] τ r υ := by
  refine ct_I RX11 (by decide +kernel) rfl (Nat.le_of_ble_eq_true rfl) ?_
  intro p e s m args below meth c A X hK hA
  refine gr_eqL (L2 := [(0, .ref (ad 16)), (1, .long x1), (3, .int x3)]) rfl ?_
  unfold fc_hh_feed at hf
  refine gr_iload_n X dX11_feed_0 rfl 2 rfl ?_
  refine gr_iconst (v := 1) X dX11_feed_1 (by decide) ?_
  refine gr_icmp_lt X 11 dX11_feed_2 (by decide) (fun hc_ => ?_) (fun hc_ => ?_)
  · replace hf := ot_t hf hc_
    refine gr_iconst (v := -1) X dX11_feed_11 (by decide) ?_
    exact gr_iret X dX11_feed_12 (Prod.mk.inj (Option.some.inj hf)).1 (Prod.mk.inj (Option.some.inj hf)).2
  · replace hf := ot_f hf hc_
    refine gr_iload_n X dX11_feed_5 rfl 2 rfl ?_
    refine gr_bipush (v := 8) X dX11_feed_6 (by decide) ?_
    refine gr_icmp_le X 13 dX11_feed_8 (by decide) (fun hc_ => ?_) (fun hc_ => ?_)
    · replace hf := ot_t hf hc_
      refine gr_aload_n X dX11_feed_13 rfl 0 rfl ?_
      refine gC_get_HH_7 X hK fk11_174 dX11_feed_14 ?_
      refine gr_iload_n X dX11_feed_17 rfl 2 rfl ?_
      refine gr_iadd X dX11_feed_18 ?_
      refine gr_sipush (v := 200) X dX11_feed_19 (by decide) ?_
      refine gr_icmp_le X 28 dX11_feed_22 (by decide) (fun hc_ => ?_) (fun hc_ => ?_)
      · replace hf := ot_t hf hc_
        refine gr_iconst (v := 0) X dX11_feed_28 (by decide) ?_
        refine gr_istore (L2 := [(4, .int (0 : Int32)), (0, .ref (ad 16)), (1, .long x1), (3, .int x3)]) X dX11_feed_29 (by decide) rfl ?_
        refine gr_sub [1, 2, 3, 0] rfl ?_
        refine wc_hh_feed_l31 X hK hA  hFU _ _ _ _ hf
      · replace hf := ot_f hf hc_
        refine gr_bipush (v := -2) X dX11_feed_25 (by decide) ?_
        exact gr_iret X dX11_feed_27 (Prod.mk.inj (Option.some.inj hf)).1 (Prod.mk.inj (Option.some.inj hf)).2
    · replace hf := ot_f hf hc_
      refine gr_iconst (v := -1) X dX11_feed_11 (by decide) ?_
      exact gr_iret X dX11_feed_12 (Prod.mk.inj (Option.some.inj hf)).1 (Prod.mk.inj (Option.some.inj hf)).2
abbrev ro_rd_isLetter : Room := { frames := 0, cells := 0, slots := 0, locals := 0 }
def fc_rd_isLetter (x0 : Int32) : Option Int32 := (if x0 < (97 : Int32) then (some (0 : Int32)) else (if (122 : Int32) < x0 then (some (0 : Int32)) else (some (1 : Int32))))
set_option maxHeartbeats 4000000 in
set_option maxRecDepth 100000 in
theorem xc_rd_isLetter {l : Launch} {D : va_G} {cs : Nat → ClassId} {sK sV : Nat → Nat} {tA : Nat} {ad : Nat → Nat} {τ : SC} {x0 : Int32} {r : Int32} (hf : fc_rd_isLetter x0 = some r) : ctI l (wC ad cs) D vwCl (kC D cs sK sV tA) yX7_isLetter cX7_isLetter 1 .boolean ro_rd_isLetter [.int x0] τ r τ := by
  refine ct_I RX7 (by decide +kernel) rfl (Nat.le_of_ble_eq_true rfl) ?_
  intro p e s m args below meth c A X hK hA
  refine gr_eqL (L2 := [(0, .int x0)]) rfl ?_
  unfold fc_rd_isLetter at hf
  refine gr_iload_n X dX7_isLetter_0 rfl 0 rfl ?_
  refine gr_bipush (v := 97) X dX7_isLetter_1 (by decide) ?_
  refine gr_icmp_lt X 16 dX7_isLetter_3 (by decide) (fun hc_ => ?_) (fun hc_ => ?_)
  · replace hf := ot_t hf hc_
    refine gr_iconst (v := 0) X dX7_isLetter_16 (by decide) ?_
    exact gr_zret X dX7_isLetter_17 (by decide) (Option.some.inj hf) rfl
  · replace hf := ot_f hf hc_
    refine gr_iload_n X dX7_isLetter_6 rfl 0 rfl ?_
    refine gr_bipush (v := 122) X dX7_isLetter_7 (by decide) ?_
    refine gr_icmp_gt X 16 dX7_isLetter_9 (by decide) (fun hc_ => ?_) (fun hc_ => ?_)
    · replace hf := ot_t hf hc_
      refine gr_iconst (v := 0) X dX7_isLetter_16 (by decide) ?_
      exact gr_zret X dX7_isLetter_17 (by decide) (Option.some.inj hf) rfl
    · replace hf := ot_f hf hc_
      refine gr_iconst (v := 1) X dX7_isLetter_12 (by decide) ?_
      refine gr_goto X 17 dX7_isLetter_13 (by decide) ?_
      exact gr_zret X dX7_isLetter_17 (by decide) (Option.some.inj hf) rfl
abbrev ro_rd_isDigit : Room := { frames := 0, cells := 0, slots := 0, locals := 0 }
def fc_rd_isDigit (x0 : Int32) : Option Int32 := (if x0 < (48 : Int32) then (some (0 : Int32)) else (if (57 : Int32) < x0 then (some (0 : Int32)) else (some (1 : Int32))))
set_option maxHeartbeats 4000000 in
set_option maxRecDepth 100000 in
theorem xc_rd_isDigit {l : Launch} {D : va_G} {cs : Nat → ClassId} {sK sV : Nat → Nat} {tA : Nat} {ad : Nat → Nat} {τ : SC} {x0 : Int32} {r : Int32} (hf : fc_rd_isDigit x0 = some r) : ctI l (wC ad cs) D vwCl (kC D cs sK sV tA) yX7_isDigit cX7_isDigit 1 .boolean ro_rd_isDigit [.int x0] τ r τ := by
  refine ct_I RX7 (by decide +kernel) rfl (Nat.le_of_ble_eq_true rfl) ?_
  intro p e s m args below meth c A X hK hA
  refine gr_eqL (L2 := [(0, .int x0)]) rfl ?_
  unfold fc_rd_isDigit at hf
  refine gr_iload_n X dX7_isDigit_0 rfl 0 rfl ?_
  refine gr_bipush (v := 48) X dX7_isDigit_1 (by decide) ?_
  refine gr_icmp_lt X 16 dX7_isDigit_3 (by decide) (fun hc_ => ?_) (fun hc_ => ?_)
  · replace hf := ot_t hf hc_
    refine gr_iconst (v := 0) X dX7_isDigit_16 (by decide) ?_
    exact gr_zret X dX7_isDigit_17 (by decide) (Option.some.inj hf) rfl
  · replace hf := ot_f hf hc_
    refine gr_iload_n X dX7_isDigit_6 rfl 0 rfl ?_
    refine gr_bipush (v := 57) X dX7_isDigit_7 (by decide) ?_
    refine gr_icmp_gt X 16 dX7_isDigit_9 (by decide) (fun hc_ => ?_) (fun hc_ => ?_)
    · replace hf := ot_t hf hc_
      refine gr_iconst (v := 0) X dX7_isDigit_16 (by decide) ?_
      exact gr_zret X dX7_isDigit_17 (by decide) (Option.some.inj hf) rfl
    · replace hf := ot_f hf hc_
      refine gr_iconst (v := 1) X dX7_isDigit_12 (by decide) ?_
      refine gr_goto X 17 dX7_isDigit_13 (by decide) ?_
      exact gr_zret X dX7_isDigit_17 (by decide) (Option.some.inj hf) rfl
abbrev ro_rd_note : Room := { frames := 0, cells := 0, slots := 0, locals := 0 }
def fc_rd_note (x1 : Int32) (x2 : Int32) (x3 : Int32) (τ : SC) : Option SC := (if (200 : Int32) ≤ (τ.1 304 0) then (some τ) else (oc (hin (τ.1 304 0) 200) (hl (sc τ 301 (upd (τ.1 301) (Int32.toNatClampNeg (τ.1 304 0)) x1)) fun τ1 => (oc (hin (τ1.1 304 0) 200) (hl (sc τ1 302 (upd (τ1.1 302) (Int32.toNatClampNeg (τ1.1 304 0)) x2)) fun τ2 => (oc (hin (τ2.1 304 0) 200) (hl (sc τ2 303 (upd (τ2.1 303) (Int32.toNatClampNeg (τ2.1 304 0)) x3)) fun τ3 => (hl (sc τ3 304 (fun _ => ((τ3.1 304 0) + (1 : Int32)))) fun τ4 => (some τ4)))))))))
set_option maxHeartbeats 4000000 in
set_option maxRecDepth 100000 in
theorem xc_rd_note {l : Launch} {D : va_G} {cs : Nat → ClassId} {sK sV : Nat → Nat} {tA : Nat} {ad : Nat → Nat} {τ : SC} {x1 : Int32} {x2 : Int32} {x3 : Int32} {υ : SC} (hf : fc_rd_note x1 x2 x3 τ = some υ) : ctV l (wC ad cs) D vwCl (kC D cs sK sV tA) yX7_note cX7_note 4 ro_rd_note [.ref (ad 330), .int x1, .int x2, .int x3] τ υ := by
  refine ct_V RX7 (by decide +kernel) rfl (Nat.le_of_ble_eq_true rfl) ?_
  intro p e s m args below meth c A X hK hA
  refine gr_eqL (L2 := [(0, .ref (ad 330)), (1, .int x1), (2, .int x2), (3, .int x3)]) rfl ?_
  unfold fc_rd_note at hf
  refine gr_aload_n X dX7_note_0 rfl 0 rfl ?_
  refine gC_get_RD_4 X hK fk7_28 dX7_note_1 ?_
  refine gr_sipush (v := 200) X dX7_note_4 (by decide) ?_
  refine gr_icmp_ge X 50 dX7_note_7 (by decide) (fun hc_ => ?_) (fun hc_ => ?_)
  · replace hf := ot_t hf hc_
    exact gr_vret X dX7_note_50 (Option.some.inj hf)
  · replace hf := ot_f hf hc_
    refine gr_aload_n X dX7_note_10 rfl 0 rfl ?_
    refine gC_get_RD_1 X hK fk7_18 dX7_note_11 ?_
    refine gr_aload_n X dX7_note_14 rfl 0 rfl ?_
    refine gC_get_RD_4 X hK fk7_28 dX7_note_15 ?_
    refine gr_iload_n X dX7_note_18 rfl 1 rfl ?_
    have hi_ := oc_1 hf
    replace hf := oc_2 hf
    refine gC_ast_301 X hK (Int32.toNatClampNeg (τ.1 304 0)) hi_ rfl dX7_note_19 ?_
    refine gC_gen (fun τ1 e_τ1 => ?_)
    replace hf := ot_l hf e_τ1
    refine gr_aload_n X dX7_note_20 rfl 0 rfl ?_
    refine gC_get_RD_2 X hK fk7_22 dX7_note_21 ?_
    refine gr_aload_n X dX7_note_24 rfl 0 rfl ?_
    refine gC_get_RD_4 X hK fk7_28 dX7_note_25 ?_
    refine gr_iload_n X dX7_note_28 rfl 2 rfl ?_
    have hi_ := oc_1 hf
    replace hf := oc_2 hf
    refine gC_ast_302 X hK (Int32.toNatClampNeg (τ1.1 304 0)) hi_ rfl dX7_note_29 ?_
    refine gC_gen (fun τ2 e_τ2 => ?_)
    replace hf := ot_l hf e_τ2
    refine gr_aload_n X dX7_note_30 rfl 0 rfl ?_
    refine gC_get_RD_3 X hK fk7_25 dX7_note_31 ?_
    refine gr_aload_n X dX7_note_34 rfl 0 rfl ?_
    refine gC_get_RD_4 X hK fk7_28 dX7_note_35 ?_
    refine gr_iload_n X dX7_note_38 rfl 3 rfl ?_
    have hi_ := oc_1 hf
    replace hf := oc_2 hf
    refine gC_ast_303 X hK (Int32.toNatClampNeg (τ2.1 304 0)) hi_ rfl dX7_note_39 ?_
    refine gC_gen (fun τ3 e_τ3 => ?_)
    replace hf := ot_l hf e_τ3
    refine gr_aload_n X dX7_note_40 rfl 0 rfl ?_
    refine gr_dup X dX7_note_41 rfl ?_
    refine gC_get_RD_4 X hK fk7_28 dX7_note_42 ?_
    refine gr_iconst (v := 1) X dX7_note_45 (by decide) ?_
    refine gr_iadd X dX7_note_46 ?_
    refine gC_put_RD_4 X hK fk7_28 dX7_note_47 ?_
    refine gC_gen (fun τ4 e_τ4 => ?_)
    replace hf := ot_l hf e_τ4
    exact gr_vret X dX7_note_50 (Option.some.inj hf)
abbrev ro_rd_numberOf_a6 : Room := { frames := 0, cells := 0, slots := 0, locals := 0 }
def fc_rd_numberOf_a6_l5 (τ : SC) : Nat → Int32 → Int32 → Int32 → Int32 → Option Int32
  | 0, _, _, _, _ => none
  | n + 1, x1, x2, x3, x4 => (if x2 ≤ x4 then (some x3) else (if (x1 + (4 : Int32)) ≤ x4 then (some x3) else (oc (hin x4 200) (hl (((x3 * (10 : Int32)) + (τ.1 6 (Int32.toNatClampNeg x4))) - (48 : Int32)) fun v1 => ((fc_rd_numberOf_a6_l5 τ n) x1 x2 v1 (x4 + (1 : Int32)))))))
def fc_rd_numberOf_a6 (τ : SC) (x1 : Int32) (x2 : Int32) : Option Int32 := (fc_rd_numberOf_a6_l5 τ hFU x1 x2 (0 : Int32) x1)
set_option maxHeartbeats 4000000 in
set_option maxRecDepth 100000 in
theorem wc_rd_numberOf_a6_l5 {p : Program} {l : Launch} {e : Env} {s : State} {m : MethodId} {args : Array Value} {below : List Frame} {meth : Method} {c : Code} {A : Nat → Prop} {D : va_G} {cs : Nat → ClassId} {sK sV : Nat → Nat} {tA : Nat} {ad : Nat → Nat} {r : Int32} {τ : SC} (X : hc p s m args meth c RX7 cX7_numberOf 5 (some .int)) (hK : kC D cs sK sV tA A s) (hA : ∀ q, s.heap.size ≤ q → A q)  : ∀ (n : Nat) (x1 : Int32) (x2 : Int32) (x3 : Int32) (x4 : Int32), fc_rd_numberOf_a6_l5 τ n x1 x2 x3 x4 = some r → gg p l e ro_rd_numberOf_a6 s m args below meth c (wC ad cs) D vwCl A 5 (QI below args s (wC ad cs) D vwCl A r τ) 5 [(0, .ref (ad 6)), (1, .int x1), (2, .int x2), (3, .int x3), (4, .int x4)] [] τ := by
  intro n
  induction n with
  | zero =>
    intro x1 x2 x3 x4 hf
    cases (show (none : Option Int32) = some r from hf)
  | succ n ih =>
    intro x1 x2 x3 x4 hf
    unfold fc_rd_numberOf_a6_l5 at hf
    refine gr_iload X dX7_numberOf_5 4 rfl ?_
    refine gr_iload_n X dX7_numberOf_7 rfl 2 rfl ?_
    refine gr_icmp_ge X 38 dX7_numberOf_8 (by decide) (fun hc_ => ?_) (fun hc_ => ?_)
    · replace hf := ot_t hf hc_
      refine gr_iload_n X dX7_numberOf_38 rfl 3 rfl ?_
      exact gr_iret X dX7_numberOf_39 (Option.some.inj hf) rfl
    · replace hf := ot_f hf hc_
      refine gr_iload X dX7_numberOf_11 4 rfl ?_
      refine gr_iload_n X dX7_numberOf_13 rfl 1 rfl ?_
      refine gr_iconst (v := 4) X dX7_numberOf_14 (by decide) ?_
      refine gr_iadd X dX7_numberOf_15 ?_
      refine gr_icmp_ge X 38 dX7_numberOf_16 (by decide) (fun hc_ => ?_) (fun hc_ => ?_)
      · replace hf := ot_t hf hc_
        refine gr_iload_n X dX7_numberOf_38 rfl 3 rfl ?_
        exact gr_iret X dX7_numberOf_39 (Option.some.inj hf) rfl
      · replace hf := ot_f hf hc_
        refine gr_iload_n X dX7_numberOf_19 rfl 3 rfl ?_
        refine gr_bipush (v := 10) X dX7_numberOf_20 (by decide) ?_
        refine gr_imul X dX7_numberOf_22 ?_
        refine gr_aload_n X dX7_numberOf_23 rfl 0 rfl ?_
        refine gr_iload X dX7_numberOf_24 4 rfl ?_
        have hi_ := oc_1 hf
        replace hf := oc_2 hf
        refine gC_ald_6 X hK (Int32.toNatClampNeg x4) hi_ rfl dX7_numberOf_26 ?_
        refine gr_iadd X dX7_numberOf_27 ?_
        refine gr_bipush (v := 48) X dX7_numberOf_28 (by decide) ?_
        refine gr_isub X dX7_numberOf_30 ?_
        refine gC_top (fun v1 e_v1 => ?_)
        replace hf := ot_l hf e_v1
        refine gr_istore_n (L2 := [(3, .int v1), (0, .ref (ad 6)), (1, .int x1), (2, .int x2), (4, .int x4)]) X dX7_numberOf_31 rfl (by decide) rfl ?_
        refine gr_iinc (k := 4) (v := 1) (L2 := [(4, .int (x4 + (1 : Int32))), (3, .int v1), (0, .ref (ad 6)), (1, .int x1), (2, .int x2)]) X dX7_numberOf_32 rfl (by decide) (by decide) rfl ?_
        refine gr_goto X 5 dX7_numberOf_35 (by decide) ?_
        refine gr_sub [2, 3, 4, 1, 0] rfl ?_
        exact ih _ _ _ _ hf
set_option maxHeartbeats 4000000 in
set_option maxRecDepth 100000 in
theorem xc_rd_numberOf_a6 {l : Launch} {D : va_G} {cs : Nat → ClassId} {sK sV : Nat → Nat} {tA : Nat} {ad : Nat → Nat} {τ : SC} {x1 : Int32} {x2 : Int32} {r : Int32} (hf : fc_rd_numberOf_a6 τ x1 x2 = some r) : ctI l (wC ad cs) D vwCl (kC D cs sK sV tA) yX7_numberOf cX7_numberOf 5 .int ro_rd_numberOf_a6 [.ref (ad 6), .int x1, .int x2] τ r τ := by
  refine ct_I RX7 (by decide +kernel) rfl (Nat.le_of_ble_eq_true rfl) ?_
  intro p e s m args below meth c A X hK hA
  refine gr_eqL (L2 := [(0, .ref (ad 6)), (1, .int x1), (2, .int x2)]) rfl ?_
  unfold fc_rd_numberOf_a6 at hf
  refine gr_iconst (v := 0) X dX7_numberOf_0 (by decide) ?_
  refine gr_istore_n (L2 := [(3, .int (0 : Int32)), (0, .ref (ad 6)), (1, .int x1), (2, .int x2)]) X dX7_numberOf_1 rfl (by decide) rfl ?_
  refine gr_iload_n X dX7_numberOf_2 rfl 2 rfl ?_
  refine gr_istore (L2 := [(4, .int x1), (3, .int (0 : Int32)), (0, .ref (ad 6)), (1, .int x1), (2, .int x2)]) X dX7_numberOf_3 (by decide) rfl ?_
  refine gr_sub [2, 3, 4, 1, 0] rfl ?_
  refine wc_rd_numberOf_a6_l5 X hK hA  hFU _ _ _ _ hf
