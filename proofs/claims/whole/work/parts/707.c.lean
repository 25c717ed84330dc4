abbrev ro_hh_best : Room := { frames := 57, cells := 0, slots := 0, locals := 1374 }
def fc_hh_best (x1 : Int32) (τ : SC) : Option (Int32 × SC) := (Option.bind (fc_hh_within x1 (4 : Int32)) fun q1 => (if q1 = 0 then (some ((-1 : Int32), τ)) else (Option.bind (fc_to_hoursOf τ x1) fun q2 => (Option.bind (fc_pl_searchD 8 q2 τ) fun p_ => hl p_.1 fun q3 => hl p_.2 fun τ4 => (some (q3, τ4))))))
set_option maxHeartbeats 4000000 in
set_option maxRecDepth 100000 in
theorem xc_hh_best {l : Launch} {D : va_G} {cs : Nat → ClassId} {sK sV : Nat → Nat} {tA : Nat} {ad : Nat → Nat} {τ : SC} {x1 : Int32} {r : Int32} {υ : SC} (hf : fc_hh_best x1 τ = some (r, υ)) : ctI l (wC ad cs) D vwCl (kC D cs sK sV tA) yX11_best cX11_best 2 .int ro_hh_best [.ref (ad 16), .int x1] τ r υ := by
  refine ct_I RX11 (by decide +kernel) rfl (Nat.le_of_ble_eq_true rfl) ?_
  intro p e s m args below meth c A X hK hA
  refine gr_eqL (L2 := [(0, .ref (ad 16)), (1, .int x1)]) rfl ?_
  unfold fc_hh_best at hf
  refine gr_iload_n X dX11_best_0 rfl 1 rfl ?_
  refine gr_iconst (v := 4) X dX11_best_1 (by decide) ?_
  obtain ⟨q1, hq_, hf⟩ := ot_b hf
  refine gc_Si (rest := []) X kC_ok hK hA cw11_79 (xc_hh_within hq_) rfl ⟨rfl, rfl, Nat.le_of_ble_eq_true rfl, Nat.le_of_ble_eq_true rfl⟩ rfl (Nat.le_of_ble_eq_true rfl) dX11_best_2 ?_
  refine gr_if_eq X 26 dX11_best_5 (by decide) (fun hc_ => ?_) (fun hc_ => ?_)
  · replace hf := ot_t hf hc_
    refine gr_iconst (v := -1) X dX11_best_26 (by decide) ?_
    exact gr_iret X dX11_best_27 (Prod.mk.inj (Option.some.inj hf)).1 (Prod.mk.inj (Option.some.inj hf)).2
  · replace hf := ot_f hf hc_
    refine gr_aload_n X dX11_best_8 rfl 0 rfl ?_
    refine gC_get_HH_3 X hK fk11_24 dX11_best_9 ?_
    refine gr_aload_n X dX11_best_12 rfl 0 rfl ?_
    refine gC_get_HH_0 X hK fk11_10 dX11_best_13 ?_
    refine gr_iload_n X dX11_best_16 rfl 1 rfl ?_
    obtain ⟨q2, hq_, hf⟩ := ot_b hf
    refine gc_Vi (rest := [.ref (ad 430)]) X kC_ok hK hA cw11_212 (rvC_T0 hK) (xc_to_hoursOf hq_) rfl ⟨rfl, rfl, Nat.le_of_ble_eq_true rfl, Nat.le_of_ble_eq_true rfl⟩ rfl (Nat.le_of_ble_eq_true rfl) dX11_best_17 ?_
    obtain ⟨⟨q3, τ4⟩, hq_, hf⟩ := ot_b hf
    replace hf := ot_l (y := q3) hf rfl
    replace hf := ot_l (y := τ4) hf rfl
    refine gc_Vi (rest := []) X kC_ok hK hA cw11_251 (rvC_PL hK) (xc_pl_searchA 8 _ _ _ _ hq_) rfl ⟨rfl, rfl, Nat.le_of_ble_eq_true rfl, Nat.le_of_ble_eq_true rfl⟩ rfl (Nat.le_of_ble_eq_true rfl) dX11_best_20 ?_
    refine gr_goto X 27 dX11_best_23 (by decide) ?_
    exact gr_iret X dX11_best_27 (Prod.mk.inj (Option.some.inj hf)).1 (Prod.mk.inj (Option.some.inj hf)).2
abbrev ro_hh_ith : Room := { frames := 57, cells := 0, slots := 0, locals := 1374 }
def fc_hh_ith (x1 : Int32) (x2 : Int32) (τ : SC) : Option (Int32 × SC) := (Option.bind (fc_hh_within x1 (4 : Int32)) fun q1 => (if q1 = 0 then (some ((-1 : Int32), τ)) else (Option.bind (fc_hh_within x2 (3 : Int32)) fun q2 => (if ¬ q2 = 0 then (Option.bind (fc_to_hoursOf τ x1) fun q3 => (if x2 < q3 then (Option.bind (fc_pl_searchD 8 q3 τ) fun p_ => hl p_.1 fun q4 => hl p_.2 fun τ5 => (oc (hin q3 5) (oc (decide ((Int32.toNatClampNeg q3) < 5)) (oc (hin x2 4) (some ((τ5.1 (410 + (Int32.toNatClampNeg q3)) (Int32.toNatClampNeg x2)), τ5)))))) else (some ((-3 : Int32), τ)))) else (some ((-1 : Int32), τ))))))
set_option maxHeartbeats 4000000 in
set_option maxRecDepth 100000 in
theorem xc_hh_ith {l : Launch} {D : va_G} {cs : Nat → ClassId} {sK sV : Nat → Nat} {tA : Nat} {ad : Nat → Nat} {τ : SC} {x1 : Int32} {x2 : Int32} {r : Int32} {υ : SC} (hf : fc_hh_ith x1 x2 τ = some (r, υ)) : ctI l (wC ad cs) D vwCl (kC D cs sK sV tA) yX11_ith cX11_ith 4 .int ro_hh_ith [.ref (ad 16), .int x1, .int x2] τ r υ := by
  refine ct_I RX11 (by decide +kernel) rfl (Nat.le_of_ble_eq_true rfl) ?_
  intro p e s m args below meth c A X hK hA
  refine gr_eqL (L2 := [(0, .ref (ad 16)), (1, .int x1), (2, .int x2)]) rfl ?_
  unfold fc_hh_ith at hf
  refine gr_iload_n X dX11_ith_0 rfl 1 rfl ?_
  refine gr_iconst (v := 4) X dX11_ith_1 (by decide) ?_
  obtain ⟨q1, hq_, hf⟩ := ot_b hf
  refine gc_Si (rest := []) X kC_ok hK hA cw11_79 (xc_hh_within hq_) rfl ⟨rfl, rfl, Nat.le_of_ble_eq_true rfl, Nat.le_of_ble_eq_true rfl⟩ rfl (Nat.le_of_ble_eq_true rfl) dX11_ith_2 ?_
  refine gr_if_eq X 16 dX11_ith_5 (by decide) (fun hc_ => ?_) (fun hc_ => ?_)
  · replace hf := ot_t hf hc_
    refine gr_iconst (v := -1) X dX11_ith_16 (by decide) ?_
    exact gr_iret X dX11_ith_17 (Prod.mk.inj (Option.some.inj hf)).1 (Prod.mk.inj (Option.some.inj hf)).2
  · replace hf := ot_f hf hc_
    refine gr_iload_n X dX11_ith_8 rfl 2 rfl ?_
    refine gr_iconst (v := 3) X dX11_ith_9 (by decide) ?_
    obtain ⟨q2, hq_, hf⟩ := ot_b hf
    refine gc_Si (rest := []) X kC_ok hK hA cw11_79 (xc_hh_within hq_) rfl ⟨rfl, rfl, Nat.le_of_ble_eq_true rfl, Nat.le_of_ble_eq_true rfl⟩ rfl (Nat.le_of_ble_eq_true rfl) dX11_ith_10 ?_
    refine gr_if_ne X 18 dX11_ith_13 (by decide) (fun hc_ => ?_) (fun hc_ => ?_)
    · replace hf := ot_t hf hc_
      refine gr_aload_n X dX11_ith_18 rfl 0 rfl ?_
      refine gC_get_HH_0 X hK fk11_10 dX11_ith_19 ?_
      refine gr_iload_n X dX11_ith_22 rfl 1 rfl ?_
      obtain ⟨q3, hq_, hf⟩ := ot_b hf
      refine gc_Vi (rest := []) X kC_ok hK hA cw11_212 (rvC_T0 hK) (xc_to_hoursOf hq_) rfl ⟨rfl, rfl, Nat.le_of_ble_eq_true rfl, Nat.le_of_ble_eq_true rfl⟩ rfl (Nat.le_of_ble_eq_true rfl) dX11_ith_23 ?_
      refine gr_istore_n (L2 := [(3, .int q3), (0, .ref (ad 16)), (1, .int x1), (2, .int x2)]) X dX11_ith_26 rfl (by decide) rfl ?_
      refine gr_iload_n X dX11_ith_27 rfl 3 rfl ?_
      refine gr_iload_n X dX11_ith_28 rfl 0 rfl ?_
      refine gr_icmp_lt X 35 dX11_ith_29 (by decide) (fun hc_ => ?_) (fun hc_ => ?_)
      · replace hf := ot_t hf hc_
        refine gr_aload_n X dX11_ith_35 rfl 1 rfl ?_
        refine gC_get_HH_3 X hK fk11_24 dX11_ith_36 ?_
        refine gr_iload_n X dX11_ith_39 rfl 0 rfl ?_
        obtain ⟨⟨q4, τ5⟩, hq_, hf⟩ := ot_b hf
        replace hf := ot_l (y := q4) hf rfl
        replace hf := ot_l (y := τ5) hf rfl
        refine gc_Vi (rest := []) X kC_ok hK hA cw11_251 (rvC_PL hK) (xc_pl_searchA 8 _ _ _ _ hq_) rfl ⟨rfl, rfl, Nat.le_of_ble_eq_true rfl, Nat.le_of_ble_eq_true rfl⟩ rfl (Nat.le_of_ble_eq_true rfl) dX11_ith_40 ?_
        refine gr_pop X dX11_ith_43 rfl ?_
        refine gr_aload_n X dX11_ith_44 rfl 1 rfl ?_
        refine gC_get_HH_3 X hK fk11_24 dX11_ith_45 ?_
        refine gC_get_PL_2 X hK fk11_254 dX11_ith_48 ?_
        refine gr_iload_n X dX11_ith_51 rfl 0 rfl ?_
        have hi_ := oc_1 hf
        replace hf := oc_2 hf
        refine gC_aald_Q X hK (Int32.toNatClampNeg q3) hi_ rfl dX11_ith_52 ?_
        refine gr_iload_n X dX11_ith_53 rfl 3 rfl ?_
        have hq_ := oc_1 hf
        replace hf := oc_2 hf
        have hi_ := oc_1 hf
        replace hf := oc_2 hf
        refine gC_ald_Q X hK hq_ (Int32.toNatClampNeg x2) hi_ rfl dX11_ith_54 ?_
        exact gr_iret X dX11_ith_55 (Prod.mk.inj (Option.some.inj hf)).1 (Prod.mk.inj (Option.some.inj hf)).2
      · replace hf := ot_f hf hc_
        refine gr_bipush (v := -3) X dX11_ith_32 (by decide) ?_
        exact gr_iret X dX11_ith_34 (Prod.mk.inj (Option.some.inj hf)).1 (Prod.mk.inj (Option.some.inj hf)).2
    · replace hf := ot_f hf hc_
      refine gr_iconst (v := -1) X dX11_ith_16 (by decide) ?_
      exact gr_iret X dX11_ith_17 (Prod.mk.inj (Option.some.inj hf)).1 (Prod.mk.inj (Option.some.inj hf)).2
abbrev ro_hh_ways : Room := { frames := 57, cells := 0, slots := 0, locals := 1374 }
def fc_hh_ways (x1 : Int32) (τ : SC) : Option (Int32 × SC) := (Option.bind (fc_hh_within x1 (4 : Int32)) fun q1 => (if ¬ q1 = 0 then (Option.bind (fc_to_hoursOf τ x1) fun q2 => (Option.bind (fc_pl_searchD 8 q2 τ) fun p_ => hl p_.1 fun q3 => hl p_.2 fun τ4 => (oc (hin q2 5) (some ((τ4.1 401 (Int32.toNatClampNeg q2)), τ4))))) else (some ((-1 : Int32), τ))))
set_option maxHeartbeats 4000000 in
set_option maxRecDepth 100000 in
theorem xc_hh_ways {l : Launch} {D : va_G} {cs : Nat → ClassId} {sK sV : Nat → Nat} {tA : Nat} {ad : Nat → Nat} {τ : SC} {x1 : Int32} {r : Int32} {υ : SC} (hf : fc_hh_ways x1 τ = some (r, υ)) : ctI l (wC ad cs) D vwCl (kC D cs sK sV tA) yX11_ways cX11_ways 3 .int ro_hh_ways [.ref (ad 16), .int x1] τ r υ := by
  refine ct_I RX11 (by decide +kernel) rfl (Nat.le_of_ble_eq_true rfl) ?_
  intro p e s m args below meth c A X hK hA
  refine gr_eqL (L2 := [(0, .ref (ad 16)), (1, .int x1)]) rfl ?_
  unfold fc_hh_ways at hf
  refine gr_iload_n X dX11_ways_0 rfl 1 rfl ?_
  refine gr_iconst (v := 4) X dX11_ways_1 (by decide) ?_
  obtain ⟨q1, hq_, hf⟩ := ot_b hf
  refine gc_Si (rest := []) X kC_ok hK hA cw11_79 (xc_hh_within hq_) rfl ⟨rfl, rfl, Nat.le_of_ble_eq_true rfl, Nat.le_of_ble_eq_true rfl⟩ rfl (Nat.le_of_ble_eq_true rfl) dX11_ways_2 ?_
  refine gr_if_ne X 10 dX11_ways_5 (by decide) (fun hc_ => ?_) (fun hc_ => ?_)
  · replace hf := ot_t hf hc_
    refine gr_aload_n X dX11_ways_10 rfl 0 rfl ?_
    refine gC_get_HH_0 X hK fk11_10 dX11_ways_11 ?_
    refine gr_iload_n X dX11_ways_14 rfl 1 rfl ?_
    obtain ⟨q2, hq_, hf⟩ := ot_b hf
    refine gc_Vi (rest := []) X kC_ok hK hA cw11_212 (rvC_T0 hK) (xc_to_hoursOf hq_) rfl ⟨rfl, rfl, Nat.le_of_ble_eq_true rfl, Nat.le_of_ble_eq_true rfl⟩ rfl (Nat.le_of_ble_eq_true rfl) dX11_ways_15 ?_
    refine gr_istore_n (L2 := [(2, .int q2), (0, .ref (ad 16)), (1, .int x1)]) X dX11_ways_18 rfl (by decide) rfl ?_
    refine gr_aload_n X dX11_ways_19 rfl 1 rfl ?_
    refine gC_get_HH_3 X hK fk11_24 dX11_ways_20 ?_
    refine gr_iload_n X dX11_ways_23 rfl 0 rfl ?_
    obtain ⟨⟨q3, τ4⟩, hq_, hf⟩ := ot_b hf
    replace hf := ot_l (y := q3) hf rfl
    replace hf := ot_l (y := τ4) hf rfl
    refine gc_Vi (rest := []) X kC_ok hK hA cw11_251 (rvC_PL hK) (xc_pl_searchA 8 _ _ _ _ hq_) rfl ⟨rfl, rfl, Nat.le_of_ble_eq_true rfl, Nat.le_of_ble_eq_true rfl⟩ rfl (Nat.le_of_ble_eq_true rfl) dX11_ways_24 ?_
    refine gr_pop X dX11_ways_27 rfl ?_
    refine gr_aload_n X dX11_ways_28 rfl 1 rfl ?_
    refine gC_get_HH_3 X hK fk11_24 dX11_ways_29 ?_
    refine gC_get_PL_1 X hK fk11_258 dX11_ways_32 ?_
    refine gr_iload_n X dX11_ways_35 rfl 0 rfl ?_
    have hi_ := oc_1 hf
    replace hf := oc_2 hf
    refine gC_ald_401 X hK (Int32.toNatClampNeg q2) hi_ rfl dX11_ways_36 ?_
    exact gr_iret X dX11_ways_37 (Prod.mk.inj (Option.some.inj hf)).1 (Prod.mk.inj (Option.some.inj hf)).2
  · replace hf := ot_f hf hc_
    refine gr_iconst (v := -1) X dX11_ways_8 (by decide) ?_
    exact gr_iret X dX11_ways_9 (Prod.mk.inj (Option.some.inj hf)).1 (Prod.mk.inj (Option.some.inj hf)).2
def ro_pl_fewestActs (rq : Room) : Room := { frames := rq.frames + 7, cells := 0, slots := 0, locals := rq.locals + 165 }
def fc_pl_fewestActs_b120 (Rc : Int32 → Int32 → SC → Option (Int32 × SC)) (K47 : Int32 → Int32 → Int32 → Int32 → Int32 → Int32 → SC → Option (Int32 × SC)) (x1 : Int32) (x2 : Int32) (x3 : Int32) (x4 : Int32) (x5 : Int32) (x6 : Int32) (τ : SC) : Option (Int32 × SC) := (Option.bind (fc_to_recall x3 τ) fun τ6 => (K47 x1 x2 x3 x4 x5 (x6 + (1 : Int32)) τ6))
def fc_pl_fewestActs_b111 (Rc : Int32 → Int32 → SC → Option (Int32 × SC)) (K47 : Int32 → Int32 → Int32 → Int32 → Int32 → Int32 → SC → Option (Int32 × SC)) (x1 : Int32) (x2 : Int32) (x3 : Int32) (x4 : Int32) (x5 : Int32) (x6 : Int32) (x7 : Int32) (τ : SC) : Option (Int32 × SC) := (if ¬ x6 = 0 then (fc_pl_fewestActs_b120 Rc K47 x1 x2 x3 x4 x5 x6 τ) else (fc_pl_fewestActs_b120 Rc K47 x1 x2 x3 x4 x7 x6 τ))
def fc_pl_fewestActs_b105 (Rc : Int32 → Int32 → SC → Option (Int32 × SC)) (K47 : Int32 → Int32 → Int32 → Int32 → Int32 → Int32 → SC → Option (Int32 × SC)) (x1 : Int32) (x2 : Int32) (x3 : Int32) (x5 : Int32) (x6 : Int32) (x7 : Int32) (y0 : Int32) (y1 : Int32) (y2 : Int32) (τ : SC) : Option (Int32 × SC) := (hl (hmin y2 (y1 + y0)) fun v9 => (fc_pl_fewestActs_b111 Rc K47 x1 x2 x3 v9 x5 x6 x7 τ))
def fc_pl_fewestActs_l47 (Rc : Int32 → Int32 → SC → Option (Int32 × SC)) : Nat → Int32 → Int32 → Int32 → Int32 → Int32 → Int32 → SC → Option (Int32 × SC)
  | 0, _, _, _, _, _, _, _ => none
  | n + 1, x1, x2, x3, x4, x5, x6, τ => (if (τ.1 113 0) < x6 then (some (x4, τ)) else (Option.bind (fc_to_pass x6 τ) fun p_ => hl p_.1 fun q2 => hl p_.2 fun τ3 => (Option.bind (fc_to_moment τ3) fun q4 => (if q4 = x5 then (fc_pl_fewestActs_b111 Rc (fc_pl_fewestActs_l47 Rc n) x1 x2 x3 x4 x5 x6 q4 τ3) else (Option.bind (Rc (x1 - (1 : Int32)) x2 τ3) fun p_ => hl p_.1 fun q7 => hl p_.2 fun τ8 => (if ¬ x6 = 0 then (fc_pl_fewestActs_b105 Rc (fc_pl_fewestActs_l47 Rc n) x1 x2 x3 x5 x6 q4 (1 : Int32) q7 x4 τ8) else (fc_pl_fewestActs_b105 Rc (fc_pl_fewestActs_l47 Rc n) x1 x2 x3 x5 x6 q4 (0 : Int32) q7 x4 τ8)))))))
def fc_pl_fewestActs (Rc : Int32 → Int32 → SC → Option (Int32 × SC)) (x1 : Int32) (x2 : Int32) (τ : SC) : Option (Int32 × SC) := (if ¬ (x2 &&& ((τ.1 108 0) ^^^ (-1 : Int32))) = 0 then (if x1 < (1 : Int32) then (some ((99 : Int32), τ)) else (if x1 ≤ (4 : Int32) then (Option.bind (fc_to_moment τ) fun q1 => (fc_pl_fewestActs_l47 Rc hFU x1 x2 q1 (99 : Int32) (-1 : Int32) (0 : Int32) τ)) else (some ((99 : Int32), τ)))) else (some ((0 : Int32), τ)))
set_option maxHeartbeats 4000000 in
set_option maxRecDepth 100000 in
theorem wc_pl_fewestActs_b120 {p : Program} {l : Launch} {e : Env} {s : State} {m : MethodId} {args : Array Value} {below : List Frame} {meth : Method} {c : Code} {A : Nat → Prop} {D : va_G} {cs : Nat → ClassId} {sK sV : Nat → Nat} {tA : Nat} {ad : Nat → Nat} {r : Int32} {υ : SC} {rq : Room} {Rc : Int32 → Int32 → SC → Option (Int32 × SC)} {K47 : Int32 → Int32 → Int32 → Int32 → Int32 → Int32 → SC → Option (Int32 × SC)} (X : hc p s m args meth c RX6 cX6_fewestActs 8 (some .int)) (hK : kC D cs sK sV tA A s) (hA : ∀ q, s.heap.size ≤ q → A q) (hq0 : rq.cells = 0 ∧ rq.slots = 0) (hRc : ∀ (τ : SC) (x1 : Int32) (x2 : Int32) (r : Int32) (υ : SC), Rc x1 x2 τ = some (r, υ) → ctI l (wC ad cs) D vwCl (kC D cs sK sV tA) yX6_fewestActs cX6_fewestActs 8 .int rq [.ref (ad 430), .int x1, .int x2] τ r υ) (hK47 : (∀ (x1 : Int32) (x2 : Int32) (x3 : Int32) (x4 : Int32) (x5 : Int32) (x6 : Int32) (τ : SC), K47 x1 x2 x3 x4 x5 x6 τ = some (r, υ) → gg p l e (ro_pl_fewestActs rq) s m args below meth c (wC ad cs) D vwCl A 8 (QI below args s (wC ad cs) D vwCl A r υ) 47 [(0, .ref (ad 430)), (1, .int x1), (2, .int x2), (3, .int x3), (4, .int x4), (5, .int x5), (6, .int x6)] [] τ))  (x1 : Int32) (x2 : Int32) (x3 : Int32) (x4 : Int32) (x5 : Int32) (x6 : Int32) (τ : SC) (hf : fc_pl_fewestActs_b120 Rc K47 x1 x2 x3 x4 x5 x6 τ = some (r, υ)) : gg p l e (ro_pl_fewestActs rq) s m args below meth c (wC ad cs) D vwCl A 8 (QI below args s (wC ad cs) D vwCl A r υ) 120 [(0, .ref (ad 430)), (1, .int x1), (2, .int x2), (3, .int x3), (4, .int x4), (5, .int x5), (6, .int x6)] [] τ := by
  unfold fc_pl_fewestActs_b120 at hf
  refine gr_aload_n X dX6_fewestActs_120 rfl 0 rfl ?_
  refine gC_get_PL_0 X hK fk6_20 dX6_fewestActs_121 ?_
  refine gr_iload_n X dX6_fewestActs_124 rfl 3 rfl ?_
  obtain ⟨τ6, hq_, hf⟩ := ot_b hf
  refine gc_Vv (rest := []) X kC_ok hK hA cw6_45 (rvC_T0 hK) (xc_to_recall hq_) rfl ⟨rfl, rfl, by simp only [ro_pl_fewestActs, ro_to_recall]; omega, by simp only [ro_pl_fewestActs, ro_to_recall]; omega⟩ rfl (Nat.le_of_ble_eq_true rfl) dX6_fewestActs_125 ?_
  refine gr_iinc (k := 6) (v := 1) (L2 := [(6, .int (x6 + (1 : Int32))), (0, .ref (ad 430)), (1, .int x1), (2, .int x2), (3, .int x3), (4, .int x4), (5, .int x5)]) X dX6_fewestActs_128 rfl (by decide) (by decide) rfl ?_
  refine gr_goto X 47 dX6_fewestActs_131 (by decide) ?_
  refine gr_sub [1, 2, 3, 4, 5, 6, 0] rfl ?_
  exact hK47 _ _ _ _ _ _ _ hf
set_option maxHeartbeats 4000000 in
set_option maxRecDepth 100000 in
theorem wc_pl_fewestActs_b111 {p : Program} {l : Launch} {e : Env} {s : State} {m : MethodId} {args : Array Value} {below : List Frame} {meth : Method} {c : Code} {A : Nat → Prop} {D : va_G} {cs : Nat → ClassId} {sK sV : Nat → Nat} {tA : Nat} {ad : Nat → Nat} {r : Int32} {υ : SC} {rq : Room} {Rc : Int32 → Int32 → SC → Option (Int32 × SC)} {K47 : Int32 → Int32 → Int32 → Int32 → Int32 → Int32 → SC → Option (Int32 × SC)} (X : hc p s m args meth c RX6 cX6_fewestActs 8 (some .int)) (hK : kC D cs sK sV tA A s) (hA : ∀ q, s.heap.size ≤ q → A q) (hq0 : rq.cells = 0 ∧ rq.slots = 0) (hRc : ∀ (τ : SC) (x1 : Int32) (x2 : Int32) (r : Int32) (υ : SC), Rc x1 x2 τ = some (r, υ) → ctI l (wC ad cs) D vwCl (kC D cs sK sV tA) yX6_fewestActs cX6_fewestActs 8 .int rq [.ref (ad 430), .int x1, .int x2] τ r υ) (hK47 : (∀ (x1 : Int32) (x2 : Int32) (x3 : Int32) (x4 : Int32) (x5 : Int32) (x6 : Int32) (τ : SC), K47 x1 x2 x3 x4 x5 x6 τ = some (r, υ) → gg p l e (ro_pl_fewestActs rq) s m args below meth c (wC ad cs) D vwCl A 8 (QI below args s (wC ad cs) D vwCl A r υ) 47 [(0, .ref (ad 430)), (1, .int x1), (2, .int x2), (3, .int x3), (4, .int x4), (5, .int x5), (6, .int x6)] [] τ))  (x1 : Int32) (x2 : Int32) (x3 : Int32) (x4 : Int32) (x5 : Int32) (x6 : Int32) (x7 : Int32) (τ : SC) (hf : fc_pl_fewestActs_b111 Rc K47 x1 x2 x3 x4 x5 x6 x7 τ = some (r, υ)) : gg p l e (ro_pl_fewestActs rq) s m args below meth c (wC ad cs) D vwCl A 8 (QI below args s (wC ad cs) D vwCl A r υ) 111 [(0, .ref (ad 430)), (1, .int x1), (2, .int x2), (3, .int x3), (4, .int x4), (5, .int x5), (6, .int x6), (7, .int x7)] [] τ := by
  unfold fc_pl_fewestActs_b111 at hf
  refine gr_iload X dX6_fewestActs_111 6 rfl ?_
  refine gr_if_ne X 120 dX6_fewestActs_113 (by decide) (fun hc_ => ?_) (fun hc_ => ?_)
  · replace hf := ot_t hf hc_
    refine gr_sub [0, 1, 2, 3, 4, 5, 6] rfl ?_
    exact wc_pl_fewestActs_b120 X hK hA hq0 hRc hK47 _ _ _ _ _ _ _ hf
  · replace hf := ot_f hf hc_
    refine gr_iload X dX6_fewestActs_116 7 rfl ?_
    refine gr_istore (L2 := [(5, .int x7), (0, .ref (ad 430)), (1, .int x1), (2, .int x2), (3, .int x3), (4, .int x4), (6, .int x6), (7, .int x7)]) X dX6_fewestActs_118 (by decide) rfl ?_
    refine gr_sub [1, 2, 3, 4, 5, 0, 6] rfl ?_
    exact wc_pl_fewestActs_b120 X hK hA hq0 hRc hK47 _ _ _ _ _ _ _ hf
set_option maxHeartbeats 4000000 in
set_option maxRecDepth 100000 in
theorem wc_pl_fewestActs_b105 {p : Program} {l : Launch} {e : Env} {s : State} {m : MethodId} {args : Array Value} {below : List Frame} {meth : Method} {c : Code} {A : Nat → Prop} {D : va_G} {cs : Nat → ClassId} {sK sV : Nat → Nat} {tA : Nat} {ad : Nat → Nat} {r : Int32} {υ : SC} {rq : Room} {Rc : Int32 → Int32 → SC → Option (Int32 × SC)} {K47 : Int32 → Int32 → Int32 → Int32 → Int32 → Int32 → SC → Option (Int32 × SC)} (X : hc p s m args meth c RX6 cX6_fewestActs 8 (some .int)) (hK : kC D cs sK sV tA A s) (hA : ∀ q, s.heap.size ≤ q → A q) (hq0 : rq.cells = 0 ∧ rq.slots = 0) (hRc : ∀ (τ : SC) (x1 : Int32) (x2 : Int32) (r : Int32) (υ : SC), Rc x1 x2 τ = some (r, υ) → ctI l (wC ad cs) D vwCl (kC D cs sK sV tA) yX6_fewestActs cX6_fewestActs 8 .int rq [.ref (ad 430), .int x1, .int x2] τ r υ) (hK47 : (∀ (x1 : Int32) (x2 : Int32) (x3 : Int32) (x4 : Int32) (x5 : Int32) (x6 : Int32) (τ : SC), K47 x1 x2 x3 x4 x5 x6 τ = some (r, υ) → gg p l e (ro_pl_fewestActs rq) s m args below meth c (wC ad cs) D vwCl A 8 (QI below args s (wC ad cs) D vwCl A r υ) 47 [(0, .ref (ad 430)), (1, .int x1), (2, .int x2), (3, .int x3), (4, .int x4), (5, .int x5), (6, .int x6)] [] τ))  (x1 : Int32) (x2 : Int32) (x3 : Int32) (x5 : Int32) (x6 : Int32) (x7 : Int32) (y0 : Int32) (y1 : Int32) (y2 : Int32) (τ : SC) (hf : fc_pl_fewestActs_b105 Rc K47 x1 x2 x3 x5 x6 x7 y0 y1 y2 τ = some (r, υ)) : gg p l e (ro_pl_fewestActs rq) s m args below meth c (wC ad cs) D vwCl A 8 (QI below args s (wC ad cs) D vwCl A r υ) 105 [(0, .ref (ad 430)), (1, .int x1), (2, .int x2), (3, .int x3), (5, .int x5), (6, .int x6), (7, .int x7)] [.int y0, .int y1, .int y2] τ := by
  unfold fc_pl_fewestActs_b105 at hf
  refine gr_iadd X dX6_fewestActs_105 ?_
  refine gr_mmin X mk6_62 ⟨by simp only [ro_pl_fewestActs]; omega, by simp only [ro_pl_fewestActs, List.map_cons, List.map_nil, List.sum_cons, List.sum_nil, Value.category]; omega⟩ dX6_fewestActs_106 ?_
  refine gC_top (fun v9 e_v9 => ?_)
  replace hf := ot_l hf e_v9
  refine gr_istore (L2 := [(4, .int v9), (0, .ref (ad 430)), (1, .int x1), (2, .int x2), (3, .int x3), (5, .int x5), (6, .int x6), (7, .int x7)]) X dX6_fewestActs_109 (by decide) rfl ?_
  refine gr_sub [1, 2, 3, 4, 0, 5, 6, 7] rfl ?_
  exact wc_pl_fewestActs_b111 X hK hA hq0 hRc hK47 _ _ _ _ _ _ _ _ hf
set_option maxHeartbeats 4000000 in
set_option maxRecDepth 100000 in
theorem wc_pl_fewestActs_l47 {p : Program} {l : Launch} {e : Env} {s : State} {m : MethodId} {args : Array Value} {below : List Frame} {meth : Method} {c : Code} {A : Nat → Prop} {D : va_G} {cs : Nat → ClassId} {sK sV : Nat → Nat} {tA : Nat} {ad : Nat → Nat} {r : Int32} {υ : SC} {rq : Room} {Rc : Int32 → Int32 → SC → Option (Int32 × SC)} (X : hc p s m args meth c RX6 cX6_fewestActs 8 (some .int)) (hK : kC D cs sK sV tA A s) (hA : ∀ q, s.heap.size ≤ q → A q) (hq0 : rq.cells = 0 ∧ rq.slots = 0) (hRc : ∀ (τ : SC) (x1 : Int32) (x2 : Int32) (r : Int32) (υ : SC), Rc x1 x2 τ = some (r, υ) → ctI l (wC ad cs) D vwCl (kC D cs sK sV tA) yX6_fewestActs cX6_fewestActs 8 .int rq [.ref (ad 430), .int x1, .int x2] τ r υ)  : ∀ (n : Nat) (x1 : Int32) (x2 : Int32) (x3 : Int32) (x4 : Int32) (x5 : Int32) (x6 : Int32) (τ : SC), fc_pl_fewestActs_l47 Rc n x1 x2 x3 x4 x5 x6 τ = some (r, υ) → gg p l e (ro_pl_fewestActs rq) s m args below meth c (wC ad cs) D vwCl A 8 (QI below args s (wC ad cs) D vwCl A r υ) 47 [(0, .ref (ad 430)), (1, .int x1), (2, .int x2), (3, .int x3), (4, .int x4), (5, .int x5), (6, .int x6)] [] τ := by
  intro n
  induction n with
  | zero =>
    intro x1 x2 x3 x4 x5 x6 τ hf
    cases (show (none : Option (Int32 × SC)) = some (r, υ) from hf)
  | succ n ih =>
    intro x1 x2 x3 x4 x5 x6 τ hf
    unfold fc_pl_fewestActs_l47 at hf
    refine gr_iload X dX6_fewestActs_47 6 rfl ?_
    refine gr_aload_n X dX6_fewestActs_49 rfl 0 rfl ?_
    refine gC_get_PL_0 X hK fk6_20 dX6_fewestActs_50 ?_
    refine gC_get_T0_13 X hK fk6_30 dX6_fewestActs_53 ?_
    refine gr_icmp_gt X 134 dX6_fewestActs_56 (by decide) (fun hc_ => ?_) (fun hc_ => ?_)
    · replace hf := ot_t hf hc_
      refine gr_iload X dX6_fewestActs_134 4 rfl ?_
      exact gr_iret X dX6_fewestActs_136 (Prod.mk.inj (Option.some.inj hf)).1 (Prod.mk.inj (Option.some.inj hf)).2
    · replace hf := ot_f hf hc_
      refine gr_aload_n X dX6_fewestActs_59 rfl 0 rfl ?_
      refine gC_get_PL_0 X hK fk6_20 dX6_fewestActs_60 ?_
      refine gr_iload X dX6_fewestActs_63 6 rfl ?_
      obtain ⟨⟨q2, τ3⟩, hq_, hf⟩ := ot_b hf
      replace hf := ot_l (y := q2) hf rfl
      replace hf := ot_l (y := τ3) hf rfl
      refine gc_Vi (rest := []) X kC_ok hK hA cw6_34 (rvC_T0 hK) (xc_to_pass hq_) rfl ⟨rfl, rfl, by simp only [ro_pl_fewestActs, ro_to_pass]; omega, by simp only [ro_pl_fewestActs, ro_to_pass]; omega⟩ rfl (Nat.le_of_ble_eq_true rfl) dX6_fewestActs_65 ?_
      refine gr_pop X dX6_fewestActs_68 rfl ?_
      refine gr_aload_n X dX6_fewestActs_69 rfl 0 rfl ?_
      refine gC_get_PL_0 X hK fk6_20 dX6_fewestActs_70 ?_
      obtain ⟨q4, hq_, hf⟩ := ot_b hf
      refine gc_Vi (rest := []) X kC_ok hK hA cw6_24 (rvC_T0 hK) (xc_to_moment hq_) rfl ⟨rfl, rfl, by simp only [ro_pl_fewestActs, ro_to_moment]; omega, by simp only [ro_pl_fewestActs, ro_to_moment]; omega⟩ rfl (Nat.le_of_ble_eq_true rfl) dX6_fewestActs_73 ?_
      refine gr_istore (L2 := [(7, .int q4), (0, .ref (ad 430)), (1, .int x1), (2, .int x2), (3, .int x3), (4, .int x4), (5, .int x5), (6, .int x6)]) X dX6_fewestActs_76 (by decide) rfl ?_
      refine gr_iload X dX6_fewestActs_78 0 rfl ?_
      refine gr_iload X dX6_fewestActs_80 6 rfl ?_
      refine gr_icmp_eq X 111 dX6_fewestActs_82 (by decide) (fun hc_ => ?_) (fun hc_ => ?_)
      · replace hf := ot_t hf hc_
        refine gr_sub [1, 2, 3, 4, 5, 6, 7, 0] rfl ?_
        exact wc_pl_fewestActs_b111 X hK hA hq0 hRc ih _ _ _ _ _ _ _ _ hf
      · replace hf := ot_f hf hc_
        refine gr_iload X dX6_fewestActs_85 5 rfl ?_
        refine gr_aload_n X dX6_fewestActs_87 rfl 1 rfl ?_
        refine gr_iload_n X dX6_fewestActs_88 rfl 2 rfl ?_
        refine gr_iconst (v := 1) X dX6_fewestActs_89 (by decide) ?_
        refine gr_isub X dX6_fewestActs_90 ?_
        refine gr_iload_n X dX6_fewestActs_91 rfl 3 rfl ?_
        obtain ⟨⟨q7, τ8⟩, hq_, hf⟩ := ot_b hf
        replace hf := ot_l (y := q7) hf rfl
        replace hf := ot_l (y := τ8) hf rfl
        refine gc_Vi (rest := [.int x4]) X kC_ok hK hA cw6_58 (rvC_PL hK) (hRc _ _ _ _ _ hq_) rfl ⟨hq0.1, hq0.2, by simp only [ro_pl_fewestActs]; omega, by simp only [ro_pl_fewestActs]; omega⟩ rfl (Nat.le_of_ble_eq_true rfl) dX6_fewestActs_92 ?_
        refine gr_iload X dX6_fewestActs_95 7 rfl ?_
        refine gr_if_ne X 104 dX6_fewestActs_97 (by decide) (fun hc_ => ?_) (fun hc_ => ?_)
        · replace hf := ot_t hf hc_
          refine gr_iconst (v := 1) X dX6_fewestActs_104 (by decide) ?_
          refine gr_sub [1, 2, 3, 4, 6, 7, 0] rfl ?_
          exact wc_pl_fewestActs_b105 X hK hA hq0 hRc ih _ _ _ _ _ _ _ _ _ _ hf
        · replace hf := ot_f hf hc_
          refine gr_iconst (v := 0) X dX6_fewestActs_100 (by decide) ?_
          refine gr_goto X 105 dX6_fewestActs_101 (by decide) ?_
          refine gr_sub [1, 2, 3, 4, 6, 7, 0] rfl ?_
          exact wc_pl_fewestActs_b105 X hK hA hq0 hRc ih _ _ _ _ _ _ _ _ _ _ hf
set_option maxHeartbeats 4000000 in
set_option maxRecDepth 100000 in
theorem xc_pl_fewestActs {l : Launch} {D : va_G} {cs : Nat → ClassId} {sK sV : Nat → Nat} {tA : Nat} {ad : Nat → Nat} {τ : SC} {x1 : Int32} {x2 : Int32} {r : Int32} {υ : SC} {rq : Room} {Rc : Int32 → Int32 → SC → Option (Int32 × SC)} (hq0 : rq.cells = 0 ∧ rq.slots = 0) (hRc : ∀ (τ : SC) (x1 : Int32) (x2 : Int32) (r : Int32) (υ : SC), Rc x1 x2 τ = some (r, υ) → ctI l (wC ad cs) D vwCl (kC D cs sK sV tA) yX6_fewestActs cX6_fewestActs 8 .int rq [.ref (ad 430), .int x1, .int x2] τ r υ) (hf : fc_pl_fewestActs Rc x1 x2 τ = some (r, υ)) : ctI l (wC ad cs) D vwCl (kC D cs sK sV tA) yX6_fewestActs cX6_fewestActs 8 .int (ro_pl_fewestActs rq) [.ref (ad 430), .int x1, .int x2] τ r υ := by
  refine ct_I RX6 (by decide +kernel) rfl (Nat.le_of_ble_eq_true rfl) ?_
  intro p e s m args below meth c A X hK hA
  refine gr_eqL (L2 := [(0, .ref (ad 430)), (1, .int x1), (2, .int x2)]) rfl ?_
  unfold fc_pl_fewestActs at hf
  refine gr_iload_n X dX6_fewestActs_0 rfl 2 rfl ?_
  refine gr_aload_n X dX6_fewestActs_1 rfl 0 rfl ?_
  refine gC_get_PL_0 X hK fk6_20 dX6_fewestActs_2 ?_
  refine gC_get_T0_8 X hK fk6_55 dX6_fewestActs_5 ?_
  refine gr_iconst (v := -1) X dX6_fewestActs_8 (by decide) ?_
  refine gr_ixor X dX6_fewestActs_9 ?_
  refine gr_iand X dX6_fewestActs_10 ?_
  refine gr_if_ne X 16 dX6_fewestActs_11 (by decide) (fun hc_ => ?_) (fun hc_ => ?_)
  · replace hf := ot_t hf hc_
    refine gr_iload_n X dX6_fewestActs_16 rfl 1 rfl ?_
    refine gr_iconst (v := 1) X dX6_fewestActs_17 (by decide) ?_
    refine gr_icmp_lt X 26 dX6_fewestActs_18 (by decide) (fun hc_ => ?_) (fun hc_ => ?_)
    · replace hf := ot_t hf hc_
      refine gr_bipush (v := 99) X dX6_fewestActs_26 (by decide) ?_
      exact gr_iret X dX6_fewestActs_28 (Prod.mk.inj (Option.some.inj hf)).1 (Prod.mk.inj (Option.some.inj hf)).2
    · replace hf := ot_f hf hc_
      refine gr_iload_n X dX6_fewestActs_21 rfl 1 rfl ?_
      refine gr_iconst (v := 4) X dX6_fewestActs_22 (by decide) ?_
      refine gr_icmp_le X 29 dX6_fewestActs_23 (by decide) (fun hc_ => ?_) (fun hc_ => ?_)
      · replace hf := ot_t hf hc_
        refine gr_aload_n X dX6_fewestActs_29 rfl 0 rfl ?_
        refine gC_get_PL_0 X hK fk6_20 dX6_fewestActs_30 ?_
        obtain ⟨q1, hq_, hf⟩ := ot_b hf
        refine gc_Vi (rest := []) X kC_ok hK hA cw6_24 (rvC_T0 hK) (xc_to_moment hq_) rfl ⟨rfl, rfl, by simp only [ro_pl_fewestActs, ro_to_moment]; omega, by simp only [ro_pl_fewestActs, ro_to_moment]; omega⟩ rfl (Nat.le_of_ble_eq_true rfl) dX6_fewestActs_33 ?_
        refine gr_istore_n (L2 := [(3, .int q1), (0, .ref (ad 430)), (1, .int x1), (2, .int x2)]) X dX6_fewestActs_36 rfl (by decide) rfl ?_
        refine gr_bipush (v := 99) X dX6_fewestActs_37 (by decide) ?_
        refine gr_istore (L2 := [(4, .int (99 : Int32)), (3, .int q1), (0, .ref (ad 430)), (1, .int x1), (2, .int x2)]) X dX6_fewestActs_39 (by decide) rfl ?_
        refine gr_iconst (v := -1) X dX6_fewestActs_41 (by decide) ?_
        refine gr_istore (L2 := [(5, .int (-1 : Int32)), (4, .int (99 : Int32)), (3, .int q1), (0, .ref (ad 430)), (1, .int x1), (2, .int x2)]) X dX6_fewestActs_42 (by decide) rfl ?_
        refine gr_iconst (v := 0) X dX6_fewestActs_44 (by decide) ?_
        refine gr_istore (L2 := [(6, .int (0 : Int32)), (5, .int (-1 : Int32)), (4, .int (99 : Int32)), (3, .int q1), (0, .ref (ad 430)), (1, .int x1), (2, .int x2)]) X dX6_fewestActs_45 (by decide) rfl ?_
        refine gr_sub [4, 5, 6, 3, 2, 1, 0] rfl ?_
        refine wc_pl_fewestActs_l47 X hK hA hq0 hRc  hFU _ _ _ _ _ _ _ hf
      · replace hf := ot_f hf hc_
        refine gr_bipush (v := 99) X dX6_fewestActs_26 (by decide) ?_
        exact gr_iret X dX6_fewestActs_28 (Prod.mk.inj (Option.some.inj hf)).1 (Prod.mk.inj (Option.some.inj hf)).2
  · replace hf := ot_f hf hc_
    refine gr_iconst (v := 0) X dX6_fewestActs_14 (by decide) ?_
    exact gr_iret X dX6_fewestActs_15 (Prod.mk.inj (Option.some.inj hf)).1 (Prod.mk.inj (Option.some.inj hf)).2
def fc_pl_fewestActsD : Nat → Int32 → Int32 → SC → Option (Int32 × SC)
  | 0 => fun _ _ _ => none
  | d + 1 => fc_pl_fewestActs (fc_pl_fewestActsD d)
def ro_pl_fewestActsD : Nat → Room
  | 0 => { frames := 0, cells := 0, slots := 0, locals := 0 }
  | d + 1 => ro_pl_fewestActs (ro_pl_fewestActsD d)
theorem ro_pl_fewestActsD_0 : ∀ d, (ro_pl_fewestActsD d).cells = 0 ∧ (ro_pl_fewestActsD d).slots = 0
  | 0 => ⟨rfl, rfl⟩
  | _ + 1 => ⟨rfl, rfl⟩
theorem xc_pl_fewestActsA {l : Launch} {D : va_G} {cs : Nat → ClassId} {sK sV : Nat → Nat} {tA : Nat} {ad : Nat → Nat} : ∀ (d : Nat) (τ : SC) (x1 : Int32) (x2 : Int32) (r : Int32) (υ : SC), fc_pl_fewestActsD d x1 x2 τ = some (r, υ) → ctI l (wC ad cs) D vwCl (kC D cs sK sV tA) yX6_fewestActs cX6_fewestActs 8 .int (ro_pl_fewestActsD d) [.ref (ad 430), .int x1, .int x2] τ r υ := by
  intro d
  induction d with
  | zero =>
    intro τ x1 x2 r υ hf
    cases (show (none : Option (Int32 × SC)) = some (r, υ) from hf)
  | succ d ih =>
    intro τ x1 x2 r υ hf
    exact xc_pl_fewestActs (ro_pl_fewestActsD_0 d) ih hf
abbrev ro_hh_charter : Room := { frames := 57, cells := 0, slots := 0, locals := 1347 }
def fc_hh_charter (x1 : Int32) (x2 : Int32) (τ : SC) : Option (Int32 × SC) := (Option.bind (fc_hh_within x1 (4 : Int32)) fun q1 => (if q1 = 0 then (some ((-1 : Int32), τ)) else (Option.bind (fc_to_everyGuild τ) fun q2 => (Option.bind (fc_hh_within x2 q2) fun q3 => (if ¬ q3 = 0 then (Option.bind (fc_to_hoursOf τ x1) fun q4 => (Option.bind (fc_pl_fewestActsD 8 q4 x2 τ) fun p_ => hl p_.1 fun q5 => hl p_.2 fun τ6 => (if q5 ≤ (4 : Int32) then (some (q5, τ6)) else (some ((-3 : Int32), τ6))))) else (some ((-1 : Int32), τ)))))))
set_option maxHeartbeats 4000000 in
set_option maxRecDepth 100000 in
theorem xc_hh_charter {l : Launch} {D : va_G} {cs : Nat → ClassId} {sK sV : Nat → Nat} {tA : Nat} {ad : Nat → Nat} {τ : SC} {x1 : Int32} {x2 : Int32} {r : Int32} {υ : SC} (hf : fc_hh_charter x1 x2 τ = some (r, υ)) : ctI l (wC ad cs) D vwCl (kC D cs sK sV tA) yX11_charter cX11_charter 4 .int ro_hh_charter [.ref (ad 16), .int x1, .int x2] τ r υ := by
  refine ct_I RX11 (by decide +kernel) rfl (Nat.le_of_ble_eq_true rfl) ?_
  intro p e s m args below meth c A X hK hA
  refine gr_eqL (L2 := [(0, .ref (ad 16)), (1, .int x1), (2, .int x2)]) rfl ?_
  unfold fc_hh_charter at hf
  refine gr_iload_n X dX11_charter_0 rfl 1 rfl ?_
  refine gr_iconst (v := 4) X dX11_charter_1 (by decide) ?_
  obtain ⟨q1, hq_, hf⟩ := ot_b hf
  refine gc_Si (rest := []) X kC_ok hK hA cw11_79 (xc_hh_within hq_) rfl ⟨rfl, rfl, Nat.le_of_ble_eq_true rfl, Nat.le_of_ble_eq_true rfl⟩ rfl (Nat.le_of_ble_eq_true rfl) dX11_charter_2 ?_
  refine gr_if_eq X 22 dX11_charter_5 (by decide) (fun hc_ => ?_) (fun hc_ => ?_)
  · replace hf := ot_t hf hc_
    refine gr_iconst (v := -1) X dX11_charter_22 (by decide) ?_
    exact gr_iret X dX11_charter_23 (Prod.mk.inj (Option.some.inj hf)).1 (Prod.mk.inj (Option.some.inj hf)).2
  · replace hf := ot_f hf hc_
    refine gr_iload_n X dX11_charter_8 rfl 2 rfl ?_
    refine gr_aload_n X dX11_charter_9 rfl 0 rfl ?_
    refine gC_get_HH_0 X hK fk11_10 dX11_charter_10 ?_
    obtain ⟨q2, hq_, hf⟩ := ot_b hf
    refine gc_Vi (rest := [.int x2]) X kC_ok hK hA cw11_239 (rvC_T0 hK) (xc_to_everyGuild hq_) rfl ⟨rfl, rfl, Nat.le_of_ble_eq_true rfl, Nat.le_of_ble_eq_true rfl⟩ rfl (Nat.le_of_ble_eq_true rfl) dX11_charter_13 ?_
    obtain ⟨q3, hq_, hf⟩ := ot_b hf
    refine gc_Si (rest := []) X kC_ok hK hA cw11_79 (xc_hh_within hq_) rfl ⟨rfl, rfl, Nat.le_of_ble_eq_true rfl, Nat.le_of_ble_eq_true rfl⟩ rfl (Nat.le_of_ble_eq_true rfl) dX11_charter_16 ?_
    refine gr_if_ne X 24 dX11_charter_19 (by decide) (fun hc_ => ?_) (fun hc_ => ?_)
    · replace hf := ot_t hf hc_
      refine gr_aload_n X dX11_charter_24 rfl 0 rfl ?_
      refine gC_get_HH_3 X hK fk11_24 dX11_charter_25 ?_
      refine gr_aload_n X dX11_charter_28 rfl 0 rfl ?_
      refine gC_get_HH_0 X hK fk11_10 dX11_charter_29 ?_
      refine gr_iload_n X dX11_charter_32 rfl 1 rfl ?_
      obtain ⟨q4, hq_, hf⟩ := ot_b hf
      refine gc_Vi (rest := [.ref (ad 430)]) X kC_ok hK hA cw11_212 (rvC_T0 hK) (xc_to_hoursOf hq_) rfl ⟨rfl, rfl, Nat.le_of_ble_eq_true rfl, Nat.le_of_ble_eq_true rfl⟩ rfl (Nat.le_of_ble_eq_true rfl) dX11_charter_33 ?_
      refine gr_iload_n X dX11_charter_36 rfl 2 rfl ?_
      obtain ⟨⟨q5, τ6⟩, hq_, hf⟩ := ot_b hf
      replace hf := ot_l (y := q5) hf rfl
      replace hf := ot_l (y := τ6) hf rfl
      refine gc_Vi (rest := []) X kC_ok hK hA cw11_261 (rvC_PL hK) (xc_pl_fewestActsA 8 _ _ _ _ _ hq_) rfl ⟨rfl, rfl, Nat.le_of_ble_eq_true rfl, Nat.le_of_ble_eq_true rfl⟩ rfl (Nat.le_of_ble_eq_true rfl) dX11_charter_37 ?_
      refine gr_istore_n (L2 := [(3, .int q5), (0, .ref (ad 16)), (1, .int x1), (2, .int x2)]) X dX11_charter_40 rfl (by decide) rfl ?_
      refine gr_iload_n X dX11_charter_41 rfl 0 rfl ?_
      refine gr_iconst (v := 4) X dX11_charter_42 (by decide) ?_
      refine gr_icmp_le X 51 dX11_charter_43 (by decide) (fun hc_ => ?_) (fun hc_ => ?_)
      · replace hf := ot_t hf hc_
        refine gr_iload_n X dX11_charter_51 rfl 0 rfl ?_
        exact gr_iret X dX11_charter_52 (Prod.mk.inj (Option.some.inj hf)).1 (Prod.mk.inj (Option.some.inj hf)).2
      · replace hf := ot_f hf hc_
        refine gr_bipush (v := -3) X dX11_charter_46 (by decide) ?_
        refine gr_goto X 52 dX11_charter_48 (by decide) ?_
        exact gr_iret X dX11_charter_52 (Prod.mk.inj (Option.some.inj hf)).1 (Prod.mk.inj (Option.some.inj hf)).2
    · replace hf := ot_f hf hc_
      refine gr_iconst (v := -1) X dX11_charter_22 (by decide) ?_
      exact gr_iret X dX11_charter_23 (Prod.mk.inj (Option.some.inj hf)).1 (Prod.mk.inj (Option.some.inj hf)).2
def ro_pl_doneBySome (rq : Room) : Room := { frames := rq.frames + 7, cells := 0, slots := 0, locals := rq.locals + 164 }
def fc_pl_doneBySome_b91 (Rc : Int32 → SC → Option (Int32 × SC)) (K34 : Int32 → Int32 → Int32 → Int32 → Int32 → SC → Option (Int32 × SC)) (x1 : Int32) (x2 : Int32) (x3 : Int32) (x4 : Int32) (x5 : Int32) (τ : SC) : Option (Int32 × SC) := (Option.bind (fc_to_recall x2 τ) fun τ6 => (K34 x1 x2 x3 x4 (x5 + (1 : Int32)) τ6))
def fc_pl_doneBySome_b82 (Rc : Int32 → SC → Option (Int32 × SC)) (K34 : Int32 → Int32 → Int32 → Int32 → Int32 → SC → Option (Int32 × SC)) (x1 : Int32) (x2 : Int32) (x3 : Int32) (x4 : Int32) (x5 : Int32) (x6 : Int32) (τ : SC) : Option (Int32 × SC) := (if ¬ x5 = 0 then (fc_pl_doneBySome_b91 Rc K34 x1 x2 x3 x4 x5 τ) else (fc_pl_doneBySome_b91 Rc K34 x1 x2 x3 x6 x5 τ))
def fc_pl_doneBySome_l34 (Rc : Int32 → SC → Option (Int32 × SC)) : Nat → Int32 → Int32 → Int32 → Int32 → Int32 → SC → Option (Int32 × SC)
  | 0, _, _, _, _, _, _ => none
  | n + 1, x1, x2, x3, x4, x5, τ => (if (τ.1 113 0) < x5 then (some (x3, τ)) else (Option.bind (fc_to_pass x5 τ) fun p_ => hl p_.1 fun q2 => hl p_.2 fun τ3 => (Option.bind (fc_to_moment τ3) fun q4 => (if q4 = x4 then (fc_pl_doneBySome_b82 Rc (fc_pl_doneBySome_l34 Rc n) x1 x2 x3 x4 x5 q4 τ3) else (Option.bind (Rc (x1 - (1 : Int32)) τ3) fun p_ => hl p_.1 fun q7 => hl p_.2 fun τ8 => (hl (x3 ||| q7) fun v9 => (fc_pl_doneBySome_b82 Rc (fc_pl_doneBySome_l34 Rc n) x1 x2 v9 x4 x5 q4 τ8)))))))
def fc_pl_doneBySome (Rc : Int32 → SC → Option (Int32 × SC)) (x1 : Int32) (τ : SC) : Option (Int32 × SC) := (if x1 < (1 : Int32) then (some ((τ.1 108 0), τ)) else (if x1 ≤ (4 : Int32) then (Option.bind (fc_to_moment τ) fun q1 => (fc_pl_doneBySome_l34 Rc hFU x1 q1 (0 : Int32) (-1 : Int32) (0 : Int32) τ)) else (some ((τ.1 108 0), τ))))
set_option maxHeartbeats 4000000 in
set_option maxRecDepth 100000 in
theorem wc_pl_doneBySome_b91 {p : Program} {l : Launch} {e : Env} {s : State} {m : MethodId} {args : Array Value} {below : List Frame} {meth : Method} {c : Code} {A : Nat → Prop} {D : va_G} {cs : Nat → ClassId} {sK sV : Nat → Nat} {tA : Nat} {ad : Nat → Nat} {r : Int32} {υ : SC} {rq : Room} {Rc : Int32 → SC → Option (Int32 × SC)} {K34 : Int32 → Int32 → Int32 → Int32 → Int32 → SC → Option (Int32 × SC)} (X : hc p s m args meth c RX6 cX6_doneBySome 7 (some .int)) (hK : kC D cs sK sV tA A s) (hA : ∀ q, s.heap.size ≤ q → A q) (hq0 : rq.cells = 0 ∧ rq.slots = 0) (hRc : ∀ (τ : SC) (x1 : Int32) (r : Int32) (υ : SC), Rc x1 τ = some (r, υ) → ctI l (wC ad cs) D vwCl (kC D cs sK sV tA) yX6_doneBySome cX6_doneBySome 7 .int rq [.ref (ad 430), .int x1] τ r υ) (hK34 : (∀ (x1 : Int32) (x2 : Int32) (x3 : Int32) (x4 : Int32) (x5 : Int32) (τ : SC), K34 x1 x2 x3 x4 x5 τ = some (r, υ) → gg p l e (ro_pl_doneBySome rq) s m args below meth c (wC ad cs) D vwCl A 7 (QI below args s (wC ad cs) D vwCl A r υ) 34 [(0, .ref (ad 430)), (1, .int x1), (2, .int x2), (3, .int x3), (4, .int x4), (5, .int x5)] [] τ))  (x1 : Int32) (x2 : Int32) (x3 : Int32) (x4 : Int32) (x5 : Int32) (τ : SC) (hf : fc_pl_doneBySome_b91 Rc K34 x1 x2 x3 x4 x5 τ = some (r, υ)) : gg p l e (ro_pl_doneBySome rq) s m args below meth c (wC ad cs) D vwCl A 7 (QI below args s (wC ad cs) D vwCl A r υ) 91 [(0, .ref (ad 430)), (1, .int x1), (2, .int x2), (3, .int x3), (4, .int x4), (5, .int x5)] [] τ := by
  unfold fc_pl_doneBySome_b91 at hf
  refine gr_aload_n X dX6_doneBySome_91 rfl 0 rfl ?_
  refine gC_get_PL_0 X hK fk6_20 dX6_doneBySome_92 ?_
  refine gr_iload_n X dX6_doneBySome_95 rfl 2 rfl ?_
  obtain ⟨τ6, hq_, hf⟩ := ot_b hf
  refine gc_Vv (rest := []) X kC_ok hK hA cw6_45 (rvC_T0 hK) (xc_to_recall hq_) rfl ⟨rfl, rfl, by simp only [ro_pl_doneBySome, ro_to_recall]; omega, by simp only [ro_pl_doneBySome, ro_to_recall]; omega⟩ rfl (Nat.le_of_ble_eq_true rfl) dX6_doneBySome_96 ?_
  refine gr_iinc (k := 5) (v := 1) (L2 := [(5, .int (x5 + (1 : Int32))), (0, .ref (ad 430)), (1, .int x1), (2, .int x2), (3, .int x3), (4, .int x4)]) X dX6_doneBySome_99 rfl (by decide) (by decide) rfl ?_
  refine gr_goto X 34 dX6_doneBySome_102 (by decide) ?_
  refine gr_sub [1, 2, 3, 4, 5, 0] rfl ?_
  exact hK34 _ _ _ _ _ _ hf
set_option maxHeartbeats 4000000 in
set_option maxRecDepth 100000 in
theorem wc_pl_doneBySome_b82 {p : Program} {l : Launch} {e : Env} {s : State} {m : MethodId} {args : Array Value} {below : List Frame} {meth : Method} {c : Code} {A : Nat → Prop} {D : va_G} {cs : Nat → ClassId} {sK sV : Nat → Nat} {tA : Nat} {ad : Nat → Nat} {r : Int32} {υ : SC} {rq : Room} {Rc : Int32 → SC → Option (Int32 × SC)} {K34 : Int32 → Int32 → Int32 → Int32 → Int32 → SC → Option (Int32 × SC)} (X : hc p s m args meth c RX6 cX6_doneBySome 7 (some .int)) (hK : kC D cs sK sV tA A s) (hA : ∀ q, s.heap.size ≤ q → A q) (hq0 : rq.cells = 0 ∧ rq.slots = 0) (hRc : ∀ (τ : SC) (x1 : Int32) (r : Int32) (υ : SC), Rc x1 τ = some (r, υ) → ctI l (wC ad cs) D vwCl (kC D cs sK sV tA) yX6_doneBySome cX6_doneBySome 7 .int rq [.ref (ad 430), .int x1] τ r υ) (hK34 : (∀ (x1 : Int32) (x2 : Int32) (x3 : Int32) (x4 : Int32) (x5 : Int32) (τ : SC), K34 x1 x2 x3 x4 x5 τ = some (r, υ) → gg p l e (ro_pl_doneBySome rq) s m args below meth c (wC ad cs) D vwCl A 7 (QI below args s (wC ad cs) D vwCl A r υ) 34 [(0, .ref (ad 430)), (1, .int x1), (2, .int x2), (3, .int x3), (4, .int x4), (5, .int x5)] [] τ))  (x1 : Int32) (x2 : Int32) (x3 : Int32) (x4 : Int32) (x5 : Int32) (x6 : Int32) (τ : SC) (hf : fc_pl_doneBySome_b82 Rc K34 x1 x2 x3 x4 x5 x6 τ = some (r, υ)) : gg p l e (ro_pl_doneBySome rq) s m args below meth c (wC ad cs) D vwCl A 7 (QI below args s (wC ad cs) D vwCl A r υ) 82 [(0, .ref (ad 430)), (1, .int x1), (2, .int x2), (3, .int x3), (4, .int x4), (5, .int x5), (6, .int x6)] [] τ := by
  unfold fc_pl_doneBySome_b82 at hf
  refine gr_iload X dX6_doneBySome_82 5 rfl ?_
  refine gr_if_ne X 91 dX6_doneBySome_84 (by decide) (fun hc_ => ?_) (fun hc_ => ?_)
  · replace hf := ot_t hf hc_
    refine gr_sub [0, 1, 2, 3, 4, 5] rfl ?_
    exact wc_pl_doneBySome_b91 X hK hA hq0 hRc hK34 _ _ _ _ _ _ hf
  · replace hf := ot_f hf hc_
    refine gr_iload X dX6_doneBySome_87 6 rfl ?_
    refine gr_istore (L2 := [(4, .int x6), (0, .ref (ad 430)), (1, .int x1), (2, .int x2), (3, .int x3), (5, .int x5), (6, .int x6)]) X dX6_doneBySome_89 (by decide) rfl ?_
    refine gr_sub [1, 2, 3, 4, 0, 5] rfl ?_
    exact wc_pl_doneBySome_b91 X hK hA hq0 hRc hK34 _ _ _ _ _ _ hf
set_option maxHeartbeats 4000000 in
set_option maxRecDepth 100000 in
theorem wc_pl_doneBySome_l34 {p : Program} {l : Launch} {e : Env} {s : State} {m : MethodId} {args : Array Value} {below : List Frame} {meth : Method} {c : Code} {A : Nat → Prop} {D : va_G} {cs : Nat → ClassId} {sK sV : Nat → Nat} {tA : Nat} {ad : Nat → Nat} {r : Int32} {υ : SC} {rq : Room} {Rc : Int32 → SC → Option (Int32 × SC)} (X : hc p s m args meth c RX6 cX6_doneBySome 7 (some .int)) (hK : kC D cs sK sV tA A s) (hA : ∀ q, s.heap.size ≤ q → A q) (hq0 : rq.cells = 0 ∧ rq.slots = 0) (hRc : ∀ (τ : SC) (x1 : Int32) (r : Int32) (υ : SC), Rc x1 τ = some (r, υ) → ctI l (wC ad cs) D vwCl (kC D cs sK sV tA) yX6_doneBySome cX6_doneBySome 7 .int rq [.ref (ad 430), .int x1] τ r υ)  : ∀ (n : Nat) (x1 : Int32) (x2 : Int32) (x3 : Int32) (x4 : Int32) (x5 : Int32) (τ : SC), fc_pl_doneBySome_l34 Rc n x1 x2 x3 x4 x5 τ = some (r, υ) → gg p l e (ro_pl_doneBySome rq) s m args below meth c (wC ad cs) D vwCl A 7 (QI below args s (wC ad cs) D vwCl A r υ) 34 [(0, .ref (ad 430)), (1, .int x1), (2, .int x2), (3, .int x3), (4, .int x4), (5, .int x5)] [] τ := by
  intro n
  induction n with
  | zero =>
    intro x1 x2 x3 x4 x5 τ hf
    cases (show (none : Option (Int32 × SC)) = some (r, υ) from hf)
  | succ n ih =>
    intro x1 x2 x3 x4 x5 τ hf
    unfold fc_pl_doneBySome_l34 at hf
    refine gr_iload X dX6_doneBySome_34 5 rfl ?_
    refine gr_aload_n X dX6_doneBySome_36 rfl 0 rfl ?_
    refine gC_get_PL_0 X hK fk6_20 dX6_doneBySome_37 ?_
    refine gC_get_T0_13 X hK fk6_30 dX6_doneBySome_40 ?_
    refine gr_icmp_gt X 105 dX6_doneBySome_43 (by decide) (fun hc_ => ?_) (fun hc_ => ?_)
    · replace hf := ot_t hf hc_
      refine gr_iload_n X dX6_doneBySome_105 rfl 3 rfl ?_
      exact gr_iret X dX6_doneBySome_106 (Prod.mk.inj (Option.some.inj hf)).1 (Prod.mk.inj (Option.some.inj hf)).2
    · replace hf := ot_f hf hc_
      refine gr_aload_n X dX6_doneBySome_46 rfl 0 rfl ?_
      refine gC_get_PL_0 X hK fk6_20 dX6_doneBySome_47 ?_
      refine gr_iload X dX6_doneBySome_50 5 rfl ?_
      obtain ⟨⟨q2, τ3⟩, hq_, hf⟩ := ot_b hf
      replace hf := ot_l (y := q2) hf rfl
      replace hf := ot_l (y := τ3) hf rfl
      refine gc_Vi (rest := []) X kC_ok hK hA cw6_34 (rvC_T0 hK) (xc_to_pass hq_) rfl ⟨rfl, rfl, by simp only [ro_pl_doneBySome, ro_to_pass]; omega, by simp only [ro_pl_doneBySome, ro_to_pass]; omega⟩ rfl (Nat.le_of_ble_eq_true rfl) dX6_doneBySome_52 ?_
      refine gr_pop X dX6_doneBySome_55 rfl ?_
      refine gr_aload_n X dX6_doneBySome_56 rfl 0 rfl ?_
      refine gC_get_PL_0 X hK fk6_20 dX6_doneBySome_57 ?_
      obtain ⟨q4, hq_, hf⟩ := ot_b hf
      refine gc_Vi (rest := []) X kC_ok hK hA cw6_24 (rvC_T0 hK) (xc_to_moment hq_) rfl ⟨rfl, rfl, by simp only [ro_pl_doneBySome, ro_to_moment]; omega, by simp only [ro_pl_doneBySome, ro_to_moment]; omega⟩ rfl (Nat.le_of_ble_eq_true rfl) dX6_doneBySome_60 ?_
      refine gr_istore (L2 := [(6, .int q4), (0, .ref (ad 430)), (1, .int x1), (2, .int x2), (3, .int x3), (4, .int x4), (5, .int x5)]) X dX6_doneBySome_63 (by decide) rfl ?_
      refine gr_iload X dX6_doneBySome_65 0 rfl ?_
      refine gr_iload X dX6_doneBySome_67 5 rfl ?_
      refine gr_icmp_eq X 82 dX6_doneBySome_69 (by decide) (fun hc_ => ?_) (fun hc_ => ?_)
      · replace hf := ot_t hf hc_
        refine gr_sub [1, 2, 3, 4, 5, 6, 0] rfl ?_
        exact wc_pl_doneBySome_b82 X hK hA hq0 hRc ih _ _ _ _ _ _ _ hf
      · replace hf := ot_f hf hc_
        refine gr_iload_n X dX6_doneBySome_72 rfl 4 rfl ?_
        refine gr_aload_n X dX6_doneBySome_73 rfl 1 rfl ?_
        refine gr_iload_n X dX6_doneBySome_74 rfl 2 rfl ?_
        refine gr_iconst (v := 1) X dX6_doneBySome_75 (by decide) ?_
        refine gr_isub X dX6_doneBySome_76 ?_
        obtain ⟨⟨q7, τ8⟩, hq_, hf⟩ := ot_b hf
        replace hf := ot_l (y := q7) hf rfl
        replace hf := ot_l (y := τ8) hf rfl
        refine gc_Vi (rest := [.int x3]) X kC_ok hK hA cw6_67 (rvC_PL hK) (hRc _ _ _ _ hq_) rfl ⟨hq0.1, hq0.2, by simp only [ro_pl_doneBySome]; omega, by simp only [ro_pl_doneBySome]; omega⟩ rfl (Nat.le_of_ble_eq_true rfl) dX6_doneBySome_77 ?_
        refine gr_ior X dX6_doneBySome_80 ?_
        refine gC_top (fun v9 e_v9 => ?_)
        replace hf := ot_l hf e_v9
        refine gr_istore_n (L2 := [(3, .int v9), (6, .int q4), (0, .ref (ad 430)), (1, .int x1), (2, .int x2), (4, .int x4), (5, .int x5)]) X dX6_doneBySome_81 rfl (by decide) rfl ?_
        refine gr_sub [2, 3, 4, 0, 5, 6, 1] rfl ?_
        exact wc_pl_doneBySome_b82 X hK hA hq0 hRc ih _ _ _ _ _ _ _ hf
set_option maxHeartbeats 4000000 in
set_option maxRecDepth 100000 in
theorem xc_pl_doneBySome {l : Launch} {D : va_G} {cs : Nat → ClassId} {sK sV : Nat → Nat} {tA : Nat} {ad : Nat → Nat} {τ : SC} {x1 : Int32} {r : Int32} {υ : SC} {rq : Room} {Rc : Int32 → SC → Option (Int32 × SC)} (hq0 : rq.cells = 0 ∧ rq.slots = 0) (hRc : ∀ (τ : SC) (x1 : Int32) (r : Int32) (υ : SC), Rc x1 τ = some (r, υ) → ctI l (wC ad cs) D vwCl (kC D cs sK sV tA) yX6_doneBySome cX6_doneBySome 7 .int rq [.ref (ad 430), .int x1] τ r υ) (hf : fc_pl_doneBySome Rc x1 τ = some (r, υ)) : ctI l (wC ad cs) D vwCl (kC D cs sK sV tA) yX6_doneBySome cX6_doneBySome 7 .int (ro_pl_doneBySome rq) [.ref (ad 430), .int x1] τ r υ := by
  refine ct_I RX6 (by decide +kernel) rfl (Nat.le_of_ble_eq_true rfl) ?_
  intro p e s m args below meth c A X hK hA
  refine gr_eqL (L2 := [(0, .ref (ad 430)), (1, .int x1)]) rfl ?_
  unfold fc_pl_doneBySome at hf
  refine gr_iload_n X dX6_doneBySome_0 rfl 1 rfl ?_
  refine gr_iconst (v := 1) X dX6_doneBySome_1 (by decide) ?_
  refine gr_icmp_lt X 10 dX6_doneBySome_2 (by decide) (fun hc_ => ?_) (fun hc_ => ?_)
  · replace hf := ot_t hf hc_
    refine gr_aload_n X dX6_doneBySome_10 rfl 0 rfl ?_
    refine gC_get_PL_0 X hK fk6_20 dX6_doneBySome_11 ?_
    refine gC_get_T0_8 X hK fk6_55 dX6_doneBySome_14 ?_
    exact gr_iret X dX6_doneBySome_17 (Prod.mk.inj (Option.some.inj hf)).1 (Prod.mk.inj (Option.some.inj hf)).2
  · replace hf := ot_f hf hc_
    refine gr_iload_n X dX6_doneBySome_5 rfl 1 rfl ?_
    refine gr_iconst (v := 4) X dX6_doneBySome_6 (by decide) ?_
    refine gr_icmp_le X 18 dX6_doneBySome_7 (by decide) (fun hc_ => ?_) (fun hc_ => ?_)
    · replace hf := ot_t hf hc_
      refine gr_aload_n X dX6_doneBySome_18 rfl 0 rfl ?_
      refine gC_get_PL_0 X hK fk6_20 dX6_doneBySome_19 ?_
      obtain ⟨q1, hq_, hf⟩ := ot_b hf
      refine gc_Vi (rest := []) X kC_ok hK hA cw6_24 (rvC_T0 hK) (xc_to_moment hq_) rfl ⟨rfl, rfl, by simp only [ro_pl_doneBySome, ro_to_moment]; omega, by simp only [ro_pl_doneBySome, ro_to_moment]; omega⟩ rfl (Nat.le_of_ble_eq_true rfl) dX6_doneBySome_22 ?_
      refine gr_istore_n (L2 := [(2, .int q1), (0, .ref (ad 430)), (1, .int x1)]) X dX6_doneBySome_25 rfl (by decide) rfl ?_
      refine gr_iconst (v := 0) X dX6_doneBySome_26 (by decide) ?_
      refine gr_istore_n (L2 := [(3, .int (0 : Int32)), (2, .int q1), (0, .ref (ad 430)), (1, .int x1)]) X dX6_doneBySome_27 rfl (by decide) rfl ?_
      refine gr_iconst (v := -1) X dX6_doneBySome_28 (by decide) ?_
      refine gr_istore (L2 := [(4, .int (-1 : Int32)), (3, .int (0 : Int32)), (2, .int q1), (0, .ref (ad 430)), (1, .int x1)]) X dX6_doneBySome_29 (by decide) rfl ?_
      refine gr_iconst (v := 0) X dX6_doneBySome_31 (by decide) ?_
      refine gr_istore (L2 := [(5, .int (0 : Int32)), (4, .int (-1 : Int32)), (3, .int (0 : Int32)), (2, .int q1), (0, .ref (ad 430)), (1, .int x1)]) X dX6_doneBySome_32 (by decide) rfl ?_
      refine gr_sub [4, 5, 3, 2, 1, 0] rfl ?_
      refine wc_pl_doneBySome_l34 X hK hA hq0 hRc  hFU _ _ _ _ _ _ hf
    · replace hf := ot_f hf hc_
      refine gr_aload_n X dX6_doneBySome_10 rfl 0 rfl ?_
      refine gC_get_PL_0 X hK fk6_20 dX6_doneBySome_11 ?_
      refine gC_get_T0_8 X hK fk6_55 dX6_doneBySome_14 ?_
      exact gr_iret X dX6_doneBySome_17 (Prod.mk.inj (Option.some.inj hf)).1 (Prod.mk.inj (Option.some.inj hf)).2
def fc_pl_doneBySomeD : Nat → Int32 → SC → Option (Int32 × SC)
  | 0 => fun _ _ => none
  | d + 1 => fc_pl_doneBySome (fc_pl_doneBySomeD d)
def ro_pl_doneBySomeD : Nat → Room
  | 0 => { frames := 0, cells := 0, slots := 0, locals := 0 }
  | d + 1 => ro_pl_doneBySome (ro_pl_doneBySomeD d)
theorem ro_pl_doneBySomeD_0 : ∀ d, (ro_pl_doneBySomeD d).cells = 0 ∧ (ro_pl_doneBySomeD d).slots = 0
  | 0 => ⟨rfl, rfl⟩
  | _ + 1 => ⟨rfl, rfl⟩
theorem xc_pl_doneBySomeA {l : Launch} {D : va_G} {cs : Nat → ClassId} {sK sV : Nat → Nat} {tA : Nat} {ad : Nat → Nat} : ∀ (d : Nat) (τ : SC) (x1 : Int32) (r : Int32) (υ : SC), fc_pl_doneBySomeD d x1 τ = some (r, υ) → ctI l (wC ad cs) D vwCl (kC D cs sK sV tA) yX6_doneBySome cX6_doneBySome 7 .int (ro_pl_doneBySomeD d) [.ref (ad 430), .int x1] τ r υ := by
  intro d
  induction d with
  | zero =>
    intro τ x1 r υ hf
    cases (show (none : Option (Int32 × SC)) = some (r, υ) from hf)
  | succ d ih =>
    intro τ x1 r υ hf
    exact xc_pl_doneBySome (ro_pl_doneBySomeD_0 d) ih hf
abbrev ro_j6_numberOfTrailingZeros_0f7a4 : Room := { frames := 0, cells := 0, slots := 0, locals := 0 }
def fc_j6_numberOfTrailingZeros_0f7a4_b62 (x0 : Int32) (x1 : Int32) : Option Int32 := (if x0 ≤ (4 : Int32) then (some (x1 + (hushr x0 (1 : Int32)))) else (hl (hushr x0 (2 : Int32)) fun v2 => (some ((x1 + (2 : Int32)) + (hushr v2 (1 : Int32))))))
def fc_j6_numberOfTrailingZeros_0f7a4_b49 (x0 : Int32) (x1 : Int32) : Option Int32 := (if x0 ≤ (16 : Int32) then (fc_j6_numberOfTrailingZeros_0f7a4_b62 x0 x1) else (hl (hushr x0 (4 : Int32)) fun v3 => (fc_j6_numberOfTrailingZeros_0f7a4_b62 v3 (x1 + (4 : Int32)))))
def fc_j6_numberOfTrailingZeros_0f7a4_b34 (x0 : Int32) (x1 : Int32) : Option Int32 := (if x0 ≤ (256 : Int32) then (fc_j6_numberOfTrailingZeros_0f7a4_b49 x0 x1) else (hl (hushr x0 (8 : Int32)) fun v4 => (fc_j6_numberOfTrailingZeros_0f7a4_b49 v4 (x1 + (8 : Int32)))))
def fc_j6_numberOfTrailingZeros_0f7a4 (x0 : Int32) : Option Int32 := (hl ((x0 ^^^ (-1 : Int32)) &&& (x0 - (1 : Int32))) fun v1 => (if 0 < v1 then (if v1 ≤ (65536 : Int32) then (fc_j6_numberOfTrailingZeros_0f7a4_b34 v1 (1 : Int32)) else (hl (hushr v1 (16 : Int32)) fun v5 => (fc_j6_numberOfTrailingZeros_0f7a4_b34 v5 ((1 : Int32) + (16 : Int32))))) else (some (v1 &&& (32 : Int32)))))
set_option maxHeartbeats 4000000 in
set_option maxRecDepth 100000 in
theorem wc_j6_numberOfTrailingZeros_0f7a4_b62 {p : Program} {l : Launch} {e : Env} {s : State} {m : MethodId} {args : Array Value} {below : List Frame} {meth : Method} {c : Code} {A : Nat → Prop} {D : va_G} {cs : Nat → ClassId} {sK sV : Nat → Nat} {tA : Nat} {ad : Nat → Nat} {r : Int32} {τ : SC} (X : hc p s m args meth c RJ6 cJ6_numberOfTrailingZeros_0f7a4 2 (some .int)) (hK : kC D cs sK sV tA A s) (hA : ∀ q, s.heap.size ≤ q → A q)   (x0 : Int32) (x1 : Int32) (hf : fc_j6_numberOfTrailingZeros_0f7a4_b62 x0 x1 = some r) : gg p l e ro_j6_numberOfTrailingZeros_0f7a4 s m args below meth c (wC ad cs) D vwCl A 2 (QI below args s (wC ad cs) D vwCl A r τ) 62 [(0, .int x0), (1, .int x1)] [] τ := by
  unfold fc_j6_numberOfTrailingZeros_0f7a4_b62 at hf
  refine gr_iload_n X dJ6_numberOfTrailingZeros_0f7a4_62 rfl 0 rfl ?_
  refine gr_iconst (v := 4) X dJ6_numberOfTrailingZeros_0f7a4_63 (by decide) ?_
  refine gr_icmp_le X 74 dJ6_numberOfTrailingZeros_0f7a4_64 (by decide) (fun hc_ => ?_) (fun hc_ => ?_)
  · replace hf := ot_t hf hc_
    refine gr_iload_n X dJ6_numberOfTrailingZeros_0f7a4_74 rfl 1 rfl ?_
    refine gr_iload_n X dJ6_numberOfTrailingZeros_0f7a4_75 rfl 0 rfl ?_
    refine gr_iconst (v := 1) X dJ6_numberOfTrailingZeros_0f7a4_76 (by decide) ?_
    refine gr_iushr X dJ6_numberOfTrailingZeros_0f7a4_77 ?_
    refine gr_iadd X dJ6_numberOfTrailingZeros_0f7a4_78 ?_
    exact gr_iret X dJ6_numberOfTrailingZeros_0f7a4_79 (Option.some.inj hf) rfl
  · replace hf := ot_f hf hc_
    refine gr_iinc (k := 1) (v := 2) (L2 := [(1, .int (x1 + (2 : Int32))), (0, .int x0)]) X dJ6_numberOfTrailingZeros_0f7a4_67 rfl (by decide) (by decide) rfl ?_
    refine gr_iload_n X dJ6_numberOfTrailingZeros_0f7a4_70 rfl 1 rfl ?_
    refine gr_iconst (v := 2) X dJ6_numberOfTrailingZeros_0f7a4_71 (by decide) ?_
    refine gr_iushr X dJ6_numberOfTrailingZeros_0f7a4_72 ?_
    refine gC_top (fun v2 e_v2 => ?_)
    replace hf := ot_l hf e_v2
    refine gr_istore_n (L2 := [(0, .int v2), (1, .int (x1 + (2 : Int32)))]) X dJ6_numberOfTrailingZeros_0f7a4_73 rfl (by decide) rfl ?_
    refine gr_iload_n X dJ6_numberOfTrailingZeros_0f7a4_74 rfl 1 rfl ?_
    refine gr_iload_n X dJ6_numberOfTrailingZeros_0f7a4_75 rfl 0 rfl ?_
    refine gr_iconst (v := 1) X dJ6_numberOfTrailingZeros_0f7a4_76 (by decide) ?_
    refine gr_iushr X dJ6_numberOfTrailingZeros_0f7a4_77 ?_
    refine gr_iadd X dJ6_numberOfTrailingZeros_0f7a4_78 ?_
    exact gr_iret X dJ6_numberOfTrailingZeros_0f7a4_79 (Option.some.inj hf) rfl
set_option maxHeartbeats 4000000 in
set_option maxRecDepth 100000 in
theorem wc_j6_numberOfTrailingZeros_0f7a4_b49 {p : Program} {l : Launch} {e : Env} {s : State} {m : MethodId} {args : Array Value} {below : List Frame} {meth : Method} {c : Code} {A : Nat → Prop} {D : va_G} {cs : Nat → ClassId} {sK sV : Nat → Nat} {tA : Nat} {ad : Nat → Nat} {r : Int32} {τ : SC} (X : hc p s m args meth c RJ6 cJ6_numberOfTrailingZeros_0f7a4 2 (some .int)) (hK : kC D cs sK sV tA A s) (hA : ∀ q, s.heap.size ≤ q → A q)   (x0 : Int32) (x1 : Int32) (hf : fc_j6_numberOfTrailingZeros_0f7a4_b49 x0 x1 = some r) : gg p l e ro_j6_numberOfTrailingZeros_0f7a4 s m args below meth c (wC ad cs) D vwCl A 2 (QI below args s (wC ad cs) D vwCl A r τ) 49 [(0, .int x0), (1, .int x1)] [] τ := by
  unfold fc_j6_numberOfTrailingZeros_0f7a4_b49 at hf
  refine gr_iload_n X dJ6_numberOfTrailingZeros_0f7a4_49 rfl 0 rfl ?_
  refine gr_bipush (v := 16) X dJ6_numberOfTrailingZeros_0f7a4_50 (by decide) ?_
  refine gr_icmp_le X 62 dJ6_numberOfTrailingZeros_0f7a4_52 (by decide) (fun hc_ => ?_) (fun hc_ => ?_)
  · replace hf := ot_t hf hc_
    refine gr_sub [0, 1] rfl ?_
    exact wc_j6_numberOfTrailingZeros_0f7a4_b62 X hK hA _ _ hf
  · replace hf := ot_f hf hc_
    refine gr_iinc (k := 1) (v := 4) (L2 := [(1, .int (x1 + (4 : Int32))), (0, .int x0)]) X dJ6_numberOfTrailingZeros_0f7a4_55 rfl (by decide) (by decide) rfl ?_
    refine gr_iload_n X dJ6_numberOfTrailingZeros_0f7a4_58 rfl 1 rfl ?_
    refine gr_iconst (v := 4) X dJ6_numberOfTrailingZeros_0f7a4_59 (by decide) ?_
    refine gr_iushr X dJ6_numberOfTrailingZeros_0f7a4_60 ?_
    refine gC_top (fun v3 e_v3 => ?_)
    replace hf := ot_l hf e_v3
    refine gr_istore_n (L2 := [(0, .int v3), (1, .int (x1 + (4 : Int32)))]) X dJ6_numberOfTrailingZeros_0f7a4_61 rfl (by decide) rfl ?_
    refine gr_sub [0, 1] rfl ?_
    exact wc_j6_numberOfTrailingZeros_0f7a4_b62 X hK hA _ _ hf
set_option maxHeartbeats 4000000 in
set_option maxRecDepth 100000 in
theorem wc_j6_numberOfTrailingZeros_0f7a4_b34 {p : Program} {l : Launch} {e : Env} {s : State} {m : MethodId} {args : Array Value} {below : List Frame} {meth : Method} {c : Code} {A : Nat → Prop} {D : va_G} {cs : Nat → ClassId} {sK sV : Nat → Nat} {tA : Nat} {ad : Nat → Nat} {r : Int32} {τ : SC} (X : hc p s m args meth c RJ6 cJ6_numberOfTrailingZeros_0f7a4 2 (some .int)) (hK : kC D cs sK sV tA A s) (hA : ∀ q, s.heap.size ≤ q → A q)   (x0 : Int32) (x1 : Int32) (hf : fc_j6_numberOfTrailingZeros_0f7a4_b34 x0 x1 = some r) : gg p l e ro_j6_numberOfTrailingZeros_0f7a4 s m args below meth c (wC ad cs) D vwCl A 2 (QI below args s (wC ad cs) D vwCl A r τ) 34 [(0, .int x0), (1, .int x1)] [] τ := by
  unfold fc_j6_numberOfTrailingZeros_0f7a4_b34 at hf
  refine gr_iload_n X dJ6_numberOfTrailingZeros_0f7a4_34 rfl 0 rfl ?_
  refine gr_sipush (v := 256) X dJ6_numberOfTrailingZeros_0f7a4_35 (by decide) ?_
  refine gr_icmp_le X 49 dJ6_numberOfTrailingZeros_0f7a4_38 (by decide) (fun hc_ => ?_) (fun hc_ => ?_)
  · replace hf := ot_t hf hc_
    refine gr_sub [0, 1] rfl ?_
    exact wc_j6_numberOfTrailingZeros_0f7a4_b49 X hK hA _ _ hf
  · replace hf := ot_f hf hc_
    refine gr_iinc (k := 1) (v := 8) (L2 := [(1, .int (x1 + (8 : Int32))), (0, .int x0)]) X dJ6_numberOfTrailingZeros_0f7a4_41 rfl (by decide) (by decide) rfl ?_
    refine gr_iload_n X dJ6_numberOfTrailingZeros_0f7a4_44 rfl 1 rfl ?_
    refine gr_bipush (v := 8) X dJ6_numberOfTrailingZeros_0f7a4_45 (by decide) ?_
    refine gr_iushr X dJ6_numberOfTrailingZeros_0f7a4_47 ?_
    refine gC_top (fun v4 e_v4 => ?_)
    replace hf := ot_l hf e_v4
    refine gr_istore_n (L2 := [(0, .int v4), (1, .int (x1 + (8 : Int32)))]) X dJ6_numberOfTrailingZeros_0f7a4_48 rfl (by decide) rfl ?_
    refine gr_sub [0, 1] rfl ?_
    exact wc_j6_numberOfTrailingZeros_0f7a4_b49 X hK hA _ _ hf
set_option maxHeartbeats 4000000 in
set_option maxRecDepth 100000 in
theorem xc_j6_numberOfTrailingZeros_0f7a4 {l : Launch} {D : va_G} {cs : Nat → ClassId} {sK sV : Nat → Nat} {tA : Nat} {ad : Nat → Nat} {τ : SC} {x0 : Int32} {r : Int32} (hf : fc_j6_numberOfTrailingZeros_0f7a4 x0 = some r) : ctI l (wC ad cs) D vwCl (kC D cs sK sV tA) yJ6_numberOfTrailingZeros_0f7a4 cJ6_numberOfTrailingZeros_0f7a4 2 .int ro_j6_numberOfTrailingZeros_0f7a4 [.int x0] τ r τ := by
  refine ct_I RJ6 (by decide +kernel) rfl (Nat.le_of_ble_eq_true rfl) ?_
  intro p e s m args below meth c A X hK hA
  refine gr_eqL (L2 := [(0, .int x0)]) rfl ?_
  unfold fc_j6_numberOfTrailingZeros_0f7a4 at hf
  refine gr_iload_n X dJ6_numberOfTrailingZeros_0f7a4_0 rfl 0 rfl ?_
  refine gr_iconst (v := -1) X dJ6_numberOfTrailingZeros_0f7a4_1 (by decide) ?_
  refine gr_ixor X dJ6_numberOfTrailingZeros_0f7a4_2 ?_
  refine gr_iload_n X dJ6_numberOfTrailingZeros_0f7a4_3 rfl 0 rfl ?_
  refine gr_iconst (v := 1) X dJ6_numberOfTrailingZeros_0f7a4_4 (by decide) ?_
  refine gr_isub X dJ6_numberOfTrailingZeros_0f7a4_5 ?_
  refine gr_iand X dJ6_numberOfTrailingZeros_0f7a4_6 ?_
  refine gC_top (fun v1 e_v1 => ?_)
  replace hf := ot_l hf e_v1
  refine gr_istore_n (L2 := [(0, .int v1)]) X dJ6_numberOfTrailingZeros_0f7a4_7 rfl (by decide) rfl ?_
  refine gr_iload_n X dJ6_numberOfTrailingZeros_0f7a4_8 rfl 0 rfl ?_
  refine gr_if_gt X 17 dJ6_numberOfTrailingZeros_0f7a4_9 (by decide) (fun hc_ => ?_) (fun hc_ => ?_)
  · replace hf := ot_t hf hc_
    refine gr_iconst (v := 1) X dJ6_numberOfTrailingZeros_0f7a4_17 (by decide) ?_
    refine gr_istore_n (L2 := [(1, .int (1 : Int32)), (0, .int v1)]) X dJ6_numberOfTrailingZeros_0f7a4_18 rfl (by decide) rfl ?_
    refine gr_iload_n X dJ6_numberOfTrailingZeros_0f7a4_19 rfl 1 rfl ?_
    refine gr_ldc_w X ckJ6_264 dJ6_numberOfTrailingZeros_0f7a4_20 ?_
    refine gr_icmp_le X 34 dJ6_numberOfTrailingZeros_0f7a4_23 (by decide) (fun hc_ => ?_) (fun hc_ => ?_)
    · replace hf := ot_t hf hc_
      refine gr_sub [1, 0] rfl ?_
      exact wc_j6_numberOfTrailingZeros_0f7a4_b34 X hK hA _ _ hf
    · replace hf := ot_f hf hc_
      refine gr_iinc (k := 0) (v := 16) (L2 := [(1, .int ((1 : Int32) + (16 : Int32))), (0, .int v1)]) X dJ6_numberOfTrailingZeros_0f7a4_26 rfl (by decide) (by decide) rfl ?_
      refine gr_iload_n X dJ6_numberOfTrailingZeros_0f7a4_29 rfl 1 rfl ?_
      refine gr_bipush (v := 16) X dJ6_numberOfTrailingZeros_0f7a4_30 (by decide) ?_
      refine gr_iushr X dJ6_numberOfTrailingZeros_0f7a4_32 ?_
      refine gC_top (fun v5 e_v5 => ?_)
      replace hf := ot_l hf e_v5
      refine gr_istore_n (L2 := [(0, .int v5), (1, .int ((1 : Int32) + (16 : Int32)))]) X dJ6_numberOfTrailingZeros_0f7a4_33 rfl (by decide) rfl ?_
      refine gr_sub [0, 1] rfl ?_
      exact wc_j6_numberOfTrailingZeros_0f7a4_b34 X hK hA _ _ hf
  · replace hf := ot_f hf hc_
    refine gr_iload_n X dJ6_numberOfTrailingZeros_0f7a4_12 rfl 0 rfl ?_
    refine gr_bipush (v := 32) X dJ6_numberOfTrailingZeros_0f7a4_13 (by decide) ?_
    refine gr_iand X dJ6_numberOfTrailingZeros_0f7a4_15 ?_
    exact gr_iret X dJ6_numberOfTrailingZeros_0f7a4_16 (Option.some.inj hf) rfl
abbrev ro_hh_bars : Room := { frames := 57, cells := 0, slots := 0, locals := 1338 }
def fc_hh_bars (x1 : Int32) (x2 : Int32) (τ : SC) : Option (Int32 × SC) := (Option.bind (fc_hh_within x1 (4 : Int32)) fun q1 => (if q1 = 0 then (some ((-1 : Int32), τ)) else (Option.bind (fc_to_everyGuild τ) fun q2 => (Option.bind (fc_hh_within x2 q2) fun q3 => (if ¬ q3 = 0 then (Option.bind (fc_to_hoursOf τ x1) fun q4 => (Option.bind (fc_pl_doneBySomeD 8 q4 τ) fun p_ => hl p_.1 fun q5 => hl p_.2 fun τ6 => (hl (x2 &&& (q5 ^^^ (-1 : Int32))) fun v7 => (if ¬ v7 = 0 then (Option.bind (fc_j6_numberOfTrailingZeros_0f7a4 v7) fun q8 => (some (q8, τ6))) else (some ((-3 : Int32), τ6)))))) else (some ((-1 : Int32), τ)))))))
set_option maxHeartbeats 4000000 in
set_option maxRecDepth 100000 in
theorem xc_hh_bars {l : Launch} {D : va_G} {cs : Nat → ClassId} {sK sV : Nat → Nat} {tA : Nat} {ad : Nat → Nat} {τ : SC} {x1 : Int32} {x2 : Int32} {r : Int32} {υ : SC} (hf : fc_hh_bars x1 x2 τ = some (r, υ)) : ctI l (wC ad cs) D vwCl (kC D cs sK sV tA) yX11_bars cX11_bars 4 .int ro_hh_bars [.ref (ad 16), .int x1, .int x2] τ r υ := by
  refine ct_I RX11 (by decide +kernel) rfl (Nat.le_of_ble_eq_true rfl) ?_
  intro p e s m args below meth c A X hK hA
  refine gr_eqL (L2 := [(0, .ref (ad 16)), (1, .int x1), (2, .int x2)]) rfl ?_
  unfold fc_hh_bars at hf
  refine gr_iload_n X dX11_bars_0 rfl 1 rfl ?_
  refine gr_iconst (v := 4) X dX11_bars_1 (by decide) ?_
  obtain ⟨q1, hq_, hf⟩ := ot_b hf
  refine gc_Si (rest := []) X kC_ok hK hA cw11_79 (xc_hh_within hq_) rfl ⟨rfl, rfl, Nat.le_of_ble_eq_true rfl, Nat.le_of_ble_eq_true rfl⟩ rfl (Nat.le_of_ble_eq_true rfl) dX11_bars_2 ?_
  refine gr_if_eq X 22 dX11_bars_5 (by decide) (fun hc_ => ?_) (fun hc_ => ?_)
  · replace hf := ot_t hf hc_
    refine gr_iconst (v := -1) X dX11_bars_22 (by decide) ?_
    exact gr_iret X dX11_bars_23 (Prod.mk.inj (Option.some.inj hf)).1 (Prod.mk.inj (Option.some.inj hf)).2
  · replace hf := ot_f hf hc_
    refine gr_iload_n X dX11_bars_8 rfl 2 rfl ?_
    refine gr_aload_n X dX11_bars_9 rfl 0 rfl ?_
    refine gC_get_HH_0 X hK fk11_10 dX11_bars_10 ?_
    obtain ⟨q2, hq_, hf⟩ := ot_b hf
    refine gc_Vi (rest := [.int x2]) X kC_ok hK hA cw11_239 (rvC_T0 hK) (xc_to_everyGuild hq_) rfl ⟨rfl, rfl, Nat.le_of_ble_eq_true rfl, Nat.le_of_ble_eq_true rfl⟩ rfl (Nat.le_of_ble_eq_true rfl) dX11_bars_13 ?_
    obtain ⟨q3, hq_, hf⟩ := ot_b hf
    refine gc_Si (rest := []) X kC_ok hK hA cw11_79 (xc_hh_within hq_) rfl ⟨rfl, rfl, Nat.le_of_ble_eq_true rfl, Nat.le_of_ble_eq_true rfl⟩ rfl (Nat.le_of_ble_eq_true rfl) dX11_bars_16 ?_
    refine gr_if_ne X 24 dX11_bars_19 (by decide) (fun hc_ => ?_) (fun hc_ => ?_)
    · replace hf := ot_t hf hc_
      refine gr_iload_n X dX11_bars_24 rfl 2 rfl ?_
      refine gr_aload_n X dX11_bars_25 rfl 0 rfl ?_
      refine gC_get_HH_3 X hK fk11_24 dX11_bars_26 ?_
      refine gr_aload_n X dX11_bars_29 rfl 0 rfl ?_
      refine gC_get_HH_0 X hK fk11_10 dX11_bars_30 ?_
      refine gr_iload_n X dX11_bars_33 rfl 1 rfl ?_
      obtain ⟨q4, hq_, hf⟩ := ot_b hf
      refine gc_Vi (rest := [.ref (ad 430), .int x2]) X kC_ok hK hA cw11_212 (rvC_T0 hK) (xc_to_hoursOf hq_) rfl ⟨rfl, rfl, Nat.le_of_ble_eq_true rfl, Nat.le_of_ble_eq_true rfl⟩ rfl (Nat.le_of_ble_eq_true rfl) dX11_bars_34 ?_
      obtain ⟨⟨q5, τ6⟩, hq_, hf⟩ := ot_b hf
      replace hf := ot_l (y := q5) hf rfl
      replace hf := ot_l (y := τ6) hf rfl
      refine gc_Vi (rest := [.int x2]) X kC_ok hK hA cw11_264 (rvC_PL hK) (xc_pl_doneBySomeA 8 _ _ _ _ hq_) rfl ⟨rfl, rfl, Nat.le_of_ble_eq_true rfl, Nat.le_of_ble_eq_true rfl⟩ rfl (Nat.le_of_ble_eq_true rfl) dX11_bars_37 ?_
      refine gr_iconst (v := -1) X dX11_bars_40 (by decide) ?_
      refine gr_ixor X dX11_bars_41 ?_
      refine gr_iand X dX11_bars_42 ?_
      refine gC_top (fun v7 e_v7 => ?_)
      replace hf := ot_l hf e_v7
      refine gr_istore_n (L2 := [(3, .int v7), (0, .ref (ad 16)), (1, .int x1), (2, .int x2)]) X dX11_bars_43 rfl (by decide) rfl ?_
      refine gr_iload_n X dX11_bars_44 rfl 0 rfl ?_
      refine gr_if_ne X 53 dX11_bars_45 (by decide) (fun hc_ => ?_) (fun hc_ => ?_)
      · replace hf := ot_t hf hc_
        refine gr_iload_n X dX11_bars_53 rfl 0 rfl ?_
        obtain ⟨q8, hq_, hf⟩ := ot_b hf
        refine gc_Si (rest := []) X kC_ok hK hA cw11_267 (xc_j6_numberOfTrailingZeros_0f7a4 hq_) rfl ⟨rfl, rfl, Nat.le_of_ble_eq_true rfl, Nat.le_of_ble_eq_true rfl⟩ rfl (Nat.le_of_ble_eq_true rfl) dX11_bars_54 ?_
        exact gr_iret X dX11_bars_57 (Prod.mk.inj (Option.some.inj hf)).1 (Prod.mk.inj (Option.some.inj hf)).2
      · replace hf := ot_f hf hc_
        refine gr_bipush (v := -3) X dX11_bars_48 (by decide) ?_
        refine gr_goto X 57 dX11_bars_50 (by decide) ?_
        exact gr_iret X dX11_bars_57 (Prod.mk.inj (Option.some.inj hf)).1 (Prod.mk.inj (Option.some.inj hf)).2
    · replace hf := ot_f hf hc_
      refine gr_iconst (v := -1) X dX11_bars_22 (by decide) ?_
      exact gr_iret X dX11_bars_23 (Prod.mk.inj (Option.some.inj hf)).1 (Prod.mk.inj (Option.some.inj hf)).2
def ro_pl_gameValue (rq : Room) : Room := { frames := rq.frames + 7, cells := 0, slots := 0, locals := rq.locals + 167 }
def fc_pl_gameValue_b138 (Rc : Int32 → Int32 → SC → Option (Int32 × SC)) (K29 : Int32 → Int32 → Int32 → Int32 → Int32 → Int32 → SC → Option (Int32 × SC)) (x1 : Int32) (x2 : Int32) (x3 : Int32) (x4 : Int32) (x5 : Int32) (x6 : Int32) (τ : SC) : Option (Int32 × SC) := (Option.bind (fc_to_recall x3 τ) fun τ6 => (K29 x1 x2 x3 x4 x5 (x6 + (1 : Int32)) τ6))
def fc_pl_gameValue_b129 (Rc : Int32 → Int32 → SC → Option (Int32 × SC)) (K29 : Int32 → Int32 → Int32 → Int32 → Int32 → Int32 → SC → Option (Int32 × SC)) (x1 : Int32) (x2 : Int32) (x3 : Int32) (x4 : Int32) (x5 : Int32) (x6 : Int32) (x8 : Int32) (τ : SC) : Option (Int32 × SC) := (if ¬ x6 = 0 then (fc_pl_gameValue_b138 Rc K29 x1 x2 x3 x4 x5 x6 τ) else (fc_pl_gameValue_b138 Rc K29 x1 x2 x3 x4 x8 x6 τ))
def fc_pl_gameValue_b115 (Rc : Int32 → Int32 → SC → Option (Int32 × SC)) (K29 : Int32 → Int32 → Int32 → Int32 → Int32 → Int32 → SC → Option (Int32 × SC)) (x1 : Int32) (x2 : Int32) (x3 : Int32) (x5 : Int32) (x6 : Int32) (x8 : Int32) (x9 : Int32) (τ : SC) : Option (Int32 × SC) := (oc (hin x1 5) (oc (decide ((Int32.toNatClampNeg x1) < 5)) (hl (sc τ (410 + (Int32.toNatClampNeg x1)) (upd (τ.1 (410 + (Int32.toNatClampNeg x1))) 0 x6)) fun τ10 => (fc_pl_gameValue_b129 Rc K29 x1 x2 x3 x9 x5 x6 x8 τ10))))
def fc_pl_gameValue_b83 (Rc : Int32 → Int32 → SC → Option (Int32 × SC)) (K29 : Int32 → Int32 → Int32 → Int32 → Int32 → Int32 → SC → Option (Int32 × SC)) (x1 : Int32) (x2 : Int32) (x3 : Int32) (x4 : Int32) (x5 : Int32) (x6 : Int32) (x8 : Int32) (y0 : Int32) (y1 : Int32) (y3 : Int32) (τ : SC) : Option (Int32 × SC) := (Option.bind (Rc y1 y0 τ) fun p_ => hl p_.1 fun q7 => hl p_.2 fun τ8 => (hl (y3 + q7) fun v9 => (if x6 = 0 then (fc_pl_gameValue_b115 Rc K29 x1 x2 x3 x5 x6 x8 v9 τ8) else (if x2 = 0 then (if x4 ≤ v9 then (fc_pl_gameValue_b129 Rc K29 x1 x2 x3 x4 x5 x6 x8 τ8) else (fc_pl_gameValue_b115 Rc K29 x1 x2 x3 x5 x6 x8 v9 τ8)) else (if v9 ≤ x4 then (fc_pl_gameValue_b129 Rc K29 x1 x2 x3 x4 x5 x6 x8 τ8) else (fc_pl_gameValue_b115 Rc K29 x1 x2 x3 x5 x6 x8 v9 τ8))))))
def fc_pl_gameValue_l29 (Rc : Int32 → Int32 → SC → Option (Int32 × SC)) : Nat → Int32 → Int32 → Int32 → Int32 → Int32 → Int32 → SC → Option (Int32 × SC)
  | 0, _, _, _, _, _, _, _ => none
  | n + 1, x1, x2, x3, x4, x5, x6, τ => (if (τ.1 113 0) < x6 then (some (x4, τ)) else (Option.bind (fc_to_pass x6 τ) fun p_ => hl p_.1 fun q2 => hl p_.2 fun τ3 => (Option.bind (fc_to_moment τ3) fun q4 => (if q4 = x5 then (fc_pl_gameValue_b129 Rc (fc_pl_gameValue_l29 Rc n) x1 x2 x3 x4 x5 x6 q4 τ3) else (if ¬ x2 = 0 then (fc_pl_gameValue_b83 Rc (fc_pl_gameValue_l29 Rc n) x1 x2 x3 x4 x5 x6 q4 (0 : Int32) (x1 - (1 : Int32)) q2 τ3) else (fc_pl_gameValue_b83 Rc (fc_pl_gameValue_l29 Rc n) x1 x2 x3 x4 x5 x6 q4 (1 : Int32) (x1 - (1 : Int32)) q2 τ3))))))
def fc_pl_gameValue (Rc : Int32 → Int32 → SC → Option (Int32 × SC)) (x1 : Int32) (x2 : Int32) (τ : SC) : Option (Int32 × SC) := (if x1 < (1 : Int32) then (some ((0 : Int32), τ)) else (if x1 ≤ (4 : Int32) then (Option.bind (fc_to_moment τ) fun q1 => (fc_pl_gameValue_l29 Rc hFU x1 x2 q1 (0 : Int32) (-1 : Int32) (0 : Int32) τ)) else (some ((0 : Int32), τ))))
set_option maxHeartbeats 4000000 in
set_option maxRecDepth 100000 in
theorem wc_pl_gameValue_b138 {p : Program} {l : Launch} {e : Env} {s : State} {m : MethodId} {args : Array Value} {below : List Frame} {meth : Method} {c : Code} {A : Nat → Prop} {D : va_G} {cs : Nat → ClassId} {sK sV : Nat → Nat} {tA : Nat} {ad : Nat → Nat} {r : Int32} {υ : SC} {rq : Room} {Rc : Int32 → Int32 → SC → Option (Int32 × SC)} {K29 : Int32 → Int32 → Int32 → Int32 → Int32 → Int32 → SC → Option (Int32 × SC)} (X : hc p s m args meth c RX6 cX6_gameValue 10 (some .int)) (hK : kC D cs sK sV tA A s) (hA : ∀ q, s.heap.size ≤ q → A q) (hq0 : rq.cells = 0 ∧ rq.slots = 0) (hRc : ∀ (τ : SC) (x1 : Int32) (x2 : Int32) (r : Int32) (υ : SC), Rc x1 x2 τ = some (r, υ) → ctI l (wC ad cs) D vwCl (kC D cs sK sV tA) yX6_gameValue cX6_gameValue 10 .int rq [.ref (ad 430), .int x1, .int x2] τ r υ) (hK29 : (∀ (x1 : Int32) (x2 : Int32) (x3 : Int32) (x4 : Int32) (x5 : Int32) (x6 : Int32) (τ : SC), K29 x1 x2 x3 x4 x5 x6 τ = some (r, υ) → gg p l e (ro_pl_gameValue rq) s m args below meth c (wC ad cs) D vwCl A 10 (QI below args s (wC ad cs) D vwCl A r υ) 29 [(0, .ref (ad 430)), (1, .int x1), (2, .int x2), (3, .int x3), (4, .int x4), (5, .int x5), (6, .int x6)] [] τ))  (x1 : Int32) (x2 : Int32) (x3 : Int32) (x4 : Int32) (x5 : Int32) (x6 : Int32) (τ : SC) (hf : fc_pl_gameValue_b138 Rc K29 x1 x2 x3 x4 x5 x6 τ = some (r, υ)) : gg p l e (ro_pl_gameValue rq) s m args below meth c (wC ad cs) D vwCl A 10 (QI below args s (wC ad cs) D vwCl A r υ) 138 [(0, .ref (ad 430)), (1, .int x1), (2, .int x2), (3, .int x3), (4, .int x4), (5, .int x5), (6, .int x6)] [] τ := by
  unfold fc_pl_gameValue_b138 at hf
  refine gr_aload_n X dX6_gameValue_138 rfl 0 rfl ?_
  refine gC_get_PL_0 X hK fk6_20 dX6_gameValue_139 ?_
  refine gr_iload_n X dX6_gameValue_142 rfl 3 rfl ?_
  obtain ⟨τ6, hq_, hf⟩ := ot_b hf
  refine gc_Vv (rest := []) X kC_ok hK hA cw6_45 (rvC_T0 hK) (xc_to_recall hq_) rfl ⟨rfl, rfl, by simp only [ro_pl_gameValue, ro_to_recall]; omega, by simp only [ro_pl_gameValue, ro_to_recall]; omega⟩ rfl (Nat.le_of_ble_eq_true rfl) dX6_gameValue_143 ?_
  refine gr_iinc (k := 6) (v := 1) (L2 := [(6, .int (x6 + (1 : Int32))), (0, .ref (ad 430)), (1, .int x1), (2, .int x2), (3, .int x3), (4, .int x4), (5, .int x5)]) X dX6_gameValue_146 rfl (by decide) (by decide) rfl ?_
  refine gr_goto X 29 dX6_gameValue_149 (by decide) ?_
  refine gr_sub [1, 2, 3, 4, 5, 6, 0] rfl ?_
  exact hK29 _ _ _ _ _ _ _ hf
set_option maxHeartbeats 4000000 in
set_option maxRecDepth 100000 in
theorem wc_pl_gameValue_b129 {p : Program} {l : Launch} {e : Env} {s : State} {m : MethodId} {args : Array Value} {below : List Frame} {meth : Method} {c : Code} {A : Nat → Prop} {D : va_G} {cs : Nat → ClassId} {sK sV : Nat → Nat} {tA : Nat} {ad : Nat → Nat} {r : Int32} {υ : SC} {rq : Room} {Rc : Int32 → Int32 → SC → Option (Int32 × SC)} {K29 : Int32 → Int32 → Int32 → Int32 → Int32 → Int32 → SC → Option (Int32 × SC)} (X : hc p s m args meth c RX6 cX6_gameValue 10 (some .int)) (hK : kC D cs sK sV tA A s) (hA : ∀ q, s.heap.size ≤ q → A q) (hq0 : rq.cells = 0 ∧ rq.slots = 0) (hRc : ∀ (τ : SC) (x1 : Int32) (x2 : Int32) (r : Int32) (υ : SC), Rc x1 x2 τ = some (r, υ) → ctI l (wC ad cs) D vwCl (kC D cs sK sV tA) yX6_gameValue cX6_gameValue 10 .int rq [.ref (ad 430), .int x1, .int x2] τ r υ) (hK29 : (∀ (x1 : Int32) (x2 : Int32) (x3 : Int32) (x4 : Int32) (x5 : Int32) (x6 : Int32) (τ : SC), K29 x1 x2 x3 x4 x5 x6 τ = some (r, υ) → gg p l e (ro_pl_gameValue rq) s m args below meth c (wC ad cs) D vwCl A 10 (QI below args s (wC ad cs) D vwCl A r υ) 29 [(0, .ref (ad 430)), (1, .int x1), (2, .int x2), (3, .int x3), (4, .int x4), (5, .int x5), (6, .int x6)] [] τ))  (x1 : Int32) (x2 : Int32) (x3 : Int32) (x4 : Int32) (x5 : Int32) (x6 : Int32) (x8 : Int32) (τ : SC) (hf : fc_pl_gameValue_b129 Rc K29 x1 x2 x3 x4 x5 x6 x8 τ = some (r, υ)) : gg p l e (ro_pl_gameValue rq) s m args below meth c (wC ad cs) D vwCl A 10 (QI below args s (wC ad cs) D vwCl A r υ) 129 [(0, .ref (ad 430)), (1, .int x1), (2, .int x2), (3, .int x3), (4, .int x4), (5, .int x5), (6, .int x6), (8, .int x8)] [] τ := by
  unfold fc_pl_gameValue_b129 at hf
  refine gr_iload X dX6_gameValue_129 6 rfl ?_
  refine gr_if_ne X 138 dX6_gameValue_131 (by decide) (fun hc_ => ?_) (fun hc_ => ?_)
  · replace hf := ot_t hf hc_
    refine gr_sub [0, 1, 2, 3, 4, 5, 6] rfl ?_
    exact wc_pl_gameValue_b138 X hK hA hq0 hRc hK29 _ _ _ _ _ _ _ hf
  · replace hf := ot_f hf hc_
    refine gr_iload X dX6_gameValue_134 7 rfl ?_
    refine gr_istore (L2 := [(5, .int x8), (0, .ref (ad 430)), (1, .int x1), (2, .int x2), (3, .int x3), (4, .int x4), (6, .int x6), (8, .int x8)]) X dX6_gameValue_136 (by decide) rfl ?_
    refine gr_sub [1, 2, 3, 4, 5, 0, 6] rfl ?_
    exact wc_pl_gameValue_b138 X hK hA hq0 hRc hK29 _ _ _ _ _ _ _ hf
set_option maxHeartbeats 4000000 in
set_option maxRecDepth 100000 in
theorem wc_pl_gameValue_b115 {p : Program} {l : Launch} {e : Env} {s : State} {m : MethodId} {args : Array Value} {below : List Frame} {meth : Method} {c : Code} {A : Nat → Prop} {D : va_G} {cs : Nat → ClassId} {sK sV : Nat → Nat} {tA : Nat} {ad : Nat → Nat} {r : Int32} {υ : SC} {rq : Room} {Rc : Int32 → Int32 → SC → Option (Int32 × SC)} {K29 : Int32 → Int32 → Int32 → Int32 → Int32 → Int32 → SC → Option (Int32 × SC)} (X : hc p s m args meth c RX6 cX6_gameValue 10 (some .int)) (hK : kC D cs sK sV tA A s) (hA : ∀ q, s.heap.size ≤ q → A q) (hq0 : rq.cells = 0 ∧ rq.slots = 0) (hRc : ∀ (τ : SC) (x1 : Int32) (x2 : Int32) (r : Int32) (υ : SC), Rc x1 x2 τ = some (r, υ) → ctI l (wC ad cs) D vwCl (kC D cs sK sV tA) yX6_gameValue cX6_gameValue 10 .int rq [.ref (ad 430), .int x1, .int x2] τ r υ) (hK29 : (∀ (x1 : Int32) (x2 : Int32) (x3 : Int32) (x4 : Int32) (x5 : Int32) (x6 : Int32) (τ : SC), K29 x1 x2 x3 x4 x5 x6 τ = some (r, υ) → gg p l e (ro_pl_gameValue rq) s m args below meth c (wC ad cs) D vwCl A 10 (QI below args s (wC ad cs) D vwCl A r υ) 29 [(0, .ref (ad 430)), (1, .int x1), (2, .int x2), (3, .int x3), (4, .int x4), (5, .int x5), (6, .int x6)] [] τ))  (x1 : Int32) (x2 : Int32) (x3 : Int32) (x5 : Int32) (x6 : Int32) (x8 : Int32) (x9 : Int32) (τ : SC) (hf : fc_pl_gameValue_b115 Rc K29 x1 x2 x3 x5 x6 x8 x9 τ = some (r, υ)) : gg p l e (ro_pl_gameValue rq) s m args below meth c (wC ad cs) D vwCl A 10 (QI below args s (wC ad cs) D vwCl A r υ) 115 [(0, .ref (ad 430)), (1, .int x1), (2, .int x2), (3, .int x3), (5, .int x5), (6, .int x6), (8, .int x8), (9, .int x9)] [] τ := by
  unfold fc_pl_gameValue_b115 at hf
  refine gr_iload X dX6_gameValue_115 7 rfl ?_
  refine gr_istore (L2 := [(4, .int x9), (0, .ref (ad 430)), (1, .int x1), (2, .int x2), (3, .int x3), (5, .int x5), (6, .int x6), (8, .int x8), (9, .int x9)]) X dX6_gameValue_117 (by decide) rfl ?_
  refine gr_aload_n X dX6_gameValue_119 rfl 1 rfl ?_
  refine gC_get_PL_2 X hK fk6_17 dX6_gameValue_120 ?_
  refine gr_iload_n X dX6_gameValue_123 rfl 2 rfl ?_
  have hi_ := oc_1 hf
  replace hf := oc_2 hf
  refine gC_aald_Q X hK (Int32.toNatClampNeg x1) hi_ rfl dX6_gameValue_124 ?_
  refine gr_iconst (v := 0) X dX6_gameValue_125 (by decide) ?_
  refine gr_iload X dX6_gameValue_126 6 rfl ?_
  have hq_ := oc_1 hf
  replace hf := oc_2 hf
  refine gC_ast_Q X hK hq_ 0 (by decide) (by decide) dX6_gameValue_128 ?_
  refine gC_gen (fun τ10 e_τ10 => ?_)
  replace hf := ot_l hf e_τ10
  refine gr_sub [1, 2, 3, 4, 0, 5, 6, 7] rfl ?_
  exact wc_pl_gameValue_b129 X hK hA hq0 hRc hK29 _ _ _ _ _ _ _ _ hf
set_option maxHeartbeats 4000000 in
set_option maxRecDepth 100000 in
theorem wc_pl_gameValue_b83 {p : Program} {l : Launch} {e : Env} {s : State} {m : MethodId} {args : Array Value} {below : List Frame} {meth : Method} {c : Code} {A : Nat → Prop} {D : va_G} {cs : Nat → ClassId} {sK sV : Nat → Nat} {tA : Nat} {ad : Nat → Nat} {r : Int32} {υ : SC} {rq : Room} {Rc : Int32 → Int32 → SC → Option (Int32 × SC)} {K29 : Int32 → Int32 → Int32 → Int32 → Int32 → Int32 → SC → Option (Int32 × SC)} (X : hc p s m args meth c RX6 cX6_gameValue 10 (some .int)) (hK : kC D cs sK sV tA A s) (hA : ∀ q, s.heap.size ≤ q → A q) (hq0 : rq.cells = 0 ∧ rq.slots = 0) (hRc : ∀ (τ : SC) (x1 : Int32) (x2 : Int32) (r : Int32) (υ : SC), Rc x1 x2 τ = some (r, υ) → ctI l (wC ad cs) D vwCl (kC D cs sK sV tA) yX6_gameValue cX6_gameValue 10 .int rq [.ref (ad 430), .int x1, .int x2] τ r υ) (hK29 : (∀ (x1 : Int32) (x2 : Int32) (x3 : Int32) (x4 : Int32) (x5 : Int32) (x6 : Int32) (τ : SC), K29 x1 x2 x3 x4 x5 x6 τ = some (r, υ) → gg p l e (ro_pl_gameValue rq) s m args below meth c (wC ad cs) D vwCl A 10 (QI below args s (wC ad cs) D vwCl A r υ) 29 [(0, .ref (ad 430)), (1, .int x1), (2, .int x2), (3, .int x3), (4, .int x4), (5, .int x5), (6, .int x6)] [] τ))  (x1 : Int32) (x2 : Int32) (x3 : Int32) (x4 : Int32) (x5 : Int32) (x6 : Int32) (x8 : Int32) (y0 : Int32) (y1 : Int32) (y3 : Int32) (τ : SC) (hf : fc_pl_gameValue_b83 Rc K29 x1 x2 x3 x4 x5 x6 x8 y0 y1 y3 τ = some (r, υ)) : gg p l e (ro_pl_gameValue rq) s m args below meth c (wC ad cs) D vwCl A 10 (QI below args s (wC ad cs) D vwCl A r υ) 83 [(0, .ref (ad 430)), (1, .int x1), (2, .int x2), (3, .int x3), (4, .int x4), (5, .int x5), (6, .int x6), (8, .int x8)] [.int y0, .int y1, .ref (ad 430), .int y3] τ := by
  unfold fc_pl_gameValue_b83 at hf
  obtain ⟨⟨q7, τ8⟩, hq_, hf⟩ := ot_b hf
  replace hf := ot_l (y := q7) hf rfl
  replace hf := ot_l (y := τ8) hf rfl
  refine gc_Vi (rest := [.int y3]) X kC_ok hK hA cw6_70 (rvC_PL hK) (hRc _ _ _ _ _ hq_) rfl ⟨hq0.1, hq0.2, by simp only [ro_pl_gameValue]; omega, by simp only [ro_pl_gameValue]; omega⟩ rfl (Nat.le_of_ble_eq_true rfl) dX6_gameValue_83 ?_
  refine gr_iadd X dX6_gameValue_86 ?_
  refine gC_top (fun v9 e_v9 => ?_)
  replace hf := ot_l hf e_v9
  refine gr_istore (L2 := [(9, .int v9), (0, .ref (ad 430)), (1, .int x1), (2, .int x2), (3, .int x3), (4, .int x4), (5, .int x5), (6, .int x6), (8, .int x8)]) X dX6_gameValue_87 (by decide) rfl ?_
  refine gr_iload X dX6_gameValue_89 7 rfl ?_
  refine gr_if_eq X 115 dX6_gameValue_91 (by decide) (fun hc_ => ?_) (fun hc_ => ?_)
  · replace hf := ot_t hf hc_
    refine gr_sub [1, 2, 3, 4, 6, 7, 8, 0] rfl ?_
    exact wc_pl_gameValue_b115 X hK hA hq0 hRc hK29 _ _ _ _ _ _ _ _ hf
  · replace hf := ot_f hf hc_
    refine gr_iload_n X dX6_gameValue_94 rfl 3 rfl ?_
    refine gr_if_eq X 108 dX6_gameValue_95 (by decide) (fun hc_ => ?_) (fun hc_ => ?_)
    · replace hf := ot_t hf hc_
      refine gr_iload X dX6_gameValue_108 0 rfl ?_
      refine gr_iload X dX6_gameValue_110 5 rfl ?_
      refine gr_icmp_ge X 129 dX6_gameValue_112 (by decide) (fun hc_ => ?_) (fun hc_ => ?_)
      · replace hf := ot_t hf hc_
        refine gr_sub [1, 2, 3, 4, 5, 6, 7, 8] rfl ?_
        exact wc_pl_gameValue_b129 X hK hA hq0 hRc hK29 _ _ _ _ _ _ _ _ hf
      · replace hf := ot_f hf hc_
        refine gr_sub [1, 2, 3, 4, 6, 7, 8, 0] rfl ?_
        exact wc_pl_gameValue_b115 X hK hA hq0 hRc hK29 _ _ _ _ _ _ _ _ hf
    · replace hf := ot_f hf hc_
      refine gr_iload X dX6_gameValue_98 0 rfl ?_
      refine gr_iload X dX6_gameValue_100 5 rfl ?_
      refine gr_icmp_le X 129 dX6_gameValue_102 (by decide) (fun hc_ => ?_) (fun hc_ => ?_)
      · replace hf := ot_t hf hc_
        refine gr_sub [1, 2, 3, 4, 5, 6, 7, 8] rfl ?_
        exact wc_pl_gameValue_b129 X hK hA hq0 hRc hK29 _ _ _ _ _ _ _ _ hf
      · replace hf := ot_f hf hc_
        refine gr_goto X 115 dX6_gameValue_105 (by decide) ?_
        refine gr_sub [1, 2, 3, 4, 6, 7, 8, 0] rfl ?_
        exact wc_pl_gameValue_b115 X hK hA hq0 hRc hK29 _ _ _ _ _ _ _ _ hf
set_option maxHeartbeats 4000000 in
set_option maxRecDepth 100000 in
theorem wc_pl_gameValue_l29 {p : Program} {l : Launch} {e : Env} {s : State} {m : MethodId} {args : Array Value} {below : List Frame} {meth : Method} {c : Code} {A : Nat → Prop} {D : va_G} {cs : Nat → ClassId} {sK sV : Nat → Nat} {tA : Nat} {ad : Nat → Nat} {r : Int32} {υ : SC} {rq : Room} {Rc : Int32 → Int32 → SC → Option (Int32 × SC)} (X : hc p s m args meth c RX6 cX6_gameValue 10 (some .int)) (hK : kC D cs sK sV tA A s) (hA : ∀ q, s.heap.size ≤ q → A q) (hq0 : rq.cells = 0 ∧ rq.slots = 0) (hRc : ∀ (τ : SC) (x1 : Int32) (x2 : Int32) (r : Int32) (υ : SC), Rc x1 x2 τ = some (r, υ) → ctI l (wC ad cs) D vwCl (kC D cs sK sV tA) yX6_gameValue cX6_gameValue 10 .int rq [.ref (ad 430), .int x1, .int x2] τ r υ)  : ∀ (n : Nat) (x1 : Int32) (x2 : Int32) (x3 : Int32) (x4 : Int32) (x5 : Int32) (x6 : Int32) (τ : SC), fc_pl_gameValue_l29 Rc n x1 x2 x3 x4 x5 x6 τ = some (r, υ) → gg p l e (ro_pl_gameValue rq) s m args below meth c (wC ad cs) D vwCl A 10 (QI below args s (wC ad cs) D vwCl A r υ) 29 [(0, .ref (ad 430)), (1, .int x1), (2, .int x2), (3, .int x3), (4, .int x4), (5, .int x5), (6, .int x6)] [] τ := by
  intro n
  induction n with
  | zero =>
    intro x1 x2 x3 x4 x5 x6 τ hf
    cases (show (none : Option (Int32 × SC)) = some (r, υ) from hf)
  | succ n ih =>
    intro x1 x2 x3 x4 x5 x6 τ hf
    unfold fc_pl_gameValue_l29 at hf
    refine gr_iload X dX6_gameValue_29 6 rfl ?_
    refine gr_aload_n X dX6_gameValue_31 rfl 0 rfl ?_
    refine gC_get_PL_0 X hK fk6_20 dX6_gameValue_32 ?_
    refine gC_get_T0_13 X hK fk6_30 dX6_gameValue_35 ?_
    refine gr_icmp_gt X 152 dX6_gameValue_38 (by decide) (fun hc_ => ?_) (fun hc_ => ?_)
    · replace hf := ot_t hf hc_
      refine gr_iload X dX6_gameValue_152 4 rfl ?_
      exact gr_iret X dX6_gameValue_154 (Prod.mk.inj (Option.some.inj hf)).1 (Prod.mk.inj (Option.some.inj hf)).2
    · replace hf := ot_f hf hc_
      refine gr_aload_n X dX6_gameValue_41 rfl 0 rfl ?_
      refine gC_get_PL_0 X hK fk6_20 dX6_gameValue_42 ?_
      refine gr_iload X dX6_gameValue_45 6 rfl ?_
      obtain ⟨⟨q2, τ3⟩, hq_, hf⟩ := ot_b hf
      replace hf := ot_l (y := q2) hf rfl
      replace hf := ot_l (y := τ3) hf rfl
      refine gc_Vi (rest := []) X kC_ok hK hA cw6_34 (rvC_T0 hK) (xc_to_pass hq_) rfl ⟨rfl, rfl, by simp only [ro_pl_gameValue, ro_to_pass]; omega, by simp only [ro_pl_gameValue, ro_to_pass]; omega⟩ rfl (Nat.le_of_ble_eq_true rfl) dX6_gameValue_47 ?_
      refine gr_istore (L2 := [(7, .int q2), (0, .ref (ad 430)), (1, .int x1), (2, .int x2), (3, .int x3), (4, .int x4), (5, .int x5), (6, .int x6)]) X dX6_gameValue_50 (by decide) rfl ?_
      refine gr_aload_n X dX6_gameValue_52 rfl 1 rfl ?_
      refine gC_get_PL_0 X hK fk6_20 dX6_gameValue_53 ?_
      obtain ⟨q4, hq_, hf⟩ := ot_b hf
      refine gc_Vi (rest := []) X kC_ok hK hA cw6_24 (rvC_T0 hK) (xc_to_moment hq_) rfl ⟨rfl, rfl, by simp only [ro_pl_gameValue, ro_to_moment]; omega, by simp only [ro_pl_gameValue, ro_to_moment]; omega⟩ rfl (Nat.le_of_ble_eq_true rfl) dX6_gameValue_56 ?_
      refine gr_istore (L2 := [(8, .int q4), (7, .int q2), (0, .ref (ad 430)), (1, .int x1), (2, .int x2), (3, .int x3), (4, .int x4), (5, .int x5), (6, .int x6)]) X dX6_gameValue_59 (by decide) rfl ?_
      refine gr_iload X dX6_gameValue_61 0 rfl ?_
      refine gr_iload X dX6_gameValue_63 7 rfl ?_
      refine gr_icmp_eq X 129 dX6_gameValue_65 (by decide) (fun hc_ => ?_) (fun hc_ => ?_)
      · replace hf := ot_t hf hc_
        refine gr_sub [2, 3, 4, 5, 6, 7, 8, 0] rfl ?_
        exact wc_pl_gameValue_b129 X hK hA hq0 hRc ih _ _ _ _ _ _ _ _ hf
      · replace hf := ot_f hf hc_
        refine gr_iload X dX6_gameValue_68 1 rfl ?_
        refine gr_aload_n X dX6_gameValue_70 rfl 2 rfl ?_
        refine gr_iload_n X dX6_gameValue_71 rfl 3 rfl ?_
        refine gr_iconst (v := 1) X dX6_gameValue_72 (by decide) ?_
        refine gr_isub X dX6_gameValue_73 ?_
        refine gr_iload_n X dX6_gameValue_74 rfl 4 rfl ?_
        refine gr_if_ne X 82 dX6_gameValue_75 (by decide) (fun hc_ => ?_) (fun hc_ => ?_)
        · replace hf := ot_t hf hc_
          refine gr_iconst (v := 0) X dX6_gameValue_82 (by decide) ?_
          refine gr_sub [2, 3, 4, 5, 6, 7, 8, 0] rfl ?_
          exact wc_pl_gameValue_b83 X hK hA hq0 hRc ih _ _ _ _ _ _ _ _ _ _ _ hf
        · replace hf := ot_f hf hc_
          refine gr_iconst (v := 1) X dX6_gameValue_78 (by decide) ?_
          refine gr_goto X 83 dX6_gameValue_79 (by decide) ?_
          refine gr_sub [2, 3, 4, 5, 6, 7, 8, 0] rfl ?_
          exact wc_pl_gameValue_b83 X hK hA hq0 hRc ih _ _ _ _ _ _ _ _ _ _ _ hf
set_option maxHeartbeats 4000000 in
set_option maxRecDepth 100000 in
theorem xc_pl_gameValue {l : Launch} {D : va_G} {cs : Nat → ClassId} {sK sV : Nat → Nat} {tA : Nat} {ad : Nat → Nat} {τ : SC} {x1 : Int32} {x2 : Int32} {r : Int32} {υ : SC} {rq : Room} {Rc : Int32 → Int32 → SC → Option (Int32 × SC)} (hq0 : rq.cells = 0 ∧ rq.slots = 0) (hRc : ∀ (τ : SC) (x1 : Int32) (x2 : Int32) (r : Int32) (υ : SC), Rc x1 x2 τ = some (r, υ) → ctI l (wC ad cs) D vwCl (kC D cs sK sV tA) yX6_gameValue cX6_gameValue 10 .int rq [.ref (ad 430), .int x1, .int x2] τ r υ) (hf : fc_pl_gameValue Rc x1 x2 τ = some (r, υ)) : ctI l (wC ad cs) D vwCl (kC D cs sK sV tA) yX6_gameValue cX6_gameValue 10 .int (ro_pl_gameValue rq) [.ref (ad 430), .int x1, .int x2] τ r υ := by
  refine ct_I RX6 (by decide +kernel) rfl (Nat.le_of_ble_eq_true rfl) ?_
  intro p e s m args below meth c A X hK hA
  refine gr_eqL (L2 := [(0, .ref (ad 430)), (1, .int x1), (2, .int x2)]) rfl ?_
  unfold fc_pl_gameValue at hf
  refine gr_iload_n X dX6_gameValue_0 rfl 1 rfl ?_
  refine gr_iconst (v := 1) X dX6_gameValue_1 (by decide) ?_
  refine gr_icmp_lt X 10 dX6_gameValue_2 (by decide) (fun hc_ => ?_) (fun hc_ => ?_)
  · replace hf := ot_t hf hc_
    refine gr_iconst (v := 0) X dX6_gameValue_10 (by decide) ?_
    exact gr_iret X dX6_gameValue_11 (Prod.mk.inj (Option.some.inj hf)).1 (Prod.mk.inj (Option.some.inj hf)).2
  · replace hf := ot_f hf hc_
    refine gr_iload_n X dX6_gameValue_5 rfl 1 rfl ?_
    refine gr_iconst (v := 4) X dX6_gameValue_6 (by decide) ?_
    refine gr_icmp_le X 12 dX6_gameValue_7 (by decide) (fun hc_ => ?_) (fun hc_ => ?_)
    · replace hf := ot_t hf hc_
      refine gr_aload_n X dX6_gameValue_12 rfl 0 rfl ?_
      refine gC_get_PL_0 X hK fk6_20 dX6_gameValue_13 ?_
      obtain ⟨q1, hq_, hf⟩ := ot_b hf
      refine gc_Vi (rest := []) X kC_ok hK hA cw6_24 (rvC_T0 hK) (xc_to_moment hq_) rfl ⟨rfl, rfl, by simp only [ro_pl_gameValue, ro_to_moment]; omega, by simp only [ro_pl_gameValue, ro_to_moment]; omega⟩ rfl (Nat.le_of_ble_eq_true rfl) dX6_gameValue_16 ?_
      refine gr_istore_n (L2 := [(3, .int q1), (0, .ref (ad 430)), (1, .int x1), (2, .int x2)]) X dX6_gameValue_19 rfl (by decide) rfl ?_
      refine gr_iconst (v := 0) X dX6_gameValue_20 (by decide) ?_
      refine gr_istore (L2 := [(4, .int (0 : Int32)), (3, .int q1), (0, .ref (ad 430)), (1, .int x1), (2, .int x2)]) X dX6_gameValue_21 (by decide) rfl ?_
      refine gr_iconst (v := -1) X dX6_gameValue_23 (by decide) ?_
      refine gr_istore (L2 := [(5, .int (-1 : Int32)), (4, .int (0 : Int32)), (3, .int q1), (0, .ref (ad 430)), (1, .int x1), (2, .int x2)]) X dX6_gameValue_24 (by decide) rfl ?_
      refine gr_iconst (v := 0) X dX6_gameValue_26 (by decide) ?_
      refine gr_istore (L2 := [(6, .int (0 : Int32)), (5, .int (-1 : Int32)), (4, .int (0 : Int32)), (3, .int q1), (0, .ref (ad 430)), (1, .int x1), (2, .int x2)]) X dX6_gameValue_27 (by decide) rfl ?_
      refine gr_sub [4, 5, 6, 3, 2, 1, 0] rfl ?_
      refine wc_pl_gameValue_l29 X hK hA hq0 hRc  hFU _ _ _ _ _ _ _ hf
    · replace hf := ot_f hf hc_
      refine gr_iconst (v := 0) X dX6_gameValue_10 (by decide) ?_
      exact gr_iret X dX6_gameValue_11 (Prod.mk.inj (Option.some.inj hf)).1 (Prod.mk.inj (Option.some.inj hf)).2
def fc_pl_gameValueD : Nat → Int32 → Int32 → SC → Option (Int32 × SC)
  | 0 => fun _ _ _ => none
  | d + 1 => fc_pl_gameValue (fc_pl_gameValueD d)
def ro_pl_gameValueD : Nat → Room
  | 0 => { frames := 0, cells := 0, slots := 0, locals := 0 }
  | d + 1 => ro_pl_gameValue (ro_pl_gameValueD d)
theorem ro_pl_gameValueD_0 : ∀ d, (ro_pl_gameValueD d).cells = 0 ∧ (ro_pl_gameValueD d).slots = 0
  | 0 => ⟨rfl, rfl⟩
  | _ + 1 => ⟨rfl, rfl⟩
theorem xc_pl_gameValueA {l : Launch} {D : va_G} {cs : Nat → ClassId} {sK sV : Nat → Nat} {tA : Nat} {ad : Nat → Nat} : ∀ (d : Nat) (τ : SC) (x1 : Int32) (x2 : Int32) (r : Int32) (υ : SC), fc_pl_gameValueD d x1 x2 τ = some (r, υ) → ctI l (wC ad cs) D vwCl (kC D cs sK sV tA) yX6_gameValue cX6_gameValue 10 .int (ro_pl_gameValueD d) [.ref (ad 430), .int x1, .int x2] τ r υ := by
  intro d
  induction d with
  | zero =>
    intro τ x1 x2 r υ hf
    cases (show (none : Option (Int32 × SC)) = some (r, υ) from hf)
  | succ d ih =>
    intro τ x1 x2 r υ hf
    exact xc_pl_gameValue (ro_pl_gameValueD_0 d) ih hf
abbrev ro_hh_game : Room := { frames := 57, cells := 0, slots := 0, locals := 1365 }
def fc_hh_game (x1 : Int32) (τ : SC) : Option (Int32 × SC) := (if x1 < (1 : Int32) then (some ((-1 : Int32), τ)) else (if x1 ≤ (4 : Int32) then (Option.bind (fc_to_hoursOf τ x1) fun q1 => (Option.bind (fc_pl_gameValueD 8 q1 (1 : Int32) τ) fun p_ => hl p_.1 fun q2 => hl p_.2 fun τ3 => (some (q2, τ3)))) else (some ((-1 : Int32), τ))))
set_option maxHeartbeats 4000000 in
set_option maxRecDepth 100000 in
theorem xc_hh_game {l : Launch} {D : va_G} {cs : Nat → ClassId} {sK sV : Nat → Nat} {tA : Nat} {ad : Nat → Nat} {τ : SC} {x1 : Int32} {r : Int32} {υ : SC} (hf : fc_hh_game x1 τ = some (r, υ)) : ctI l (wC ad cs) D vwCl (kC D cs sK sV tA) yX11_game cX11_game 2 .int ro_hh_game [.ref (ad 16), .int x1] τ r υ := by
  refine ct_I RX11 (by decide +kernel) rfl (Nat.le_of_ble_eq_true rfl) ?_
  intro p e s m args below meth c A X hK hA
  refine gr_eqL (L2 := [(0, .ref (ad 16)), (1, .int x1)]) rfl ?_
  unfold fc_hh_game at hf
  refine gr_iload_n X dX11_game_0 rfl 1 rfl ?_
  refine gr_iconst (v := 1) X dX11_game_1 (by decide) ?_
  refine gr_icmp_lt X 10 dX11_game_2 (by decide) (fun hc_ => ?_) (fun hc_ => ?_)
  · replace hf := ot_t hf hc_
    refine gr_iconst (v := -1) X dX11_game_10 (by decide) ?_
    refine gr_goto X 30 dX11_game_11 (by decide) ?_
    exact gr_iret X dX11_game_30 (Prod.mk.inj (Option.some.inj hf)).1 (Prod.mk.inj (Option.some.inj hf)).2
  · replace hf := ot_f hf hc_
    refine gr_iload_n X dX11_game_5 rfl 1 rfl ?_
    refine gr_iconst (v := 4) X dX11_game_6 (by decide) ?_
    refine gr_icmp_le X 14 dX11_game_7 (by decide) (fun hc_ => ?_) (fun hc_ => ?_)
    · replace hf := ot_t hf hc_
      refine gr_aload_n X dX11_game_14 rfl 0 rfl ?_
      refine gC_get_HH_3 X hK fk11_24 dX11_game_15 ?_
      refine gr_aload_n X dX11_game_18 rfl 0 rfl ?_
      refine gC_get_HH_0 X hK fk11_10 dX11_game_19 ?_
      refine gr_iload_n X dX11_game_22 rfl 1 rfl ?_
      obtain ⟨q1, hq_, hf⟩ := ot_b hf
      refine gc_Vi (rest := [.ref (ad 430)]) X kC_ok hK hA cw11_212 (rvC_T0 hK) (xc_to_hoursOf hq_) rfl ⟨rfl, rfl, Nat.le_of_ble_eq_true rfl, Nat.le_of_ble_eq_true rfl⟩ rfl (Nat.le_of_ble_eq_true rfl) dX11_game_23 ?_
      refine gr_iconst (v := 1) X dX11_game_26 (by decide) ?_
      obtain ⟨⟨q2, τ3⟩, hq_, hf⟩ := ot_b hf
      replace hf := ot_l (y := q2) hf rfl
      replace hf := ot_l (y := τ3) hf rfl
      refine gc_Vi (rest := []) X kC_ok hK hA cw11_272 (rvC_PL hK) (xc_pl_gameValueA 8 _ _ _ _ _ hq_) rfl ⟨rfl, rfl, Nat.le_of_ble_eq_true rfl, Nat.le_of_ble_eq_true rfl⟩ rfl (Nat.le_of_ble_eq_true rfl) dX11_game_27 ?_
      exact gr_iret X dX11_game_30 (Prod.mk.inj (Option.some.inj hf)).1 (Prod.mk.inj (Option.some.inj hf)).2
    · replace hf := ot_f hf hc_
      refine gr_iconst (v := -1) X dX11_game_10 (by decide) ?_
      refine gr_goto X 30 dX11_game_11 (by decide) ?_
      exact gr_iret X dX11_game_30 (Prod.mk.inj (Option.some.inj hf)).1 (Prod.mk.inj (Option.some.inj hf)).2
