abbrev ro_hh_seed : Room := { frames := 0, cells := 0, slots := 0, locals := 0 }
def fc_hh_seed (x1 : Int32) (τ : SC) : Option (Int32 × SC) := (hl (τ.1 109 0) fun v1 => (hl (sc τ 109 (fun _ => x1)) fun τ2 => (some (v1, τ2))))
set_option maxHeartbeats 4000000 in
set_option maxRecDepth 100000 in
theorem xc_hh_seed {l : Launch} {D : va_G} {cs : Nat → ClassId} {sK sV : Nat → Nat} {tA : Nat} {ad : Nat → Nat} {τ : SC} {x1 : Int32} {r : Int32} {υ : SC} (hf : fc_hh_seed x1 τ = some (r, υ)) : ctI l (wC ad cs) D vwCl (kC D cs sK sV tA) yX11_seed cX11_seed 3 .int ro_hh_seed [.ref (ad 16), .int x1] τ r υ := by
  refine ct_I RX11 (by decide +kernel) rfl (Nat.le_of_ble_eq_true rfl) ?_
  intro p e s m args below meth c A X hK hA
  refine gr_eqL (L2 := [(0, .ref (ad 16)), (1, .int x1)]) rfl ?_
  unfold fc_hh_seed at hf
  refine gr_aload_n X dX11_seed_0 rfl 0 rfl ?_
  refine gC_get_HH_0 X hK fk11_10 dX11_seed_1 ?_
  refine gC_get_T0_9 X hK fk11_300 dX11_seed_4 ?_
  refine gC_top (fun v1 e_v1 => ?_)
  replace hf := ot_l hf e_v1
  refine gr_istore_n (L2 := [(2, .int v1), (0, .ref (ad 16)), (1, .int x1)]) X dX11_seed_7 rfl (by decide) rfl ?_
  refine gr_aload_n X dX11_seed_8 rfl 1 rfl ?_
  refine gC_get_HH_0 X hK fk11_10 dX11_seed_9 ?_
  refine gr_iload_n X dX11_seed_12 rfl 2 rfl ?_
  refine gC_put_T0_9 X hK fk11_300 dX11_seed_13 ?_
  refine gC_gen (fun τ2 e_τ2 => ?_)
  replace hf := ot_l hf e_τ2
  refine gr_iload_n X dX11_seed_16 rfl 0 rfl ?_
  exact gr_iret X dX11_seed_17 (Prod.mk.inj (Option.some.inj hf)).1 (Prod.mk.inj (Option.some.inj hf)).2
abbrev ro_to_passByLot : Room := { frames := 6, cells := 0, slots := 0, locals := 138 }
def fc_to_passByLot (τ : SC) : Option (Int32 × SC) := (hl (sc τ 109 (fun _ => (((τ.1 109 0) * (1103515245 : Int32)) + (12345 : Int32)))) fun τ1 => (oc (decide (¬ ((τ1.1 113 0) + (1 : Int32)) = 0)) (Option.bind (fc_to_pass (hrem (hushr (τ1.1 109 0) (16 : Int32)) ((τ1.1 113 0) + (1 : Int32))) τ1) fun p_ => hl p_.1 fun q2 => hl p_.2 fun τ3 => (some (q2, τ3)))))
set_option maxHeartbeats 4000000 in
set_option maxRecDepth 100000 in
theorem xc_to_passByLot {l : Launch} {D : va_G} {cs : Nat → ClassId} {sK sV : Nat → Nat} {tA : Nat} {ad : Nat → Nat} {τ : SC} {r : Int32} {υ : SC} (hf : fc_to_passByLot τ = some (r, υ)) : ctI l (wC ad cs) D vwCl (kC D cs sK sV tA) yX9_passByLot cX9_passByLot 1 .int ro_to_passByLot [.ref (ad 130)] τ r υ := by
  refine ct_I RX9 (by decide +kernel) rfl (Nat.le_of_ble_eq_true rfl) ?_
  intro p e s m args below meth c A X hK hA
  refine gr_eqL (L2 := [(0, .ref (ad 130))]) rfl ?_
  unfold fc_to_passByLot at hf
  refine gr_aload_n X dX9_passByLot_0 rfl 0 rfl ?_
  refine gr_aload_n X dX9_passByLot_1 rfl 0 rfl ?_
  refine gC_get_T0_9 X hK fk9_47 dX9_passByLot_2 ?_
  refine gr_ldc X ck9_178 dX9_passByLot_5 ?_
  refine gr_imul X dX9_passByLot_7 ?_
  refine gr_sipush (v := 12345) X dX9_passByLot_8 (by decide) ?_
  refine gr_iadd X dX9_passByLot_11 ?_
  refine gC_put_T0_9 X hK fk9_47 dX9_passByLot_12 ?_
  refine gC_gen (fun τ1 e_τ1 => ?_)
  replace hf := ot_l hf e_τ1
  refine gr_aload_n X dX9_passByLot_15 rfl 0 rfl ?_
  refine gr_aload_n X dX9_passByLot_16 rfl 0 rfl ?_
  refine gC_get_T0_9 X hK fk9_47 dX9_passByLot_17 ?_
  refine gr_bipush (v := 16) X dX9_passByLot_20 (by decide) ?_
  refine gr_iushr X dX9_passByLot_22 ?_
  refine gr_aload_n X dX9_passByLot_23 rfl 0 rfl ?_
  refine gC_get_T0_13 X hK fk9_96 dX9_passByLot_24 ?_
  refine gr_iconst (v := 1) X dX9_passByLot_27 (by decide) ?_
  refine gr_iadd X dX9_passByLot_28 ?_
  have hc_ := of_decide_eq_true (oc_1 hf)
  replace hf := oc_2 hf
  refine gr_irem X dX9_passByLot_29 hc_ ?_
  obtain ⟨⟨q2, τ3⟩, hq_, hf⟩ := ot_b hf
  replace hf := ot_l (y := q2) hf rfl
  replace hf := ot_l (y := τ3) hf rfl
  refine gc_Vi (rest := []) X kC_ok hK hA cw9_179 (rvC_T0 hK) (xc_to_pass hq_) rfl ⟨rfl, rfl, Nat.le_of_ble_eq_true rfl, Nat.le_of_ble_eq_true rfl⟩ rfl (Nat.le_of_ble_eq_true rfl) dX9_passByLot_30 ?_
  exact gr_iret X dX9_passByLot_33 (Prod.mk.inj (Option.some.inj hf)).1 (Prod.mk.inj (Option.some.inj hf)).2
abbrev ro_hh_lot : Room := { frames := 7, cells := 0, slots := 0, locals := 158 }
def fc_hh_lot (τ : SC) : Option (Int32 × SC) := (Option.bind (fc_to_isOver τ) fun q1 => (if q1 = 0 then (Option.bind (fc_to_passByLot τ) fun p_ => hl p_.1 fun q2 => hl p_.2 fun τ3 => (Option.bind (fc_hh_scored q2 τ3) fun p_ => hl p_.1 fun q4 => hl p_.2 fun τ5 => (some (q4, τ5)))) else (some ((-4 : Int32), τ))))
set_option maxHeartbeats 4000000 in
set_option maxRecDepth 100000 in
theorem xc_hh_lot {l : Launch} {D : va_G} {cs : Nat → ClassId} {sK sV : Nat → Nat} {tA : Nat} {ad : Nat → Nat} {τ : SC} {r : Int32} {υ : SC} (hf : fc_hh_lot τ = some (r, υ)) : ctI l (wC ad cs) D vwCl (kC D cs sK sV tA) yX11_lot cX11_lot 1 .int ro_hh_lot [.ref (ad 16)] τ r υ := by
  refine ct_I RX11 (by decide +kernel) rfl (Nat.le_of_ble_eq_true rfl) ?_
  intro p e s m args below meth c A X hK hA
  refine gr_eqL (L2 := [(0, .ref (ad 16))]) rfl ?_
  unfold fc_hh_lot at hf
  refine gr_aload_n X dX11_lot_0 rfl 0 rfl ?_
  refine gC_get_HH_0 X hK fk11_10 dX11_lot_1 ?_
  obtain ⟨q1, hq_, hf⟩ := ot_b hf
  refine gc_Vi (rest := []) X kC_ok hK hA cw11_170 (rvC_T0 hK) (xc_to_isOver hq_) rfl ⟨rfl, rfl, Nat.le_of_ble_eq_true rfl, Nat.le_of_ble_eq_true rfl⟩ rfl (Nat.le_of_ble_eq_true rfl) dX11_lot_4 ?_
  refine gr_if_eq X 13 dX11_lot_7 (by decide) (fun hc_ => ?_) (fun hc_ => ?_)
  · replace hf := ot_t hf hc_
    refine gr_aload_n X dX11_lot_13 rfl 0 rfl ?_
    refine gr_aload_n X dX11_lot_14 rfl 0 rfl ?_
    refine gC_get_HH_0 X hK fk11_10 dX11_lot_15 ?_
    obtain ⟨⟨q2, τ3⟩, hq_, hf⟩ := ot_b hf
    replace hf := ot_l (y := q2) hf rfl
    replace hf := ot_l (y := τ3) hf rfl
    refine gc_Vi (rest := [.ref (ad 16)]) X kC_ok hK hA cw11_303 (rvC_T0 hK) (xc_to_passByLot hq_) rfl ⟨rfl, rfl, Nat.le_of_ble_eq_true rfl, Nat.le_of_ble_eq_true rfl⟩ rfl (Nat.le_of_ble_eq_true rfl) dX11_lot_18 ?_
    obtain ⟨⟨q4, τ5⟩, hq_, hf⟩ := ot_b hf
    replace hf := ot_l (y := q4) hf rfl
    replace hf := ot_l (y := τ5) hf rfl
    refine gc_Vi (rest := []) X kC_ok hK hA cw11_206 (rvC_HH hK) (xc_hh_scored hq_) rfl ⟨rfl, rfl, Nat.le_of_ble_eq_true rfl, Nat.le_of_ble_eq_true rfl⟩ rfl (Nat.le_of_ble_eq_true rfl) dX11_lot_21 ?_
    exact gr_iret X dX11_lot_24 (Prod.mk.inj (Option.some.inj hf)).1 (Prod.mk.inj (Option.some.inj hf)).2
  · replace hf := ot_f hf hc_
    refine gr_bipush (v := -4) X dX11_lot_10 (by decide) ?_
    exact gr_iret X dX11_lot_12 (Prod.mk.inj (Option.some.inj hf)).1 (Prod.mk.inj (Option.some.inj hf)).2
abbrev ro_hh_times : Room := { frames := 7, cells := 0, slots := 0, locals := 158 }
def fc_hh_times_l69 (K57 : Int32 → Int32 → Int32 → Int32 → Int32 → Int32 → Int32 → SC → Option (Int32 × SC)) (K94 : Int32 → Int32 → Int32 → Int32 → Int32 → Int32 → Int32 → Int32 → SC → Option (Int32 × SC)) : Nat → Int32 → Int32 → Int32 → Int32 → Int32 → Int32 → Int32 → Int32 → Int32 → SC → Option (Int32 × SC)
  | 0, _, _, _, _, _, _, _, _, _, _ => none
  | n + 1, x1, x2, x3, x4, x5, x6, x7, x8, x9, τ => (if x5 ≤ x9 then (K94 x1 x2 x3 x4 x5 x6 x7 x8 τ) else (Option.bind (fc_to_passByLot τ) fun p_ => hl p_.1 fun q6 => hl p_.2 fun τ7 => (hl (x8 + q6) fun v8 => ((fc_hh_times_l69 K57 K94 n) x1 x2 x3 x4 x5 x6 x7 v8 (x9 + (1 : Int32)) τ7))))
def fc_hh_times_b103 (K57 : Int32 → Int32 → Int32 → Int32 → Int32 → Int32 → Int32 → SC → Option (Int32 × SC)) (x1 : Int32) (x2 : Int32) (x3 : Int32) (x4 : Int32) (x5 : Int32) (x6 : Int32) (x7 : Int32) (τ : SC) : Option (Int32 × SC) := (Option.bind (fc_to_recall x3 τ) fun τ10 => (K57 x1 x2 x3 x4 x5 x6 (x7 + (1 : Int32)) τ10))
def fc_hh_times_l57 : Nat → Int32 → Int32 → Int32 → Int32 → Int32 → Int32 → Int32 → SC → Option (Int32 × SC)
  | 0, _, _, _, _, _, _, _, _ => none
  | n + 1, x1, x2, x3, x4, x5, x6, x7, τ => (if x1 ≤ x7 then (hl (sc τ 109 (fun _ => x4)) fun τ5 => (some (x6, τ5))) else (fc_hh_times_l69 (fc_hh_times_l57 n) (fun x1 x2 x3 x4 x5 x6 x7 x8 τ => (if x8 < x2 then (fc_hh_times_b103 (fc_hh_times_l57 n) x1 x2 x3 x4 x5 x6 x7 τ) else (fc_hh_times_b103 (fc_hh_times_l57 n) x1 x2 x3 x4 x5 (x6 + (1 : Int32)) x7 τ))) hFU x1 x2 x3 x4 x5 x6 x7 (0 : Int32) (0 : Int32) τ))
def fc_hh_times (x1 : Int32) (x2 : Int32) (τ : SC) : Option (Int32 × SC) := (if x1 < (1 : Int32) then (some ((-1 : Int32), τ)) else (if (40 : Int32) < x1 then (some ((-1 : Int32), τ)) else (Option.bind (fc_hh_within x2 (999 : Int32)) fun q1 => (if ¬ q1 = 0 then (Option.bind (fc_to_moment τ) fun q2 => (hl (τ.1 109 0) fun v3 => (Option.bind (fc_to_hoursOf τ (16 : Int32)) fun q4 => (fc_hh_times_l57 hFU x1 x2 q2 v3 q4 (0 : Int32) (0 : Int32) τ)))) else (some ((-1 : Int32), τ))))))
set_option maxHeartbeats 4000000 in
set_option maxRecDepth 100000 in
theorem wc_hh_times_l69 {p : Program} {l : Launch} {e : Env} {s : State} {m : MethodId} {args : Array Value} {below : List Frame} {meth : Method} {c : Code} {A : Nat → Prop} {D : va_G} {cs : Nat → ClassId} {sK sV : Nat → Nat} {tA : Nat} {ad : Nat → Nat} {r : Int32} {υ : SC} {K57 : Int32 → Int32 → Int32 → Int32 → Int32 → Int32 → Int32 → SC → Option (Int32 × SC)} {K94 : Int32 → Int32 → Int32 → Int32 → Int32 → Int32 → Int32 → Int32 → SC → Option (Int32 × SC)} (X : hc p s m args meth c RX11 cX11_times 10 (some .int)) (hK : kC D cs sK sV tA A s) (hA : ∀ q, s.heap.size ≤ q → A q) (hK57 : (∀ (x1 : Int32) (x2 : Int32) (x3 : Int32) (x4 : Int32) (x5 : Int32) (x6 : Int32) (x7 : Int32) (τ : SC), K57 x1 x2 x3 x4 x5 x6 x7 τ = some (r, υ) → gg p l e ro_hh_times s m args below meth c (wC ad cs) D vwCl A 10 (QI below args s (wC ad cs) D vwCl A r υ) 57 [(0, .ref (ad 16)), (1, .int x1), (2, .int x2), (3, .int x3), (4, .int x4), (5, .int x5), (6, .int x6), (7, .int x7)] [] τ)) (hK94 : (∀ (x1 : Int32) (x2 : Int32) (x3 : Int32) (x4 : Int32) (x5 : Int32) (x6 : Int32) (x7 : Int32) (x8 : Int32) (τ : SC), K94 x1 x2 x3 x4 x5 x6 x7 x8 τ = some (r, υ) → gg p l e ro_hh_times s m args below meth c (wC ad cs) D vwCl A 10 (QI below args s (wC ad cs) D vwCl A r υ) 94 [(0, .ref (ad 16)), (1, .int x1), (2, .int x2), (3, .int x3), (4, .int x4), (5, .int x5), (6, .int x6), (7, .int x7), (8, .int x8)] [] τ)) : ∀ (n : Nat) (x1 : Int32) (x2 : Int32) (x3 : Int32) (x4 : Int32) (x5 : Int32) (x6 : Int32) (x7 : Int32) (x8 : Int32) (x9 : Int32) (τ : SC), fc_hh_times_l69 K57 K94 n x1 x2 x3 x4 x5 x6 x7 x8 x9 τ = some (r, υ) → gg p l e ro_hh_times s m args below meth c (wC ad cs) D vwCl A 10 (QI below args s (wC ad cs) D vwCl A r υ) 69 [(0, .ref (ad 16)), (1, .int x1), (2, .int x2), (3, .int x3), (4, .int x4), (5, .int x5), (6, .int x6), (7, .int x7), (8, .int x8), (9, .int x9)] [] τ := by
  intro n
  induction n with
  | zero =>
    intro x1 x2 x3 x4 x5 x6 x7 x8 x9 τ hf
    cases (show (none : Option (Int32 × SC)) = some (r, υ) from hf)
  | succ n ih =>
    intro x1 x2 x3 x4 x5 x6 x7 x8 x9 τ hf
    unfold fc_hh_times_l69 at hf
    refine gr_iload X dX11_times_69 9 rfl ?_
    refine gr_iload X dX11_times_71 5 rfl ?_
    refine gr_icmp_ge X 94 dX11_times_73 (by decide) (fun hc_ => ?_) (fun hc_ => ?_)
    · replace hf := ot_t hf hc_
      refine gr_sub [0, 1, 2, 3, 4, 5, 6, 7, 8] rfl ?_
      exact hK94 _ _ _ _ _ _ _ _ _ hf
    · replace hf := ot_f hf hc_
      refine gr_iload X dX11_times_76 8 rfl ?_
      refine gr_aload_n X dX11_times_78 rfl 0 rfl ?_
      refine gC_get_HH_0 X hK fk11_10 dX11_times_79 ?_
      obtain ⟨⟨q6, τ7⟩, hq_, hf⟩ := ot_b hf
      replace hf := ot_l (y := q6) hf rfl
      replace hf := ot_l (y := τ7) hf rfl
      refine gc_Vi (rest := [.int x8]) X kC_ok hK hA cw11_303 (rvC_T0 hK) (xc_to_passByLot hq_) rfl ⟨rfl, rfl, Nat.le_of_ble_eq_true rfl, Nat.le_of_ble_eq_true rfl⟩ rfl (Nat.le_of_ble_eq_true rfl) dX11_times_82 ?_
      refine gr_iadd X dX11_times_85 ?_
      refine gC_top (fun v8 e_v8 => ?_)
      replace hf := ot_l hf e_v8
      refine gr_istore (L2 := [(8, .int v8), (0, .ref (ad 16)), (1, .int x1), (2, .int x2), (3, .int x3), (4, .int x4), (5, .int x5), (6, .int x6), (7, .int x7), (9, .int x9)]) X dX11_times_86 (by decide) rfl ?_
      refine gr_iinc (k := 9) (v := 1) (L2 := [(9, .int (x9 + (1 : Int32))), (8, .int v8), (0, .ref (ad 16)), (1, .int x1), (2, .int x2), (3, .int x3), (4, .int x4), (5, .int x5), (6, .int x6), (7, .int x7)]) X dX11_times_88 rfl (by decide) (by decide) rfl ?_
      refine gr_goto X 69 dX11_times_91 (by decide) ?_
      refine gr_sub [2, 3, 4, 5, 6, 7, 8, 9, 1, 0] rfl ?_
      exact ih _ _ _ _ _ _ _ _ _ _ hf
set_option maxHeartbeats 4000000 in
set_option maxRecDepth 100000 in
theorem wc_hh_times_b103 {p : Program} {l : Launch} {e : Env} {s : State} {m : MethodId} {args : Array Value} {below : List Frame} {meth : Method} {c : Code} {A : Nat → Prop} {D : va_G} {cs : Nat → ClassId} {sK sV : Nat → Nat} {tA : Nat} {ad : Nat → Nat} {r : Int32} {υ : SC} {K57 : Int32 → Int32 → Int32 → Int32 → Int32 → Int32 → Int32 → SC → Option (Int32 × SC)} (X : hc p s m args meth c RX11 cX11_times 10 (some .int)) (hK : kC D cs sK sV tA A s) (hA : ∀ q, s.heap.size ≤ q → A q) (hK57 : (∀ (x1 : Int32) (x2 : Int32) (x3 : Int32) (x4 : Int32) (x5 : Int32) (x6 : Int32) (x7 : Int32) (τ : SC), K57 x1 x2 x3 x4 x5 x6 x7 τ = some (r, υ) → gg p l e ro_hh_times s m args below meth c (wC ad cs) D vwCl A 10 (QI below args s (wC ad cs) D vwCl A r υ) 57 [(0, .ref (ad 16)), (1, .int x1), (2, .int x2), (3, .int x3), (4, .int x4), (5, .int x5), (6, .int x6), (7, .int x7)] [] τ))  (x1 : Int32) (x2 : Int32) (x3 : Int32) (x4 : Int32) (x5 : Int32) (x6 : Int32) (x7 : Int32) (τ : SC) (hf : fc_hh_times_b103 K57 x1 x2 x3 x4 x5 x6 x7 τ = some (r, υ)) : gg p l e ro_hh_times s m args below meth c (wC ad cs) D vwCl A 10 (QI below args s (wC ad cs) D vwCl A r υ) 103 [(0, .ref (ad 16)), (1, .int x1), (2, .int x2), (3, .int x3), (4, .int x4), (5, .int x5), (6, .int x6), (7, .int x7)] [] τ := by
  unfold fc_hh_times_b103 at hf
  refine gr_aload_n X dX11_times_103 rfl 0 rfl ?_
  refine gC_get_HH_0 X hK fk11_10 dX11_times_104 ?_
  refine gr_iload_n X dX11_times_107 rfl 3 rfl ?_
  obtain ⟨τ10, hq_, hf⟩ := ot_b hf
  refine gc_Vv (rest := []) X kC_ok hK hA cw11_215 (rvC_T0 hK) (xc_to_recall hq_) rfl ⟨rfl, rfl, Nat.le_of_ble_eq_true rfl, Nat.le_of_ble_eq_true rfl⟩ rfl (Nat.le_of_ble_eq_true rfl) dX11_times_108 ?_
  refine gr_iinc (k := 7) (v := 1) (L2 := [(7, .int (x7 + (1 : Int32))), (0, .ref (ad 16)), (1, .int x1), (2, .int x2), (3, .int x3), (4, .int x4), (5, .int x5), (6, .int x6)]) X dX11_times_111 rfl (by decide) (by decide) rfl ?_
  refine gr_goto X 57 dX11_times_114 (by decide) ?_
  refine gr_sub [1, 2, 3, 4, 5, 6, 7, 0] rfl ?_
  exact hK57 _ _ _ _ _ _ _ _ hf
set_option maxHeartbeats 4000000 in
set_option maxRecDepth 100000 in
theorem wc_hh_times_l57 {p : Program} {l : Launch} {e : Env} {s : State} {m : MethodId} {args : Array Value} {below : List Frame} {meth : Method} {c : Code} {A : Nat → Prop} {D : va_G} {cs : Nat → ClassId} {sK sV : Nat → Nat} {tA : Nat} {ad : Nat → Nat} {r : Int32} {υ : SC} (X : hc p s m args meth c RX11 cX11_times 10 (some .int)) (hK : kC D cs sK sV tA A s) (hA : ∀ q, s.heap.size ≤ q → A q)  : ∀ (n : Nat) (x1 : Int32) (x2 : Int32) (x3 : Int32) (x4 : Int32) (x5 : Int32) (x6 : Int32) (x7 : Int32) (τ : SC), fc_hh_times_l57 n x1 x2 x3 x4 x5 x6 x7 τ = some (r, υ) → gg p l e ro_hh_times s m args below meth c (wC ad cs) D vwCl A 10 (QI below args s (wC ad cs) D vwCl A r υ) 57 [(0, .ref (ad 16)), (1, .int x1), (2, .int x2), (3, .int x3), (4, .int x4), (5, .int x5), (6, .int x6), (7, .int x7)] [] τ := by
  intro n
  induction n with
  | zero =>
    intro x1 x2 x3 x4 x5 x6 x7 τ hf
    cases (show (none : Option (Int32 × SC)) = some (r, υ) from hf)
  | succ n ih =>
    intro x1 x2 x3 x4 x5 x6 x7 τ hf
    unfold fc_hh_times_l57 at hf
    refine gr_iload X dX11_times_57 7 rfl ?_
    refine gr_iload_n X dX11_times_59 rfl 1 rfl ?_
    refine gr_icmp_ge X 117 dX11_times_60 (by decide) (fun hc_ => ?_) (fun hc_ => ?_)
    · replace hf := ot_t hf hc_
      refine gr_aload_n X dX11_times_117 rfl 0 rfl ?_
      refine gC_get_HH_0 X hK fk11_10 dX11_times_118 ?_
      refine gr_iload X dX11_times_121 4 rfl ?_
      refine gC_put_T0_9 X hK fk11_300 dX11_times_123 ?_
      refine gC_gen (fun τ5 e_τ5 => ?_)
      replace hf := ot_l hf e_τ5
      refine gr_iload X dX11_times_126 6 rfl ?_
      exact gr_iret X dX11_times_128 (Prod.mk.inj (Option.some.inj hf)).1 (Prod.mk.inj (Option.some.inj hf)).2
    · replace hf := ot_f hf hc_
      refine gr_iconst (v := 0) X dX11_times_63 (by decide) ?_
      refine gr_istore (L2 := [(8, .int (0 : Int32)), (0, .ref (ad 16)), (1, .int x1), (2, .int x2), (3, .int x3), (4, .int x4), (5, .int x5), (6, .int x6), (7, .int x7)]) X dX11_times_64 (by decide) rfl ?_
      refine gr_iconst (v := 0) X dX11_times_66 (by decide) ?_
      refine gr_istore (L2 := [(9, .int (0 : Int32)), (8, .int (0 : Int32)), (0, .ref (ad 16)), (1, .int x1), (2, .int x2), (3, .int x3), (4, .int x4), (5, .int x5), (6, .int x6), (7, .int x7)]) X dX11_times_67 (by decide) rfl ?_
      refine gr_sub [2, 3, 4, 5, 6, 7, 8, 9, 1, 0] rfl ?_
      refine wc_hh_times_l69 X hK hA ih (fun x1 x2 x3 x4 x5 x6 x7 x8 τ hf => ?_) hFU _ _ _ _ _ _ _ _ _ _ hf
      refine gr_iload X dX11_times_94 8 rfl ?_
      refine gr_iload_n X dX11_times_96 rfl 2 rfl ?_
      refine gr_icmp_lt X 103 dX11_times_97 (by decide) (fun hc_ => ?_) (fun hc_ => ?_)
      · replace hf := ot_t hf hc_
        refine gr_sub [0, 1, 2, 3, 4, 5, 6, 7] rfl ?_
        exact wc_hh_times_b103 X hK hA ih _ _ _ _ _ _ _ _ hf
      · replace hf := ot_f hf hc_
        refine gr_iinc (k := 6) (v := 1) (L2 := [(6, .int (x6 + (1 : Int32))), (0, .ref (ad 16)), (1, .int x1), (2, .int x2), (3, .int x3), (4, .int x4), (5, .int x5), (7, .int x7), (8, .int x8)]) X dX11_times_100 rfl (by decide) (by decide) rfl ?_
        refine gr_sub [1, 2, 3, 4, 5, 6, 0, 7] rfl ?_
        exact wc_hh_times_b103 X hK hA ih _ _ _ _ _ _ _ _ hf
set_option maxHeartbeats 4000000 in
set_option maxRecDepth 100000 in
theorem xc_hh_times {l : Launch} {D : va_G} {cs : Nat → ClassId} {sK sV : Nat → Nat} {tA : Nat} {ad : Nat → Nat} {τ : SC} {x1 : Int32} {x2 : Int32} {r : Int32} {υ : SC} (hf : fc_hh_times x1 x2 τ = some (r, υ)) : ctI l (wC ad cs) D vwCl (kC D cs sK sV tA) yX11_times cX11_times 10 .int ro_hh_times [.ref (ad 16), .int x1, .int x2] τ r υ := by
  refine ct_I RX11 (by decide +kernel) rfl (Nat.le_of_ble_eq_true rfl) ?_
  intro p e s m args below meth c A X hK hA
  refine gr_eqL (L2 := [(0, .ref (ad 16)), (1, .int x1), (2, .int x2)]) rfl ?_
  unfold fc_hh_times at hf
  refine gr_iload_n X dX11_times_0 rfl 1 rfl ?_
  refine gr_iconst (v := 1) X dX11_times_1 (by decide) ?_
  refine gr_icmp_lt X 21 dX11_times_2 (by decide) (fun hc_ => ?_) (fun hc_ => ?_)
  · replace hf := ot_t hf hc_
    refine gr_iconst (v := -1) X dX11_times_21 (by decide) ?_
    exact gr_iret X dX11_times_22 (Prod.mk.inj (Option.some.inj hf)).1 (Prod.mk.inj (Option.some.inj hf)).2
  · replace hf := ot_f hf hc_
    refine gr_iload_n X dX11_times_5 rfl 1 rfl ?_
    refine gr_bipush (v := 40) X dX11_times_6 (by decide) ?_
    refine gr_icmp_gt X 21 dX11_times_8 (by decide) (fun hc_ => ?_) (fun hc_ => ?_)
    · replace hf := ot_t hf hc_
      refine gr_iconst (v := -1) X dX11_times_21 (by decide) ?_
      exact gr_iret X dX11_times_22 (Prod.mk.inj (Option.some.inj hf)).1 (Prod.mk.inj (Option.some.inj hf)).2
    · replace hf := ot_f hf hc_
      refine gr_iload_n X dX11_times_11 rfl 2 rfl ?_
      refine gr_sipush (v := 999) X dX11_times_12 (by decide) ?_
      obtain ⟨q1, hq_, hf⟩ := ot_b hf
      refine gc_Si (rest := []) X kC_ok hK hA cw11_79 (xc_hh_within hq_) rfl ⟨rfl, rfl, Nat.le_of_ble_eq_true rfl, Nat.le_of_ble_eq_true rfl⟩ rfl (Nat.le_of_ble_eq_true rfl) dX11_times_15 ?_
      refine gr_if_ne X 23 dX11_times_18 (by decide) (fun hc_ => ?_) (fun hc_ => ?_)
      · replace hf := ot_t hf hc_
        refine gr_aload_n X dX11_times_23 rfl 0 rfl ?_
        refine gC_get_HH_0 X hK fk11_10 dX11_times_24 ?_
        obtain ⟨q2, hq_, hf⟩ := ot_b hf
        refine gc_Vi (rest := []) X kC_ok hK hA cw11_209 (rvC_T0 hK) (xc_to_moment hq_) rfl ⟨rfl, rfl, Nat.le_of_ble_eq_true rfl, Nat.le_of_ble_eq_true rfl⟩ rfl (Nat.le_of_ble_eq_true rfl) dX11_times_27 ?_
        refine gr_istore_n (L2 := [(3, .int q2), (0, .ref (ad 16)), (1, .int x1), (2, .int x2)]) X dX11_times_30 rfl (by decide) rfl ?_
        refine gr_aload_n X dX11_times_31 rfl 1 rfl ?_
        refine gC_get_HH_0 X hK fk11_10 dX11_times_32 ?_
        refine gC_get_T0_9 X hK fk11_300 dX11_times_35 ?_
        refine gC_top (fun v3 e_v3 => ?_)
        replace hf := ot_l hf e_v3
        refine gr_istore (L2 := [(4, .int v3), (3, .int q2), (0, .ref (ad 16)), (1, .int x1), (2, .int x2)]) X dX11_times_38 (by decide) rfl ?_
        refine gr_aload_n X dX11_times_40 rfl 2 rfl ?_
        refine gC_get_HH_0 X hK fk11_10 dX11_times_41 ?_
        refine gr_bipush (v := 16) X dX11_times_44 (by decide) ?_
        obtain ⟨q4, hq_, hf⟩ := ot_b hf
        refine gc_Vi (rest := []) X kC_ok hK hA cw11_212 (rvC_T0 hK) (xc_to_hoursOf hq_) rfl ⟨rfl, rfl, Nat.le_of_ble_eq_true rfl, Nat.le_of_ble_eq_true rfl⟩ rfl (Nat.le_of_ble_eq_true rfl) dX11_times_46 ?_
        refine gr_istore (L2 := [(5, .int q4), (4, .int v3), (3, .int q2), (0, .ref (ad 16)), (1, .int x1), (2, .int x2)]) X dX11_times_49 (by decide) rfl ?_
        refine gr_iconst (v := 0) X dX11_times_51 (by decide) ?_
        refine gr_istore (L2 := [(6, .int (0 : Int32)), (5, .int q4), (4, .int v3), (3, .int q2), (0, .ref (ad 16)), (1, .int x1), (2, .int x2)]) X dX11_times_52 (by decide) rfl ?_
        refine gr_iconst (v := 0) X dX11_times_54 (by decide) ?_
        refine gr_istore (L2 := [(7, .int (0 : Int32)), (6, .int (0 : Int32)), (5, .int q4), (4, .int v3), (3, .int q2), (0, .ref (ad 16)), (1, .int x1), (2, .int x2)]) X dX11_times_55 (by decide) rfl ?_
        refine gr_sub [5, 6, 7, 4, 3, 2, 1, 0] rfl ?_
        refine wc_hh_times_l57 X hK hA  hFU _ _ _ _ _ _ _ _ hf
      · replace hf := ot_f hf hc_
        refine gr_iconst (v := -1) X dX11_times_21 (by decide) ?_
        exact gr_iret X dX11_times_22 (Prod.mk.inj (Option.some.inj hf)).1 (Prod.mk.inj (Option.some.inj hf)).2
abbrev ro_hh_prove : Room := { frames := 57, cells := 0, slots := 0, locals := 1374 }
def fc_hh_prove_l44 (K120 : Int32 → SC → Option (Int32 × SC)) : Nat → Int32 → Int32 → SC → Option (Int32 × SC)
  | 0, _, _, _ => none
  | n + 1, x2, x3, τ => (if (τ.1 9 0) ≤ x3 then (K120 x2 τ) else (oc (hin (τ.1 9 0) 5) (oc (decide ((Int32.toNatClampNeg (τ.1 9 0)) < 5)) (oc (hin x3 4) (hl (τ.1 (410 + (Int32.toNatClampNeg (τ.1 9 0))) (Int32.toNatClampNeg x3)) fun v7 => (oc (hin (x3 * (3 : Int32)) 12) (hl (sc τ 8 (upd (τ.1 8) (Int32.toNatClampNeg (x3 * (3 : Int32))) v7)) fun τ8 => (Option.bind (fc_to_pass v7 τ8) fun p_ => hl p_.1 fun q9 => hl p_.2 fun τ10 => (oc (hin ((x3 * (3 : Int32)) + (1 : Int32)) 12) (hl (sc τ10 8 (upd (τ10.1 8) (Int32.toNatClampNeg ((x3 * (3 : Int32)) + (1 : Int32))) q9)) fun τ11 => (oc (hin ((x3 * (3 : Int32)) + (2 : Int32)) 12) (hl (sc τ11 8 (upd (τ11.1 8) (Int32.toNatClampNeg ((x3 * (3 : Int32)) + (2 : Int32))) (τ11.1 108 0))) fun τ12 => ((fc_hh_prove_l44 K120 n) x2 (x3 + (1 : Int32)) τ12)))))))))))))
def fc_hh_prove (x1 : Int32) (τ : SC) : Option (Int32 × SC) := (Option.bind (fc_hh_within x1 (4 : Int32)) fun q1 => (if ¬ q1 = 0 then (Option.bind (fc_to_moment τ) fun q2 => (Option.bind (fc_to_hoursOf τ x1) fun q3 => (hl (sc τ 9 (fun _ => q3)) fun τ4 => (Option.bind (fc_pl_searchD 8 (τ4.1 9 0) τ4) fun p_ => hl p_.1 fun q5 => hl p_.2 fun τ6 => (fc_hh_prove_l44 (fun x2 τ => (Option.bind (fc_to_recall x2 τ) fun τ14 => (some ((τ14.1 9 0), τ14)))) hFU q2 (0 : Int32) τ6))))) else (some ((-1 : Int32), τ))))
set_option maxHeartbeats 4000000 in
set_option maxRecDepth 100000 in
theorem wc_hh_prove_l44 {p : Program} {l : Launch} {e : Env} {s : State} {m : MethodId} {args : Array Value} {below : List Frame} {meth : Method} {c : Code} {A : Nat → Prop} {D : va_G} {cs : Nat → ClassId} {sK sV : Nat → Nat} {tA : Nat} {ad : Nat → Nat} {r : Int32} {υ : SC} {K120 : Int32 → SC → Option (Int32 × SC)} (X : hc p s m args meth c RX11 cX11_prove 5 (some .int)) (hK : kC D cs sK sV tA A s) (hA : ∀ q, s.heap.size ≤ q → A q) (hK120 : (∀ (x2 : Int32) (τ : SC), K120 x2 τ = some (r, υ) → gg p l e ro_hh_prove s m args below meth c (wC ad cs) D vwCl A 5 (QI below args s (wC ad cs) D vwCl A r υ) 120 [(0, .ref (ad 16)), (2, .int x2)] [] τ)) : ∀ (n : Nat) (x2 : Int32) (x3 : Int32) (τ : SC), fc_hh_prove_l44 K120 n x2 x3 τ = some (r, υ) → gg p l e ro_hh_prove s m args below meth c (wC ad cs) D vwCl A 5 (QI below args s (wC ad cs) D vwCl A r υ) 44 [(0, .ref (ad 16)), (2, .int x2), (3, .int x3)] [] τ := by
  intro n
  induction n with
  | zero =>
    intro x2 x3 τ hf
    cases (show (none : Option (Int32 × SC)) = some (r, υ) from hf)
  | succ n ih =>
    intro x2 x3 τ hf
    unfold fc_hh_prove_l44 at hf
    refine gr_iload_n X dX11_prove_44 rfl 2 rfl ?_
    refine gr_aload_n X dX11_prove_45 rfl 0 rfl ?_
    refine gC_get_HH_9 X hK fk11_306 dX11_prove_46 ?_
    refine gr_icmp_ge X 120 dX11_prove_49 (by decide) (fun hc_ => ?_) (fun hc_ => ?_)
    · replace hf := ot_t hf hc_
      refine gr_sub [0, 1] rfl ?_
      exact hK120 _ _ hf
    · replace hf := ot_f hf hc_
      refine gr_aload_n X dX11_prove_52 rfl 0 rfl ?_
      refine gC_get_HH_3 X hK fk11_24 dX11_prove_53 ?_
      refine gC_get_PL_2 X hK fk11_254 dX11_prove_56 ?_
      refine gr_aload_n X dX11_prove_59 rfl 0 rfl ?_
      refine gC_get_HH_9 X hK fk11_306 dX11_prove_60 ?_
      have hi_ := oc_1 hf
      replace hf := oc_2 hf
      refine gC_aald_Q X hK (Int32.toNatClampNeg (τ.1 9 0)) hi_ rfl dX11_prove_63 ?_
      refine gr_iload_n X dX11_prove_64 rfl 2 rfl ?_
      have hq_ := oc_1 hf
      replace hf := oc_2 hf
      have hi_ := oc_1 hf
      replace hf := oc_2 hf
      refine gC_ald_Q X hK hq_ (Int32.toNatClampNeg x3) hi_ rfl dX11_prove_65 ?_
      refine gC_top (fun v7 e_v7 => ?_)
      replace hf := ot_l hf e_v7
      refine gr_istore (L2 := [(4, .int v7), (0, .ref (ad 16)), (2, .int x2), (3, .int x3)]) X dX11_prove_66 (by decide) rfl ?_
      refine gr_aload_n X dX11_prove_68 rfl 1 rfl ?_
      refine gC_get_HH_8 X hK fk11_46 dX11_prove_69 ?_
      refine gr_iload_n X dX11_prove_72 rfl 3 rfl ?_
      refine gr_iconst (v := 3) X dX11_prove_73 (by decide) ?_
      refine gr_imul X dX11_prove_74 ?_
      refine gr_iload X dX11_prove_75 0 rfl ?_
      have hi_ := oc_1 hf
      replace hf := oc_2 hf
      refine gC_ast_8 X hK (Int32.toNatClampNeg (x3 * (3 : Int32))) hi_ rfl dX11_prove_77 ?_
      refine gC_gen (fun τ8 e_τ8 => ?_)
      replace hf := ot_l hf e_τ8
      refine gr_aload_n X dX11_prove_78 rfl 1 rfl ?_
      refine gC_get_HH_8 X hK fk11_46 dX11_prove_79 ?_
      refine gr_iload_n X dX11_prove_82 rfl 3 rfl ?_
      refine gr_iconst (v := 3) X dX11_prove_83 (by decide) ?_
      refine gr_imul X dX11_prove_84 ?_
      refine gr_iconst (v := 1) X dX11_prove_85 (by decide) ?_
      refine gr_iadd X dX11_prove_86 ?_
      refine gr_aload_n X dX11_prove_87 rfl 1 rfl ?_
      refine gC_get_HH_0 X hK fk11_10 dX11_prove_88 ?_
      refine gr_iload X dX11_prove_91 0 rfl ?_
      obtain ⟨⟨q9, τ10⟩, hq_, hf⟩ := ot_b hf
      replace hf := ot_l (y := q9) hf rfl
      replace hf := ot_l (y := τ10) hf rfl
      refine gc_Vi (rest := [.int ((x3 * (3 : Int32)) + (1 : Int32)), .ref (ad 8)]) X kC_ok hK hA cw11_309 (rvC_T0 hK) (xc_to_pass hq_) rfl ⟨rfl, rfl, Nat.le_of_ble_eq_true rfl, Nat.le_of_ble_eq_true rfl⟩ rfl (Nat.le_of_ble_eq_true rfl) dX11_prove_93 ?_
      have hi_ := oc_1 hf
      replace hf := oc_2 hf
      refine gC_ast_8 X hK (Int32.toNatClampNeg ((x3 * (3 : Int32)) + (1 : Int32))) hi_ rfl dX11_prove_96 ?_
      refine gC_gen (fun τ11 e_τ11 => ?_)
      replace hf := ot_l hf e_τ11
      refine gr_aload_n X dX11_prove_97 rfl 1 rfl ?_
      refine gC_get_HH_8 X hK fk11_46 dX11_prove_98 ?_
      refine gr_iload_n X dX11_prove_101 rfl 3 rfl ?_
      refine gr_iconst (v := 3) X dX11_prove_102 (by decide) ?_
      refine gr_imul X dX11_prove_103 ?_
      refine gr_iconst (v := 2) X dX11_prove_104 (by decide) ?_
      refine gr_iadd X dX11_prove_105 ?_
      refine gr_aload_n X dX11_prove_106 rfl 1 rfl ?_
      refine gC_get_HH_0 X hK fk11_10 dX11_prove_107 ?_
      refine gC_get_T0_8 X hK fk11_113 dX11_prove_110 ?_
      have hi_ := oc_1 hf
      replace hf := oc_2 hf
      refine gC_ast_8 X hK (Int32.toNatClampNeg ((x3 * (3 : Int32)) + (2 : Int32))) hi_ rfl dX11_prove_113 ?_
      refine gC_gen (fun τ12 e_τ12 => ?_)
      replace hf := ot_l hf e_τ12
      refine gr_iinc (k := 3) (v := 1) (L2 := [(3, .int (x3 + (1 : Int32))), (4, .int v7), (0, .ref (ad 16)), (2, .int x2)]) X dX11_prove_114 rfl (by decide) (by decide) rfl ?_
      refine gr_goto X 44 dX11_prove_117 (by decide) ?_
      refine gr_sub [2, 3, 0] rfl ?_
      exact ih _ _ _ hf
set_option maxHeartbeats 4000000 in
set_option maxRecDepth 100000 in
theorem xc_hh_prove {l : Launch} {D : va_G} {cs : Nat → ClassId} {sK sV : Nat → Nat} {tA : Nat} {ad : Nat → Nat} {τ : SC} {x1 : Int32} {r : Int32} {υ : SC} (hf : fc_hh_prove x1 τ = some (r, υ)) : ctI l (wC ad cs) D vwCl (kC D cs sK sV tA) yX11_prove cX11_prove 5 .int ro_hh_prove [.ref (ad 16), .int x1] τ r υ := by
  refine ct_I RX11 (by decide +kernel) rfl (Nat.le_of_ble_eq_true rfl) ?_
  intro p e s m args below meth c A X hK hA
  refine gr_eqL (L2 := [(0, .ref (ad 16)), (1, .int x1)]) rfl ?_
  unfold fc_hh_prove at hf
  refine gr_iload_n X dX11_prove_0 rfl 1 rfl ?_
  refine gr_iconst (v := 4) X dX11_prove_1 (by decide) ?_
  obtain ⟨q1, hq_, hf⟩ := ot_b hf
  refine gc_Si (rest := []) X kC_ok hK hA cw11_79 (xc_hh_within hq_) rfl ⟨rfl, rfl, Nat.le_of_ble_eq_true rfl, Nat.le_of_ble_eq_true rfl⟩ rfl (Nat.le_of_ble_eq_true rfl) dX11_prove_2 ?_
  refine gr_if_ne X 10 dX11_prove_5 (by decide) (fun hc_ => ?_) (fun hc_ => ?_)
  · replace hf := ot_t hf hc_
    refine gr_aload_n X dX11_prove_10 rfl 0 rfl ?_
    refine gC_get_HH_0 X hK fk11_10 dX11_prove_11 ?_
    obtain ⟨q2, hq_, hf⟩ := ot_b hf
    refine gc_Vi (rest := []) X kC_ok hK hA cw11_209 (rvC_T0 hK) (xc_to_moment hq_) rfl ⟨rfl, rfl, Nat.le_of_ble_eq_true rfl, Nat.le_of_ble_eq_true rfl⟩ rfl (Nat.le_of_ble_eq_true rfl) dX11_prove_14 ?_
    refine gr_istore_n (L2 := [(2, .int q2), (0, .ref (ad 16)), (1, .int x1)]) X dX11_prove_17 rfl (by decide) rfl ?_
    refine gr_aload_n X dX11_prove_18 rfl 1 rfl ?_
    refine gr_aload_n X dX11_prove_19 rfl 1 rfl ?_
    refine gC_get_HH_0 X hK fk11_10 dX11_prove_20 ?_
    refine gr_iload_n X dX11_prove_23 rfl 2 rfl ?_
    obtain ⟨q3, hq_, hf⟩ := ot_b hf
    refine gc_Vi (rest := [.ref (ad 16)]) X kC_ok hK hA cw11_212 (rvC_T0 hK) (xc_to_hoursOf hq_) rfl ⟨rfl, rfl, Nat.le_of_ble_eq_true rfl, Nat.le_of_ble_eq_true rfl⟩ rfl (Nat.le_of_ble_eq_true rfl) dX11_prove_24 ?_
    refine gC_put_HH_9 X hK fk11_306 dX11_prove_27 ?_
    refine gC_gen (fun τ4 e_τ4 => ?_)
    replace hf := ot_l hf e_τ4
    refine gr_aload_n X dX11_prove_30 rfl 1 rfl ?_
    refine gC_get_HH_3 X hK fk11_24 dX11_prove_31 ?_
    refine gr_aload_n X dX11_prove_34 rfl 1 rfl ?_
    refine gC_get_HH_9 X hK fk11_306 dX11_prove_35 ?_
    obtain ⟨⟨q5, τ6⟩, hq_, hf⟩ := ot_b hf
    replace hf := ot_l (y := q5) hf rfl
    replace hf := ot_l (y := τ6) hf rfl
    refine gc_Vi (rest := []) X kC_ok hK hA cw11_251 (rvC_PL hK) (xc_pl_searchA 8 _ _ _ _ hq_) rfl ⟨rfl, rfl, Nat.le_of_ble_eq_true rfl, Nat.le_of_ble_eq_true rfl⟩ rfl (Nat.le_of_ble_eq_true rfl) dX11_prove_38 ?_
    refine gr_pop X dX11_prove_41 rfl ?_
    refine gr_iconst (v := 0) X dX11_prove_42 (by decide) ?_
    refine gr_istore_n (L2 := [(3, .int (0 : Int32)), (2, .int q2), (0, .ref (ad 16)), (1, .int x1)]) X dX11_prove_43 rfl (by decide) rfl ?_
    refine gr_sub [2, 1, 0] rfl ?_
    refine wc_hh_prove_l44 X hK hA (fun x2 τ hf => ?_) hFU _ _ _ hf
    refine gr_aload_n X dX11_prove_120 rfl 0 rfl ?_
    refine gC_get_HH_0 X hK fk11_10 dX11_prove_121 ?_
    refine gr_iload_n X dX11_prove_124 rfl 1 rfl ?_
    obtain ⟨τ14, hq_, hf⟩ := ot_b hf
    refine gc_Vv (rest := []) X kC_ok hK hA cw11_215 (rvC_T0 hK) (xc_to_recall hq_) rfl ⟨rfl, rfl, Nat.le_of_ble_eq_true rfl, Nat.le_of_ble_eq_true rfl⟩ rfl (Nat.le_of_ble_eq_true rfl) dX11_prove_125 ?_
    refine gr_aload_n X dX11_prove_128 rfl 0 rfl ?_
    refine gC_get_HH_9 X hK fk11_306 dX11_prove_129 ?_
    exact gr_iret X dX11_prove_132 (Prod.mk.inj (Option.some.inj hf)).1 (Prod.mk.inj (Option.some.inj hf)).2
  · replace hf := ot_f hf hc_
    refine gr_iconst (v := -1) X dX11_prove_8 (by decide) ?_
    exact gr_iret X dX11_prove_9 (Prod.mk.inj (Option.some.inj hf)).1 (Prod.mk.inj (Option.some.inj hf)).2
abbrev ro_hh_isRowPart : Room := { frames := 1, cells := 0, slots := 0, locals := 21 }
def fc_hh_isRowPart (τ : SC) (x1 : Int32) (x2 : Int32) : Option Int32 := (if x1 < 0 then (some (0 : Int32)) else (if (τ.1 9 0) ≤ x1 then (some (0 : Int32)) else (Option.bind (fc_hh_within x2 (2 : Int32)) fun q1 => (if q1 = 0 then (some (0 : Int32)) else (some (1 : Int32))))))
set_option maxHeartbeats 4000000 in
set_option maxRecDepth 100000 in
theorem xc_hh_isRowPart {l : Launch} {D : va_G} {cs : Nat → ClassId} {sK sV : Nat → Nat} {tA : Nat} {ad : Nat → Nat} {τ : SC} {x1 : Int32} {x2 : Int32} {r : Int32} (hf : fc_hh_isRowPart τ x1 x2 = some r) : ctI l (wC ad cs) D vwCl (kC D cs sK sV tA) yX11_isRowPart cX11_isRowPart 3 .boolean ro_hh_isRowPart [.ref (ad 16), .int x1, .int x2] τ r τ := by
  refine ct_I RX11 (by decide +kernel) rfl (Nat.le_of_ble_eq_true rfl) ?_
  intro p e s m args below meth c A X hK hA
  refine gr_eqL (L2 := [(0, .ref (ad 16)), (1, .int x1), (2, .int x2)]) rfl ?_
  unfold fc_hh_isRowPart at hf
  refine gr_iload_n X dX11_isRowPart_0 rfl 1 rfl ?_
  refine gr_if_lt X 24 dX11_isRowPart_1 (by decide) (fun hc_ => ?_) (fun hc_ => ?_)
  · replace hf := ot_t hf hc_
    refine gr_iconst (v := 0) X dX11_isRowPart_24 (by decide) ?_
    exact gr_zret X dX11_isRowPart_25 (by decide) (Option.some.inj hf) rfl
  · replace hf := ot_f hf hc_
    refine gr_iload_n X dX11_isRowPart_4 rfl 1 rfl ?_
    refine gr_aload_n X dX11_isRowPart_5 rfl 0 rfl ?_
    refine gC_get_HH_9 X hK fk11_306 dX11_isRowPart_6 ?_
    refine gr_icmp_ge X 24 dX11_isRowPart_9 (by decide) (fun hc_ => ?_) (fun hc_ => ?_)
    · replace hf := ot_t hf hc_
      refine gr_iconst (v := 0) X dX11_isRowPart_24 (by decide) ?_
      exact gr_zret X dX11_isRowPart_25 (by decide) (Option.some.inj hf) rfl
    · replace hf := ot_f hf hc_
      refine gr_iload_n X dX11_isRowPart_12 rfl 2 rfl ?_
      refine gr_iconst (v := 2) X dX11_isRowPart_13 (by decide) ?_
      obtain ⟨q1, hq_, hf⟩ := ot_b hf
      refine gc_Si (rest := []) X kC_ok hK hA cw11_79 (xc_hh_within hq_) rfl ⟨rfl, rfl, Nat.le_of_ble_eq_true rfl, Nat.le_of_ble_eq_true rfl⟩ rfl (Nat.le_of_ble_eq_true rfl) dX11_isRowPart_14 ?_
      refine gr_if_eq X 24 dX11_isRowPart_17 (by decide) (fun hc_ => ?_) (fun hc_ => ?_)
      · replace hf := ot_t hf hc_
        refine gr_iconst (v := 0) X dX11_isRowPart_24 (by decide) ?_
        exact gr_zret X dX11_isRowPart_25 (by decide) (Option.some.inj hf) rfl
      · replace hf := ot_f hf hc_
        refine gr_iconst (v := 1) X dX11_isRowPart_20 (by decide) ?_
        refine gr_goto X 25 dX11_isRowPart_21 (by decide) ?_
        exact gr_zret X dX11_isRowPart_25 (by decide) (Option.some.inj hf) rfl
abbrev ro_hh_row : Room := { frames := 2, cells := 0, slots := 0, locals := 43 }
def fc_hh_row (τ : SC) (x1 : Int32) (x2 : Int32) : Option Int32 := (Option.bind (fc_hh_isRowPart τ x1 x2) fun q1 => (if q1 = 0 then (some (-9 : Int32)) else (oc (hin ((x1 * (3 : Int32)) + x2) 12) (some (τ.1 8 (Int32.toNatClampNeg ((x1 * (3 : Int32)) + x2)))))))
set_option maxHeartbeats 4000000 in
set_option maxRecDepth 100000 in
theorem xc_hh_row {l : Launch} {D : va_G} {cs : Nat → ClassId} {sK sV : Nat → Nat} {tA : Nat} {ad : Nat → Nat} {τ : SC} {x1 : Int32} {x2 : Int32} {r : Int32} (hf : fc_hh_row τ x1 x2 = some r) : ctI l (wC ad cs) D vwCl (kC D cs sK sV tA) yX11_row cX11_row 3 .int ro_hh_row [.ref (ad 16), .int x1, .int x2] τ r τ := by
  refine ct_I RX11 (by decide +kernel) rfl (Nat.le_of_ble_eq_true rfl) ?_
  intro p e s m args below meth c A X hK hA
  refine gr_eqL (L2 := [(0, .ref (ad 16)), (1, .int x1), (2, .int x2)]) rfl ?_
  unfold fc_hh_row at hf
  refine gr_aload_n X dX11_row_0 rfl 0 rfl ?_
  refine gr_iload_n X dX11_row_1 rfl 1 rfl ?_
  refine gr_iload_n X dX11_row_2 rfl 2 rfl ?_
  obtain ⟨q1, hq_, hf⟩ := ot_b hf
  refine gc_Vi (rest := []) X kC_ok hK hA cw11_312 (rvC_HH hK) (xc_hh_isRowPart hq_) rfl ⟨rfl, rfl, Nat.le_of_ble_eq_true rfl, Nat.le_of_ble_eq_true rfl⟩ rfl (Nat.le_of_ble_eq_true rfl) dX11_row_3 ?_
  refine gr_if_eq X 22 dX11_row_6 (by decide) (fun hc_ => ?_) (fun hc_ => ?_)
  · replace hf := ot_t hf hc_
    refine gr_bipush (v := -9) X dX11_row_22 (by decide) ?_
    exact gr_iret X dX11_row_24 (Option.some.inj hf) rfl
  · replace hf := ot_f hf hc_
    refine gr_aload_n X dX11_row_9 rfl 0 rfl ?_
    refine gC_get_HH_8 X hK fk11_46 dX11_row_10 ?_
    refine gr_iload_n X dX11_row_13 rfl 1 rfl ?_
    refine gr_iconst (v := 3) X dX11_row_14 (by decide) ?_
    refine gr_imul X dX11_row_15 ?_
    refine gr_iload_n X dX11_row_16 rfl 2 rfl ?_
    refine gr_iadd X dX11_row_17 ?_
    have hi_ := oc_1 hf
    replace hf := oc_2 hf
    refine gC_ald_8 X hK (Int32.toNatClampNeg ((x1 * (3 : Int32)) + x2)) hi_ rfl dX11_row_18 ?_
    refine gr_goto X 24 dX11_row_19 (by decide) ?_
    exact gr_iret X dX11_row_24 (Option.some.inj hf) rfl
abbrev ro_hh_replaced_a8 : Room := { frames := 0, cells := 0, slots := 0, locals := 0 }
def fc_hh_replaced_a8 (x1 : Int32) (x2 : Int32) (τ : SC) : Option (Int32 × SC) := (oc (hin x1 12) (hl (τ.1 8 (Int32.toNatClampNeg x1)) fun v1 => (oc (hin x1 12) (hl (sc τ 8 (upd (τ.1 8) (Int32.toNatClampNeg x1) x2)) fun τ2 => (some (v1, τ2))))))
set_option maxHeartbeats 4000000 in
set_option maxRecDepth 100000 in
theorem xc_hh_replaced_a8 {l : Launch} {D : va_G} {cs : Nat → ClassId} {sK sV : Nat → Nat} {tA : Nat} {ad : Nat → Nat} {τ : SC} {x1 : Int32} {x2 : Int32} {r : Int32} {υ : SC} (hf : fc_hh_replaced_a8 x1 x2 τ = some (r, υ)) : ctI l (wC ad cs) D vwCl (kC D cs sK sV tA) yX11_replaced cX11_replaced 4 .int ro_hh_replaced_a8 [.ref (ad 8), .int x1, .int x2] τ r υ := by
  refine ct_I RX11 (by decide +kernel) rfl (Nat.le_of_ble_eq_true rfl) ?_
  intro p e s m args below meth c A X hK hA
  refine gr_eqL (L2 := [(0, .ref (ad 8)), (1, .int x1), (2, .int x2)]) rfl ?_
  unfold fc_hh_replaced_a8 at hf
  refine gr_aload_n X dX11_replaced_0 rfl 0 rfl ?_
  refine gr_iload_n X dX11_replaced_1 rfl 1 rfl ?_
  have hi_ := oc_1 hf
  replace hf := oc_2 hf
  refine gC_ald_8 X hK (Int32.toNatClampNeg x1) hi_ rfl dX11_replaced_2 ?_
  refine gC_top (fun v1 e_v1 => ?_)
  replace hf := ot_l hf e_v1
  refine gr_istore_n (L2 := [(3, .int v1), (0, .ref (ad 8)), (1, .int x1), (2, .int x2)]) X dX11_replaced_3 rfl (by decide) rfl ?_
  refine gr_aload_n X dX11_replaced_4 rfl 1 rfl ?_
  refine gr_iload_n X dX11_replaced_5 rfl 2 rfl ?_
  refine gr_iload_n X dX11_replaced_6 rfl 3 rfl ?_
  have hi_ := oc_1 hf
  replace hf := oc_2 hf
  refine gC_ast_8 X hK (Int32.toNatClampNeg x1) hi_ rfl dX11_replaced_7 ?_
  refine gC_gen (fun τ2 e_τ2 => ?_)
  replace hf := ot_l hf e_τ2
  refine gr_iload_n X dX11_replaced_8 rfl 0 rfl ?_
  exact gr_iret X dX11_replaced_9 (Prod.mk.inj (Option.some.inj hf)).1 (Prod.mk.inj (Option.some.inj hf)).2
abbrev ro_hh_alterRow : Room := { frames := 2, cells := 0, slots := 0, locals := 43 }
def fc_hh_alterRow (x1 : Int32) (x2 : Int32) (x3 : Int32) (τ : SC) : Option (Int32 × SC) := (Option.bind (fc_hh_isRowPart τ x1 x2) fun q1 => (if q1 = 0 then (some ((-9 : Int32), τ)) else (Option.bind (fc_hh_replaced_a8 ((x1 * (3 : Int32)) + x2) x3 τ) fun p_ => hl p_.1 fun q2 => hl p_.2 fun τ3 => (some (q2, τ3)))))
set_option maxHeartbeats 4000000 in
set_option maxRecDepth 100000 in
theorem xc_hh_alterRow {l : Launch} {D : va_G} {cs : Nat → ClassId} {sK sV : Nat → Nat} {tA : Nat} {ad : Nat → Nat} {τ : SC} {x1 : Int32} {x2 : Int32} {x3 : Int32} {r : Int32} {υ : SC} (hf : fc_hh_alterRow x1 x2 x3 τ = some (r, υ)) : ctI l (wC ad cs) D vwCl (kC D cs sK sV tA) yX11_alterRow cX11_alterRow 4 .int ro_hh_alterRow [.ref (ad 16), .int x1, .int x2, .int x3] τ r υ := by
  refine ct_I RX11 (by decide +kernel) rfl (Nat.le_of_ble_eq_true rfl) ?_
  intro p e s m args below meth c A X hK hA
  refine gr_eqL (L2 := [(0, .ref (ad 16)), (1, .int x1), (2, .int x2), (3, .int x3)]) rfl ?_
  unfold fc_hh_alterRow at hf
  refine gr_aload_n X dX11_alterRow_0 rfl 0 rfl ?_
  refine gr_iload_n X dX11_alterRow_1 rfl 1 rfl ?_
  refine gr_iload_n X dX11_alterRow_2 rfl 2 rfl ?_
  obtain ⟨q1, hq_, hf⟩ := ot_b hf
  refine gc_Vi (rest := []) X kC_ok hK hA cw11_312 (rvC_HH hK) (xc_hh_isRowPart hq_) rfl ⟨rfl, rfl, Nat.le_of_ble_eq_true rfl, Nat.le_of_ble_eq_true rfl⟩ rfl (Nat.le_of_ble_eq_true rfl) dX11_alterRow_3 ?_
  refine gr_if_eq X 25 dX11_alterRow_6 (by decide) (fun hc_ => ?_) (fun hc_ => ?_)
  · replace hf := ot_t hf hc_
    refine gr_bipush (v := -9) X dX11_alterRow_25 (by decide) ?_
    exact gr_iret X dX11_alterRow_27 (Prod.mk.inj (Option.some.inj hf)).1 (Prod.mk.inj (Option.some.inj hf)).2
  · replace hf := ot_f hf hc_
    refine gr_aload_n X dX11_alterRow_9 rfl 0 rfl ?_
    refine gC_get_HH_8 X hK fk11_46 dX11_alterRow_10 ?_
    refine gr_iload_n X dX11_alterRow_13 rfl 1 rfl ?_
    refine gr_iconst (v := 3) X dX11_alterRow_14 (by decide) ?_
    refine gr_imul X dX11_alterRow_15 ?_
    refine gr_iload_n X dX11_alterRow_16 rfl 2 rfl ?_
    refine gr_iadd X dX11_alterRow_17 ?_
    refine gr_iload_n X dX11_alterRow_18 rfl 3 rfl ?_
    obtain ⟨⟨q2, τ3⟩, hq_, hf⟩ := ot_b hf
    replace hf := ot_l (y := q2) hf rfl
    replace hf := ot_l (y := τ3) hf rfl
    refine gc_Si (rest := []) X kC_ok hK hA cw11_129 (xc_hh_replaced_a8 hq_) rfl ⟨rfl, rfl, Nat.le_of_ble_eq_true rfl, Nat.le_of_ble_eq_true rfl⟩ rfl (Nat.le_of_ble_eq_true rfl) dX11_alterRow_19 ?_
    refine gr_goto X 27 dX11_alterRow_22 (by decide) ?_
    exact gr_iret X dX11_alterRow_27 (Prod.mk.inj (Option.some.inj hf)).1 (Prod.mk.inj (Option.some.inj hf)).2
abbrev ro_to_isAct : Room := { frames := 0, cells := 0, slots := 0, locals := 0 }
def fc_to_isAct (τ : SC) (x1 : Int32) : Option Int32 := (if x1 < 0 then (some (0 : Int32)) else (if (τ.1 113 0) < x1 then (some (0 : Int32)) else (some (1 : Int32))))
set_option maxHeartbeats 4000000 in
set_option maxRecDepth 100000 in
theorem xc_to_isAct {l : Launch} {D : va_G} {cs : Nat → ClassId} {sK sV : Nat → Nat} {tA : Nat} {ad : Nat → Nat} {τ : SC} {x1 : Int32} {r : Int32} (hf : fc_to_isAct τ x1 = some r) : ctI l (wC ad cs) D vwCl (kC D cs sK sV tA) yX9_isAct cX9_isAct 2 .boolean ro_to_isAct [.ref (ad 130), .int x1] τ r τ := by
  refine ct_I RX9 (by decide +kernel) rfl (Nat.le_of_ble_eq_true rfl) ?_
  intro p e s m args below meth c A X hK hA
  refine gr_eqL (L2 := [(0, .ref (ad 130)), (1, .int x1)]) rfl ?_
  unfold fc_to_isAct at hf
  refine gr_iload_n X dX9_isAct_0 rfl 1 rfl ?_
  refine gr_if_lt X 16 dX9_isAct_1 (by decide) (fun hc_ => ?_) (fun hc_ => ?_)
  · replace hf := ot_t hf hc_
    refine gr_iconst (v := 0) X dX9_isAct_16 (by decide) ?_
    exact gr_zret X dX9_isAct_17 (by decide) (Option.some.inj hf) rfl
  · replace hf := ot_f hf hc_
    refine gr_iload_n X dX9_isAct_4 rfl 1 rfl ?_
    refine gr_aload_n X dX9_isAct_5 rfl 0 rfl ?_
    refine gC_get_T0_13 X hK fk9_96 dX9_isAct_6 ?_
    refine gr_icmp_gt X 16 dX9_isAct_9 (by decide) (fun hc_ => ?_) (fun hc_ => ?_)
    · replace hf := ot_t hf hc_
      refine gr_iconst (v := 0) X dX9_isAct_16 (by decide) ?_
      exact gr_zret X dX9_isAct_17 (by decide) (Option.some.inj hf) rfl
    · replace hf := ot_f hf hc_
      refine gr_iconst (v := 1) X dX9_isAct_12 (by decide) ?_
      refine gr_goto X 17 dX9_isAct_13 (by decide) ?_
      exact gr_zret X dX9_isAct_17 (by decide) (Option.some.inj hf) rfl
abbrev ro_hh_isRight : Room := { frames := 6, cells := 0, slots := 0, locals := 138 }
def fc_hh_isRight (x1 : Int32) (τ : SC) : Option (Int32 × SC) := (oc (hin (x1 * (3 : Int32)) 12) (hl (τ.1 8 (Int32.toNatClampNeg (x1 * (3 : Int32)))) fun v1 => (Option.bind (fc_to_isAct τ v1) fun q2 => (if q2 = 0 then (some ((0 : Int32), τ)) else (Option.bind (fc_to_isOver τ) fun q3 => (if q3 = 0 then (Option.bind (fc_to_pass v1 τ) fun p_ => hl p_.1 fun q4 => hl p_.2 fun τ5 => (oc (hin ((x1 * (3 : Int32)) + (1 : Int32)) 12) (if ¬ q4 = (τ5.1 8 (Int32.toNatClampNeg ((x1 * (3 : Int32)) + (1 : Int32)))) then (some ((0 : Int32), τ5)) else (oc (hin ((x1 * (3 : Int32)) + (2 : Int32)) 12) (if ¬ (τ5.1 108 0) = (τ5.1 8 (Int32.toNatClampNeg ((x1 * (3 : Int32)) + (2 : Int32)))) then (some ((0 : Int32), τ5)) else (some ((1 : Int32), τ5))))))) else (some ((0 : Int32), τ))))))))
set_option maxHeartbeats 4000000 in
set_option maxRecDepth 100000 in
theorem xc_hh_isRight {l : Launch} {D : va_G} {cs : Nat → ClassId} {sK sV : Nat → Nat} {tA : Nat} {ad : Nat → Nat} {τ : SC} {x1 : Int32} {r : Int32} {υ : SC} (hf : fc_hh_isRight x1 τ = some (r, υ)) : ctI l (wC ad cs) D vwCl (kC D cs sK sV tA) yX11_isRight cX11_isRight 3 .boolean ro_hh_isRight [.ref (ad 16), .int x1] τ r υ := by
  refine ct_I RX11 (by decide +kernel) rfl (Nat.le_of_ble_eq_true rfl) ?_
  intro p e s m args below meth c A X hK hA
  refine gr_eqL (L2 := [(0, .ref (ad 16)), (1, .int x1)]) rfl ?_
  unfold fc_hh_isRight at hf
  refine gr_aload_n X dX11_isRight_0 rfl 0 rfl ?_
  refine gC_get_HH_8 X hK fk11_46 dX11_isRight_1 ?_
  refine gr_iload_n X dX11_isRight_4 rfl 1 rfl ?_
  refine gr_iconst (v := 3) X dX11_isRight_5 (by decide) ?_
  refine gr_imul X dX11_isRight_6 ?_
  have hi_ := oc_1 hf
  replace hf := oc_2 hf
  refine gC_ald_8 X hK (Int32.toNatClampNeg (x1 * (3 : Int32))) hi_ rfl dX11_isRight_7 ?_
  refine gC_top (fun v1 e_v1 => ?_)
  replace hf := ot_l hf e_v1
  refine gr_istore_n (L2 := [(2, .int v1), (0, .ref (ad 16)), (1, .int x1)]) X dX11_isRight_8 rfl (by decide) rfl ?_
  refine gr_aload_n X dX11_isRight_9 rfl 1 rfl ?_
  refine gC_get_HH_0 X hK fk11_10 dX11_isRight_10 ?_
  refine gr_iload_n X dX11_isRight_13 rfl 0 rfl ?_
  obtain ⟨q2, hq_, hf⟩ := ot_b hf
  refine gc_Vi (rest := []) X kC_ok hK hA cw11_318 (rvC_T0 hK) (xc_to_isAct hq_) rfl ⟨rfl, rfl, Nat.le_of_ble_eq_true rfl, Nat.le_of_ble_eq_true rfl⟩ rfl (Nat.le_of_ble_eq_true rfl) dX11_isRight_14 ?_
  refine gr_if_eq X 30 dX11_isRight_17 (by decide) (fun hc_ => ?_) (fun hc_ => ?_)
  · replace hf := ot_t hf hc_
    refine gr_iconst (v := 0) X dX11_isRight_30 (by decide) ?_
    exact gr_zret X dX11_isRight_31 (by decide) (Prod.mk.inj (Option.some.inj hf)).1 (Prod.mk.inj (Option.some.inj hf)).2
  · replace hf := ot_f hf hc_
    refine gr_aload_n X dX11_isRight_20 rfl 1 rfl ?_
    refine gC_get_HH_0 X hK fk11_10 dX11_isRight_21 ?_
    obtain ⟨q3, hq_, hf⟩ := ot_b hf
    refine gc_Vi (rest := []) X kC_ok hK hA cw11_170 (rvC_T0 hK) (xc_to_isOver hq_) rfl ⟨rfl, rfl, Nat.le_of_ble_eq_true rfl, Nat.le_of_ble_eq_true rfl⟩ rfl (Nat.le_of_ble_eq_true rfl) dX11_isRight_24 ?_
    refine gr_if_eq X 32 dX11_isRight_27 (by decide) (fun hc_ => ?_) (fun hc_ => ?_)
    · replace hf := ot_t hf hc_
      refine gr_aload_n X dX11_isRight_32 rfl 1 rfl ?_
      refine gC_get_HH_0 X hK fk11_10 dX11_isRight_33 ?_
      refine gr_iload_n X dX11_isRight_36 rfl 0 rfl ?_
      obtain ⟨⟨q4, τ5⟩, hq_, hf⟩ := ot_b hf
      replace hf := ot_l (y := q4) hf rfl
      replace hf := ot_l (y := τ5) hf rfl
      refine gc_Vi (rest := []) X kC_ok hK hA cw11_309 (rvC_T0 hK) (xc_to_pass hq_) rfl ⟨rfl, rfl, Nat.le_of_ble_eq_true rfl, Nat.le_of_ble_eq_true rfl⟩ rfl (Nat.le_of_ble_eq_true rfl) dX11_isRight_37 ?_
      refine gr_aload_n X dX11_isRight_40 rfl 1 rfl ?_
      refine gC_get_HH_8 X hK fk11_46 dX11_isRight_41 ?_
      refine gr_iload_n X dX11_isRight_44 rfl 2 rfl ?_
      refine gr_iconst (v := 3) X dX11_isRight_45 (by decide) ?_
      refine gr_imul X dX11_isRight_46 ?_
      refine gr_iconst (v := 1) X dX11_isRight_47 (by decide) ?_
      refine gr_iadd X dX11_isRight_48 ?_
      have hi_ := oc_1 hf
      replace hf := oc_2 hf
      refine gC_ald_8 X hK (Int32.toNatClampNeg ((x1 * (3 : Int32)) + (1 : Int32))) hi_ rfl dX11_isRight_49 ?_
      refine gr_icmp_ne X 77 dX11_isRight_50 (by decide) (fun hc_ => ?_) (fun hc_ => ?_)
      · replace hf := ot_t hf hc_
        refine gr_iconst (v := 0) X dX11_isRight_77 (by decide) ?_
        exact gr_zret X dX11_isRight_78 (by decide) (Prod.mk.inj (Option.some.inj hf)).1 (Prod.mk.inj (Option.some.inj hf)).2
      · replace hf := ot_f hf hc_
        refine gr_aload_n X dX11_isRight_53 rfl 1 rfl ?_
        refine gC_get_HH_0 X hK fk11_10 dX11_isRight_54 ?_
        refine gC_get_T0_8 X hK fk11_113 dX11_isRight_57 ?_
        refine gr_aload_n X dX11_isRight_60 rfl 1 rfl ?_
        refine gC_get_HH_8 X hK fk11_46 dX11_isRight_61 ?_
        refine gr_iload_n X dX11_isRight_64 rfl 2 rfl ?_
        refine gr_iconst (v := 3) X dX11_isRight_65 (by decide) ?_
        refine gr_imul X dX11_isRight_66 ?_
        refine gr_iconst (v := 2) X dX11_isRight_67 (by decide) ?_
        refine gr_iadd X dX11_isRight_68 ?_
        have hi_ := oc_1 hf
        replace hf := oc_2 hf
        refine gC_ald_8 X hK (Int32.toNatClampNeg ((x1 * (3 : Int32)) + (2 : Int32))) hi_ rfl dX11_isRight_69 ?_
        refine gr_icmp_ne X 77 dX11_isRight_70 (by decide) (fun hc_ => ?_) (fun hc_ => ?_)
        · replace hf := ot_t hf hc_
          refine gr_iconst (v := 0) X dX11_isRight_77 (by decide) ?_
          exact gr_zret X dX11_isRight_78 (by decide) (Prod.mk.inj (Option.some.inj hf)).1 (Prod.mk.inj (Option.some.inj hf)).2
        · replace hf := ot_f hf hc_
          refine gr_iconst (v := 1) X dX11_isRight_73 (by decide) ?_
          refine gr_goto X 78 dX11_isRight_74 (by decide) ?_
          exact gr_zret X dX11_isRight_78 (by decide) (Prod.mk.inj (Option.some.inj hf)).1 (Prod.mk.inj (Option.some.inj hf)).2
    · replace hf := ot_f hf hc_
      refine gr_iconst (v := 0) X dX11_isRight_30 (by decide) ?_
      exact gr_zret X dX11_isRight_31 (by decide) (Prod.mk.inj (Option.some.inj hf)).1 (Prod.mk.inj (Option.some.inj hf)).2
abbrev ro_hh_judge : Room := { frames := 7, cells := 0, slots := 0, locals := 160 }
def fc_hh_judge_b36 (K12 : Int32 → Int32 → Int32 → SC → Option (Int32 × SC)) (x1 : Int32) (x2 : Int32) (x3 : Int32) (τ : SC) : Option (Int32 × SC) := (K12 x1 x2 (x3 + (1 : Int32)) τ)
def fc_hh_judge_l12 : Nat → Int32 → Int32 → Int32 → SC → Option (Int32 × SC)
  | 0, _, _, _, _ => none
  | n + 1, x1, x2, x3, τ => (if (τ.1 9 0) ≤ x3 then (Option.bind (fc_to_recall x1 τ) fun τ3 => (some (x2, τ3))) else (if ¬ x2 = 0 then (Option.bind (fc_to_recall x1 τ) fun τ5 => (some (x2, τ5))) else (Option.bind (fc_hh_isRight x3 τ) fun p_ => hl p_.1 fun q6 => hl p_.2 fun τ7 => (if ¬ q6 = 0 then (fc_hh_judge_b36 (fc_hh_judge_l12 n) x1 x2 x3 τ7) else (hl (x3 + (1 : Int32)) fun v8 => (fc_hh_judge_b36 (fc_hh_judge_l12 n) x1 v8 x3 τ7))))))
def fc_hh_judge (τ : SC) : Option (Int32 × SC) := (Option.bind (fc_to_moment τ) fun q1 => (fc_hh_judge_l12 hFU q1 (0 : Int32) (0 : Int32) τ))
set_option maxHeartbeats 4000000 in
set_option maxRecDepth 100000 in
theorem wc_hh_judge_b36 {p : Program} {l : Launch} {e : Env} {s : State} {m : MethodId} {args : Array Value} {below : List Frame} {meth : Method} {c : Code} {A : Nat → Prop} {D : va_G} {cs : Nat → ClassId} {sK sV : Nat → Nat} {tA : Nat} {ad : Nat → Nat} {r : Int32} {υ : SC} {K12 : Int32 → Int32 → Int32 → SC → Option (Int32 × SC)} (X : hc p s m args meth c RX11 cX11_judge 4 (some .int)) (hK : kC D cs sK sV tA A s) (hA : ∀ q, s.heap.size ≤ q → A q) (hK12 : (∀ (x1 : Int32) (x2 : Int32) (x3 : Int32) (τ : SC), K12 x1 x2 x3 τ = some (r, υ) → gg p l e ro_hh_judge s m args below meth c (wC ad cs) D vwCl A 4 (QI below args s (wC ad cs) D vwCl A r υ) 12 [(0, .ref (ad 16)), (1, .int x1), (2, .int x2), (3, .int x3)] [] τ))  (x1 : Int32) (x2 : Int32) (x3 : Int32) (τ : SC) (hf : fc_hh_judge_b36 K12 x1 x2 x3 τ = some (r, υ)) : gg p l e ro_hh_judge s m args below meth c (wC ad cs) D vwCl A 4 (QI below args s (wC ad cs) D vwCl A r υ) 36 [(0, .ref (ad 16)), (1, .int x1), (2, .int x2), (3, .int x3)] [] τ := by
  unfold fc_hh_judge_b36 at hf
  refine gr_iinc (k := 3) (v := 1) (L2 := [(3, .int (x3 + (1 : Int32))), (0, .ref (ad 16)), (1, .int x1), (2, .int x2)]) X dX11_judge_36 rfl (by decide) (by decide) rfl ?_
  refine gr_goto X 12 dX11_judge_39 (by decide) ?_
  refine gr_sub [1, 2, 3, 0] rfl ?_
  exact hK12 _ _ _ _ hf
set_option maxHeartbeats 4000000 in
set_option maxRecDepth 100000 in
theorem wc_hh_judge_l12 {p : Program} {l : Launch} {e : Env} {s : State} {m : MethodId} {args : Array Value} {below : List Frame} {meth : Method} {c : Code} {A : Nat → Prop} {D : va_G} {cs : Nat → ClassId} {sK sV : Nat → Nat} {tA : Nat} {ad : Nat → Nat} {r : Int32} {υ : SC} (X : hc p s m args meth c RX11 cX11_judge 4 (some .int)) (hK : kC D cs sK sV tA A s) (hA : ∀ q, s.heap.size ≤ q → A q)  : ∀ (n : Nat) (x1 : Int32) (x2 : Int32) (x3 : Int32) (τ : SC), fc_hh_judge_l12 n x1 x2 x3 τ = some (r, υ) → gg p l e ro_hh_judge s m args below meth c (wC ad cs) D vwCl A 4 (QI below args s (wC ad cs) D vwCl A r υ) 12 [(0, .ref (ad 16)), (1, .int x1), (2, .int x2), (3, .int x3)] [] τ := by
  intro n
  induction n with
  | zero =>
    intro x1 x2 x3 τ hf
    cases (show (none : Option (Int32 × SC)) = some (r, υ) from hf)
  | succ n ih =>
    intro x1 x2 x3 τ hf
    unfold fc_hh_judge_l12 at hf
    refine gr_iload_n X dX11_judge_12 rfl 3 rfl ?_
    refine gr_aload_n X dX11_judge_13 rfl 0 rfl ?_
    refine gC_get_HH_9 X hK fk11_306 dX11_judge_14 ?_
    refine gr_icmp_ge X 42 dX11_judge_17 (by decide) (fun hc_ => ?_) (fun hc_ => ?_)
    · replace hf := ot_t hf hc_
      refine gr_aload_n X dX11_judge_42 rfl 0 rfl ?_
      refine gC_get_HH_0 X hK fk11_10 dX11_judge_43 ?_
      refine gr_iload_n X dX11_judge_46 rfl 1 rfl ?_
      obtain ⟨τ3, hq_, hf⟩ := ot_b hf
      refine gc_Vv (rest := []) X kC_ok hK hA cw11_215 (rvC_T0 hK) (xc_to_recall hq_) rfl ⟨rfl, rfl, Nat.le_of_ble_eq_true rfl, Nat.le_of_ble_eq_true rfl⟩ rfl (Nat.le_of_ble_eq_true rfl) dX11_judge_47 ?_
      refine gr_iload_n X dX11_judge_50 rfl 2 rfl ?_
      exact gr_iret X dX11_judge_51 (Prod.mk.inj (Option.some.inj hf)).1 (Prod.mk.inj (Option.some.inj hf)).2
    · replace hf := ot_f hf hc_
      refine gr_iload_n X dX11_judge_20 rfl 2 rfl ?_
      refine gr_if_ne X 42 dX11_judge_21 (by decide) (fun hc_ => ?_) (fun hc_ => ?_)
      · replace hf := ot_t hf hc_
        refine gr_aload_n X dX11_judge_42 rfl 0 rfl ?_
        refine gC_get_HH_0 X hK fk11_10 dX11_judge_43 ?_
        refine gr_iload_n X dX11_judge_46 rfl 1 rfl ?_
        obtain ⟨τ5, hq_, hf⟩ := ot_b hf
        refine gc_Vv (rest := []) X kC_ok hK hA cw11_215 (rvC_T0 hK) (xc_to_recall hq_) rfl ⟨rfl, rfl, Nat.le_of_ble_eq_true rfl, Nat.le_of_ble_eq_true rfl⟩ rfl (Nat.le_of_ble_eq_true rfl) dX11_judge_47 ?_
        refine gr_iload_n X dX11_judge_50 rfl 2 rfl ?_
        exact gr_iret X dX11_judge_51 (Prod.mk.inj (Option.some.inj hf)).1 (Prod.mk.inj (Option.some.inj hf)).2
      · replace hf := ot_f hf hc_
        refine gr_aload_n X dX11_judge_24 rfl 0 rfl ?_
        refine gr_iload_n X dX11_judge_25 rfl 3 rfl ?_
        obtain ⟨⟨q6, τ7⟩, hq_, hf⟩ := ot_b hf
        replace hf := ot_l (y := q6) hf rfl
        replace hf := ot_l (y := τ7) hf rfl
        refine gc_Vi (rest := []) X kC_ok hK hA cw11_315 (rvC_HH hK) (xc_hh_isRight hq_) rfl ⟨rfl, rfl, Nat.le_of_ble_eq_true rfl, Nat.le_of_ble_eq_true rfl⟩ rfl (Nat.le_of_ble_eq_true rfl) dX11_judge_26 ?_
        refine gr_if_ne X 36 dX11_judge_29 (by decide) (fun hc_ => ?_) (fun hc_ => ?_)
        · replace hf := ot_t hf hc_
          refine gr_sub [0, 1, 2, 3] rfl ?_
          exact wc_hh_judge_b36 X hK hA ih _ _ _ _ hf
        · replace hf := ot_f hf hc_
          refine gr_iload_n X dX11_judge_32 rfl 3 rfl ?_
          refine gr_iconst (v := 1) X dX11_judge_33 (by decide) ?_
          refine gr_iadd X dX11_judge_34 ?_
          refine gC_top (fun v8 e_v8 => ?_)
          replace hf := ot_l hf e_v8
          refine gr_istore_n (L2 := [(2, .int v8), (0, .ref (ad 16)), (1, .int x1), (3, .int x3)]) X dX11_judge_35 rfl (by decide) rfl ?_
          refine gr_sub [1, 2, 0, 3] rfl ?_
          exact wc_hh_judge_b36 X hK hA ih _ _ _ _ hf
set_option maxHeartbeats 4000000 in
set_option maxRecDepth 100000 in
theorem xc_hh_judge {l : Launch} {D : va_G} {cs : Nat → ClassId} {sK sV : Nat → Nat} {tA : Nat} {ad : Nat → Nat} {τ : SC} {r : Int32} {υ : SC} (hf : fc_hh_judge τ = some (r, υ)) : ctI l (wC ad cs) D vwCl (kC D cs sK sV tA) yX11_judge cX11_judge 4 .int ro_hh_judge [.ref (ad 16)] τ r υ := by
  refine ct_I RX11 (by decide +kernel) rfl (Nat.le_of_ble_eq_true rfl) ?_
  intro p e s m args below meth c A X hK hA
  refine gr_eqL (L2 := [(0, .ref (ad 16))]) rfl ?_
  unfold fc_hh_judge at hf
  refine gr_aload_n X dX11_judge_0 rfl 0 rfl ?_
  refine gC_get_HH_0 X hK fk11_10 dX11_judge_1 ?_
  obtain ⟨q1, hq_, hf⟩ := ot_b hf
  refine gc_Vi (rest := []) X kC_ok hK hA cw11_209 (rvC_T0 hK) (xc_to_moment hq_) rfl ⟨rfl, rfl, Nat.le_of_ble_eq_true rfl, Nat.le_of_ble_eq_true rfl⟩ rfl (Nat.le_of_ble_eq_true rfl) dX11_judge_4 ?_
  refine gr_istore_n (L2 := [(1, .int q1), (0, .ref (ad 16))]) X dX11_judge_7 rfl (by decide) rfl ?_
  refine gr_iconst (v := 0) X dX11_judge_8 (by decide) ?_
  refine gr_istore_n (L2 := [(2, .int (0 : Int32)), (1, .int q1), (0, .ref (ad 16))]) X dX11_judge_9 rfl (by decide) rfl ?_
  refine gr_iconst (v := 0) X dX11_judge_10 (by decide) ?_
  refine gr_istore_n (L2 := [(3, .int (0 : Int32)), (2, .int (0 : Int32)), (1, .int q1), (0, .ref (ad 16))]) X dX11_judge_11 rfl (by decide) rfl ?_
  refine gr_sub [3, 2, 1, 0] rfl ?_
  refine wc_hh_judge_l12 X hK hA  hFU _ _ _ _ hf
abbrev ro_j7_rangeCheck_23922 : Room := { frames := 0, cells := 0, slots := 0, locals := 0 }
def fc_j7_rangeCheck_23922 (x0 : Int32) (x1 : Int32) (x2 : Int32) : Option Unit := (if x1 ≤ x2 then (if 0 ≤ x1 then (if x2 ≤ x0 then (some ()) else none) else none) else none)
set_option maxHeartbeats 4000000 in
set_option maxRecDepth 100000 in
theorem xc_j7_rangeCheck_23922 {l : Launch} {D : va_G} {cs : Nat → ClassId} {sK sV : Nat → Nat} {tA : Nat} {ad : Nat → Nat} {τ : SC} {x0 : Int32} {x1 : Int32} {x2 : Int32} (hf : fc_j7_rangeCheck_23922 x0 x1 x2 = some ()) : ctV l (wC ad cs) D vwCl (kC D cs sK sV tA) yJ7_rangeCheck_23922 cJ7_rangeCheck_23922 3 ro_j7_rangeCheck_23922 [.int x0, .int x1, .int x2] τ τ := by
  refine ct_V RJ7 (by decide +kernel) rfl (Nat.le_of_ble_eq_true rfl) ?_
  intro p e s m args below meth c A X hK hA
  refine gr_eqL (L2 := [(0, .int x0), (1, .int x1), (2, .int x2)]) rfl ?_
  unfold fc_j7_rangeCheck_23922 at hf
  refine gr_iload_n X dJ7_rangeCheck_23922_0 rfl 1 rfl ?_
  refine gr_iload_n X dJ7_rangeCheck_23922_1 rfl 2 rfl ?_
  refine gr_icmp_le X 46 dJ7_rangeCheck_23922_2 (by decide) (fun hc_ => ?_) (fun hc_ => ?_)
  · replace hf := ot_t hf hc_
    refine gr_iload_n X dJ7_rangeCheck_23922_46 rfl 1 rfl ?_
    refine gr_if_ge X 59 dJ7_rangeCheck_23922_47 (by decide) (fun hc_ => ?_) (fun hc_ => ?_)
    · replace hf := ot_t hf hc_
      refine gr_iload_n X dJ7_rangeCheck_23922_59 rfl 2 rfl ?_
      refine gr_iload_n X dJ7_rangeCheck_23922_60 rfl 0 rfl ?_
      refine gr_icmp_le X 73 dJ7_rangeCheck_23922_61 (by decide) (fun hc_ => ?_) (fun hc_ => ?_)
      · replace hf := ot_t hf hc_
        exact gr_vret X dJ7_rangeCheck_23922_73 rfl
      · replace hf := ot_f hf hc_
        cases hf
    · replace hf := ot_f hf hc_
      cases hf
  · replace hf := ot_f hf hc_
    cases hf
abbrev ro_j7_fill_bad5a_a12 : Room := { frames := 1, cells := 0, slots := 0, locals := 22 }
def fc_j7_fill_bad5a_a12_l10 : Nat → Int32 → Int64 → Int32 → SC → Option SC
  | 0, _, _, _, _ => none
  | n + 1, x2, x3, x5, τ => (if x2 ≤ x5 then (some τ) else (oc (hin x5 160) (hl (sl τ (vp_updL τ.2 (Int32.toNatClampNeg x5) x3)) fun τ2 => ((fc_j7_fill_bad5a_a12_l10 n) x2 x3 (x5 + (1 : Int32)) τ2))))
def fc_j7_fill_bad5a_a12 (x1 : Int32) (x2 : Int32) (x3 : Int64) (τ : SC) : Option SC := (Option.bind (fc_j7_rangeCheck_23922 (160 : Int32) x1 x2) fun q1 => (fc_j7_fill_bad5a_a12_l10 hFU x2 x3 x1 τ))
set_option maxHeartbeats 4000000 in
set_option maxRecDepth 100000 in
theorem wc_j7_fill_bad5a_a12_l10 {p : Program} {l : Launch} {e : Env} {s : State} {m : MethodId} {args : Array Value} {below : List Frame} {meth : Method} {c : Code} {A : Nat → Prop} {D : va_G} {cs : Nat → ClassId} {sK sV : Nat → Nat} {tA : Nat} {ad : Nat → Nat} {υ : SC} (X : hc p s m args meth c RJ7 cJ7_fill_bad5a 6 none) (hK : kC D cs sK sV tA A s) (hA : ∀ q, s.heap.size ≤ q → A q)  : ∀ (n : Nat) (x2 : Int32) (x3 : Int64) (x5 : Int32) (τ : SC), fc_j7_fill_bad5a_a12_l10 n x2 x3 x5 τ = some υ → gg p l e ro_j7_fill_bad5a_a12 s m args below meth c (wC ad cs) D vwCl A 6 (QV below args s (wC ad cs) D vwCl A υ) 10 [(0, .ref (ad 12)), (2, .int x2), (3, .long x3), (5, .int x5)] [] τ := by
  intro n
  induction n with
  | zero =>
    intro x2 x3 x5 τ hf
    cases (show (none : Option SC) = some υ from hf)
  | succ n ih =>
    intro x2 x3 x5 τ hf
    unfold fc_j7_fill_bad5a_a12_l10 at hf
    refine gr_iload X dJ7_fill_bad5a_10 3 rfl ?_
    refine gr_iload_n X dJ7_fill_bad5a_12 rfl 1 rfl ?_
    refine gr_icmp_ge X 27 dJ7_fill_bad5a_13 (by decide) (fun hc_ => ?_) (fun hc_ => ?_)
    · replace hf := ot_t hf hc_
      exact gr_vret X dJ7_fill_bad5a_27 (Option.some.inj hf)
    · replace hf := ot_f hf hc_
      refine gr_aload_n X dJ7_fill_bad5a_16 rfl 0 rfl ?_
      refine gr_iload X dJ7_fill_bad5a_17 3 rfl ?_
      refine gr_lload_n X dJ7_fill_bad5a_19 rfl 2 rfl ?_
      have hi_ := oc_1 hf
      replace hf := oc_2 hf
      refine gC_ast_12 X hK (Int32.toNatClampNeg x5) hi_ rfl dJ7_fill_bad5a_20 ?_
      refine gC_gen (fun τ2 e_τ2 => ?_)
      replace hf := ot_l hf e_τ2
      refine gr_iinc (k := 3) (v := 1) (L2 := [(5, .int (x5 + (1 : Int32))), (0, .ref (ad 12)), (2, .int x2), (3, .long x3)]) X dJ7_fill_bad5a_21 rfl (by decide) (by decide) rfl ?_
      refine gr_goto X 10 dJ7_fill_bad5a_24 (by decide) ?_
      refine gr_sub [1, 2, 3, 0] rfl ?_
      exact ih _ _ _ _ hf
set_option maxHeartbeats 4000000 in
set_option maxRecDepth 100000 in
theorem xc_j7_fill_bad5a_a12 {l : Launch} {D : va_G} {cs : Nat → ClassId} {sK sV : Nat → Nat} {tA : Nat} {ad : Nat → Nat} {τ : SC} {x1 : Int32} {x2 : Int32} {x3 : Int64} {υ : SC} (hf : fc_j7_fill_bad5a_a12 x1 x2 x3 τ = some υ) : ctV l (wC ad cs) D vwCl (kC D cs sK sV tA) yJ7_fill_bad5a cJ7_fill_bad5a 6 ro_j7_fill_bad5a_a12 [.ref (ad 12), .int x1, .int x2, .long x3] τ υ := by
  refine ct_V RJ7 (by decide +kernel) rfl (Nat.le_of_ble_eq_true rfl) ?_
  intro p e s m args below meth c A X hK hA
  refine gr_eqL (L2 := [(0, .ref (ad 12)), (1, .int x1), (2, .int x2), (3, .long x3)]) rfl ?_
  unfold fc_j7_fill_bad5a_a12 at hf
  refine gr_aload_n X dJ7_fill_bad5a_0 rfl 0 rfl ?_
  refine gC_alen_12 X hK dJ7_fill_bad5a_1 ?_
  refine gr_iload_n X dJ7_fill_bad5a_2 rfl 1 rfl ?_
  refine gr_iload_n X dJ7_fill_bad5a_3 rfl 2 rfl ?_
  obtain ⟨q1, hq_, hf⟩ := ot_b hf
  refine gc_Sv (rest := []) X kC_ok hK hA cwJ7_13 (xc_j7_rangeCheck_23922 hq_) rfl ⟨rfl, rfl, Nat.le_of_ble_eq_true rfl, Nat.le_of_ble_eq_true rfl⟩ rfl (Nat.le_of_ble_eq_true rfl) dJ7_fill_bad5a_4 ?_
  refine gr_iload_n X dJ7_fill_bad5a_7 rfl 1 rfl ?_
  refine gr_istore (L2 := [(5, .int x1), (0, .ref (ad 12)), (1, .int x1), (2, .int x2), (3, .long x3)]) X dJ7_fill_bad5a_8 (by decide) rfl ?_
  refine gr_sub [1, 3, 4, 0] rfl ?_
  refine wc_j7_fill_bad5a_a12_l10 X hK hA  hFU _ _ _ _ hf
abbrev ro_hh_sheet : Room := { frames := 2, cells := 0, slots := 0, locals := 47 }
def fc_hh_sheet (x1 : Int32) (x2 : Int32) (x3 : Int32) (τ : SC) : Option (Int32 × SC) := (Option.bind (fc_hh_within x1 (3 : Int32)) fun q1 => (if q1 = 0 then (some ((-1 : Int32), τ)) else (if x2 < (-1 : Int32) then (some ((-1 : Int32), τ)) else (if x2 < (5 : Int32) then (if ¬ x2 = (-1 : Int32) then (if x3 ≤ (40 : Int32) then (if 0 ≤ x3 then (oc (hin x1 4) (hl (sc τ 10 (upd (τ.1 10) (Int32.toNatClampNeg x1) x2)) fun τ2 => (oc (hin x1 4) (hl (sc τ2 11 (upd (τ2.1 11) (Int32.toNatClampNeg x1) x3)) fun τ3 => (Option.bind (fc_j7_fill_bad5a_a12 (x1 * (40 : Int32)) ((x1 * (40 : Int32)) + (40 : Int32)) (0 : Int64) τ3) fun τ5 => (some ((1 : Int32), τ5))))))) else (some ((-14 : Int32), τ))) else (some ((-1 : Int32), τ))) else (oc (hin x1 4) (hl (sc τ 10 (upd (τ.1 10) (Int32.toNatClampNeg x1) (-1 : Int32))) fun τ6 => (oc (hin x1 4) (hl (sc τ6 11 (upd (τ6.1 11) (Int32.toNatClampNeg x1) (0 : Int32))) fun τ7 => (some ((1 : Int32), τ7))))))) else (some ((-1 : Int32), τ))))))
set_option maxHeartbeats 4000000 in
set_option maxRecDepth 100000 in
theorem xc_hh_sheet {l : Launch} {D : va_G} {cs : Nat → ClassId} {sK sV : Nat → Nat} {tA : Nat} {ad : Nat → Nat} {τ : SC} {x1 : Int32} {x2 : Int32} {x3 : Int32} {r : Int32} {υ : SC} (hf : fc_hh_sheet x1 x2 x3 τ = some (r, υ)) : ctI l (wC ad cs) D vwCl (kC D cs sK sV tA) yX11_sheet cX11_sheet 4 .int ro_hh_sheet [.ref (ad 16), .int x1, .int x2, .int x3] τ r υ := by
  refine ct_I RX11 (by decide +kernel) rfl (Nat.le_of_ble_eq_true rfl) ?_
  intro p e s m args below meth c A X hK hA
  refine gr_eqL (L2 := [(0, .ref (ad 16)), (1, .int x1), (2, .int x2), (3, .int x3)]) rfl ?_
  unfold fc_hh_sheet at hf
  refine gr_iload_n X dX11_sheet_0 rfl 1 rfl ?_
  refine gr_iconst (v := 3) X dX11_sheet_1 (by decide) ?_
  obtain ⟨q1, hq_, hf⟩ := ot_b hf
  refine gc_Si (rest := []) X kC_ok hK hA cw11_79 (xc_hh_within hq_) rfl ⟨rfl, rfl, Nat.le_of_ble_eq_true rfl, Nat.le_of_ble_eq_true rfl⟩ rfl (Nat.le_of_ble_eq_true rfl) dX11_sheet_2 ?_
  refine gr_if_eq X 18 dX11_sheet_5 (by decide) (fun hc_ => ?_) (fun hc_ => ?_)
  · replace hf := ot_t hf hc_
    refine gr_iconst (v := -1) X dX11_sheet_18 (by decide) ?_
    exact gr_iret X dX11_sheet_19 (Prod.mk.inj (Option.some.inj hf)).1 (Prod.mk.inj (Option.some.inj hf)).2
  · replace hf := ot_f hf hc_
    refine gr_iload_n X dX11_sheet_8 rfl 2 rfl ?_
    refine gr_iconst (v := -1) X dX11_sheet_9 (by decide) ?_
    refine gr_icmp_lt X 18 dX11_sheet_10 (by decide) (fun hc_ => ?_) (fun hc_ => ?_)
    · replace hf := ot_t hf hc_
      refine gr_iconst (v := -1) X dX11_sheet_18 (by decide) ?_
      exact gr_iret X dX11_sheet_19 (Prod.mk.inj (Option.some.inj hf)).1 (Prod.mk.inj (Option.some.inj hf)).2
    · replace hf := ot_f hf hc_
      refine gr_iload_n X dX11_sheet_13 rfl 2 rfl ?_
      refine gr_iconst (v := 5) X dX11_sheet_14 (by decide) ?_
      refine gr_icmp_lt X 20 dX11_sheet_15 (by decide) (fun hc_ => ?_) (fun hc_ => ?_)
      · replace hf := ot_t hf hc_
        refine gr_iload_n X dX11_sheet_20 rfl 2 rfl ?_
        refine gr_iconst (v := -1) X dX11_sheet_21 (by decide) ?_
        refine gr_icmp_ne X 41 dX11_sheet_22 (by decide) (fun hc_ => ?_) (fun hc_ => ?_)
        · replace hf := ot_t hf hc_
          refine gr_iload_n X dX11_sheet_41 rfl 3 rfl ?_
          refine gr_bipush (v := 40) X dX11_sheet_42 (by decide) ?_
          refine gr_icmp_le X 49 dX11_sheet_44 (by decide) (fun hc_ => ?_) (fun hc_ => ?_)
          · replace hf := ot_t hf hc_
            refine gr_iload_n X dX11_sheet_49 rfl 3 rfl ?_
            refine gr_if_ge X 56 dX11_sheet_50 (by decide) (fun hc_ => ?_) (fun hc_ => ?_)
            · replace hf := ot_t hf hc_
              refine gr_aload_n X dX11_sheet_56 rfl 0 rfl ?_
              refine gC_get_HH_10 X hK fk11_50 dX11_sheet_57 ?_
              refine gr_iload_n X dX11_sheet_60 rfl 1 rfl ?_
              refine gr_iload_n X dX11_sheet_61 rfl 2 rfl ?_
              have hi_ := oc_1 hf
              replace hf := oc_2 hf
              refine gC_ast_10 X hK (Int32.toNatClampNeg x1) hi_ rfl dX11_sheet_62 ?_
              refine gC_gen (fun τ2 e_τ2 => ?_)
              replace hf := ot_l hf e_τ2
              refine gr_aload_n X dX11_sheet_63 rfl 0 rfl ?_
              refine gC_get_HH_11 X hK fk11_53 dX11_sheet_64 ?_
              refine gr_iload_n X dX11_sheet_67 rfl 1 rfl ?_
              refine gr_iload_n X dX11_sheet_68 rfl 3 rfl ?_
              have hi_ := oc_1 hf
              replace hf := oc_2 hf
              refine gC_ast_11 X hK (Int32.toNatClampNeg x1) hi_ rfl dX11_sheet_69 ?_
              refine gC_gen (fun τ3 e_τ3 => ?_)
              replace hf := ot_l hf e_τ3
              refine gr_aload_n X dX11_sheet_70 rfl 0 rfl ?_
              refine gC_get_HH_12 X hK fk11_56 dX11_sheet_71 ?_
              refine gr_iload_n X dX11_sheet_74 rfl 1 rfl ?_
              refine gr_bipush (v := 40) X dX11_sheet_75 (by decide) ?_
              refine gr_imul X dX11_sheet_77 ?_
              refine gr_iload_n X dX11_sheet_78 rfl 1 rfl ?_
              refine gr_bipush (v := 40) X dX11_sheet_79 (by decide) ?_
              refine gr_imul X dX11_sheet_81 ?_
              refine gr_bipush (v := 40) X dX11_sheet_82 (by decide) ?_
              refine gr_iadd X dX11_sheet_84 ?_
              refine gr_lconst (v := 0) X dX11_sheet_85 (by decide) ?_
              obtain ⟨τ5, hq_, hf⟩ := ot_b hf
              refine gc_Sv (rest := []) X kC_ok hK hA cw11_321 (xc_j7_fill_bad5a_a12 hq_) rfl ⟨rfl, rfl, Nat.le_of_ble_eq_true rfl, Nat.le_of_ble_eq_true rfl⟩ rfl (Nat.le_of_ble_eq_true rfl) dX11_sheet_86 ?_
              refine gr_iconst (v := 1) X dX11_sheet_89 (by decide) ?_
              exact gr_iret X dX11_sheet_90 (Prod.mk.inj (Option.some.inj hf)).1 (Prod.mk.inj (Option.some.inj hf)).2
            · replace hf := ot_f hf hc_
              refine gr_bipush (v := -14) X dX11_sheet_53 (by decide) ?_
              exact gr_iret X dX11_sheet_55 (Prod.mk.inj (Option.some.inj hf)).1 (Prod.mk.inj (Option.some.inj hf)).2
          · replace hf := ot_f hf hc_
            refine gr_iconst (v := -1) X dX11_sheet_47 (by decide) ?_
            exact gr_iret X dX11_sheet_48 (Prod.mk.inj (Option.some.inj hf)).1 (Prod.mk.inj (Option.some.inj hf)).2
        · replace hf := ot_f hf hc_
          refine gr_aload_n X dX11_sheet_25 rfl 0 rfl ?_
          refine gC_get_HH_10 X hK fk11_50 dX11_sheet_26 ?_
          refine gr_iload_n X dX11_sheet_29 rfl 1 rfl ?_
          refine gr_iconst (v := -1) X dX11_sheet_30 (by decide) ?_
          have hi_ := oc_1 hf
          replace hf := oc_2 hf
          refine gC_ast_10 X hK (Int32.toNatClampNeg x1) hi_ rfl dX11_sheet_31 ?_
          refine gC_gen (fun τ6 e_τ6 => ?_)
          replace hf := ot_l hf e_τ6
          refine gr_aload_n X dX11_sheet_32 rfl 0 rfl ?_
          refine gC_get_HH_11 X hK fk11_53 dX11_sheet_33 ?_
          refine gr_iload_n X dX11_sheet_36 rfl 1 rfl ?_
          refine gr_iconst (v := 0) X dX11_sheet_37 (by decide) ?_
          have hi_ := oc_1 hf
          replace hf := oc_2 hf
          refine gC_ast_11 X hK (Int32.toNatClampNeg x1) hi_ rfl dX11_sheet_38 ?_
          refine gC_gen (fun τ7 e_τ7 => ?_)
          replace hf := ot_l hf e_τ7
          refine gr_iconst (v := 1) X dX11_sheet_39 (by decide) ?_
          exact gr_iret X dX11_sheet_40 (Prod.mk.inj (Option.some.inj hf)).1 (Prod.mk.inj (Option.some.inj hf)).2
      · replace hf := ot_f hf hc_
        refine gr_iconst (v := -1) X dX11_sheet_18 (by decide) ?_
        exact gr_iret X dX11_sheet_19 (Prod.mk.inj (Option.some.inj hf)).1 (Prod.mk.inj (Option.some.inj hf)).2
