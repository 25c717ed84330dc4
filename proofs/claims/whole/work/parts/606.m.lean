abbrev rm_errands : Room := { frames := 3, cells := 0, slots := 0, locals := 68 }
def fm_errands_b119 (σ : SM) (K61 : Int32 → Int32 → Int32 → Int32 → Option Int32) (x1 : Int32) (x3 : Int32) (x4 : Int32) (x5 : Int32) : Option Int32 := (K61 x1 x3 x4 (x5 + (1 : Int32)))
def fm_errands_l61 (σ : SM) : Nat → Int32 → Int32 → Int32 → Int32 → Option Int32
  | 0, _, _, _, _ => none
  | n + 1, x1, x3, x4, x5 => (if (σ 0 0) ≤ x5 then (some (-3 : Int32)) else (if ¬ ((x3 >>> (x5 &&& 31)) &&& (1 : Int32)) = (1 : Int32) then (fm_errands_b119 σ (fm_errands_l61 σ n) x1 x3 x4 x5) else (Option.bind (fm_place σ x5) fun q6 => (Option.bind (fm_apart x1 q6) fun q7 => (Option.bind (fm_place σ x5) fun q8 => (Option.bind (fm_wayTo σ (x3 &&& (((1 : Int32) <<< (x5 &&& 31)) ^^^ (-1 : Int32))) q8) fun q9 => (if ¬ (q7 + q9) = x4 then (fm_errands_b119 σ (fm_errands_l61 σ n) x1 x3 x4 x5) else (some x5))))))))
def fm_errands (σ : SM) (x1 : Int32) (x2 : Int32) : Option Int32 := (Option.bind (fm_isIn (Int32.toInt64 x1) (0 : Int64) (99 : Int64)) fun q1 => (if q1 = 0 then (some (-1 : Int32)) else (Option.bind (fm_isIn (Int32.toInt64 x2) (0 : Int64) (1 : Int64)) fun q2 => (if ¬ q2 = 0 then (Option.bind (fm_those σ (4 : Int32)) fun q3 => (hl ((((1 : Int32) <<< ((σ 0 0) &&& 31)) - (1 : Int32)) &&& (q3 ^^^ (-1 : Int32))) fun v4 => (Option.bind (fm_wayTo σ v4 x1) fun q5 => (if ¬ x2 = 0 then (fm_errands_l61 σ hFU x1 v4 q5 (0 : Int32)) else (some q5))))) else (some (-1 : Int32))))))
set_option maxHeartbeats 4000000 in
set_option maxRecDepth 100000 in
theorem wm_errands_b119 {p : Program} {l : Launch} {e : Env} {s : State} {m : MethodId} {args : Array Value} {below : List Frame} {meth : Method} {c : Code} {A : Nat → Prop} {D : va_G} {cA : ClassId} {h : Nat} {ad : Nat → Nat} {r : Int32} {σ : SM} {K61 : Int32 → Int32 → Int32 → Int32 → Option Int32} (X : hc p s m args meth c RX12 cX12_errands 6 (some .int)) (hK : kM D cA A s) (hA : ∀ q, s.heap.size ≤ q → A q) (hK61 : (∀ (x1 : Int32) (x3 : Int32) (x4 : Int32) (x5 : Int32), K61 x1 x3 x4 x5 = some r → gg p l e rm_errands s m args below meth c (wM h ad cA) D vwCl A 6 (QI below args s (wM h ad cA) D vwCl A r σ) 61 [(0, .ref h), (1, .int x1), (3, .int x3), (4, .int x4), (5, .int x5)] [] σ))  (x1 : Int32) (x3 : Int32) (x4 : Int32) (x5 : Int32) (hf : fm_errands_b119 σ K61 x1 x3 x4 x5 = some r) : gg p l e rm_errands s m args below meth c (wM h ad cA) D vwCl A 6 (QI below args s (wM h ad cA) D vwCl A r σ) 119 [(0, .ref h), (1, .int x1), (3, .int x3), (4, .int x4), (5, .int x5)] [] σ := by
  unfold fm_errands_b119 at hf
  refine gr_iinc (k := 4) (v := 1) (L2 := [(5, .int (x5 + (1 : Int32))), (0, .ref h), (1, .int x1), (3, .int x3), (4, .int x4)]) X dX12_errands_119 rfl (by decide) (by decide) rfl ?_
  refine gr_goto X 61 dX12_errands_122 (by decide) ?_
  refine gr_sub [1, 2, 3, 4, 0] rfl ?_
  exact hK61 _ _ _ _ hf
set_option maxHeartbeats 4000000 in
set_option maxRecDepth 100000 in
theorem wm_errands_l61 {p : Program} {l : Launch} {e : Env} {s : State} {m : MethodId} {args : Array Value} {below : List Frame} {meth : Method} {c : Code} {A : Nat → Prop} {D : va_G} {cA : ClassId} {h : Nat} {ad : Nat → Nat} {r : Int32} {σ : SM} (X : hc p s m args meth c RX12 cX12_errands 6 (some .int)) (hK : kM D cA A s) (hA : ∀ q, s.heap.size ≤ q → A q)  : ∀ (n : Nat) (x1 : Int32) (x3 : Int32) (x4 : Int32) (x5 : Int32), fm_errands_l61 σ n x1 x3 x4 x5 = some r → gg p l e rm_errands s m args below meth c (wM h ad cA) D vwCl A 6 (QI below args s (wM h ad cA) D vwCl A r σ) 61 [(0, .ref h), (1, .int x1), (3, .int x3), (4, .int x4), (5, .int x5)] [] σ := by
  intro n
  induction n with
  | zero =>
    intro x1 x3 x4 x5 hf
    cases (show (none : Option Int32) = some r from hf)
  | succ n ih =>
    intro x1 x3 x4 x5 hf
    unfold fm_errands_l61 at hf
    refine gr_iload X dX12_errands_61 4 rfl ?_
    refine gr_aload_n X dX12_errands_63 rfl 0 rfl ?_
    refine gM_get_0 X hK dX12_errands_64 ?_
    refine gr_iconst (v := 0) X dX12_errands_67 (by decide) ?_
    refine gM_ald_0 X hK 0 (by decide) (by decide) dX12_errands_68 ?_
    refine gr_icmp_ge X 125 dX12_errands_69 (by decide) (fun hc_ => ?_) (fun hc_ => ?_)
    · replace hf := ot_t hf hc_
      refine gr_bipush (v := -3) X dX12_errands_125 (by decide) ?_
      exact gr_iret X dX12_errands_127 (Option.some.inj hf) rfl
    · replace hf := ot_f hf hc_
      refine gr_iload_n X dX12_errands_72 rfl 2 rfl ?_
      refine gr_iload X dX12_errands_73 4 rfl ?_
      refine gr_ishr X dX12_errands_75 ?_
      refine gr_iconst (v := 1) X dX12_errands_76 (by decide) ?_
      refine gr_iand X dX12_errands_77 ?_
      refine gr_iconst (v := 1) X dX12_errands_78 (by decide) ?_
      refine gr_icmp_ne X 119 dX12_errands_79 (by decide) (fun hc_ => ?_) (fun hc_ => ?_)
      · replace hf := ot_t hf hc_
        refine gr_sub [0, 1, 2, 3, 4] rfl ?_
        exact wm_errands_b119 X hK hA ih _ _ _ _ hf
      · replace hf := ot_f hf hc_
        refine gr_iload_n X dX12_errands_82 rfl 1 rfl ?_
        refine gr_aload_n X dX12_errands_83 rfl 0 rfl ?_
        refine gr_iload X dX12_errands_84 4 rfl ?_
        obtain ⟨q6, hq_, hf⟩ := ot_b hf
        refine gc_Vi (rest := [.int x1]) X kM_ok hK hA cw12_place (rvM hK) (xm_place hq_) rfl ⟨rfl, rfl, Nat.le_of_ble_eq_true rfl, Nat.le_of_ble_eq_true rfl⟩ rfl (Nat.le_of_ble_eq_true rfl) dX12_errands_86 ?_
        obtain ⟨q7, hq_, hf⟩ := ot_b hf
        refine gc_Si (rest := []) X kM_ok hK hA cw12_apart (xm_apart hq_) rfl ⟨rfl, rfl, Nat.le_of_ble_eq_true rfl, Nat.le_of_ble_eq_true rfl⟩ rfl (Nat.le_of_ble_eq_true rfl) dX12_errands_89 ?_
        refine gr_aload_n X dX12_errands_92 rfl 0 rfl ?_
        refine gr_iload_n X dX12_errands_93 rfl 2 rfl ?_
        refine gr_iconst (v := 1) X dX12_errands_94 (by decide) ?_
        refine gr_iload X dX12_errands_95 4 rfl ?_
        refine gr_ishl X dX12_errands_97 ?_
        refine gr_iconst (v := -1) X dX12_errands_98 (by decide) ?_
        refine gr_ixor X dX12_errands_99 ?_
        refine gr_iand X dX12_errands_100 ?_
        refine gr_aload_n X dX12_errands_101 rfl 0 rfl ?_
        refine gr_iload X dX12_errands_102 4 rfl ?_
        obtain ⟨q8, hq_, hf⟩ := ot_b hf
        refine gc_Vi (rest := [.int (x3 &&& (((1 : Int32) <<< (x5 &&& 31)) ^^^ (-1 : Int32))), .ref h, .int q7]) X kM_ok hK hA cw12_place (rvM hK) (xm_place hq_) rfl ⟨rfl, rfl, Nat.le_of_ble_eq_true rfl, Nat.le_of_ble_eq_true rfl⟩ rfl (Nat.le_of_ble_eq_true rfl) dX12_errands_104 ?_
        obtain ⟨q9, hq_, hf⟩ := ot_b hf
        refine gc_Vi (rest := [.int q7]) X kM_ok hK hA cw12_wayTo (rvM hK) (xm_wayTo hq_) rfl ⟨rfl, rfl, Nat.le_of_ble_eq_true rfl, Nat.le_of_ble_eq_true rfl⟩ rfl (Nat.le_of_ble_eq_true rfl) dX12_errands_107 ?_
        refine gr_iadd X dX12_errands_110 ?_
        refine gr_iload X dX12_errands_111 3 rfl ?_
        refine gr_icmp_ne X 119 dX12_errands_113 (by decide) (fun hc_ => ?_) (fun hc_ => ?_)
        · replace hf := ot_t hf hc_
          refine gr_sub [0, 1, 2, 3, 4] rfl ?_
          exact wm_errands_b119 X hK hA ih _ _ _ _ hf
        · replace hf := ot_f hf hc_
          refine gr_iload X dX12_errands_116 4 rfl ?_
          exact gr_iret X dX12_errands_118 (Option.some.inj hf) rfl
set_option maxHeartbeats 4000000 in
set_option maxRecDepth 100000 in
theorem xm_errands {l : Launch} {D : va_G} {cA : ClassId} {h : Nat} {ad : Nat → Nat} {σ : SM} {x1 : Int32} {x2 : Int32} {r : Int32} (hf : fm_errands σ x1 x2 = some r) : ctI l (wM h ad cA) D vwCl (kM D cA) yX12_errands cX12_errands 6 .int rm_errands [.ref h, .int x1, .int x2] σ r σ := by
  refine ct_I RX12 (by decide +kernel) rfl (Nat.le_of_ble_eq_true rfl) ?_
  intro p e s m args below meth c A X hK hA
  refine gr_eqL (L2 := [(0, .ref h), (1, .int x1), (2, .int x2)]) rfl ?_
  unfold fm_errands at hf
  refine gr_iload_n X dX12_errands_0 rfl 1 rfl ?_
  refine gr_i2l X dX12_errands_1 ?_
  refine gr_lconst (v := 0) X dX12_errands_2 (by decide) ?_
  refine gr_ldc2_w X ck12_132 dX12_errands_3 ?_
  obtain ⟨q1, hq_, hf⟩ := ot_b hf
  refine gc_Si (rest := []) X kM_ok hK hA cw12_isIn (xm_isIn hq_) rfl ⟨rfl, rfl, Nat.le_of_ble_eq_true rfl, Nat.le_of_ble_eq_true rfl⟩ rfl (Nat.le_of_ble_eq_true rfl) dX12_errands_6 ?_
  refine gr_if_eq X 22 dX12_errands_9 (by decide) (fun hc_ => ?_) (fun hc_ => ?_)
  · replace hf := ot_t hf hc_
    refine gr_iconst (v := -1) X dX12_errands_22 (by decide) ?_
    exact gr_iret X dX12_errands_23 (Option.some.inj hf) rfl
  · replace hf := ot_f hf hc_
    refine gr_iload_n X dX12_errands_12 rfl 2 rfl ?_
    refine gr_i2l X dX12_errands_13 ?_
    refine gr_lconst (v := 0) X dX12_errands_14 (by decide) ?_
    refine gr_lconst (v := 1) X dX12_errands_15 (by decide) ?_
    obtain ⟨q2, hq_, hf⟩ := ot_b hf
    refine gc_Si (rest := []) X kM_ok hK hA cw12_isIn (xm_isIn hq_) rfl ⟨rfl, rfl, Nat.le_of_ble_eq_true rfl, Nat.le_of_ble_eq_true rfl⟩ rfl (Nat.le_of_ble_eq_true rfl) dX12_errands_16 ?_
    refine gr_if_ne X 24 dX12_errands_19 (by decide) (fun hc_ => ?_) (fun hc_ => ?_)
    · replace hf := ot_t hf hc_
      refine gr_iconst (v := 1) X dX12_errands_24 (by decide) ?_
      refine gr_aload_n X dX12_errands_25 rfl 0 rfl ?_
      refine gM_get_0 X hK dX12_errands_26 ?_
      refine gr_iconst (v := 0) X dX12_errands_29 (by decide) ?_
      refine gM_ald_0 X hK 0 (by decide) (by decide) dX12_errands_30 ?_
      refine gr_ishl X dX12_errands_31 ?_
      refine gr_iconst (v := 1) X dX12_errands_32 (by decide) ?_
      refine gr_isub X dX12_errands_33 ?_
      refine gr_aload_n X dX12_errands_34 rfl 0 rfl ?_
      refine gr_iconst (v := 4) X dX12_errands_35 (by decide) ?_
      obtain ⟨q3, hq_, hf⟩ := ot_b hf
      refine gc_Vi (rest := [.int (((1 : Int32) <<< ((σ 0 0) &&& 31)) - (1 : Int32))]) X kM_ok hK hA cw12_those (rvM hK) (xm_those hq_) rfl ⟨rfl, rfl, Nat.le_of_ble_eq_true rfl, Nat.le_of_ble_eq_true rfl⟩ rfl (Nat.le_of_ble_eq_true rfl) dX12_errands_36 ?_
      refine gr_iconst (v := -1) X dX12_errands_39 (by decide) ?_
      refine gr_ixor X dX12_errands_40 ?_
      refine gr_iand X dX12_errands_41 ?_
      refine gM_top (fun v4 e_v4 => ?_)
      replace hf := ot_l hf e_v4
      refine gr_istore_n (L2 := [(3, .int v4), (0, .ref h), (1, .int x1), (2, .int x2)]) X dX12_errands_42 rfl (by decide) rfl ?_
      refine gr_aload_n X dX12_errands_43 rfl 1 rfl ?_
      refine gr_iload_n X dX12_errands_44 rfl 0 rfl ?_
      refine gr_iload_n X dX12_errands_45 rfl 2 rfl ?_
      obtain ⟨q5, hq_, hf⟩ := ot_b hf
      refine gc_Vi (rest := []) X kM_ok hK hA cw12_wayTo (rvM hK) (xm_wayTo hq_) rfl ⟨rfl, rfl, Nat.le_of_ble_eq_true rfl, Nat.le_of_ble_eq_true rfl⟩ rfl (Nat.le_of_ble_eq_true rfl) dX12_errands_46 ?_
      refine gr_istore (L2 := [(4, .int q5), (3, .int v4), (0, .ref h), (1, .int x1), (2, .int x2)]) X dX12_errands_49 (by decide) rfl ?_
      refine gr_iload_n X dX12_errands_51 rfl 4 rfl ?_
      refine gr_if_ne X 58 dX12_errands_52 (by decide) (fun hc_ => ?_) (fun hc_ => ?_)
      · replace hf := ot_t hf hc_
        refine gr_iconst (v := 0) X dX12_errands_58 (by decide) ?_
        refine gr_istore (L2 := [(5, .int (0 : Int32)), (4, .int q5), (3, .int v4), (0, .ref h), (1, .int x1), (2, .int x2)]) X dX12_errands_59 (by decide) rfl ?_
        refine gr_sub [3, 4, 2, 1, 0] rfl ?_
        refine wm_errands_l61 X hK hA  hFU _ _ _ _ hf
      · replace hf := ot_f hf hc_
        refine gr_iload X dX12_errands_55 0 rfl ?_
        exact gr_iret X dX12_errands_57 (Option.some.inj hf) rfl
    · replace hf := ot_f hf hc_
      refine gr_iconst (v := -1) X dX12_errands_22 (by decide) ?_
      exact gr_iret X dX12_errands_23 (Option.some.inj hf) rfl
abbrev rm_isSet : Room := { frames := 1, cells := 0, slots := 0, locals := 25 }
def fm_isSet (σ : SM) (x1 : Int32) : Option Int32 := (Option.bind (fm_isIn (Int32.toInt64 x1) (0 : Int64) (Int32.toInt64 (((1 : Int32) <<< ((σ 0 0) &&& 31)) - (1 : Int32)))) fun q1 => (oc (hz q1) (some q1)))
set_option maxHeartbeats 4000000 in
set_option maxRecDepth 100000 in
theorem xm_isSet {l : Launch} {D : va_G} {cA : ClassId} {h : Nat} {ad : Nat → Nat} {σ : SM} {x1 : Int32} {r : Int32} (hf : fm_isSet σ x1 = some r) : ctI l (wM h ad cA) D vwCl (kM D cA) yX12_isSet cX12_isSet 2 .boolean rm_isSet [.ref h, .int x1] σ r σ := by
  refine ct_I RX12 (by decide +kernel) rfl (Nat.le_of_ble_eq_true rfl) ?_
  intro p e s m args below meth c A X hK hA
  refine gr_eqL (L2 := [(0, .ref h), (1, .int x1)]) rfl ?_
  unfold fm_isSet at hf
  refine gr_iload_n X dX12_isSet_0 rfl 1 rfl ?_
  refine gr_i2l X dX12_isSet_1 ?_
  refine gr_lconst (v := 0) X dX12_isSet_2 (by decide) ?_
  refine gr_iconst (v := 1) X dX12_isSet_3 (by decide) ?_
  refine gr_aload_n X dX12_isSet_4 rfl 0 rfl ?_
  refine gM_get_0 X hK dX12_isSet_5 ?_
  refine gr_iconst (v := 0) X dX12_isSet_8 (by decide) ?_
  refine gM_ald_0 X hK 0 (by decide) (by decide) dX12_isSet_9 ?_
  refine gr_ishl X dX12_isSet_10 ?_
  refine gr_iconst (v := 1) X dX12_isSet_11 (by decide) ?_
  refine gr_isub X dX12_isSet_12 ?_
  refine gr_i2l X dX12_isSet_13 ?_
  obtain ⟨q1, hq_, hf⟩ := ot_b hf
  refine gc_Si (rest := []) X kM_ok hK hA cw12_isIn (xm_isIn hq_) rfl ⟨rfl, rfl, Nat.le_of_ble_eq_true rfl, Nat.le_of_ble_eq_true rfl⟩ rfl (Nat.le_of_ble_eq_true rfl) dX12_isSet_14 ?_
  have hz_ := oc_1 hf
  replace hf := oc_2 hf
  exact gr_zret X dX12_isSet_17 hz_ (Option.some.inj hf) rfl
def rm_plans (rq : Room) : Room := { frames := rq.frames + 9, cells := 0, slots := 0, locals := rq.locals + 208 }
def fm_plans_b82 (Rc : Int32 → Int32 → Int32 → Int32 → SM → Option SM) (x4 : Int32) (y0 : Int32) (y1 : Int32) (σ : SM) : Option SM := (hl (sf σ 16 (fun _ => (y1 + y0))) fun σ1 => (Option.bind (fm_doneOnes σ1) fun q2 => (hl (sf σ1 20 (fun _ => ((σ1 20 0) ||| q2))) fun σ3 => (if ¬ ((σ3 18 0) &&& (q2 ^^^ (-1 : Int32))) = 0 then (hl (sf σ3 19 (fun _ => (σ3 19 0))) fun σ4 => (some σ4)) else (if (σ3 19 0) ≤ x4 then (hl (sf σ3 19 (fun _ => (σ3 19 0))) fun σ5 => (some σ5)) else (hl (sf σ3 19 (fun _ => x4)) fun σ6 => (some σ6)))))))
def fm_plans_b64 (Rc : Int32 → Int32 → Int32 → Int32 → SM → Option SM) (x3 : Int32) (x4 : Int32) (σ : SM) : Option SM := (if ¬ x3 = (σ 15 0) then (fm_plans_b82 Rc x4 (0 : Int32) (σ 16 0) σ) else (fm_plans_b82 Rc x4 (1 : Int32) (σ 16 0) σ))
def fm_plans_l38 (Rc : Int32 → Int32 → Int32 → Int32 → SM → Option SM) (K64 : Int32 → Int32 → SM → Option SM) : Nat → Int32 → Int32 → Int32 → SM → Option SM
  | 0, _, _, _, _ => none
  | n + 1, x3, x4, x5, σ => (if (4 : Int32) ≤ x5 then (K64 x3 x4 σ) else (oc (hin x5 4) (oc (hin x5 4) (hl (sf σ 14 (upd (σ 14) (Int32.toNatClampNeg x5) (σ 13 (Int32.toNatClampNeg x5)))) fun σ10 => ((fm_plans_l38 Rc K64 n) x3 x4 (x5 + (1 : Int32)) σ10)))))
def fm_plans_b12 (Rc : Int32 → Int32 → Int32 → Int32 → SM → Option SM) (x1 : Int32) (x3 : Int32) (x4 : Int32) (σ : SM) : Option SM := (if x3 ≤ (σ 15 0) then (fm_plans_b64 Rc x3 x4 σ) else (hl (sf σ 15 (fun _ => x3)) fun σ7 => (hl (sf σ7 16 (fun _ => (0 : Int32))) fun σ8 => (hl (sf σ8 17 (fun _ => x1)) fun σ9 => (fm_plans_l38 Rc (fun x3 x4 σ => (fm_plans_b64 Rc x3 x4 σ)) hFU x3 x4 (0 : Int32) σ9)))))
def fm_plans_b196 (Rc : Int32 → Int32 → Int32 → Int32 → SM → Option SM) (K146 : Int32 → Int32 → Int32 → Int32 → Int32 → SM → Option SM) (x1 : Int32) (x2 : Int32) (x3 : Int32) (x4 : Int32) (x5 : Int32) (y0 : Int32) (y1 : Int32) (y2 : Int32) (y3 : Int32) (σ : SM) : Option SM := (Option.bind (Rc y3 y2 y1 y0 σ) fun σ18 => (Option.bind (fm_laysBack x1 σ18) fun σ20 => (K146 x1 x2 x3 x4 (x5 + (1 : Int32)) σ20)))
def fm_plans_l146 (Rc : Int32 → Int32 → Int32 → Int32 → SM → Option SM) : Nat → Int32 → Int32 → Int32 → Int32 → Int32 → SM → Option SM
  | 0, _, _, _, _, _, _ => none
  | n + 1, x1, x2, x3, x4, x5, σ => (if (σ 0 0) < x5 then (some σ) else (oc (hin x1 4) (hl (sf σ 13 (upd (σ 13) (Int32.toNatClampNeg x1) x5)) fun σ14 => (Option.bind (fm_goesWith x5 σ14) fun p_ => hl p_.1 fun q15 => hl p_.2 fun σ16 => (if ¬ x5 = 0 then (fm_plans_b196 Rc (fm_plans_l146 Rc n) x1 x2 x3 x4 x5 (x4 + (1 : Int32)) (x3 + q15) x2 (x1 + (1 : Int32)) σ16) else (fm_plans_b196 Rc (fm_plans_l146 Rc n) x1 x2 x3 x4 x5 x4 (x3 + q15) x2 (x1 + (1 : Int32)) σ16))))))
def fm_plans (Rc : Int32 → Int32 → Int32 → Int32 → SM → Option SM) (x1 : Int32) (x2 : Int32) (x3 : Int32) (x4 : Int32) (σ : SM) : Option SM := (if x1 = x2 then (fm_plans_b12 Rc x1 x3 x4 σ) else (Option.bind (fm_isOver σ) fun q11 => (if q11 = 0 then (Option.bind (fm_laysAside x1 σ) fun σ13 => (fm_plans_l146 Rc hFU x1 x2 x3 x4 (0 : Int32) σ13)) else (fm_plans_b12 Rc x1 x3 x4 σ))))
set_option maxHeartbeats 4000000 in
set_option maxRecDepth 100000 in
theorem wm_plans_b82 {p : Program} {l : Launch} {e : Env} {s : State} {m : MethodId} {args : Array Value} {below : List Frame} {meth : Method} {c : Code} {A : Nat → Prop} {D : va_G} {cA : ClassId} {h : Nat} {ad : Nat → Nat} {τ : SM} {rq : Room} {Rc : Int32 → Int32 → Int32 → Int32 → SM → Option SM} (X : hc p s m args meth c RX12 cX12_plans 7 none) (hK : kM D cA A s) (hA : ∀ q, s.heap.size ≤ q → A q) (hq0 : rq.cells = 0 ∧ rq.slots = 0) (hRc : ∀ (σ : SM) (x1 : Int32) (x2 : Int32) (x3 : Int32) (x4 : Int32) (τ : SM), Rc x1 x2 x3 x4 σ = some τ → ctV l (wM h ad cA) D vwCl (kM D cA) yX12_plans cX12_plans 7 rq [.ref h, .int x1, .int x2, .int x3, .int x4] σ τ)   (x4 : Int32) (y0 : Int32) (y1 : Int32) (σ : SM) (hf : fm_plans_b82 Rc x4 y0 y1 σ = some τ) : gg p l e (rm_plans rq) s m args below meth c (wM h ad cA) D vwCl A 7 (QV below args s (wM h ad cA) D vwCl A τ) 82 [(0, .ref h), (4, .int x4)] [.int y0, .int y1, .ref h] σ := by
  unfold fm_plans_b82 at hf
  refine gr_iadd X dX12_plans_82 ?_
  refine gM_put_16 X hK dX12_plans_83 ?_
  refine gM_gen (fun σ1 e_σ1 => ?_)
  replace hf := ot_l hf e_σ1
  refine gr_aload_n X dX12_plans_86 rfl 0 rfl ?_
  obtain ⟨q2, hq_, hf⟩ := ot_b hf
  refine gc_Vi (rest := []) X kM_ok hK hA cw12_doneOnes (rvM hK) (xm_doneOnes hq_) rfl ⟨rfl, rfl, by simp only [rm_plans, rm_doneOnes]; omega, by simp only [rm_plans, rm_doneOnes]; omega⟩ rfl (Nat.le_of_ble_eq_true rfl) dX12_plans_87 ?_
  refine gr_istore (L2 := [(5, .int q2), (0, .ref h), (4, .int x4)]) X dX12_plans_90 (by decide) rfl ?_
  refine gr_aload_n X dX12_plans_92 rfl 1 rfl ?_
  refine gr_dup X dX12_plans_93 rfl ?_
  refine gM_get_20 X hK dX12_plans_94 ?_
  refine gr_iload X dX12_plans_97 0 rfl ?_
  refine gr_ior X dX12_plans_99 ?_
  refine gM_put_20 X hK dX12_plans_100 ?_
  refine gM_gen (fun σ3 e_σ3 => ?_)
  replace hf := ot_l hf e_σ3
  refine gr_aload_n X dX12_plans_103 rfl 1 rfl ?_
  refine gr_aload_n X dX12_plans_104 rfl 1 rfl ?_
  refine gM_get_18 X hK dX12_plans_105 ?_
  refine gr_iload X dX12_plans_108 0 rfl ?_
  refine gr_iconst (v := -1) X dX12_plans_110 (by decide) ?_
  refine gr_ixor X dX12_plans_111 ?_
  refine gr_iand X dX12_plans_112 ?_
  refine gr_if_ne X 130 dX12_plans_113 (by decide) (fun hc_ => ?_) (fun hc_ => ?_)
  · replace hf := ot_t hf hc_
    refine gr_aload_n X dX12_plans_130 rfl 1 rfl ?_
    refine gM_get_19 X hK dX12_plans_131 ?_
    refine gM_put_19 X hK dX12_plans_134 ?_
    refine gM_gen (fun σ4 e_σ4 => ?_)
    replace hf := ot_l hf e_σ4
    exact gr_vret X dX12_plans_137 (Option.some.inj hf)
  · replace hf := ot_f hf hc_
    refine gr_iload X dX12_plans_116 2 rfl ?_
    refine gr_aload_n X dX12_plans_118 rfl 1 rfl ?_
    refine gM_get_19 X hK dX12_plans_119 ?_
    refine gr_icmp_ge X 130 dX12_plans_122 (by decide) (fun hc_ => ?_) (fun hc_ => ?_)
    · replace hf := ot_t hf hc_
      refine gr_aload_n X dX12_plans_130 rfl 1 rfl ?_
      refine gM_get_19 X hK dX12_plans_131 ?_
      refine gM_put_19 X hK dX12_plans_134 ?_
      refine gM_gen (fun σ5 e_σ5 => ?_)
      replace hf := ot_l hf e_σ5
      exact gr_vret X dX12_plans_137 (Option.some.inj hf)
    · replace hf := ot_f hf hc_
      refine gr_iload X dX12_plans_125 2 rfl ?_
      refine gr_goto X 134 dX12_plans_127 (by decide) ?_
      refine gM_put_19 X hK dX12_plans_134 ?_
      refine gM_gen (fun σ6 e_σ6 => ?_)
      replace hf := ot_l hf e_σ6
      exact gr_vret X dX12_plans_137 (Option.some.inj hf)
set_option maxHeartbeats 4000000 in
set_option maxRecDepth 100000 in
theorem wm_plans_b64 {p : Program} {l : Launch} {e : Env} {s : State} {m : MethodId} {args : Array Value} {below : List Frame} {meth : Method} {c : Code} {A : Nat → Prop} {D : va_G} {cA : ClassId} {h : Nat} {ad : Nat → Nat} {τ : SM} {rq : Room} {Rc : Int32 → Int32 → Int32 → Int32 → SM → Option SM} (X : hc p s m args meth c RX12 cX12_plans 7 none) (hK : kM D cA A s) (hA : ∀ q, s.heap.size ≤ q → A q) (hq0 : rq.cells = 0 ∧ rq.slots = 0) (hRc : ∀ (σ : SM) (x1 : Int32) (x2 : Int32) (x3 : Int32) (x4 : Int32) (τ : SM), Rc x1 x2 x3 x4 σ = some τ → ctV l (wM h ad cA) D vwCl (kM D cA) yX12_plans cX12_plans 7 rq [.ref h, .int x1, .int x2, .int x3, .int x4] σ τ)   (x3 : Int32) (x4 : Int32) (σ : SM) (hf : fm_plans_b64 Rc x3 x4 σ = some τ) : gg p l e (rm_plans rq) s m args below meth c (wM h ad cA) D vwCl A 7 (QV below args s (wM h ad cA) D vwCl A τ) 64 [(0, .ref h), (3, .int x3), (4, .int x4)] [] σ := by
  unfold fm_plans_b64 at hf
  refine gr_aload_n X dX12_plans_64 rfl 0 rfl ?_
  refine gr_dup X dX12_plans_65 rfl ?_
  refine gM_get_16 X hK dX12_plans_66 ?_
  refine gr_iload_n X dX12_plans_69 rfl 1 rfl ?_
  refine gr_aload_n X dX12_plans_70 rfl 0 rfl ?_
  refine gM_get_15 X hK dX12_plans_71 ?_
  refine gr_icmp_ne X 81 dX12_plans_74 (by decide) (fun hc_ => ?_) (fun hc_ => ?_)
  · replace hf := ot_t hf hc_
    refine gr_iconst (v := 0) X dX12_plans_81 (by decide) ?_
    refine gr_sub [0, 2] rfl ?_
    exact wm_plans_b82 X hK hA hq0 hRc _ _ _ _ hf
  · replace hf := ot_f hf hc_
    refine gr_iconst (v := 1) X dX12_plans_77 (by decide) ?_
    refine gr_goto X 82 dX12_plans_78 (by decide) ?_
    refine gr_sub [0, 2] rfl ?_
    exact wm_plans_b82 X hK hA hq0 hRc _ _ _ _ hf
set_option maxHeartbeats 4000000 in
set_option maxRecDepth 100000 in
theorem wm_plans_l38 {p : Program} {l : Launch} {e : Env} {s : State} {m : MethodId} {args : Array Value} {below : List Frame} {meth : Method} {c : Code} {A : Nat → Prop} {D : va_G} {cA : ClassId} {h : Nat} {ad : Nat → Nat} {τ : SM} {rq : Room} {Rc : Int32 → Int32 → Int32 → Int32 → SM → Option SM} {K64 : Int32 → Int32 → SM → Option SM} (X : hc p s m args meth c RX12 cX12_plans 7 none) (hK : kM D cA A s) (hA : ∀ q, s.heap.size ≤ q → A q) (hq0 : rq.cells = 0 ∧ rq.slots = 0) (hRc : ∀ (σ : SM) (x1 : Int32) (x2 : Int32) (x3 : Int32) (x4 : Int32) (τ : SM), Rc x1 x2 x3 x4 σ = some τ → ctV l (wM h ad cA) D vwCl (kM D cA) yX12_plans cX12_plans 7 rq [.ref h, .int x1, .int x2, .int x3, .int x4] σ τ) (hK64 : (∀ (x3 : Int32) (x4 : Int32) (σ : SM), K64 x3 x4 σ = some τ → gg p l e (rm_plans rq) s m args below meth c (wM h ad cA) D vwCl A 7 (QV below args s (wM h ad cA) D vwCl A τ) 64 [(0, .ref h), (3, .int x3), (4, .int x4)] [] σ)) : ∀ (n : Nat) (x3 : Int32) (x4 : Int32) (x5 : Int32) (σ : SM), fm_plans_l38 Rc K64 n x3 x4 x5 σ = some τ → gg p l e (rm_plans rq) s m args below meth c (wM h ad cA) D vwCl A 7 (QV below args s (wM h ad cA) D vwCl A τ) 38 [(0, .ref h), (3, .int x3), (4, .int x4), (5, .int x5)] [] σ := by
  intro n
  induction n with
  | zero =>
    intro x3 x4 x5 σ hf
    cases (show (none : Option SM) = some τ from hf)
  | succ n ih =>
    intro x3 x4 x5 σ hf
    unfold fm_plans_l38 at hf
    refine gr_iload X dX12_plans_38 3 rfl ?_
    refine gr_iconst (v := 4) X dX12_plans_40 (by decide) ?_
    refine gr_icmp_ge X 64 dX12_plans_41 (by decide) (fun hc_ => ?_) (fun hc_ => ?_)
    · replace hf := ot_t hf hc_
      refine gr_sub [0, 1, 2] rfl ?_
      exact hK64 _ _ _ hf
    · replace hf := ot_f hf hc_
      refine gr_aload_n X dX12_plans_44 rfl 0 rfl ?_
      refine gM_get_14 X hK dX12_plans_45 ?_
      refine gr_iload X dX12_plans_48 3 rfl ?_
      refine gr_aload_n X dX12_plans_50 rfl 0 rfl ?_
      refine gM_get_13 X hK dX12_plans_51 ?_
      refine gr_iload X dX12_plans_54 3 rfl ?_
      have hi_ := oc_1 hf
      replace hf := oc_2 hf
      refine gM_ald_13 X hK (Int32.toNatClampNeg x5) hi_ rfl dX12_plans_56 ?_
      have hi_ := oc_1 hf
      replace hf := oc_2 hf
      refine gM_ast_14 X hK (Int32.toNatClampNeg x5) hi_ rfl dX12_plans_57 ?_
      refine gM_gen (fun σ10 e_σ10 => ?_)
      replace hf := ot_l hf e_σ10
      refine gr_iinc (k := 3) (v := 1) (L2 := [(5, .int (x5 + (1 : Int32))), (0, .ref h), (3, .int x3), (4, .int x4)]) X dX12_plans_58 rfl (by decide) (by decide) rfl ?_
      refine gr_goto X 38 dX12_plans_61 (by decide) ?_
      refine gr_sub [1, 2, 3, 0] rfl ?_
      exact ih _ _ _ _ hf
set_option maxHeartbeats 4000000 in
set_option maxRecDepth 100000 in
theorem wm_plans_b12 {p : Program} {l : Launch} {e : Env} {s : State} {m : MethodId} {args : Array Value} {below : List Frame} {meth : Method} {c : Code} {A : Nat → Prop} {D : va_G} {cA : ClassId} {h : Nat} {ad : Nat → Nat} {τ : SM} {rq : Room} {Rc : Int32 → Int32 → Int32 → Int32 → SM → Option SM} (X : hc p s m args meth c RX12 cX12_plans 7 none) (hK : kM D cA A s) (hA : ∀ q, s.heap.size ≤ q → A q) (hq0 : rq.cells = 0 ∧ rq.slots = 0) (hRc : ∀ (σ : SM) (x1 : Int32) (x2 : Int32) (x3 : Int32) (x4 : Int32) (τ : SM), Rc x1 x2 x3 x4 σ = some τ → ctV l (wM h ad cA) D vwCl (kM D cA) yX12_plans cX12_plans 7 rq [.ref h, .int x1, .int x2, .int x3, .int x4] σ τ)   (x1 : Int32) (x3 : Int32) (x4 : Int32) (σ : SM) (hf : fm_plans_b12 Rc x1 x3 x4 σ = some τ) : gg p l e (rm_plans rq) s m args below meth c (wM h ad cA) D vwCl A 7 (QV below args s (wM h ad cA) D vwCl A τ) 12 [(0, .ref h), (1, .int x1), (3, .int x3), (4, .int x4)] [] σ := by
  unfold fm_plans_b12 at hf
  refine gr_iload_n X dX12_plans_12 rfl 2 rfl ?_
  refine gr_aload_n X dX12_plans_13 rfl 0 rfl ?_
  refine gM_get_15 X hK dX12_plans_14 ?_
  refine gr_icmp_le X 64 dX12_plans_17 (by decide) (fun hc_ => ?_) (fun hc_ => ?_)
  · replace hf := ot_t hf hc_
    refine gr_sub [0, 2, 3] rfl ?_
    exact wm_plans_b64 X hK hA hq0 hRc _ _ _ hf
  · replace hf := ot_f hf hc_
    refine gr_aload_n X dX12_plans_20 rfl 0 rfl ?_
    refine gr_iload_n X dX12_plans_21 rfl 2 rfl ?_
    refine gM_put_15 X hK dX12_plans_22 ?_
    refine gM_gen (fun σ7 e_σ7 => ?_)
    replace hf := ot_l hf e_σ7
    refine gr_aload_n X dX12_plans_25 rfl 0 rfl ?_
    refine gr_iconst (v := 0) X dX12_plans_26 (by decide) ?_
    refine gM_put_16 X hK dX12_plans_27 ?_
    refine gM_gen (fun σ8 e_σ8 => ?_)
    replace hf := ot_l hf e_σ8
    refine gr_aload_n X dX12_plans_30 rfl 0 rfl ?_
    refine gr_iload_n X dX12_plans_31 rfl 1 rfl ?_
    refine gM_put_17 X hK dX12_plans_32 ?_
    refine gM_gen (fun σ9 e_σ9 => ?_)
    replace hf := ot_l hf e_σ9
    refine gr_iconst (v := 0) X dX12_plans_35 (by decide) ?_
    refine gr_istore (L2 := [(5, .int (0 : Int32)), (0, .ref h), (1, .int x1), (3, .int x3), (4, .int x4)]) X dX12_plans_36 (by decide) rfl ?_
    refine gr_sub [1, 3, 4, 0] rfl ?_
    refine wm_plans_l38 X hK hA hq0 hRc (fun x3 x4 σ hf => ?_) hFU _ _ _ _ hf
    refine gr_sub [0, 1, 2] rfl ?_
    exact wm_plans_b64 X hK hA hq0 hRc _ _ _ hf
set_option maxHeartbeats 4000000 in
set_option maxRecDepth 100000 in
theorem wm_plans_b196 {p : Program} {l : Launch} {e : Env} {s : State} {m : MethodId} {args : Array Value} {below : List Frame} {meth : Method} {c : Code} {A : Nat → Prop} {D : va_G} {cA : ClassId} {h : Nat} {ad : Nat → Nat} {τ : SM} {rq : Room} {Rc : Int32 → Int32 → Int32 → Int32 → SM → Option SM} {K146 : Int32 → Int32 → Int32 → Int32 → Int32 → SM → Option SM} (X : hc p s m args meth c RX12 cX12_plans 7 none) (hK : kM D cA A s) (hA : ∀ q, s.heap.size ≤ q → A q) (hq0 : rq.cells = 0 ∧ rq.slots = 0) (hRc : ∀ (σ : SM) (x1 : Int32) (x2 : Int32) (x3 : Int32) (x4 : Int32) (τ : SM), Rc x1 x2 x3 x4 σ = some τ → ctV l (wM h ad cA) D vwCl (kM D cA) yX12_plans cX12_plans 7 rq [.ref h, .int x1, .int x2, .int x3, .int x4] σ τ) (hK146 : (∀ (x1 : Int32) (x2 : Int32) (x3 : Int32) (x4 : Int32) (x5 : Int32) (σ : SM), K146 x1 x2 x3 x4 x5 σ = some τ → gg p l e (rm_plans rq) s m args below meth c (wM h ad cA) D vwCl A 7 (QV below args s (wM h ad cA) D vwCl A τ) 146 [(0, .ref h), (1, .int x1), (2, .int x2), (3, .int x3), (4, .int x4), (5, .int x5)] [] σ))  (x1 : Int32) (x2 : Int32) (x3 : Int32) (x4 : Int32) (x5 : Int32) (y0 : Int32) (y1 : Int32) (y2 : Int32) (y3 : Int32) (σ : SM) (hf : fm_plans_b196 Rc K146 x1 x2 x3 x4 x5 y0 y1 y2 y3 σ = some τ) : gg p l e (rm_plans rq) s m args below meth c (wM h ad cA) D vwCl A 7 (QV below args s (wM h ad cA) D vwCl A τ) 196 [(0, .ref h), (1, .int x1), (2, .int x2), (3, .int x3), (4, .int x4), (5, .int x5)] [.int y0, .int y1, .int y2, .int y3, .ref h] σ := by
  unfold fm_plans_b196 at hf
  obtain ⟨σ18, hq_, hf⟩ := ot_b hf
  refine gc_Vv (rest := []) X kM_ok hK hA cw12_plans (rvM hK) (hRc _ _ _ _ _ _ hq_) rfl ⟨hq0.1, hq0.2, by simp only [rm_plans]; omega, by simp only [rm_plans]; omega⟩ rfl (Nat.le_of_ble_eq_true rfl) dX12_plans_196 ?_
  refine gr_aload_n X dX12_plans_199 rfl 0 rfl ?_
  refine gr_iload_n X dX12_plans_200 rfl 1 rfl ?_
  obtain ⟨σ20, hq_, hf⟩ := ot_b hf
  refine gc_Vv (rest := []) X kM_ok hK hA cw12_laysBack (rvM hK) (xm_laysBack hq_) rfl ⟨rfl, rfl, by simp only [rm_plans, rm_laysBack]; omega, by simp only [rm_plans, rm_laysBack]; omega⟩ rfl (Nat.le_of_ble_eq_true rfl) dX12_plans_201 ?_
  refine gr_iinc (k := 5) (v := 1) (L2 := [(5, .int (x5 + (1 : Int32))), (0, .ref h), (1, .int x1), (2, .int x2), (3, .int x3), (4, .int x4)]) X dX12_plans_204 rfl (by decide) (by decide) rfl ?_
  refine gr_goto X 146 dX12_plans_207 (by decide) ?_
  refine gr_sub [1, 2, 3, 4, 5, 0] rfl ?_
  exact hK146 _ _ _ _ _ _ hf
set_option maxHeartbeats 4000000 in
set_option maxRecDepth 100000 in
theorem wm_plans_l146 {p : Program} {l : Launch} {e : Env} {s : State} {m : MethodId} {args : Array Value} {below : List Frame} {meth : Method} {c : Code} {A : Nat → Prop} {D : va_G} {cA : ClassId} {h : Nat} {ad : Nat → Nat} {τ : SM} {rq : Room} {Rc : Int32 → Int32 → Int32 → Int32 → SM → Option SM} (X : hc p s m args meth c RX12 cX12_plans 7 none) (hK : kM D cA A s) (hA : ∀ q, s.heap.size ≤ q → A q) (hq0 : rq.cells = 0 ∧ rq.slots = 0) (hRc : ∀ (σ : SM) (x1 : Int32) (x2 : Int32) (x3 : Int32) (x4 : Int32) (τ : SM), Rc x1 x2 x3 x4 σ = some τ → ctV l (wM h ad cA) D vwCl (kM D cA) yX12_plans cX12_plans 7 rq [.ref h, .int x1, .int x2, .int x3, .int x4] σ τ)  : ∀ (n : Nat) (x1 : Int32) (x2 : Int32) (x3 : Int32) (x4 : Int32) (x5 : Int32) (σ : SM), fm_plans_l146 Rc n x1 x2 x3 x4 x5 σ = some τ → gg p l e (rm_plans rq) s m args below meth c (wM h ad cA) D vwCl A 7 (QV below args s (wM h ad cA) D vwCl A τ) 146 [(0, .ref h), (1, .int x1), (2, .int x2), (3, .int x3), (4, .int x4), (5, .int x5)] [] σ := by
  intro n
  induction n with
  | zero =>
    intro x1 x2 x3 x4 x5 σ hf
    cases (show (none : Option SM) = some τ from hf)
  | succ n ih =>
    intro x1 x2 x3 x4 x5 σ hf
    unfold fm_plans_l146 at hf
    refine gr_iload X dX12_plans_146 5 rfl ?_
    refine gr_aload_n X dX12_plans_148 rfl 0 rfl ?_
    refine gM_get_0 X hK dX12_plans_149 ?_
    refine gr_iconst (v := 0) X dX12_plans_152 (by decide) ?_
    refine gM_ald_0 X hK 0 (by decide) (by decide) dX12_plans_153 ?_
    refine gr_icmp_gt X 210 dX12_plans_154 (by decide) (fun hc_ => ?_) (fun hc_ => ?_)
    · replace hf := ot_t hf hc_
      exact gr_vret X dX12_plans_210 (Option.some.inj hf)
    · replace hf := ot_f hf hc_
      refine gr_aload_n X dX12_plans_157 rfl 0 rfl ?_
      refine gM_get_13 X hK dX12_plans_158 ?_
      refine gr_iload_n X dX12_plans_161 rfl 1 rfl ?_
      refine gr_iload X dX12_plans_162 5 rfl ?_
      have hi_ := oc_1 hf
      replace hf := oc_2 hf
      refine gM_ast_13 X hK (Int32.toNatClampNeg x1) hi_ rfl dX12_plans_164 ?_
      refine gM_gen (fun σ14 e_σ14 => ?_)
      replace hf := ot_l hf e_σ14
      refine gr_aload_n X dX12_plans_165 rfl 0 rfl ?_
      refine gr_iload X dX12_plans_166 5 rfl ?_
      obtain ⟨⟨q15, σ16⟩, hq_, hf⟩ := ot_b hf
      replace hf := ot_l (y := q15) hf rfl
      replace hf := ot_l (y := σ16) hf rfl
      refine gc_Vi (rest := []) X kM_ok hK hA cw12_goesWith (rvM hK) (xm_goesWith hq_) rfl ⟨rfl, rfl, by simp only [rm_plans, rm_goesWith]; omega, by simp only [rm_plans, rm_goesWith]; omega⟩ rfl (Nat.le_of_ble_eq_true rfl) dX12_plans_168 ?_
      refine gr_istore (L2 := [(6, .int q15), (0, .ref h), (1, .int x1), (2, .int x2), (3, .int x3), (4, .int x4), (5, .int x5)]) X dX12_plans_171 (by decide) rfl ?_
      refine gr_aload_n X dX12_plans_173 rfl 1 rfl ?_
      refine gr_iload_n X dX12_plans_174 rfl 2 rfl ?_
      refine gr_iconst (v := 1) X dX12_plans_175 (by decide) ?_
      refine gr_iadd X dX12_plans_176 ?_
      refine gr_iload_n X dX12_plans_177 rfl 3 rfl ?_
      refine gr_iload_n X dX12_plans_178 rfl 4 rfl ?_
      refine gr_iload X dX12_plans_179 0 rfl ?_
      refine gr_iadd X dX12_plans_181 ?_
      refine gr_iload X dX12_plans_182 6 rfl ?_
      refine gr_if_ne X 192 dX12_plans_184 (by decide) (fun hc_ => ?_) (fun hc_ => ?_)
      · replace hf := ot_t hf hc_
        refine gr_iload X dX12_plans_192 5 rfl ?_
        refine gr_iconst (v := 1) X dX12_plans_194 (by decide) ?_
        refine gr_iadd X dX12_plans_195 ?_
        refine gr_sub [1, 2, 3, 4, 5, 6] rfl ?_
        exact wm_plans_b196 X hK hA hq0 hRc ih _ _ _ _ _ _ _ _ _ _ hf
      · replace hf := ot_f hf hc_
        refine gr_iload X dX12_plans_187 5 rfl ?_
        refine gr_goto X 196 dX12_plans_189 (by decide) ?_
        refine gr_sub [1, 2, 3, 4, 5, 6] rfl ?_
        exact wm_plans_b196 X hK hA hq0 hRc ih _ _ _ _ _ _ _ _ _ _ hf
set_option maxHeartbeats 4000000 in
set_option maxRecDepth 100000 in
theorem xm_plans {l : Launch} {D : va_G} {cA : ClassId} {h : Nat} {ad : Nat → Nat} {σ : SM} {x1 : Int32} {x2 : Int32} {x3 : Int32} {x4 : Int32} {τ : SM} {rq : Room} {Rc : Int32 → Int32 → Int32 → Int32 → SM → Option SM} (hq0 : rq.cells = 0 ∧ rq.slots = 0) (hRc : ∀ (σ : SM) (x1 : Int32) (x2 : Int32) (x3 : Int32) (x4 : Int32) (τ : SM), Rc x1 x2 x3 x4 σ = some τ → ctV l (wM h ad cA) D vwCl (kM D cA) yX12_plans cX12_plans 7 rq [.ref h, .int x1, .int x2, .int x3, .int x4] σ τ) (hf : fm_plans Rc x1 x2 x3 x4 σ = some τ) : ctV l (wM h ad cA) D vwCl (kM D cA) yX12_plans cX12_plans 7 (rm_plans rq) [.ref h, .int x1, .int x2, .int x3, .int x4] σ τ := by
  refine ct_V RX12 (by decide +kernel) rfl (Nat.le_of_ble_eq_true rfl) ?_
  intro p e s m args below meth c A X hK hA
  refine gr_eqL (L2 := [(0, .ref h), (1, .int x1), (2, .int x2), (3, .int x3), (4, .int x4)]) rfl ?_
  unfold fm_plans at hf
  refine gr_iload_n X dX12_plans_0 rfl 1 rfl ?_
  refine gr_iload_n X dX12_plans_1 rfl 2 rfl ?_
  refine gr_icmp_eq X 12 dX12_plans_2 (by decide) (fun hc_ => ?_) (fun hc_ => ?_)
  · replace hf := ot_t hf hc_
    refine gr_sub [0, 1, 3, 4] rfl ?_
    exact wm_plans_b12 X hK hA hq0 hRc _ _ _ _ hf
  · replace hf := ot_f hf hc_
    refine gr_aload_n X dX12_plans_5 rfl 0 rfl ?_
    obtain ⟨q11, hq_, hf⟩ := ot_b hf
    refine gc_Vi (rest := []) X kM_ok hK hA cw12_isOver (rvM hK) (xm_isOver hq_) rfl ⟨rfl, rfl, by simp only [rm_plans, rm_isOver]; omega, by simp only [rm_plans, rm_isOver]; omega⟩ rfl (Nat.le_of_ble_eq_true rfl) dX12_plans_6 ?_
    refine gr_if_eq X 138 dX12_plans_9 (by decide) (fun hc_ => ?_) (fun hc_ => ?_)
    · replace hf := ot_t hf hc_
      refine gr_aload_n X dX12_plans_138 rfl 0 rfl ?_
      refine gr_iload_n X dX12_plans_139 rfl 1 rfl ?_
      obtain ⟨σ13, hq_, hf⟩ := ot_b hf
      refine gc_Vv (rest := []) X kM_ok hK hA cw12_laysAside (rvM hK) (xm_laysAside hq_) rfl ⟨rfl, rfl, by simp only [rm_plans, rm_laysAside]; omega, by simp only [rm_plans, rm_laysAside]; omega⟩ rfl (Nat.le_of_ble_eq_true rfl) dX12_plans_140 ?_
      refine gr_iconst (v := 0) X dX12_plans_143 (by decide) ?_
      refine gr_istore (L2 := [(5, .int (0 : Int32)), (0, .ref h), (1, .int x1), (2, .int x2), (3, .int x3), (4, .int x4)]) X dX12_plans_144 (by decide) rfl ?_
      refine gr_sub [1, 2, 3, 4, 5, 0] rfl ?_
      refine wm_plans_l146 X hK hA hq0 hRc  hFU _ _ _ _ _ _ hf
    · replace hf := ot_f hf hc_
      refine gr_sub [0, 1, 3, 4] rfl ?_
      exact wm_plans_b12 X hK hA hq0 hRc _ _ _ _ hf
def fm_plansD : Nat → Int32 → Int32 → Int32 → Int32 → SM → Option SM
  | 0 => fun _ _ _ _ _ => none
  | d + 1 => fm_plans (fm_plansD d)
def rm_plansD : Nat → Room
  | 0 => { frames := 0, cells := 0, slots := 0, locals := 0 }
  | d + 1 => rm_plans (rm_plansD d)
theorem rm_plansD_0 : ∀ d, (rm_plansD d).cells = 0 ∧ (rm_plansD d).slots = 0
  | 0 => ⟨rfl, rfl⟩
  | _ + 1 => ⟨rfl, rfl⟩
theorem xm_plansA {l : Launch} {D : va_G} {cA : ClassId} {h : Nat} {ad : Nat → Nat} : ∀ (d : Nat) (σ : SM) (x1 : Int32) (x2 : Int32) (x3 : Int32) (x4 : Int32) (τ : SM), fm_plansD d x1 x2 x3 x4 σ = some τ → ctV l (wM h ad cA) D vwCl (kM D cA) yX12_plans cX12_plans 7 (rm_plansD d) [.ref h, .int x1, .int x2, .int x3, .int x4] σ τ := by
  intro d
  induction d with
  | zero =>
    intro σ x1 x2 x3 x4 τ hf
    cases (show (none : Option SM) = some τ from hf)
  | succ d ih =>
    intro σ x1 x2 x3 x4 τ hf
    exact xm_plans (rm_plansD_0 d) ih hf
abbrev rm_findsPlans : Room := { frames := 73, cells := 0, slots := 0, locals := 1690 }
def fm_findsPlans (x1 : Int32) (x2 : Int32) (σ : SM) : Option SM := (hl (sf σ 15 (fun _ => (-1 : Int32))) fun σ1 => (hl (sf σ1 16 (fun _ => (0 : Int32))) fun σ2 => (hl (sf σ2 17 (fun _ => (0 : Int32))) fun σ3 => (hl (sf σ3 18 (fun _ => x2)) fun σ4 => (hl (sf σ4 19 (fun _ => (9 : Int32))) fun σ5 => (hl (sf σ5 20 (fun _ => (0 : Int32))) fun σ6 => (Option.bind (fm_plansD 8 (0 : Int32) x1 (0 : Int32) (0 : Int32) σ6) fun σ8 => (some σ8))))))))
set_option maxHeartbeats 4000000 in
set_option maxRecDepth 100000 in
theorem xm_findsPlans {l : Launch} {D : va_G} {cA : ClassId} {h : Nat} {ad : Nat → Nat} {σ : SM} {x1 : Int32} {x2 : Int32} {τ : SM} (hf : fm_findsPlans x1 x2 σ = some τ) : ctV l (wM h ad cA) D vwCl (kM D cA) yX12_findsPlans cX12_findsPlans 3 rm_findsPlans [.ref h, .int x1, .int x2] σ τ := by
  refine ct_V RX12 (by decide +kernel) rfl (Nat.le_of_ble_eq_true rfl) ?_
  intro p e s m args below meth c A X hK hA
  refine gr_eqL (L2 := [(0, .ref h), (1, .int x1), (2, .int x2)]) rfl ?_
  unfold fm_findsPlans at hf
  refine gr_aload_n X dX12_findsPlans_0 rfl 0 rfl ?_
  refine gr_iconst (v := -1) X dX12_findsPlans_1 (by decide) ?_
  refine gM_put_15 X hK dX12_findsPlans_2 ?_
  refine gM_gen (fun σ1 e_σ1 => ?_)
  replace hf := ot_l hf e_σ1
  refine gr_aload_n X dX12_findsPlans_5 rfl 0 rfl ?_
  refine gr_iconst (v := 0) X dX12_findsPlans_6 (by decide) ?_
  refine gM_put_16 X hK dX12_findsPlans_7 ?_
  refine gM_gen (fun σ2 e_σ2 => ?_)
  replace hf := ot_l hf e_σ2
  refine gr_aload_n X dX12_findsPlans_10 rfl 0 rfl ?_
  refine gr_iconst (v := 0) X dX12_findsPlans_11 (by decide) ?_
  refine gM_put_17 X hK dX12_findsPlans_12 ?_
  refine gM_gen (fun σ3 e_σ3 => ?_)
  replace hf := ot_l hf e_σ3
  refine gr_aload_n X dX12_findsPlans_15 rfl 0 rfl ?_
  refine gr_iload_n X dX12_findsPlans_16 rfl 2 rfl ?_
  refine gM_put_18 X hK dX12_findsPlans_17 ?_
  refine gM_gen (fun σ4 e_σ4 => ?_)
  replace hf := ot_l hf e_σ4
  refine gr_aload_n X dX12_findsPlans_20 rfl 0 rfl ?_
  refine gr_bipush (v := 9) X dX12_findsPlans_21 (by decide) ?_
  refine gM_put_19 X hK dX12_findsPlans_23 ?_
  refine gM_gen (fun σ5 e_σ5 => ?_)
  replace hf := ot_l hf e_σ5
  refine gr_aload_n X dX12_findsPlans_26 rfl 0 rfl ?_
  refine gr_iconst (v := 0) X dX12_findsPlans_27 (by decide) ?_
  refine gM_put_20 X hK dX12_findsPlans_28 ?_
  refine gM_gen (fun σ6 e_σ6 => ?_)
  replace hf := ot_l hf e_σ6
  refine gr_aload_n X dX12_findsPlans_31 rfl 0 rfl ?_
  refine gr_iconst (v := 0) X dX12_findsPlans_32 (by decide) ?_
  refine gr_iload_n X dX12_findsPlans_33 rfl 1 rfl ?_
  refine gr_iconst (v := 0) X dX12_findsPlans_34 (by decide) ?_
  refine gr_iconst (v := 0) X dX12_findsPlans_35 (by decide) ?_
  obtain ⟨σ8, hq_, hf⟩ := ot_b hf
  refine gc_Vv (rest := []) X kM_ok hK hA cw12_plans (rvM hK) (xm_plansA 8 _ _ _ _ _ _ hq_) rfl ⟨rfl, rfl, Nat.le_of_ble_eq_true rfl, Nat.le_of_ble_eq_true rfl⟩ rfl (Nat.le_of_ble_eq_true rfl) dX12_findsPlans_36 ?_
  exact gr_vret X dX12_findsPlans_39 (Option.some.inj hf)
abbrev rm_isLong : Room := { frames := 1, cells := 0, slots := 0, locals := 25 }
def fm_isLong (x0 : Int32) : Option Int32 := (Option.bind (fm_isIn (Int32.toInt64 x0) (0 : Int64) (4 : Int64)) fun q1 => (oc (hz q1) (some q1)))
set_option maxHeartbeats 4000000 in
set_option maxRecDepth 100000 in
theorem xm_isLong {l : Launch} {D : va_G} {cA : ClassId} {h : Nat} {ad : Nat → Nat} {σ : SM} {x0 : Int32} {r : Int32} (hf : fm_isLong x0 = some r) : ctI l (wM h ad cA) D vwCl (kM D cA) yX12_isLong cX12_isLong 1 .boolean rm_isLong [.int x0] σ r σ := by
  refine ct_I RX12 (by decide +kernel) rfl (Nat.le_of_ble_eq_true rfl) ?_
  intro p e s m args below meth c A X hK hA
  refine gr_eqL (L2 := [(0, .int x0)]) rfl ?_
  unfold fm_isLong at hf
  refine gr_iload_n X dX12_isLong_0 rfl 0 rfl ?_
  refine gr_i2l X dX12_isLong_1 ?_
  refine gr_lconst (v := 0) X dX12_isLong_2 (by decide) ?_
  refine gr_ldc2_w X ck12_297 dX12_isLong_3 ?_
  obtain ⟨q1, hq_, hf⟩ := ot_b hf
  refine gc_Si (rest := []) X kM_ok hK hA cw12_isIn (xm_isIn hq_) rfl ⟨rfl, rfl, Nat.le_of_ble_eq_true rfl, Nat.le_of_ble_eq_true rfl⟩ rfl (Nat.le_of_ble_eq_true rfl) dX12_isLong_6 ?_
  have hz_ := oc_1 hf
  replace hf := oc_2 hf
  exact gr_zret X dX12_isLong_9 hz_ (Option.some.inj hf) rfl
abbrev rm_best : Room := { frames := 74, cells := 0, slots := 0, locals := 1712 }
def fm_best (x1 : Int32) (σ : SM) : Option (Int32 × SM) := (Option.bind (fm_isLong x1) fun q1 => (if ¬ q1 = 0 then (Option.bind (fm_findsPlans x1 (0 : Int32) σ) fun σ3 => (some ((σ3 15 0), σ3))) else (some ((-1 : Int32), σ))))
set_option maxHeartbeats 4000000 in
set_option maxRecDepth 100000 in
theorem xm_best {l : Launch} {D : va_G} {cA : ClassId} {h : Nat} {ad : Nat → Nat} {σ : SM} {x1 : Int32} {r : Int32} {τ : SM} (hf : fm_best x1 σ = some (r, τ)) : ctI l (wM h ad cA) D vwCl (kM D cA) yX12_best cX12_best 2 .int rm_best [.ref h, .int x1] σ r τ := by
  refine ct_I RX12 (by decide +kernel) rfl (Nat.le_of_ble_eq_true rfl) ?_
  intro p e s m args below meth c A X hK hA
  refine gr_eqL (L2 := [(0, .ref h), (1, .int x1)]) rfl ?_
  unfold fm_best at hf
  refine gr_iload_n X dX12_best_0 rfl 1 rfl ?_
  obtain ⟨q1, hq_, hf⟩ := ot_b hf
  refine gc_Si (rest := []) X kM_ok hK hA cw12_isLong (xm_isLong hq_) rfl ⟨rfl, rfl, Nat.le_of_ble_eq_true rfl, Nat.le_of_ble_eq_true rfl⟩ rfl (Nat.le_of_ble_eq_true rfl) dX12_best_1 ?_
  refine gr_if_ne X 9 dX12_best_4 (by decide) (fun hc_ => ?_) (fun hc_ => ?_)
  · replace hf := ot_t hf hc_
    refine gr_aload_n X dX12_best_9 rfl 0 rfl ?_
    refine gr_iload_n X dX12_best_10 rfl 1 rfl ?_
    refine gr_iconst (v := 0) X dX12_best_11 (by decide) ?_
    obtain ⟨σ3, hq_, hf⟩ := ot_b hf
    refine gc_Vv (rest := []) X kM_ok hK hA cw12_findsPlans (rvM hK) (xm_findsPlans hq_) rfl ⟨rfl, rfl, Nat.le_of_ble_eq_true rfl, Nat.le_of_ble_eq_true rfl⟩ rfl (Nat.le_of_ble_eq_true rfl) dX12_best_12 ?_
    refine gr_aload_n X dX12_best_15 rfl 0 rfl ?_
    refine gM_get_15 X hK dX12_best_16 ?_
    exact gr_iret X dX12_best_19 (Prod.mk.inj (Option.some.inj hf)).1 (Prod.mk.inj (Option.some.inj hf)).2
  · replace hf := ot_f hf hc_
    refine gr_iconst (v := -1) X dX12_best_7 (by decide) ?_
    exact gr_iret X dX12_best_8 (Prod.mk.inj (Option.some.inj hf)).1 (Prod.mk.inj (Option.some.inj hf)).2
abbrev rm_ith : Room := { frames := 74, cells := 0, slots := 0, locals := 1712 }
def fm_ith (x1 : Int32) (x2 : Int32) (σ : SM) : Option (Int32 × SM) := (Option.bind (fm_isLong x1) fun q1 => (if q1 = 0 then (some ((-1 : Int32), σ)) else (Option.bind (fm_isIn (Int32.toInt64 x2) (0 : Int64) (3 : Int64)) fun q2 => (if ¬ q2 = 0 then (Option.bind (fm_findsPlans x1 (0 : Int32) σ) fun σ4 => (if (σ4 17 0) ≤ x2 then (some ((-3 : Int32), σ4)) else (oc (hin x2 4) (some ((σ4 14 (Int32.toNatClampNeg x2)), σ4))))) else (some ((-1 : Int32), σ))))))
set_option maxHeartbeats 4000000 in
set_option maxRecDepth 100000 in
theorem xm_ith {l : Launch} {D : va_G} {cA : ClassId} {h : Nat} {ad : Nat → Nat} {σ : SM} {x1 : Int32} {x2 : Int32} {r : Int32} {τ : SM} (hf : fm_ith x1 x2 σ = some (r, τ)) : ctI l (wM h ad cA) D vwCl (kM D cA) yX12_ith cX12_ith 3 .int rm_ith [.ref h, .int x1, .int x2] σ r τ := by
  refine ct_I RX12 (by decide +kernel) rfl (Nat.le_of_ble_eq_true rfl) ?_
  intro p e s m args below meth c A X hK hA
  refine gr_eqL (L2 := [(0, .ref h), (1, .int x1), (2, .int x2)]) rfl ?_
  unfold fm_ith at hf
  refine gr_iload_n X dX12_ith_0 rfl 1 rfl ?_
  obtain ⟨q1, hq_, hf⟩ := ot_b hf
  refine gc_Si (rest := []) X kM_ok hK hA cw12_isLong (xm_isLong hq_) rfl ⟨rfl, rfl, Nat.le_of_ble_eq_true rfl, Nat.le_of_ble_eq_true rfl⟩ rfl (Nat.le_of_ble_eq_true rfl) dX12_ith_1 ?_
  refine gr_if_eq X 19 dX12_ith_4 (by decide) (fun hc_ => ?_) (fun hc_ => ?_)
  · replace hf := ot_t hf hc_
    refine gr_iconst (v := -1) X dX12_ith_19 (by decide) ?_
    exact gr_iret X dX12_ith_20 (Prod.mk.inj (Option.some.inj hf)).1 (Prod.mk.inj (Option.some.inj hf)).2
  · replace hf := ot_f hf hc_
    refine gr_iload_n X dX12_ith_7 rfl 2 rfl ?_
    refine gr_i2l X dX12_ith_8 ?_
    refine gr_lconst (v := 0) X dX12_ith_9 (by decide) ?_
    refine gr_ldc2_w X ck12_306 dX12_ith_10 ?_
    obtain ⟨q2, hq_, hf⟩ := ot_b hf
    refine gc_Si (rest := []) X kM_ok hK hA cw12_isIn (xm_isIn hq_) rfl ⟨rfl, rfl, Nat.le_of_ble_eq_true rfl, Nat.le_of_ble_eq_true rfl⟩ rfl (Nat.le_of_ble_eq_true rfl) dX12_ith_13 ?_
    refine gr_if_ne X 21 dX12_ith_16 (by decide) (fun hc_ => ?_) (fun hc_ => ?_)
    · replace hf := ot_t hf hc_
      refine gr_aload_n X dX12_ith_21 rfl 0 rfl ?_
      refine gr_iload_n X dX12_ith_22 rfl 1 rfl ?_
      refine gr_iconst (v := 0) X dX12_ith_23 (by decide) ?_
      obtain ⟨σ4, hq_, hf⟩ := ot_b hf
      refine gc_Vv (rest := []) X kM_ok hK hA cw12_findsPlans (rvM hK) (xm_findsPlans hq_) rfl ⟨rfl, rfl, Nat.le_of_ble_eq_true rfl, Nat.le_of_ble_eq_true rfl⟩ rfl (Nat.le_of_ble_eq_true rfl) dX12_ith_24 ?_
      refine gr_iload_n X dX12_ith_27 rfl 2 rfl ?_
      refine gr_aload_n X dX12_ith_28 rfl 0 rfl ?_
      refine gM_get_17 X hK dX12_ith_29 ?_
      refine gr_icmp_ge X 44 dX12_ith_32 (by decide) (fun hc_ => ?_) (fun hc_ => ?_)
      · replace hf := ot_t hf hc_
        refine gr_bipush (v := -3) X dX12_ith_44 (by decide) ?_
        exact gr_iret X dX12_ith_46 (Prod.mk.inj (Option.some.inj hf)).1 (Prod.mk.inj (Option.some.inj hf)).2
      · replace hf := ot_f hf hc_
        refine gr_aload_n X dX12_ith_35 rfl 0 rfl ?_
        refine gM_get_14 X hK dX12_ith_36 ?_
        refine gr_iload_n X dX12_ith_39 rfl 2 rfl ?_
        have hi_ := oc_1 hf
        replace hf := oc_2 hf
        refine gM_ald_14 X hK (Int32.toNatClampNeg x2) hi_ rfl dX12_ith_40 ?_
        refine gr_goto X 46 dX12_ith_41 (by decide) ?_
        exact gr_iret X dX12_ith_46 (Prod.mk.inj (Option.some.inj hf)).1 (Prod.mk.inj (Option.some.inj hf)).2
    · replace hf := ot_f hf hc_
      refine gr_iconst (v := -1) X dX12_ith_19 (by decide) ?_
      exact gr_iret X dX12_ith_20 (Prod.mk.inj (Option.some.inj hf)).1 (Prod.mk.inj (Option.some.inj hf)).2
abbrev rm_ways : Room := { frames := 74, cells := 0, slots := 0, locals := 1712 }
def fm_ways (x1 : Int32) (σ : SM) : Option (Int32 × SM) := (Option.bind (fm_isLong x1) fun q1 => (if ¬ q1 = 0 then (Option.bind (fm_findsPlans x1 (0 : Int32) σ) fun σ3 => (some ((σ3 16 0), σ3))) else (some ((-1 : Int32), σ))))
set_option maxHeartbeats 4000000 in
set_option maxRecDepth 100000 in
theorem xm_ways {l : Launch} {D : va_G} {cA : ClassId} {h : Nat} {ad : Nat → Nat} {σ : SM} {x1 : Int32} {r : Int32} {τ : SM} (hf : fm_ways x1 σ = some (r, τ)) : ctI l (wM h ad cA) D vwCl (kM D cA) yX12_ways cX12_ways 2 .int rm_ways [.ref h, .int x1] σ r τ := by
  refine ct_I RX12 (by decide +kernel) rfl (Nat.le_of_ble_eq_true rfl) ?_
  intro p e s m args below meth c A X hK hA
  refine gr_eqL (L2 := [(0, .ref h), (1, .int x1)]) rfl ?_
  unfold fm_ways at hf
  refine gr_iload_n X dX12_ways_0 rfl 1 rfl ?_
  obtain ⟨q1, hq_, hf⟩ := ot_b hf
  refine gc_Si (rest := []) X kM_ok hK hA cw12_isLong (xm_isLong hq_) rfl ⟨rfl, rfl, Nat.le_of_ble_eq_true rfl, Nat.le_of_ble_eq_true rfl⟩ rfl (Nat.le_of_ble_eq_true rfl) dX12_ways_1 ?_
  refine gr_if_ne X 9 dX12_ways_4 (by decide) (fun hc_ => ?_) (fun hc_ => ?_)
  · replace hf := ot_t hf hc_
    refine gr_aload_n X dX12_ways_9 rfl 0 rfl ?_
    refine gr_iload_n X dX12_ways_10 rfl 1 rfl ?_
    refine gr_iconst (v := 0) X dX12_ways_11 (by decide) ?_
    obtain ⟨σ3, hq_, hf⟩ := ot_b hf
    refine gc_Vv (rest := []) X kM_ok hK hA cw12_findsPlans (rvM hK) (xm_findsPlans hq_) rfl ⟨rfl, rfl, Nat.le_of_ble_eq_true rfl, Nat.le_of_ble_eq_true rfl⟩ rfl (Nat.le_of_ble_eq_true rfl) dX12_ways_12 ?_
    refine gr_aload_n X dX12_ways_15 rfl 0 rfl ?_
    refine gM_get_16 X hK dX12_ways_16 ?_
    exact gr_iret X dX12_ways_19 (Prod.mk.inj (Option.some.inj hf)).1 (Prod.mk.inj (Option.some.inj hf)).2
  · replace hf := ot_f hf hc_
    refine gr_iconst (v := -1) X dX12_ways_7 (by decide) ?_
    exact gr_iret X dX12_ways_8 (Prod.mk.inj (Option.some.inj hf)).1 (Prod.mk.inj (Option.some.inj hf)).2
abbrev rm_charter : Room := { frames := 74, cells := 0, slots := 0, locals := 1712 }
def fm_charter (x1 : Int32) (x2 : Int32) (σ : SM) : Option (Int32 × SM) := (Option.bind (fm_isLong x1) fun q1 => (if q1 = 0 then (some ((-1 : Int32), σ)) else (Option.bind (fm_isSet σ x2) fun q2 => (if ¬ q2 = 0 then (Option.bind (fm_findsPlans x1 x2 σ) fun σ4 => (if (9 : Int32) ≤ (σ4 19 0) then (some ((-3 : Int32), σ4)) else (some ((σ4 19 0), σ4)))) else (some ((-1 : Int32), σ))))))
set_option maxHeartbeats 4000000 in
set_option maxRecDepth 100000 in
theorem xm_charter {l : Launch} {D : va_G} {cA : ClassId} {h : Nat} {ad : Nat → Nat} {σ : SM} {x1 : Int32} {x2 : Int32} {r : Int32} {τ : SM} (hf : fm_charter x1 x2 σ = some (r, τ)) : ctI l (wM h ad cA) D vwCl (kM D cA) yX12_charter cX12_charter 3 .int rm_charter [.ref h, .int x1, .int x2] σ r τ := by
  refine ct_I RX12 (by decide +kernel) rfl (Nat.le_of_ble_eq_true rfl) ?_
  intro p e s m args below meth c A X hK hA
  refine gr_eqL (L2 := [(0, .ref h), (1, .int x1), (2, .int x2)]) rfl ?_
  unfold fm_charter at hf
  refine gr_iload_n X dX12_charter_0 rfl 1 rfl ?_
  obtain ⟨q1, hq_, hf⟩ := ot_b hf
  refine gc_Si (rest := []) X kM_ok hK hA cw12_isLong (xm_isLong hq_) rfl ⟨rfl, rfl, Nat.le_of_ble_eq_true rfl, Nat.le_of_ble_eq_true rfl⟩ rfl (Nat.le_of_ble_eq_true rfl) dX12_charter_1 ?_
  refine gr_if_eq X 15 dX12_charter_4 (by decide) (fun hc_ => ?_) (fun hc_ => ?_)
  · replace hf := ot_t hf hc_
    refine gr_iconst (v := -1) X dX12_charter_15 (by decide) ?_
    exact gr_iret X dX12_charter_16 (Prod.mk.inj (Option.some.inj hf)).1 (Prod.mk.inj (Option.some.inj hf)).2
  · replace hf := ot_f hf hc_
    refine gr_aload_n X dX12_charter_7 rfl 0 rfl ?_
    refine gr_iload_n X dX12_charter_8 rfl 2 rfl ?_
    obtain ⟨q2, hq_, hf⟩ := ot_b hf
    refine gc_Vi (rest := []) X kM_ok hK hA cw12_isSet (rvM hK) (xm_isSet hq_) rfl ⟨rfl, rfl, Nat.le_of_ble_eq_true rfl, Nat.le_of_ble_eq_true rfl⟩ rfl (Nat.le_of_ble_eq_true rfl) dX12_charter_9 ?_
    refine gr_if_ne X 17 dX12_charter_12 (by decide) (fun hc_ => ?_) (fun hc_ => ?_)
    · replace hf := ot_t hf hc_
      refine gr_aload_n X dX12_charter_17 rfl 0 rfl ?_
      refine gr_iload_n X dX12_charter_18 rfl 1 rfl ?_
      refine gr_iload_n X dX12_charter_19 rfl 2 rfl ?_
      obtain ⟨σ4, hq_, hf⟩ := ot_b hf
      refine gc_Vv (rest := []) X kM_ok hK hA cw12_findsPlans (rvM hK) (xm_findsPlans hq_) rfl ⟨rfl, rfl, Nat.le_of_ble_eq_true rfl, Nat.le_of_ble_eq_true rfl⟩ rfl (Nat.le_of_ble_eq_true rfl) dX12_charter_20 ?_
      refine gr_aload_n X dX12_charter_23 rfl 0 rfl ?_
      refine gM_get_19 X hK dX12_charter_24 ?_
      refine gr_bipush (v := 9) X dX12_charter_27 (by decide) ?_
      refine gr_icmp_ge X 39 dX12_charter_29 (by decide) (fun hc_ => ?_) (fun hc_ => ?_)
      · replace hf := ot_t hf hc_
        refine gr_bipush (v := -3) X dX12_charter_39 (by decide) ?_
        exact gr_iret X dX12_charter_41 (Prod.mk.inj (Option.some.inj hf)).1 (Prod.mk.inj (Option.some.inj hf)).2
      · replace hf := ot_f hf hc_
        refine gr_aload_n X dX12_charter_32 rfl 0 rfl ?_
        refine gM_get_19 X hK dX12_charter_33 ?_
        refine gr_goto X 41 dX12_charter_36 (by decide) ?_
        exact gr_iret X dX12_charter_41 (Prod.mk.inj (Option.some.inj hf)).1 (Prod.mk.inj (Option.some.inj hf)).2
    · replace hf := ot_f hf hc_
      refine gr_iconst (v := -1) X dX12_charter_15 (by decide) ?_
      exact gr_iret X dX12_charter_16 (Prod.mk.inj (Option.some.inj hf)).1 (Prod.mk.inj (Option.some.inj hf)).2
abbrev rm_bars : Room := { frames := 74, cells := 0, slots := 0, locals := 1712 }
def fm_bars_l25 : Nat → Int32 → Int32 → SM → Option (Int32 × SM)
  | 0, _, _, _ => none
  | n + 1, x2, x3, σ => (if (σ 0 0) ≤ x3 then (some ((-3 : Int32), σ)) else (if ¬ (((x2 &&& ((σ 20 0) ^^^ (-1 : Int32))) >>> (x3 &&& 31)) &&& (1 : Int32)) = (1 : Int32) then ((fm_bars_l25 n) x2 (x3 + (1 : Int32)) σ) else (some (x3, σ))))
def fm_bars (x1 : Int32) (x2 : Int32) (σ : SM) : Option (Int32 × SM) := (Option.bind (fm_isLong x1) fun q1 => (if q1 = 0 then (some ((-1 : Int32), σ)) else (Option.bind (fm_isSet σ x2) fun q2 => (if ¬ q2 = 0 then (Option.bind (fm_findsPlans x1 x2 σ) fun σ4 => (fm_bars_l25 hFU x2 (0 : Int32) σ4)) else (some ((-1 : Int32), σ))))))
set_option maxHeartbeats 4000000 in
set_option maxRecDepth 100000 in
theorem wm_bars_l25 {p : Program} {l : Launch} {e : Env} {s : State} {m : MethodId} {args : Array Value} {below : List Frame} {meth : Method} {c : Code} {A : Nat → Prop} {D : va_G} {cA : ClassId} {h : Nat} {ad : Nat → Nat} {r : Int32} {τ : SM} (X : hc p s m args meth c RX12 cX12_bars 4 (some .int)) (hK : kM D cA A s) (hA : ∀ q, s.heap.size ≤ q → A q)  : ∀ (n : Nat) (x2 : Int32) (x3 : Int32) (σ : SM), fm_bars_l25 n x2 x3 σ = some (r, τ) → gg p l e rm_bars s m args below meth c (wM h ad cA) D vwCl A 4 (QI below args s (wM h ad cA) D vwCl A r τ) 25 [(0, .ref h), (2, .int x2), (3, .int x3)] [] σ := by
  intro n
  induction n with
  | zero =>
    intro x2 x3 σ hf
    cases (show (none : Option (Int32 × SM)) = some (r, τ) from hf)
  | succ n ih =>
    intro x2 x3 σ hf
    unfold fm_bars_l25 at hf
    refine gr_iload_n X dX12_bars_25 rfl 2 rfl ?_
    refine gr_aload_n X dX12_bars_26 rfl 0 rfl ?_
    refine gM_get_0 X hK dX12_bars_27 ?_
    refine gr_iconst (v := 0) X dX12_bars_30 (by decide) ?_
    refine gM_ald_0 X hK 0 (by decide) (by decide) dX12_bars_31 ?_
    refine gr_icmp_ge X 59 dX12_bars_32 (by decide) (fun hc_ => ?_) (fun hc_ => ?_)
    · replace hf := ot_t hf hc_
      refine gr_bipush (v := -3) X dX12_bars_59 (by decide) ?_
      exact gr_iret X dX12_bars_61 (Prod.mk.inj (Option.some.inj hf)).1 (Prod.mk.inj (Option.some.inj hf)).2
    · replace hf := ot_f hf hc_
      refine gr_iload_n X dX12_bars_35 rfl 1 rfl ?_
      refine gr_aload_n X dX12_bars_36 rfl 0 rfl ?_
      refine gM_get_20 X hK dX12_bars_37 ?_
      refine gr_iconst (v := -1) X dX12_bars_40 (by decide) ?_
      refine gr_ixor X dX12_bars_41 ?_
      refine gr_iand X dX12_bars_42 ?_
      refine gr_iload_n X dX12_bars_43 rfl 2 rfl ?_
      refine gr_ishr X dX12_bars_44 ?_
      refine gr_iconst (v := 1) X dX12_bars_45 (by decide) ?_
      refine gr_iand X dX12_bars_46 ?_
      refine gr_iconst (v := 1) X dX12_bars_47 (by decide) ?_
      refine gr_icmp_ne X 53 dX12_bars_48 (by decide) (fun hc_ => ?_) (fun hc_ => ?_)
      · replace hf := ot_t hf hc_
        refine gr_iinc (k := 2) (v := 1) (L2 := [(3, .int (x3 + (1 : Int32))), (0, .ref h), (2, .int x2)]) X dX12_bars_53 rfl (by decide) (by decide) rfl ?_
        refine gr_goto X 25 dX12_bars_56 (by decide) ?_
        refine gr_sub [1, 2, 0] rfl ?_
        exact ih _ _ _ hf
      · replace hf := ot_f hf hc_
        refine gr_iload_n X dX12_bars_51 rfl 2 rfl ?_
        exact gr_iret X dX12_bars_52 (Prod.mk.inj (Option.some.inj hf)).1 (Prod.mk.inj (Option.some.inj hf)).2
set_option maxHeartbeats 4000000 in
set_option maxRecDepth 100000 in
theorem xm_bars {l : Launch} {D : va_G} {cA : ClassId} {h : Nat} {ad : Nat → Nat} {σ : SM} {x1 : Int32} {x2 : Int32} {r : Int32} {τ : SM} (hf : fm_bars x1 x2 σ = some (r, τ)) : ctI l (wM h ad cA) D vwCl (kM D cA) yX12_bars cX12_bars 4 .int rm_bars [.ref h, .int x1, .int x2] σ r τ := by
  refine ct_I RX12 (by decide +kernel) rfl (Nat.le_of_ble_eq_true rfl) ?_
  intro p e s m args below meth c A X hK hA
  refine gr_eqL (L2 := [(0, .ref h), (1, .int x1), (2, .int x2)]) rfl ?_
  unfold fm_bars at hf
  refine gr_iload_n X dX12_bars_0 rfl 1 rfl ?_
  obtain ⟨q1, hq_, hf⟩ := ot_b hf
  refine gc_Si (rest := []) X kM_ok hK hA cw12_isLong (xm_isLong hq_) rfl ⟨rfl, rfl, Nat.le_of_ble_eq_true rfl, Nat.le_of_ble_eq_true rfl⟩ rfl (Nat.le_of_ble_eq_true rfl) dX12_bars_1 ?_
  refine gr_if_eq X 15 dX12_bars_4 (by decide) (fun hc_ => ?_) (fun hc_ => ?_)
  · replace hf := ot_t hf hc_
    refine gr_iconst (v := -1) X dX12_bars_15 (by decide) ?_
    exact gr_iret X dX12_bars_16 (Prod.mk.inj (Option.some.inj hf)).1 (Prod.mk.inj (Option.some.inj hf)).2
  · replace hf := ot_f hf hc_
    refine gr_aload_n X dX12_bars_7 rfl 0 rfl ?_
    refine gr_iload_n X dX12_bars_8 rfl 2 rfl ?_
    obtain ⟨q2, hq_, hf⟩ := ot_b hf
    refine gc_Vi (rest := []) X kM_ok hK hA cw12_isSet (rvM hK) (xm_isSet hq_) rfl ⟨rfl, rfl, Nat.le_of_ble_eq_true rfl, Nat.le_of_ble_eq_true rfl⟩ rfl (Nat.le_of_ble_eq_true rfl) dX12_bars_9 ?_
    refine gr_if_ne X 17 dX12_bars_12 (by decide) (fun hc_ => ?_) (fun hc_ => ?_)
    · replace hf := ot_t hf hc_
      refine gr_aload_n X dX12_bars_17 rfl 0 rfl ?_
      refine gr_iload_n X dX12_bars_18 rfl 1 rfl ?_
      refine gr_iload_n X dX12_bars_19 rfl 2 rfl ?_
      obtain ⟨σ4, hq_, hf⟩ := ot_b hf
      refine gc_Vv (rest := []) X kM_ok hK hA cw12_findsPlans (rvM hK) (xm_findsPlans hq_) rfl ⟨rfl, rfl, Nat.le_of_ble_eq_true rfl, Nat.le_of_ble_eq_true rfl⟩ rfl (Nat.le_of_ble_eq_true rfl) dX12_bars_20 ?_
      refine gr_iconst (v := 0) X dX12_bars_23 (by decide) ?_
      refine gr_istore_n (L2 := [(3, .int (0 : Int32)), (0, .ref h), (1, .int x1), (2, .int x2)]) X dX12_bars_24 rfl (by decide) rfl ?_
      refine gr_sub [1, 3, 0] rfl ?_
      refine wm_bars_l25 X hK hA  hFU _ _ _ hf
    · replace hf := ot_f hf hc_
      refine gr_iconst (v := -1) X dX12_bars_15 (by decide) ?_
      exact gr_iret X dX12_bars_16 (Prod.mk.inj (Option.some.inj hf)).1 (Prod.mk.inj (Option.some.inj hf)).2
def rm_valueFrom (rq : Room) : Room := { frames := rq.frames + 9, cells := 0, slots := 0, locals := rq.locals + 209 }
def fm_valueFrom_b97 (Rc : Int32 → Int32 → SM → Option (Int32 × SM)) (K27 : Int32 → Int32 → Int32 → Int32 → Int32 → SM → Option (Int32 × SM)) (x1 : Int32) (x2 : Int32) (x3 : Int32) (x4 : Int32) (x5 : Int32) (σ : SM) : Option (Int32 × SM) := (K27 x1 x2 x3 x4 (x5 + (1 : Int32)) σ)
def fm_valueFrom_b90 (Rc : Int32 → Int32 → SM → Option (Int32 × SM)) (K27 : Int32 → Int32 → Int32 → Int32 → Int32 → SM → Option (Int32 × SM)) (x1 : Int32) (x2 : Int32) (x5 : Int32) (x7 : Int32) (σ : SM) : Option (Int32 × SM) := (fm_valueFrom_b97 Rc K27 x1 x2 x7 x5 x5 σ)
def fm_valueFrom_l27 (Rc : Int32 → Int32 → SM → Option (Int32 × SM)) : Nat → Int32 → Int32 → Int32 → Int32 → Int32 → SM → Option (Int32 × SM)
  | 0, _, _, _, _, _, _ => none
  | n + 1, x1, x2, x3, x4, x5, σ => (if (σ 0 0) < x5 then (hl (sf σ 21 (fun _ => x4)) fun σ4 => (some (x3, σ4))) else (Option.bind (fm_goesWith x5 σ) fun p_ => hl p_.1 fun q5 => hl p_.2 fun σ6 => (Option.bind (Rc (x1 + (1 : Int32)) x2 σ6) fun p_ => hl p_.1 fun q7 => hl p_.2 fun σ8 => (hl (q5 + q7) fun v9 => (Option.bind (fm_laysBack x1 σ8) fun σ11 => (if x4 < 0 then (fm_valueFrom_b90 Rc (fm_valueFrom_l27 Rc n) x1 x2 x5 v9 σ11) else (if ¬ (hrem x1 (2 : Int32)) = 0 then (if x3 ≤ v9 then (fm_valueFrom_b97 Rc (fm_valueFrom_l27 Rc n) x1 x2 x3 x4 x5 σ11) else (fm_valueFrom_b90 Rc (fm_valueFrom_l27 Rc n) x1 x2 x5 v9 σ11)) else (if v9 ≤ x3 then (fm_valueFrom_b97 Rc (fm_valueFrom_l27 Rc n) x1 x2 x3 x4 x5 σ11) else (fm_valueFrom_b90 Rc (fm_valueFrom_l27 Rc n) x1 x2 x5 v9 σ11)))))))))
def fm_valueFrom (Rc : Int32 → Int32 → SM → Option (Int32 × SM)) (x1 : Int32) (x2 : Int32) (σ : SM) : Option (Int32 × SM) := (if x1 = x2 then (some ((0 : Int32), σ)) else (Option.bind (fm_isOver σ) fun q1 => (if q1 = 0 then (Option.bind (fm_laysAside x1 σ) fun σ3 => (fm_valueFrom_l27 Rc hFU x1 x2 (0 : Int32) (-1 : Int32) (0 : Int32) σ3)) else (some ((0 : Int32), σ)))))
set_option maxHeartbeats 4000000 in
set_option maxRecDepth 100000 in
theorem wm_valueFrom_b97 {p : Program} {l : Launch} {e : Env} {s : State} {m : MethodId} {args : Array Value} {below : List Frame} {meth : Method} {c : Code} {A : Nat → Prop} {D : va_G} {cA : ClassId} {h : Nat} {ad : Nat → Nat} {r : Int32} {τ : SM} {rq : Room} {Rc : Int32 → Int32 → SM → Option (Int32 × SM)} {K27 : Int32 → Int32 → Int32 → Int32 → Int32 → SM → Option (Int32 × SM)} (X : hc p s m args meth c RX12 cX12_valueFrom 8 (some .int)) (hK : kM D cA A s) (hA : ∀ q, s.heap.size ≤ q → A q) (hq0 : rq.cells = 0 ∧ rq.slots = 0) (hRc : ∀ (σ : SM) (x1 : Int32) (x2 : Int32) (r : Int32) (τ : SM), Rc x1 x2 σ = some (r, τ) → ctI l (wM h ad cA) D vwCl (kM D cA) yX12_valueFrom cX12_valueFrom 8 .int rq [.ref h, .int x1, .int x2] σ r τ) (hK27 : (∀ (x1 : Int32) (x2 : Int32) (x3 : Int32) (x4 : Int32) (x5 : Int32) (σ : SM), K27 x1 x2 x3 x4 x5 σ = some (r, τ) → gg p l e (rm_valueFrom rq) s m args below meth c (wM h ad cA) D vwCl A 8 (QI below args s (wM h ad cA) D vwCl A r τ) 27 [(0, .ref h), (1, .int x1), (2, .int x2), (3, .int x3), (4, .int x4), (5, .int x5)] [] σ))  (x1 : Int32) (x2 : Int32) (x3 : Int32) (x4 : Int32) (x5 : Int32) (σ : SM) (hf : fm_valueFrom_b97 Rc K27 x1 x2 x3 x4 x5 σ = some (r, τ)) : gg p l e (rm_valueFrom rq) s m args below meth c (wM h ad cA) D vwCl A 8 (QI below args s (wM h ad cA) D vwCl A r τ) 97 [(0, .ref h), (1, .int x1), (2, .int x2), (3, .int x3), (4, .int x4), (5, .int x5)] [] σ := by
  unfold fm_valueFrom_b97 at hf
  refine gr_iinc (k := 5) (v := 1) (L2 := [(5, .int (x5 + (1 : Int32))), (0, .ref h), (1, .int x1), (2, .int x2), (3, .int x3), (4, .int x4)]) X dX12_valueFrom_97 rfl (by decide) (by decide) rfl ?_
  refine gr_goto X 27 dX12_valueFrom_100 (by decide) ?_
  refine gr_sub [1, 2, 3, 4, 5, 0] rfl ?_
  exact hK27 _ _ _ _ _ _ hf
set_option maxHeartbeats 4000000 in
set_option maxRecDepth 100000 in
theorem wm_valueFrom_b90 {p : Program} {l : Launch} {e : Env} {s : State} {m : MethodId} {args : Array Value} {below : List Frame} {meth : Method} {c : Code} {A : Nat → Prop} {D : va_G} {cA : ClassId} {h : Nat} {ad : Nat → Nat} {r : Int32} {τ : SM} {rq : Room} {Rc : Int32 → Int32 → SM → Option (Int32 × SM)} {K27 : Int32 → Int32 → Int32 → Int32 → Int32 → SM → Option (Int32 × SM)} (X : hc p s m args meth c RX12 cX12_valueFrom 8 (some .int)) (hK : kM D cA A s) (hA : ∀ q, s.heap.size ≤ q → A q) (hq0 : rq.cells = 0 ∧ rq.slots = 0) (hRc : ∀ (σ : SM) (x1 : Int32) (x2 : Int32) (r : Int32) (τ : SM), Rc x1 x2 σ = some (r, τ) → ctI l (wM h ad cA) D vwCl (kM D cA) yX12_valueFrom cX12_valueFrom 8 .int rq [.ref h, .int x1, .int x2] σ r τ) (hK27 : (∀ (x1 : Int32) (x2 : Int32) (x3 : Int32) (x4 : Int32) (x5 : Int32) (σ : SM), K27 x1 x2 x3 x4 x5 σ = some (r, τ) → gg p l e (rm_valueFrom rq) s m args below meth c (wM h ad cA) D vwCl A 8 (QI below args s (wM h ad cA) D vwCl A r τ) 27 [(0, .ref h), (1, .int x1), (2, .int x2), (3, .int x3), (4, .int x4), (5, .int x5)] [] σ))  (x1 : Int32) (x2 : Int32) (x5 : Int32) (x7 : Int32) (σ : SM) (hf : fm_valueFrom_b90 Rc K27 x1 x2 x5 x7 σ = some (r, τ)) : gg p l e (rm_valueFrom rq) s m args below meth c (wM h ad cA) D vwCl A 8 (QI below args s (wM h ad cA) D vwCl A r τ) 90 [(0, .ref h), (1, .int x1), (2, .int x2), (5, .int x5), (7, .int x7)] [] σ := by
  unfold fm_valueFrom_b90 at hf
  refine gr_iload X dX12_valueFrom_90 4 rfl ?_
  refine gr_istore_n (L2 := [(3, .int x7), (0, .ref h), (1, .int x1), (2, .int x2), (5, .int x5), (7, .int x7)]) X dX12_valueFrom_92 rfl (by decide) rfl ?_
  refine gr_iload X dX12_valueFrom_93 4 rfl ?_
  refine gr_istore (L2 := [(4, .int x5), (3, .int x7), (0, .ref h), (1, .int x1), (2, .int x2), (5, .int x5), (7, .int x7)]) X dX12_valueFrom_95 (by decide) rfl ?_
  refine gr_sub [2, 3, 4, 1, 0, 5] rfl ?_
  exact wm_valueFrom_b97 X hK hA hq0 hRc hK27 _ _ _ _ _ _ hf
set_option maxHeartbeats 4000000 in
set_option maxRecDepth 100000 in
theorem wm_valueFrom_l27 {p : Program} {l : Launch} {e : Env} {s : State} {m : MethodId} {args : Array Value} {below : List Frame} {meth : Method} {c : Code} {A : Nat → Prop} {D : va_G} {cA : ClassId} {h : Nat} {ad : Nat → Nat} {r : Int32} {τ : SM} {rq : Room} {Rc : Int32 → Int32 → SM → Option (Int32 × SM)} (X : hc p s m args meth c RX12 cX12_valueFrom 8 (some .int)) (hK : kM D cA A s) (hA : ∀ q, s.heap.size ≤ q → A q) (hq0 : rq.cells = 0 ∧ rq.slots = 0) (hRc : ∀ (σ : SM) (x1 : Int32) (x2 : Int32) (r : Int32) (τ : SM), Rc x1 x2 σ = some (r, τ) → ctI l (wM h ad cA) D vwCl (kM D cA) yX12_valueFrom cX12_valueFrom 8 .int rq [.ref h, .int x1, .int x2] σ r τ)  : ∀ (n : Nat) (x1 : Int32) (x2 : Int32) (x3 : Int32) (x4 : Int32) (x5 : Int32) (σ : SM), fm_valueFrom_l27 Rc n x1 x2 x3 x4 x5 σ = some (r, τ) → gg p l e (rm_valueFrom rq) s m args below meth c (wM h ad cA) D vwCl A 8 (QI below args s (wM h ad cA) D vwCl A r τ) 27 [(0, .ref h), (1, .int x1), (2, .int x2), (3, .int x3), (4, .int x4), (5, .int x5)] [] σ := by
  intro n
  induction n with
  | zero =>
    intro x1 x2 x3 x4 x5 σ hf
    cases (show (none : Option (Int32 × SM)) = some (r, τ) from hf)
  | succ n ih =>
    intro x1 x2 x3 x4 x5 σ hf
    unfold fm_valueFrom_l27 at hf
    refine gr_iload X dX12_valueFrom_27 5 rfl ?_
    refine gr_aload_n X dX12_valueFrom_29 rfl 0 rfl ?_
    refine gM_get_0 X hK dX12_valueFrom_30 ?_
    refine gr_iconst (v := 0) X dX12_valueFrom_33 (by decide) ?_
    refine gM_ald_0 X hK 0 (by decide) (by decide) dX12_valueFrom_34 ?_
    refine gr_icmp_gt X 103 dX12_valueFrom_35 (by decide) (fun hc_ => ?_) (fun hc_ => ?_)
    · replace hf := ot_t hf hc_
      refine gr_aload_n X dX12_valueFrom_103 rfl 0 rfl ?_
      refine gr_iload X dX12_valueFrom_104 4 rfl ?_
      refine gM_put_21 X hK dX12_valueFrom_106 ?_
      refine gM_gen (fun σ4 e_σ4 => ?_)
      replace hf := ot_l hf e_σ4
      refine gr_iload_n X dX12_valueFrom_109 rfl 3 rfl ?_
      exact gr_iret X dX12_valueFrom_110 (Prod.mk.inj (Option.some.inj hf)).1 (Prod.mk.inj (Option.some.inj hf)).2
    · replace hf := ot_f hf hc_
      refine gr_aload_n X dX12_valueFrom_38 rfl 0 rfl ?_
      refine gr_iload X dX12_valueFrom_39 5 rfl ?_
      obtain ⟨⟨q5, σ6⟩, hq_, hf⟩ := ot_b hf
      replace hf := ot_l (y := q5) hf rfl
      replace hf := ot_l (y := σ6) hf rfl
      refine gc_Vi (rest := []) X kM_ok hK hA cw12_goesWith (rvM hK) (xm_goesWith hq_) rfl ⟨rfl, rfl, by simp only [rm_valueFrom, rm_goesWith]; omega, by simp only [rm_valueFrom, rm_goesWith]; omega⟩ rfl (Nat.le_of_ble_eq_true rfl) dX12_valueFrom_41 ?_
      refine gr_istore (L2 := [(6, .int q5), (0, .ref h), (1, .int x1), (2, .int x2), (3, .int x3), (4, .int x4), (5, .int x5)]) X dX12_valueFrom_44 (by decide) rfl ?_
      refine gr_iload X dX12_valueFrom_46 0 rfl ?_
      refine gr_aload_n X dX12_valueFrom_48 rfl 1 rfl ?_
      refine gr_iload_n X dX12_valueFrom_49 rfl 2 rfl ?_
      refine gr_iconst (v := 1) X dX12_valueFrom_50 (by decide) ?_
      refine gr_iadd X dX12_valueFrom_51 ?_
      refine gr_iload_n X dX12_valueFrom_52 rfl 3 rfl ?_
      obtain ⟨⟨q7, σ8⟩, hq_, hf⟩ := ot_b hf
      replace hf := ot_l (y := q7) hf rfl
      replace hf := ot_l (y := σ8) hf rfl
      refine gc_Vi (rest := [.int q5]) X kM_ok hK hA cw12_valueFrom (rvM hK) (hRc _ _ _ _ _ hq_) rfl ⟨hq0.1, hq0.2, by simp only [rm_valueFrom]; omega, by simp only [rm_valueFrom]; omega⟩ rfl (Nat.le_of_ble_eq_true rfl) dX12_valueFrom_53 ?_
      refine gr_iadd X dX12_valueFrom_56 ?_
      refine gM_top (fun v9 e_v9 => ?_)
      replace hf := ot_l hf e_v9
      refine gr_istore (L2 := [(7, .int v9), (6, .int q5), (0, .ref h), (1, .int x1), (2, .int x2), (3, .int x3), (4, .int x4), (5, .int x5)]) X dX12_valueFrom_57 (by decide) rfl ?_
      refine gr_aload_n X dX12_valueFrom_59 rfl 2 rfl ?_
      refine gr_iload_n X dX12_valueFrom_60 rfl 3 rfl ?_
      obtain ⟨σ11, hq_, hf⟩ := ot_b hf
      refine gc_Vv (rest := []) X kM_ok hK hA cw12_laysBack (rvM hK) (xm_laysBack hq_) rfl ⟨rfl, rfl, by simp only [rm_valueFrom, rm_laysBack]; omega, by simp only [rm_valueFrom, rm_laysBack]; omega⟩ rfl (Nat.le_of_ble_eq_true rfl) dX12_valueFrom_61 ?_
      refine gr_iload X dX12_valueFrom_64 6 rfl ?_
      refine gr_if_lt X 90 dX12_valueFrom_66 (by decide) (fun hc_ => ?_) (fun hc_ => ?_)
      · replace hf := ot_t hf hc_
        refine gr_sub [2, 3, 4, 7, 0] rfl ?_
        exact wm_valueFrom_b90 X hK hA hq0 hRc ih _ _ _ _ _ hf
      · replace hf := ot_f hf hc_
        refine gr_iload_n X dX12_valueFrom_69 rfl 3 rfl ?_
        refine gr_iconst (v := 2) X dX12_valueFrom_70 (by decide) ?_
        refine gr_irem X dX12_valueFrom_71 (by decide) ?_
        refine gr_if_ne X 84 dX12_valueFrom_72 (by decide) (fun hc_ => ?_) (fun hc_ => ?_)
        · replace hf := ot_t hf hc_
          refine gr_iload X dX12_valueFrom_84 0 rfl ?_
          refine gr_iload_n X dX12_valueFrom_86 rfl 5 rfl ?_
          refine gr_icmp_ge X 97 dX12_valueFrom_87 (by decide) (fun hc_ => ?_) (fun hc_ => ?_)
          · replace hf := ot_t hf hc_
            refine gr_sub [2, 3, 4, 5, 6, 7] rfl ?_
            exact wm_valueFrom_b97 X hK hA hq0 hRc ih _ _ _ _ _ _ hf
          · replace hf := ot_f hf hc_
            refine gr_sub [2, 3, 4, 7, 0] rfl ?_
            exact wm_valueFrom_b90 X hK hA hq0 hRc ih _ _ _ _ _ hf
        · replace hf := ot_f hf hc_
          refine gr_iload X dX12_valueFrom_75 0 rfl ?_
          refine gr_iload_n X dX12_valueFrom_77 rfl 5 rfl ?_
          refine gr_icmp_le X 97 dX12_valueFrom_78 (by decide) (fun hc_ => ?_) (fun hc_ => ?_)
          · replace hf := ot_t hf hc_
            refine gr_sub [2, 3, 4, 5, 6, 7] rfl ?_
            exact wm_valueFrom_b97 X hK hA hq0 hRc ih _ _ _ _ _ _ hf
          · replace hf := ot_f hf hc_
            refine gr_goto X 90 dX12_valueFrom_81 (by decide) ?_
            refine gr_sub [2, 3, 4, 7, 0] rfl ?_
            exact wm_valueFrom_b90 X hK hA hq0 hRc ih _ _ _ _ _ hf
set_option maxHeartbeats 4000000 in
set_option maxRecDepth 100000 in
theorem xm_valueFrom {l : Launch} {D : va_G} {cA : ClassId} {h : Nat} {ad : Nat → Nat} {σ : SM} {x1 : Int32} {x2 : Int32} {r : Int32} {τ : SM} {rq : Room} {Rc : Int32 → Int32 → SM → Option (Int32 × SM)} (hq0 : rq.cells = 0 ∧ rq.slots = 0) (hRc : ∀ (σ : SM) (x1 : Int32) (x2 : Int32) (r : Int32) (τ : SM), Rc x1 x2 σ = some (r, τ) → ctI l (wM h ad cA) D vwCl (kM D cA) yX12_valueFrom cX12_valueFrom 8 .int rq [.ref h, .int x1, .int x2] σ r τ) (hf : fm_valueFrom Rc x1 x2 σ = some (r, τ)) : ctI l (wM h ad cA) D vwCl (kM D cA) yX12_valueFrom cX12_valueFrom 8 .int (rm_valueFrom rq) [.ref h, .int x1, .int x2] σ r τ := by
  refine ct_I RX12 (by decide +kernel) rfl (Nat.le_of_ble_eq_true rfl) ?_
  intro p e s m args below meth c A X hK hA
  refine gr_eqL (L2 := [(0, .ref h), (1, .int x1), (2, .int x2)]) rfl ?_
  unfold fm_valueFrom at hf
  refine gr_iload_n X dX12_valueFrom_0 rfl 1 rfl ?_
  refine gr_iload_n X dX12_valueFrom_1 rfl 2 rfl ?_
  refine gr_icmp_eq X 12 dX12_valueFrom_2 (by decide) (fun hc_ => ?_) (fun hc_ => ?_)
  · replace hf := ot_t hf hc_
    refine gr_iconst (v := 0) X dX12_valueFrom_12 (by decide) ?_
    exact gr_iret X dX12_valueFrom_13 (Prod.mk.inj (Option.some.inj hf)).1 (Prod.mk.inj (Option.some.inj hf)).2
  · replace hf := ot_f hf hc_
    refine gr_aload_n X dX12_valueFrom_5 rfl 0 rfl ?_
    obtain ⟨q1, hq_, hf⟩ := ot_b hf
    refine gc_Vi (rest := []) X kM_ok hK hA cw12_isOver (rvM hK) (xm_isOver hq_) rfl ⟨rfl, rfl, by simp only [rm_valueFrom, rm_isOver]; omega, by simp only [rm_valueFrom, rm_isOver]; omega⟩ rfl (Nat.le_of_ble_eq_true rfl) dX12_valueFrom_6 ?_
    refine gr_if_eq X 14 dX12_valueFrom_9 (by decide) (fun hc_ => ?_) (fun hc_ => ?_)
    · replace hf := ot_t hf hc_
      refine gr_aload_n X dX12_valueFrom_14 rfl 0 rfl ?_
      refine gr_iload_n X dX12_valueFrom_15 rfl 1 rfl ?_
      obtain ⟨σ3, hq_, hf⟩ := ot_b hf
      refine gc_Vv (rest := []) X kM_ok hK hA cw12_laysAside (rvM hK) (xm_laysAside hq_) rfl ⟨rfl, rfl, by simp only [rm_valueFrom, rm_laysAside]; omega, by simp only [rm_valueFrom, rm_laysAside]; omega⟩ rfl (Nat.le_of_ble_eq_true rfl) dX12_valueFrom_16 ?_
      refine gr_iconst (v := 0) X dX12_valueFrom_19 (by decide) ?_
      refine gr_istore_n (L2 := [(3, .int (0 : Int32)), (0, .ref h), (1, .int x1), (2, .int x2)]) X dX12_valueFrom_20 rfl (by decide) rfl ?_
      refine gr_iconst (v := -1) X dX12_valueFrom_21 (by decide) ?_
      refine gr_istore (L2 := [(4, .int (-1 : Int32)), (3, .int (0 : Int32)), (0, .ref h), (1, .int x1), (2, .int x2)]) X dX12_valueFrom_22 (by decide) rfl ?_
      refine gr_iconst (v := 0) X dX12_valueFrom_24 (by decide) ?_
      refine gr_istore (L2 := [(5, .int (0 : Int32)), (4, .int (-1 : Int32)), (3, .int (0 : Int32)), (0, .ref h), (1, .int x1), (2, .int x2)]) X dX12_valueFrom_25 (by decide) rfl ?_
      refine gr_sub [3, 4, 5, 2, 1, 0] rfl ?_
      refine wm_valueFrom_l27 X hK hA hq0 hRc  hFU _ _ _ _ _ _ hf
    · replace hf := ot_f hf hc_
      refine gr_iconst (v := 0) X dX12_valueFrom_12 (by decide) ?_
      exact gr_iret X dX12_valueFrom_13 (Prod.mk.inj (Option.some.inj hf)).1 (Prod.mk.inj (Option.some.inj hf)).2
def fm_valueFromD : Nat → Int32 → Int32 → SM → Option (Int32 × SM)
  | 0 => fun _ _ _ => none
  | d + 1 => fm_valueFrom (fm_valueFromD d)
def rm_valueFromD : Nat → Room
  | 0 => { frames := 0, cells := 0, slots := 0, locals := 0 }
  | d + 1 => rm_valueFrom (rm_valueFromD d)
theorem rm_valueFromD_0 : ∀ d, (rm_valueFromD d).cells = 0 ∧ (rm_valueFromD d).slots = 0
  | 0 => ⟨rfl, rfl⟩
  | _ + 1 => ⟨rfl, rfl⟩
theorem xm_valueFromA {l : Launch} {D : va_G} {cA : ClassId} {h : Nat} {ad : Nat → Nat} : ∀ (d : Nat) (σ : SM) (x1 : Int32) (x2 : Int32) (r : Int32) (τ : SM), fm_valueFromD d x1 x2 σ = some (r, τ) → ctI l (wM h ad cA) D vwCl (kM D cA) yX12_valueFrom cX12_valueFrom 8 .int (rm_valueFromD d) [.ref h, .int x1, .int x2] σ r τ := by
  intro d
  induction d with
  | zero =>
    intro σ x1 x2 r τ hf
    cases (show (none : Option (Int32 × SM)) = some (r, τ) from hf)
  | succ d ih =>
    intro σ x1 x2 r τ hf
    exact xm_valueFrom (rm_valueFromD_0 d) ih hf
