abbrev rm_lacks : Room := { frames := 0, cells := 0, slots := 0, locals := 0 }
def fm_lacks (σ : SM) (x1 : Int32) (x2 : Int32) : Option Int32 := (oc (hin x1 4) (if 0 ≤ (σ 28 (Int32.toNatClampNeg x1)) then (oc (hin x1 4) (if (σ 28 (Int32.toNatClampNeg x1)) = x2 then (some (0 : Int32)) else (some (-13 : Int32)))) else (some (-11 : Int32))))
set_option maxHeartbeats 4000000 in
set_option maxRecDepth 100000 in
theorem xm_lacks {l : Launch} {D : va_G} {cA : ClassId} {h : Nat} {ad : Nat → Nat} {σ : SM} {x1 : Int32} {x2 : Int32} {r : Int32} (hf : fm_lacks σ x1 x2 = some r) : ctI l (wM h ad cA) D vwCl (kM D cA) yX12_lacks cX12_lacks 3 .int rm_lacks [.ref h, .int x1, .int x2] σ r σ := by
  refine ct_I RX12 (by decide +kernel) rfl (Nat.le_of_ble_eq_true rfl) ?_
  intro p e s m args below meth c A X hK hA
  refine gr_eqL (L2 := [(0, .ref h), (1, .int x1), (2, .int x2)]) rfl ?_
  unfold fm_lacks at hf
  refine gr_aload_n X dX12_lacks_0 rfl 0 rfl ?_
  refine gM_get_28 X hK dX12_lacks_1 ?_
  refine gr_iload_n X dX12_lacks_4 rfl 1 rfl ?_
  have hi_ := oc_1 hf
  replace hf := oc_2 hf
  refine gM_ald_28 X hK (Int32.toNatClampNeg x1) hi_ rfl dX12_lacks_5 ?_
  refine gr_if_ge X 14 dX12_lacks_6 (by decide) (fun hc_ => ?_) (fun hc_ => ?_)
  · replace hf := ot_t hf hc_
    refine gr_aload_n X dX12_lacks_14 rfl 0 rfl ?_
    refine gM_get_28 X hK dX12_lacks_15 ?_
    refine gr_iload_n X dX12_lacks_18 rfl 1 rfl ?_
    have hi_ := oc_1 hf
    replace hf := oc_2 hf
    refine gM_ald_28 X hK (Int32.toNatClampNeg x1) hi_ rfl dX12_lacks_19 ?_
    refine gr_iload_n X dX12_lacks_20 rfl 2 rfl ?_
    refine gr_icmp_eq X 29 dX12_lacks_21 (by decide) (fun hc_ => ?_) (fun hc_ => ?_)
    · replace hf := ot_t hf hc_
      refine gr_iconst (v := 0) X dX12_lacks_29 (by decide) ?_
      exact gr_iret X dX12_lacks_30 (Option.some.inj hf) rfl
    · replace hf := ot_f hf hc_
      refine gr_bipush (v := -13) X dX12_lacks_24 (by decide) ?_
      refine gr_goto X 30 dX12_lacks_26 (by decide) ?_
      exact gr_iret X dX12_lacks_30 (Option.some.inj hf) rfl
  · replace hf := ot_f hf hc_
    refine gr_bipush (v := -11) X dX12_lacks_9 (by decide) ?_
    refine gr_goto X 30 dX12_lacks_11 (by decide) ?_
    exact gr_iret X dX12_lacks_30 (Option.some.inj hf) rfl
abbrev rm_item : Room := { frames := 2, cells := 0, slots := 0, locals := 45 }
def fm_item (σ : SM) (x1 : Int32) (x2 : Int32) (x3 : Int32) : Option Int32 := (Option.bind (fm_isSheet x1) fun q1 => (if q1 = 0 then (some (-1 : Int32)) else (Option.bind (fm_isIn (Int32.toInt64 x2) (0 : Int64) (4 : Int64)) fun q2 => (if ¬ q2 = 0 then (Option.bind (fm_lacks σ x1 x2) fun q3 => (if q3 = 0 then (oc (hin x1 4) (Option.bind (fm_isIn (Int32.toInt64 x3) (0 : Int64) (Int32.toInt64 ((σ 29 (Int32.toNatClampNeg x1)) - (1 : Int32)))) fun q4 => (if q4 = 0 then (some (-12 : Int32)) else (oc (hin (((40 : Int32) * x1) + x3) 160) (some (σ 30 (Int32.toNatClampNeg (((40 : Int32) * x1) + x3)))))))) else (Option.bind (fm_lacks σ x1 x2) fun q5 => (some q5)))) else (some (-1 : Int32))))))
set_option maxHeartbeats 4000000 in
set_option maxRecDepth 100000 in
theorem xm_item {l : Launch} {D : va_G} {cA : ClassId} {h : Nat} {ad : Nat → Nat} {σ : SM} {x1 : Int32} {x2 : Int32} {x3 : Int32} {r : Int32} (hf : fm_item σ x1 x2 x3 = some r) : ctI l (wM h ad cA) D vwCl (kM D cA) yX12_item cX12_item 4 .int rm_item [.ref h, .int x1, .int x2, .int x3] σ r σ := by
  refine ct_I RX12 (by decide +kernel) rfl (Nat.le_of_ble_eq_true rfl) ?_
  intro p e s m args below meth c A X hK hA
  refine gr_eqL (L2 := [(0, .ref h), (1, .int x1), (2, .int x2), (3, .int x3)]) rfl ?_
  unfold fm_item at hf
  refine gr_iload_n X dX12_item_0 rfl 1 rfl ?_
  obtain ⟨q1, hq_, hf⟩ := ot_b hf
  refine gc_Si (rest := []) X kM_ok hK hA cw12_isSheet (xm_isSheet hq_) rfl ⟨rfl, rfl, Nat.le_of_ble_eq_true rfl, Nat.le_of_ble_eq_true rfl⟩ rfl (Nat.le_of_ble_eq_true rfl) dX12_item_1 ?_
  refine gr_if_eq X 19 dX12_item_4 (by decide) (fun hc_ => ?_) (fun hc_ => ?_)
  · replace hf := ot_t hf hc_
    refine gr_iconst (v := -1) X dX12_item_19 (by decide) ?_
    exact gr_iret X dX12_item_20 (Option.some.inj hf) rfl
  · replace hf := ot_f hf hc_
    refine gr_iload_n X dX12_item_7 rfl 2 rfl ?_
    refine gr_i2l X dX12_item_8 ?_
    refine gr_lconst (v := 0) X dX12_item_9 (by decide) ?_
    refine gr_ldc2_w X ck12_297 dX12_item_10 ?_
    obtain ⟨q2, hq_, hf⟩ := ot_b hf
    refine gc_Si (rest := []) X kM_ok hK hA cw12_isIn (xm_isIn hq_) rfl ⟨rfl, rfl, Nat.le_of_ble_eq_true rfl, Nat.le_of_ble_eq_true rfl⟩ rfl (Nat.le_of_ble_eq_true rfl) dX12_item_13 ?_
    refine gr_if_ne X 21 dX12_item_16 (by decide) (fun hc_ => ?_) (fun hc_ => ?_)
    · replace hf := ot_t hf hc_
      refine gr_aload_n X dX12_item_21 rfl 0 rfl ?_
      refine gr_iload_n X dX12_item_22 rfl 1 rfl ?_
      refine gr_iload_n X dX12_item_23 rfl 2 rfl ?_
      obtain ⟨q3, hq_, hf⟩ := ot_b hf
      refine gc_Vi (rest := []) X kM_ok hK hA cw12_lacks (rvM hK) (xm_lacks hq_) rfl ⟨rfl, rfl, Nat.le_of_ble_eq_true rfl, Nat.le_of_ble_eq_true rfl⟩ rfl (Nat.le_of_ble_eq_true rfl) dX12_item_24 ?_
      refine gr_if_eq X 37 dX12_item_27 (by decide) (fun hc_ => ?_) (fun hc_ => ?_)
      · replace hf := ot_t hf hc_
        refine gr_iload_n X dX12_item_37 rfl 3 rfl ?_
        refine gr_i2l X dX12_item_38 ?_
        refine gr_lconst (v := 0) X dX12_item_39 (by decide) ?_
        refine gr_aload_n X dX12_item_40 rfl 0 rfl ?_
        refine gM_get_29 X hK dX12_item_41 ?_
        refine gr_iload_n X dX12_item_44 rfl 1 rfl ?_
        have hi_ := oc_1 hf
        replace hf := oc_2 hf
        refine gM_ald_29 X hK (Int32.toNatClampNeg x1) hi_ rfl dX12_item_45 ?_
        refine gr_iconst (v := 1) X dX12_item_46 (by decide) ?_
        refine gr_isub X dX12_item_47 ?_
        refine gr_i2l X dX12_item_48 ?_
        obtain ⟨q4, hq_, hf⟩ := ot_b hf
        refine gc_Si (rest := []) X kM_ok hK hA cw12_isIn (xm_isIn hq_) rfl ⟨rfl, rfl, Nat.le_of_ble_eq_true rfl, Nat.le_of_ble_eq_true rfl⟩ rfl (Nat.le_of_ble_eq_true rfl) dX12_item_49 ?_
        refine gr_if_eq X 69 dX12_item_52 (by decide) (fun hc_ => ?_) (fun hc_ => ?_)
        · replace hf := ot_t hf hc_
          refine gr_bipush (v := -12) X dX12_item_69 (by decide) ?_
          exact gr_iret X dX12_item_71 (Option.some.inj hf) rfl
        · replace hf := ot_f hf hc_
          refine gr_aload_n X dX12_item_55 rfl 0 rfl ?_
          refine gM_get_30 X hK dX12_item_56 ?_
          refine gr_bipush (v := 40) X dX12_item_59 (by decide) ?_
          refine gr_iload_n X dX12_item_61 rfl 1 rfl ?_
          refine gr_imul X dX12_item_62 ?_
          refine gr_iload_n X dX12_item_63 rfl 3 rfl ?_
          refine gr_iadd X dX12_item_64 ?_
          have hi_ := oc_1 hf
          replace hf := oc_2 hf
          refine gM_ald_30 X hK (Int32.toNatClampNeg (((40 : Int32) * x1) + x3)) hi_ rfl dX12_item_65 ?_
          refine gr_goto X 71 dX12_item_66 (by decide) ?_
          exact gr_iret X dX12_item_71 (Option.some.inj hf) rfl
      · replace hf := ot_f hf hc_
        refine gr_aload_n X dX12_item_30 rfl 0 rfl ?_
        refine gr_iload_n X dX12_item_31 rfl 1 rfl ?_
        refine gr_iload_n X dX12_item_32 rfl 2 rfl ?_
        obtain ⟨q5, hq_, hf⟩ := ot_b hf
        refine gc_Vi (rest := []) X kM_ok hK hA cw12_lacks (rvM hK) (xm_lacks hq_) rfl ⟨rfl, rfl, Nat.le_of_ble_eq_true rfl, Nat.le_of_ble_eq_true rfl⟩ rfl (Nat.le_of_ble_eq_true rfl) dX12_item_33 ?_
        exact gr_iret X dX12_item_36 (Option.some.inj hf) rfl
    · replace hf := ot_f hf hc_
      refine gr_iconst (v := -1) X dX12_item_19 (by decide) ?_
      exact gr_iret X dX12_item_20 (Option.some.inj hf) rfl
abbrev rm_goAll : Room := { frames := 8, cells := 0, slots := 0, locals := 182 }
def fm_goAll_b118 (K43 : Int32 → Int32 → Int32 → Int32 → Int32 → SM → Option (Int32 × SM)) (x1 : Int32) (x2 : Int32) (x3 : Int32) (x5 : Int32) (y0 : Int32) (y1 : Int32) (σ : SM) : Option (Int32 × SM) := (hl (y1 + y0) fun v7 => (K43 x1 x2 x3 v7 (x5 + (1 : Int32)) σ))
def fm_goAll_b117 (K43 : Int32 → Int32 → Int32 → Int32 → Int32 → SM → Option (Int32 × SM)) (x1 : Int32) (x2 : Int32) (x3 : Int32) (x5 : Int32) (y0 : Int32) (σ : SM) : Option (Int32 × SM) := (fm_goAll_b118 K43 x1 x2 x3 x5 (0 : Int32) y0 σ)
def fm_goAll_l43 : Nat → Int32 → Int32 → Int32 → Int32 → Int32 → SM → Option (Int32 × SM)
  | 0, _, _, _, _, _, _ => none
  | n + 1, x1, x2, x3, x4, x5, σ => (if x3 ≤ x5 then (some (x4, σ)) else (oc (hin x1 4) (Option.bind (fm_isIn ((Int32.toInt64 x2) + (Int32.toInt64 x5)) (0 : Int64) ((Int32.toInt64 (σ 29 (Int32.toNatClampNeg x1))) - (1 : Int64))) fun q4 => (if ¬ q4 = 0 then (oc (hin ((((40 : Int32) * x1) + x2) + x5) 160) (hl (σ 30 (Int32.toNatClampNeg ((((40 : Int32) * x1) + x2) + x5))) fun v5 => (Option.bind (fm_isAct σ v5) fun q6 => (if q6 = 0 then (fm_goAll_b117 (fm_goAll_l43 n) x1 x2 x3 x5 x4 σ) else (Option.bind (fm_isOver σ) fun q8 => (if ¬ q8 = 0 then (fm_goAll_b117 (fm_goAll_l43 n) x1 x2 x3 x5 x4 σ) else (Option.bind (fm_goesWith v5 σ) fun p_ => hl p_.1 fun q9 => hl p_.2 fun σ10 => (fm_goAll_b118 (fm_goAll_l43 n) x1 x2 x3 x5 q9 x4 σ10)))))))) else (some ((-12 : Int32), σ))))))
def fm_goAll (x1 : Int32) (x2 : Int32) (x3 : Int32) (σ : SM) : Option (Int32 × SM) := (Option.bind (fm_isSheet x1) fun q1 => (if q1 = 0 then (some ((-1 : Int32), σ)) else (Option.bind (fm_isIn (Int32.toInt64 x3) (0 : Int64) (20 : Int64)) fun q2 => (if ¬ q2 = 0 then (Option.bind (fm_lacks σ x1 (0 : Int32)) fun q3 => (if q3 = 0 then (fm_goAll_l43 hFU x1 x2 x3 (0 : Int32) (0 : Int32) σ) else (Option.bind (fm_lacks σ x1 (0 : Int32)) fun q11 => (some (q11, σ))))) else (some ((-1 : Int32), σ))))))
set_option maxHeartbeats 4000000 in
set_option maxRecDepth 100000 in
theorem wm_goAll_b118 {p : Program} {l : Launch} {e : Env} {s : State} {m : MethodId} {args : Array Value} {below : List Frame} {meth : Method} {c : Code} {A : Nat → Prop} {D : va_G} {cA : ClassId} {h : Nat} {ad : Nat → Nat} {r : Int32} {τ : SM} {K43 : Int32 → Int32 → Int32 → Int32 → Int32 → SM → Option (Int32 × SM)} (X : hc p s m args meth c RX12 cX12_goAll 7 (some .int)) (hK : kM D cA A s) (hA : ∀ q, s.heap.size ≤ q → A q) (hK43 : (∀ (x1 : Int32) (x2 : Int32) (x3 : Int32) (x4 : Int32) (x5 : Int32) (σ : SM), K43 x1 x2 x3 x4 x5 σ = some (r, τ) → gg p l e rm_goAll s m args below meth c (wM h ad cA) D vwCl A 7 (QI below args s (wM h ad cA) D vwCl A r τ) 43 [(0, .ref h), (1, .int x1), (2, .int x2), (3, .int x3), (4, .int x4), (5, .int x5)] [] σ))  (x1 : Int32) (x2 : Int32) (x3 : Int32) (x5 : Int32) (y0 : Int32) (y1 : Int32) (σ : SM) (hf : fm_goAll_b118 K43 x1 x2 x3 x5 y0 y1 σ = some (r, τ)) : gg p l e rm_goAll s m args below meth c (wM h ad cA) D vwCl A 7 (QI below args s (wM h ad cA) D vwCl A r τ) 118 [(0, .ref h), (1, .int x1), (2, .int x2), (3, .int x3), (5, .int x5)] [.int y0, .int y1] σ := by
  unfold fm_goAll_b118 at hf
  refine gr_iadd X dX12_goAll_118 ?_
  refine gM_top (fun v7 e_v7 => ?_)
  replace hf := ot_l hf e_v7
  refine gr_istore (L2 := [(4, .int v7), (0, .ref h), (1, .int x1), (2, .int x2), (3, .int x3), (5, .int x5)]) X dX12_goAll_119 (by decide) rfl ?_
  refine gr_iinc (k := 5) (v := 1) (L2 := [(5, .int (x5 + (1 : Int32))), (4, .int v7), (0, .ref h), (1, .int x1), (2, .int x2), (3, .int x3)]) X dX12_goAll_121 rfl (by decide) (by decide) rfl ?_
  refine gr_goto X 43 dX12_goAll_124 (by decide) ?_
  refine gr_sub [2, 3, 4, 5, 1, 0] rfl ?_
  exact hK43 _ _ _ _ _ _ hf
set_option maxHeartbeats 4000000 in
set_option maxRecDepth 100000 in
theorem wm_goAll_b117 {p : Program} {l : Launch} {e : Env} {s : State} {m : MethodId} {args : Array Value} {below : List Frame} {meth : Method} {c : Code} {A : Nat → Prop} {D : va_G} {cA : ClassId} {h : Nat} {ad : Nat → Nat} {r : Int32} {τ : SM} {K43 : Int32 → Int32 → Int32 → Int32 → Int32 → SM → Option (Int32 × SM)} (X : hc p s m args meth c RX12 cX12_goAll 7 (some .int)) (hK : kM D cA A s) (hA : ∀ q, s.heap.size ≤ q → A q) (hK43 : (∀ (x1 : Int32) (x2 : Int32) (x3 : Int32) (x4 : Int32) (x5 : Int32) (σ : SM), K43 x1 x2 x3 x4 x5 σ = some (r, τ) → gg p l e rm_goAll s m args below meth c (wM h ad cA) D vwCl A 7 (QI below args s (wM h ad cA) D vwCl A r τ) 43 [(0, .ref h), (1, .int x1), (2, .int x2), (3, .int x3), (4, .int x4), (5, .int x5)] [] σ))  (x1 : Int32) (x2 : Int32) (x3 : Int32) (x5 : Int32) (y0 : Int32) (σ : SM) (hf : fm_goAll_b117 K43 x1 x2 x3 x5 y0 σ = some (r, τ)) : gg p l e rm_goAll s m args below meth c (wM h ad cA) D vwCl A 7 (QI below args s (wM h ad cA) D vwCl A r τ) 117 [(0, .ref h), (1, .int x1), (2, .int x2), (3, .int x3), (5, .int x5)] [.int y0] σ := by
  unfold fm_goAll_b117 at hf
  refine gr_iconst (v := 0) X dX12_goAll_117 (by decide) ?_
  refine gr_sub [0, 1, 2, 3, 4] rfl ?_
  exact wm_goAll_b118 X hK hA hK43 _ _ _ _ _ _ _ hf
set_option maxHeartbeats 4000000 in
set_option maxRecDepth 100000 in
theorem wm_goAll_l43 {p : Program} {l : Launch} {e : Env} {s : State} {m : MethodId} {args : Array Value} {below : List Frame} {meth : Method} {c : Code} {A : Nat → Prop} {D : va_G} {cA : ClassId} {h : Nat} {ad : Nat → Nat} {r : Int32} {τ : SM} (X : hc p s m args meth c RX12 cX12_goAll 7 (some .int)) (hK : kM D cA A s) (hA : ∀ q, s.heap.size ≤ q → A q)  : ∀ (n : Nat) (x1 : Int32) (x2 : Int32) (x3 : Int32) (x4 : Int32) (x5 : Int32) (σ : SM), fm_goAll_l43 n x1 x2 x3 x4 x5 σ = some (r, τ) → gg p l e rm_goAll s m args below meth c (wM h ad cA) D vwCl A 7 (QI below args s (wM h ad cA) D vwCl A r τ) 43 [(0, .ref h), (1, .int x1), (2, .int x2), (3, .int x3), (4, .int x4), (5, .int x5)] [] σ := by
  intro n
  induction n with
  | zero =>
    intro x1 x2 x3 x4 x5 σ hf
    cases (show (none : Option (Int32 × SM)) = some (r, τ) from hf)
  | succ n ih =>
    intro x1 x2 x3 x4 x5 σ hf
    unfold fm_goAll_l43 at hf
    refine gr_iload X dX12_goAll_43 5 rfl ?_
    refine gr_iload_n X dX12_goAll_45 rfl 3 rfl ?_
    refine gr_icmp_ge X 127 dX12_goAll_46 (by decide) (fun hc_ => ?_) (fun hc_ => ?_)
    · replace hf := ot_t hf hc_
      refine gr_iload X dX12_goAll_127 4 rfl ?_
      exact gr_iret X dX12_goAll_129 (Prod.mk.inj (Option.some.inj hf)).1 (Prod.mk.inj (Option.some.inj hf)).2
    · replace hf := ot_f hf hc_
      refine gr_iload_n X dX12_goAll_49 rfl 2 rfl ?_
      refine gr_i2l X dX12_goAll_50 ?_
      refine gr_iload X dX12_goAll_51 5 rfl ?_
      refine gr_i2l X dX12_goAll_53 ?_
      refine gr_ladd X dX12_goAll_54 ?_
      refine gr_lconst (v := 0) X dX12_goAll_55 (by decide) ?_
      refine gr_aload_n X dX12_goAll_56 rfl 0 rfl ?_
      refine gM_get_29 X hK dX12_goAll_57 ?_
      refine gr_iload_n X dX12_goAll_60 rfl 1 rfl ?_
      have hi_ := oc_1 hf
      replace hf := oc_2 hf
      refine gM_ald_29 X hK (Int32.toNatClampNeg x1) hi_ rfl dX12_goAll_61 ?_
      refine gr_i2l X dX12_goAll_62 ?_
      refine gr_lconst (v := 1) X dX12_goAll_63 (by decide) ?_
      refine gr_lsub X dX12_goAll_64 ?_
      obtain ⟨q4, hq_, hf⟩ := ot_b hf
      refine gc_Si (rest := []) X kM_ok hK hA cw12_isIn (xm_isIn hq_) rfl ⟨rfl, rfl, Nat.le_of_ble_eq_true rfl, Nat.le_of_ble_eq_true rfl⟩ rfl (Nat.le_of_ble_eq_true rfl) dX12_goAll_65 ?_
      refine gr_if_ne X 74 dX12_goAll_68 (by decide) (fun hc_ => ?_) (fun hc_ => ?_)
      · replace hf := ot_t hf hc_
        refine gr_aload_n X dX12_goAll_74 rfl 0 rfl ?_
        refine gM_get_30 X hK dX12_goAll_75 ?_
        refine gr_bipush (v := 40) X dX12_goAll_78 (by decide) ?_
        refine gr_iload_n X dX12_goAll_80 rfl 1 rfl ?_
        refine gr_imul X dX12_goAll_81 ?_
        refine gr_iload_n X dX12_goAll_82 rfl 2 rfl ?_
        refine gr_iadd X dX12_goAll_83 ?_
        refine gr_iload X dX12_goAll_84 5 rfl ?_
        refine gr_iadd X dX12_goAll_86 ?_
        have hi_ := oc_1 hf
        replace hf := oc_2 hf
        refine gM_ald_30 X hK (Int32.toNatClampNeg ((((40 : Int32) * x1) + x2) + x5)) hi_ rfl dX12_goAll_87 ?_
        refine gM_top (fun v5 e_v5 => ?_)
        replace hf := ot_l hf e_v5
        refine gr_istore (L2 := [(6, .int v5), (0, .ref h), (1, .int x1), (2, .int x2), (3, .int x3), (4, .int x4), (5, .int x5)]) X dX12_goAll_88 (by decide) rfl ?_
        refine gr_iload X dX12_goAll_90 5 rfl ?_
        refine gr_aload_n X dX12_goAll_92 rfl 1 rfl ?_
        refine gr_iload X dX12_goAll_93 0 rfl ?_
        obtain ⟨q6, hq_, hf⟩ := ot_b hf
        refine gc_Vi (rest := [.int x4]) X kM_ok hK hA cw12_isAct (rvM hK) (xm_isAct hq_) rfl ⟨rfl, rfl, Nat.le_of_ble_eq_true rfl, Nat.le_of_ble_eq_true rfl⟩ rfl (Nat.le_of_ble_eq_true rfl) dX12_goAll_95 ?_
        refine gr_if_eq X 117 dX12_goAll_98 (by decide) (fun hc_ => ?_) (fun hc_ => ?_)
        · replace hf := ot_t hf hc_
          refine gr_sub [1, 2, 3, 4, 6] rfl ?_
          exact wm_goAll_b117 X hK hA ih _ _ _ _ _ _ hf
        · replace hf := ot_f hf hc_
          refine gr_aload_n X dX12_goAll_101 rfl 1 rfl ?_
          obtain ⟨q8, hq_, hf⟩ := ot_b hf
          refine gc_Vi (rest := [.int x4]) X kM_ok hK hA cw12_isOver (rvM hK) (xm_isOver hq_) rfl ⟨rfl, rfl, Nat.le_of_ble_eq_true rfl, Nat.le_of_ble_eq_true rfl⟩ rfl (Nat.le_of_ble_eq_true rfl) dX12_goAll_102 ?_
          refine gr_if_ne X 117 dX12_goAll_105 (by decide) (fun hc_ => ?_) (fun hc_ => ?_)
          · replace hf := ot_t hf hc_
            refine gr_sub [1, 2, 3, 4, 6] rfl ?_
            exact wm_goAll_b117 X hK hA ih _ _ _ _ _ _ hf
          · replace hf := ot_f hf hc_
            refine gr_aload_n X dX12_goAll_108 rfl 1 rfl ?_
            refine gr_iload X dX12_goAll_109 0 rfl ?_
            obtain ⟨⟨q9, σ10⟩, hq_, hf⟩ := ot_b hf
            replace hf := ot_l (y := q9) hf rfl
            replace hf := ot_l (y := σ10) hf rfl
            refine gc_Vi (rest := [.int x4]) X kM_ok hK hA cw12_goesWith (rvM hK) (xm_goesWith hq_) rfl ⟨rfl, rfl, Nat.le_of_ble_eq_true rfl, Nat.le_of_ble_eq_true rfl⟩ rfl (Nat.le_of_ble_eq_true rfl) dX12_goAll_111 ?_
            refine gr_goto X 118 dX12_goAll_114 (by decide) ?_
            refine gr_sub [1, 2, 3, 4, 6] rfl ?_
            exact wm_goAll_b118 X hK hA ih _ _ _ _ _ _ _ hf
      · replace hf := ot_f hf hc_
        refine gr_bipush (v := -12) X dX12_goAll_71 (by decide) ?_
        exact gr_iret X dX12_goAll_73 (Prod.mk.inj (Option.some.inj hf)).1 (Prod.mk.inj (Option.some.inj hf)).2
set_option maxHeartbeats 4000000 in
set_option maxRecDepth 100000 in
theorem xm_goAll {l : Launch} {D : va_G} {cA : ClassId} {h : Nat} {ad : Nat → Nat} {σ : SM} {x1 : Int32} {x2 : Int32} {x3 : Int32} {r : Int32} {τ : SM} (hf : fm_goAll x1 x2 x3 σ = some (r, τ)) : ctI l (wM h ad cA) D vwCl (kM D cA) yX12_goAll cX12_goAll 7 .int rm_goAll [.ref h, .int x1, .int x2, .int x3] σ r τ := by
  refine ct_I RX12 (by decide +kernel) rfl (Nat.le_of_ble_eq_true rfl) ?_
  intro p e s m args below meth c A X hK hA
  refine gr_eqL (L2 := [(0, .ref h), (1, .int x1), (2, .int x2), (3, .int x3)]) rfl ?_
  unfold fm_goAll at hf
  refine gr_iload_n X dX12_goAll_0 rfl 1 rfl ?_
  obtain ⟨q1, hq_, hf⟩ := ot_b hf
  refine gc_Si (rest := []) X kM_ok hK hA cw12_isSheet (xm_isSheet hq_) rfl ⟨rfl, rfl, Nat.le_of_ble_eq_true rfl, Nat.le_of_ble_eq_true rfl⟩ rfl (Nat.le_of_ble_eq_true rfl) dX12_goAll_1 ?_
  refine gr_if_eq X 19 dX12_goAll_4 (by decide) (fun hc_ => ?_) (fun hc_ => ?_)
  · replace hf := ot_t hf hc_
    refine gr_iconst (v := -1) X dX12_goAll_19 (by decide) ?_
    exact gr_iret X dX12_goAll_20 (Prod.mk.inj (Option.some.inj hf)).1 (Prod.mk.inj (Option.some.inj hf)).2
  · replace hf := ot_f hf hc_
    refine gr_iload_n X dX12_goAll_7 rfl 3 rfl ?_
    refine gr_i2l X dX12_goAll_8 ?_
    refine gr_lconst (v := 0) X dX12_goAll_9 (by decide) ?_
    refine gr_ldc2_w X ck12_357 dX12_goAll_10 ?_
    obtain ⟨q2, hq_, hf⟩ := ot_b hf
    refine gc_Si (rest := []) X kM_ok hK hA cw12_isIn (xm_isIn hq_) rfl ⟨rfl, rfl, Nat.le_of_ble_eq_true rfl, Nat.le_of_ble_eq_true rfl⟩ rfl (Nat.le_of_ble_eq_true rfl) dX12_goAll_13 ?_
    refine gr_if_ne X 21 dX12_goAll_16 (by decide) (fun hc_ => ?_) (fun hc_ => ?_)
    · replace hf := ot_t hf hc_
      refine gr_aload_n X dX12_goAll_21 rfl 0 rfl ?_
      refine gr_iload_n X dX12_goAll_22 rfl 1 rfl ?_
      refine gr_iconst (v := 0) X dX12_goAll_23 (by decide) ?_
      obtain ⟨q3, hq_, hf⟩ := ot_b hf
      refine gc_Vi (rest := []) X kM_ok hK hA cw12_lacks (rvM hK) (xm_lacks hq_) rfl ⟨rfl, rfl, Nat.le_of_ble_eq_true rfl, Nat.le_of_ble_eq_true rfl⟩ rfl (Nat.le_of_ble_eq_true rfl) dX12_goAll_24 ?_
      refine gr_if_eq X 37 dX12_goAll_27 (by decide) (fun hc_ => ?_) (fun hc_ => ?_)
      · replace hf := ot_t hf hc_
        refine gr_iconst (v := 0) X dX12_goAll_37 (by decide) ?_
        refine gr_istore (L2 := [(4, .int (0 : Int32)), (0, .ref h), (1, .int x1), (2, .int x2), (3, .int x3)]) X dX12_goAll_38 (by decide) rfl ?_
        refine gr_iconst (v := 0) X dX12_goAll_40 (by decide) ?_
        refine gr_istore (L2 := [(5, .int (0 : Int32)), (4, .int (0 : Int32)), (0, .ref h), (1, .int x1), (2, .int x2), (3, .int x3)]) X dX12_goAll_41 (by decide) rfl ?_
        refine gr_sub [2, 3, 4, 5, 1, 0] rfl ?_
        refine wm_goAll_l43 X hK hA  hFU _ _ _ _ _ _ hf
      · replace hf := ot_f hf hc_
        refine gr_aload_n X dX12_goAll_30 rfl 0 rfl ?_
        refine gr_iload_n X dX12_goAll_31 rfl 1 rfl ?_
        refine gr_iconst (v := 0) X dX12_goAll_32 (by decide) ?_
        obtain ⟨q11, hq_, hf⟩ := ot_b hf
        refine gc_Vi (rest := []) X kM_ok hK hA cw12_lacks (rvM hK) (xm_lacks hq_) rfl ⟨rfl, rfl, Nat.le_of_ble_eq_true rfl, Nat.le_of_ble_eq_true rfl⟩ rfl (Nat.le_of_ble_eq_true rfl) dX12_goAll_33 ?_
        exact gr_iret X dX12_goAll_36 (Prod.mk.inj (Option.some.inj hf)).1 (Prod.mk.inj (Option.some.inj hf)).2
    · replace hf := ot_f hf hc_
      refine gr_iconst (v := -1) X dX12_goAll_19 (by decide) ?_
      exact gr_iret X dX12_goAll_20 (Prod.mk.inj (Option.some.inj hf)).1 (Prod.mk.inj (Option.some.inj hf)).2
abbrev rm_sumBy : Room := { frames := 8, cells := 0, slots := 0, locals := 182 }
def fm_sumBy_l6 : Nat → Int32 → Int32 → Int32 → Int32 → Int32 → SM → Option (Int32 × SM)
  | 0, _, _, _, _, _, _ => none
  | n + 1, x1, x2, x3, x4, x5, σ => (if x3 ≤ x5 then (some (x4, σ)) else (oc (hin x1 4) (Option.bind (fm_isIn ((Int32.toInt64 x2) + (Int32.toInt64 x5)) (0 : Int64) ((Int32.toInt64 (σ 29 (Int32.toNatClampNeg x1))) - (1 : Int64))) fun q1 => (if ¬ q1 = 0 then (oc (hin ((((40 : Int32) * x1) + x2) + x5) 160) (hl (σ 30 (Int32.toNatClampNeg ((((40 : Int32) * x1) + x2) + x5))) fun v2 => (Option.bind (fm_isAct σ v2) fun q3 => (if q3 = 0 then (some ((-4 : Int32), σ)) else (Option.bind (fm_isOver σ) fun q4 => (if q4 = 0 then (Option.bind (fm_goesWith v2 σ) fun p_ => hl p_.1 fun q5 => hl p_.2 fun σ6 => (hl (x4 + q5) fun v7 => ((fm_sumBy_l6 n) x1 x2 x3 v7 (x5 + (1 : Int32)) σ6))) else (some ((-4 : Int32), σ)))))))) else (some ((-12 : Int32), σ))))))
def fm_sumBy (x1 : Int32) (x2 : Int32) (x3 : Int32) (σ : SM) : Option (Int32 × SM) := (fm_sumBy_l6 hFU x1 x2 x3 (0 : Int32) (0 : Int32) σ)
set_option maxHeartbeats 4000000 in
set_option maxRecDepth 100000 in
theorem wm_sumBy_l6 {p : Program} {l : Launch} {e : Env} {s : State} {m : MethodId} {args : Array Value} {below : List Frame} {meth : Method} {c : Code} {A : Nat → Prop} {D : va_G} {cA : ClassId} {h : Nat} {ad : Nat → Nat} {r : Int32} {τ : SM} (X : hc p s m args meth c RX12 cX12_sumBy 7 (some .int)) (hK : kM D cA A s) (hA : ∀ q, s.heap.size ≤ q → A q)  : ∀ (n : Nat) (x1 : Int32) (x2 : Int32) (x3 : Int32) (x4 : Int32) (x5 : Int32) (σ : SM), fm_sumBy_l6 n x1 x2 x3 x4 x5 σ = some (r, τ) → gg p l e rm_sumBy s m args below meth c (wM h ad cA) D vwCl A 7 (QI below args s (wM h ad cA) D vwCl A r τ) 6 [(0, .ref h), (1, .int x1), (2, .int x2), (3, .int x3), (4, .int x4), (5, .int x5)] [] σ := by
  intro n
  induction n with
  | zero =>
    intro x1 x2 x3 x4 x5 σ hf
    cases (show (none : Option (Int32 × SM)) = some (r, τ) from hf)
  | succ n ih =>
    intro x1 x2 x3 x4 x5 σ hf
    unfold fm_sumBy_l6 at hf
    refine gr_iload X dX12_sumBy_6 5 rfl ?_
    refine gr_iload_n X dX12_sumBy_8 rfl 3 rfl ?_
    refine gr_icmp_ge X 89 dX12_sumBy_9 (by decide) (fun hc_ => ?_) (fun hc_ => ?_)
    · replace hf := ot_t hf hc_
      refine gr_iload X dX12_sumBy_89 4 rfl ?_
      exact gr_iret X dX12_sumBy_91 (Prod.mk.inj (Option.some.inj hf)).1 (Prod.mk.inj (Option.some.inj hf)).2
    · replace hf := ot_f hf hc_
      refine gr_iload_n X dX12_sumBy_12 rfl 2 rfl ?_
      refine gr_i2l X dX12_sumBy_13 ?_
      refine gr_iload X dX12_sumBy_14 5 rfl ?_
      refine gr_i2l X dX12_sumBy_16 ?_
      refine gr_ladd X dX12_sumBy_17 ?_
      refine gr_lconst (v := 0) X dX12_sumBy_18 (by decide) ?_
      refine gr_aload_n X dX12_sumBy_19 rfl 0 rfl ?_
      refine gM_get_29 X hK dX12_sumBy_20 ?_
      refine gr_iload_n X dX12_sumBy_23 rfl 1 rfl ?_
      have hi_ := oc_1 hf
      replace hf := oc_2 hf
      refine gM_ald_29 X hK (Int32.toNatClampNeg x1) hi_ rfl dX12_sumBy_24 ?_
      refine gr_i2l X dX12_sumBy_25 ?_
      refine gr_lconst (v := 1) X dX12_sumBy_26 (by decide) ?_
      refine gr_lsub X dX12_sumBy_27 ?_
      obtain ⟨q1, hq_, hf⟩ := ot_b hf
      refine gc_Si (rest := []) X kM_ok hK hA cw12_isIn (xm_isIn hq_) rfl ⟨rfl, rfl, Nat.le_of_ble_eq_true rfl, Nat.le_of_ble_eq_true rfl⟩ rfl (Nat.le_of_ble_eq_true rfl) dX12_sumBy_28 ?_
      refine gr_if_ne X 37 dX12_sumBy_31 (by decide) (fun hc_ => ?_) (fun hc_ => ?_)
      · replace hf := ot_t hf hc_
        refine gr_aload_n X dX12_sumBy_37 rfl 0 rfl ?_
        refine gM_get_30 X hK dX12_sumBy_38 ?_
        refine gr_bipush (v := 40) X dX12_sumBy_41 (by decide) ?_
        refine gr_iload_n X dX12_sumBy_43 rfl 1 rfl ?_
        refine gr_imul X dX12_sumBy_44 ?_
        refine gr_iload_n X dX12_sumBy_45 rfl 2 rfl ?_
        refine gr_iadd X dX12_sumBy_46 ?_
        refine gr_iload X dX12_sumBy_47 5 rfl ?_
        refine gr_iadd X dX12_sumBy_49 ?_
        have hi_ := oc_1 hf
        replace hf := oc_2 hf
        refine gM_ald_30 X hK (Int32.toNatClampNeg ((((40 : Int32) * x1) + x2) + x5)) hi_ rfl dX12_sumBy_50 ?_
        refine gM_top (fun v2 e_v2 => ?_)
        replace hf := ot_l hf e_v2
        refine gr_istore (L2 := [(6, .int v2), (0, .ref h), (1, .int x1), (2, .int x2), (3, .int x3), (4, .int x4), (5, .int x5)]) X dX12_sumBy_51 (by decide) rfl ?_
        refine gr_aload_n X dX12_sumBy_53 rfl 1 rfl ?_
        refine gr_iload X dX12_sumBy_54 0 rfl ?_
        obtain ⟨q3, hq_, hf⟩ := ot_b hf
        refine gc_Vi (rest := []) X kM_ok hK hA cw12_isAct (rvM hK) (xm_isAct hq_) rfl ⟨rfl, rfl, Nat.le_of_ble_eq_true rfl, Nat.le_of_ble_eq_true rfl⟩ rfl (Nat.le_of_ble_eq_true rfl) dX12_sumBy_56 ?_
        refine gr_if_eq X 69 dX12_sumBy_59 (by decide) (fun hc_ => ?_) (fun hc_ => ?_)
        · replace hf := ot_t hf hc_
          refine gr_bipush (v := -4) X dX12_sumBy_69 (by decide) ?_
          exact gr_iret X dX12_sumBy_71 (Prod.mk.inj (Option.some.inj hf)).1 (Prod.mk.inj (Option.some.inj hf)).2
        · replace hf := ot_f hf hc_
          refine gr_aload_n X dX12_sumBy_62 rfl 1 rfl ?_
          obtain ⟨q4, hq_, hf⟩ := ot_b hf
          refine gc_Vi (rest := []) X kM_ok hK hA cw12_isOver (rvM hK) (xm_isOver hq_) rfl ⟨rfl, rfl, Nat.le_of_ble_eq_true rfl, Nat.le_of_ble_eq_true rfl⟩ rfl (Nat.le_of_ble_eq_true rfl) dX12_sumBy_63 ?_
          refine gr_if_eq X 72 dX12_sumBy_66 (by decide) (fun hc_ => ?_) (fun hc_ => ?_)
          · replace hf := ot_t hf hc_
            refine gr_iload X dX12_sumBy_72 5 rfl ?_
            refine gr_aload_n X dX12_sumBy_74 rfl 1 rfl ?_
            refine gr_iload X dX12_sumBy_75 0 rfl ?_
            obtain ⟨⟨q5, σ6⟩, hq_, hf⟩ := ot_b hf
            replace hf := ot_l (y := q5) hf rfl
            replace hf := ot_l (y := σ6) hf rfl
            refine gc_Vi (rest := [.int x4]) X kM_ok hK hA cw12_goesWith (rvM hK) (xm_goesWith hq_) rfl ⟨rfl, rfl, Nat.le_of_ble_eq_true rfl, Nat.le_of_ble_eq_true rfl⟩ rfl (Nat.le_of_ble_eq_true rfl) dX12_sumBy_77 ?_
            refine gr_iadd X dX12_sumBy_80 ?_
            refine gM_top (fun v7 e_v7 => ?_)
            replace hf := ot_l hf e_v7
            refine gr_istore (L2 := [(4, .int v7), (6, .int v2), (0, .ref h), (1, .int x1), (2, .int x2), (3, .int x3), (5, .int x5)]) X dX12_sumBy_81 (by decide) rfl ?_
            refine gr_iinc (k := 6) (v := 1) (L2 := [(5, .int (x5 + (1 : Int32))), (4, .int v7), (6, .int v2), (0, .ref h), (1, .int x1), (2, .int x2), (3, .int x3)]) X dX12_sumBy_83 rfl (by decide) (by decide) rfl ?_
            refine gr_goto X 6 dX12_sumBy_86 (by decide) ?_
            refine gr_sub [3, 4, 5, 6, 1, 0] rfl ?_
            exact ih _ _ _ _ _ _ hf
          · replace hf := ot_f hf hc_
            refine gr_bipush (v := -4) X dX12_sumBy_69 (by decide) ?_
            exact gr_iret X dX12_sumBy_71 (Prod.mk.inj (Option.some.inj hf)).1 (Prod.mk.inj (Option.some.inj hf)).2
      · replace hf := ot_f hf hc_
        refine gr_bipush (v := -12) X dX12_sumBy_34 (by decide) ?_
        exact gr_iret X dX12_sumBy_36 (Prod.mk.inj (Option.some.inj hf)).1 (Prod.mk.inj (Option.some.inj hf)).2
set_option maxHeartbeats 4000000 in
set_option maxRecDepth 100000 in
theorem xm_sumBy {l : Launch} {D : va_G} {cA : ClassId} {h : Nat} {ad : Nat → Nat} {σ : SM} {x1 : Int32} {x2 : Int32} {x3 : Int32} {r : Int32} {τ : SM} (hf : fm_sumBy x1 x2 x3 σ = some (r, τ)) : ctI l (wM h ad cA) D vwCl (kM D cA) yX12_sumBy cX12_sumBy 7 .int rm_sumBy [.ref h, .int x1, .int x2, .int x3] σ r τ := by
  refine ct_I RX12 (by decide +kernel) rfl (Nat.le_of_ble_eq_true rfl) ?_
  intro p e s m args below meth c A X hK hA
  refine gr_eqL (L2 := [(0, .ref h), (1, .int x1), (2, .int x2), (3, .int x3)]) rfl ?_
  unfold fm_sumBy at hf
  refine gr_iconst (v := 0) X dX12_sumBy_0 (by decide) ?_
  refine gr_istore (L2 := [(4, .int (0 : Int32)), (0, .ref h), (1, .int x1), (2, .int x2), (3, .int x3)]) X dX12_sumBy_1 (by decide) rfl ?_
  refine gr_iconst (v := 0) X dX12_sumBy_3 (by decide) ?_
  refine gr_istore (L2 := [(5, .int (0 : Int32)), (4, .int (0 : Int32)), (0, .ref h), (1, .int x1), (2, .int x2), (3, .int x3)]) X dX12_sumBy_4 (by decide) rfl ?_
  refine gr_sub [2, 3, 4, 5, 1, 0] rfl ?_
  refine wm_sumBy_l6 X hK hA  hFU _ _ _ _ _ _ hf
abbrev rm_wouldBe : Room := { frames := 9, cells := 0, slots := 0, locals := 208 }
def fm_wouldBe (x1 : Int32) (x2 : Int32) (x3 : Int32) (σ : SM) : Option (Int32 × SM) := (Option.bind (fm_isSheet x1) fun q1 => (if q1 = 0 then (some ((-1 : Int32), σ)) else (Option.bind (fm_isIn (Int32.toInt64 x3) (0 : Int64) (20 : Int64)) fun q2 => (if ¬ q2 = 0 then (Option.bind (fm_lacks σ x1 (0 : Int32)) fun q3 => (if q3 = 0 then (Option.bind (fm_laysAside (0 : Int32) σ) fun σ5 => (Option.bind (fm_sumBy x1 x2 x3 σ5) fun p_ => hl p_.1 fun q6 => hl p_.2 fun σ7 => (Option.bind (fm_laysBack (0 : Int32) σ7) fun σ9 => (some (q6, σ9))))) else (Option.bind (fm_lacks σ x1 (0 : Int32)) fun q10 => (some (q10, σ))))) else (some ((-1 : Int32), σ))))))
set_option maxHeartbeats 4000000 in
set_option maxRecDepth 100000 in
theorem xm_wouldBe {l : Launch} {D : va_G} {cA : ClassId} {h : Nat} {ad : Nat → Nat} {σ : SM} {x1 : Int32} {x2 : Int32} {x3 : Int32} {r : Int32} {τ : SM} (hf : fm_wouldBe x1 x2 x3 σ = some (r, τ)) : ctI l (wM h ad cA) D vwCl (kM D cA) yX12_wouldBe cX12_wouldBe 5 .int rm_wouldBe [.ref h, .int x1, .int x2, .int x3] σ r τ := by
  refine ct_I RX12 (by decide +kernel) rfl (Nat.le_of_ble_eq_true rfl) ?_
  intro p e s m args below meth c A X hK hA
  refine gr_eqL (L2 := [(0, .ref h), (1, .int x1), (2, .int x2), (3, .int x3)]) rfl ?_
  unfold fm_wouldBe at hf
  refine gr_iload_n X dX12_wouldBe_0 rfl 1 rfl ?_
  obtain ⟨q1, hq_, hf⟩ := ot_b hf
  refine gc_Si (rest := []) X kM_ok hK hA cw12_isSheet (xm_isSheet hq_) rfl ⟨rfl, rfl, Nat.le_of_ble_eq_true rfl, Nat.le_of_ble_eq_true rfl⟩ rfl (Nat.le_of_ble_eq_true rfl) dX12_wouldBe_1 ?_
  refine gr_if_eq X 19 dX12_wouldBe_4 (by decide) (fun hc_ => ?_) (fun hc_ => ?_)
  · replace hf := ot_t hf hc_
    refine gr_iconst (v := -1) X dX12_wouldBe_19 (by decide) ?_
    exact gr_iret X dX12_wouldBe_20 (Prod.mk.inj (Option.some.inj hf)).1 (Prod.mk.inj (Option.some.inj hf)).2
  · replace hf := ot_f hf hc_
    refine gr_iload_n X dX12_wouldBe_7 rfl 3 rfl ?_
    refine gr_i2l X dX12_wouldBe_8 ?_
    refine gr_lconst (v := 0) X dX12_wouldBe_9 (by decide) ?_
    refine gr_ldc2_w X ck12_357 dX12_wouldBe_10 ?_
    obtain ⟨q2, hq_, hf⟩ := ot_b hf
    refine gc_Si (rest := []) X kM_ok hK hA cw12_isIn (xm_isIn hq_) rfl ⟨rfl, rfl, Nat.le_of_ble_eq_true rfl, Nat.le_of_ble_eq_true rfl⟩ rfl (Nat.le_of_ble_eq_true rfl) dX12_wouldBe_13 ?_
    refine gr_if_ne X 21 dX12_wouldBe_16 (by decide) (fun hc_ => ?_) (fun hc_ => ?_)
    · replace hf := ot_t hf hc_
      refine gr_aload_n X dX12_wouldBe_21 rfl 0 rfl ?_
      refine gr_iload_n X dX12_wouldBe_22 rfl 1 rfl ?_
      refine gr_iconst (v := 0) X dX12_wouldBe_23 (by decide) ?_
      obtain ⟨q3, hq_, hf⟩ := ot_b hf
      refine gc_Vi (rest := []) X kM_ok hK hA cw12_lacks (rvM hK) (xm_lacks hq_) rfl ⟨rfl, rfl, Nat.le_of_ble_eq_true rfl, Nat.le_of_ble_eq_true rfl⟩ rfl (Nat.le_of_ble_eq_true rfl) dX12_wouldBe_24 ?_
      refine gr_if_eq X 37 dX12_wouldBe_27 (by decide) (fun hc_ => ?_) (fun hc_ => ?_)
      · replace hf := ot_t hf hc_
        refine gr_aload_n X dX12_wouldBe_37 rfl 0 rfl ?_
        refine gr_iconst (v := 0) X dX12_wouldBe_38 (by decide) ?_
        obtain ⟨σ5, hq_, hf⟩ := ot_b hf
        refine gc_Vv (rest := []) X kM_ok hK hA cw12_laysAside (rvM hK) (xm_laysAside hq_) rfl ⟨rfl, rfl, Nat.le_of_ble_eq_true rfl, Nat.le_of_ble_eq_true rfl⟩ rfl (Nat.le_of_ble_eq_true rfl) dX12_wouldBe_39 ?_
        refine gr_aload_n X dX12_wouldBe_42 rfl 0 rfl ?_
        refine gr_iload_n X dX12_wouldBe_43 rfl 1 rfl ?_
        refine gr_iload_n X dX12_wouldBe_44 rfl 2 rfl ?_
        refine gr_iload_n X dX12_wouldBe_45 rfl 3 rfl ?_
        obtain ⟨⟨q6, σ7⟩, hq_, hf⟩ := ot_b hf
        replace hf := ot_l (y := q6) hf rfl
        replace hf := ot_l (y := σ7) hf rfl
        refine gc_Vi (rest := []) X kM_ok hK hA cw12_sumBy (rvM hK) (xm_sumBy hq_) rfl ⟨rfl, rfl, Nat.le_of_ble_eq_true rfl, Nat.le_of_ble_eq_true rfl⟩ rfl (Nat.le_of_ble_eq_true rfl) dX12_wouldBe_46 ?_
        refine gr_istore (L2 := [(4, .int q6), (0, .ref h), (1, .int x1), (2, .int x2), (3, .int x3)]) X dX12_wouldBe_49 (by decide) rfl ?_
        refine gr_aload_n X dX12_wouldBe_51 rfl 1 rfl ?_
        refine gr_iconst (v := 0) X dX12_wouldBe_52 (by decide) ?_
        obtain ⟨σ9, hq_, hf⟩ := ot_b hf
        refine gc_Vv (rest := []) X kM_ok hK hA cw12_laysBack (rvM hK) (xm_laysBack hq_) rfl ⟨rfl, rfl, Nat.le_of_ble_eq_true rfl, Nat.le_of_ble_eq_true rfl⟩ rfl (Nat.le_of_ble_eq_true rfl) dX12_wouldBe_53 ?_
        refine gr_iload X dX12_wouldBe_56 0 rfl ?_
        exact gr_iret X dX12_wouldBe_58 (Prod.mk.inj (Option.some.inj hf)).1 (Prod.mk.inj (Option.some.inj hf)).2
      · replace hf := ot_f hf hc_
        refine gr_aload_n X dX12_wouldBe_30 rfl 0 rfl ?_
        refine gr_iload_n X dX12_wouldBe_31 rfl 1 rfl ?_
        refine gr_iconst (v := 0) X dX12_wouldBe_32 (by decide) ?_
        obtain ⟨q10, hq_, hf⟩ := ot_b hf
        refine gc_Vi (rest := []) X kM_ok hK hA cw12_lacks (rvM hK) (xm_lacks hq_) rfl ⟨rfl, rfl, Nat.le_of_ble_eq_true rfl, Nat.le_of_ble_eq_true rfl⟩ rfl (Nat.le_of_ble_eq_true rfl) dX12_wouldBe_33 ?_
        exact gr_iret X dX12_wouldBe_36 (Prod.mk.inj (Option.some.inj hf)).1 (Prod.mk.inj (Option.some.inj hf)).2
    · replace hf := ot_f hf hc_
      refine gr_iconst (v := -1) X dX12_wouldBe_19 (by decide) ?_
      exact gr_iret X dX12_wouldBe_20 (Prod.mk.inj (Option.some.inj hf)).1 (Prod.mk.inj (Option.some.inj hf)).2
abbrev rm_shelf : Room := { frames := 2, cells := 0, slots := 0, locals := 45 }
def fm_shelf_b118 (x1 : Int32) (x3 : Int32) (x4 : Int32) (y0 : Int32) (y1 : Int32) (σ : SM) : Option (Int32 × SM) := (oc (hin y1 4) (hl (sf σ 32 (upd (σ 32) (Int32.toNatClampNeg y1) y0)) fun σ4 => (if x4 = 0 then (oc (hin x1 4) (hl (sf σ4 33 (upd (σ4 33) (Int32.toNatClampNeg x1) (0 : Int32))) fun σ5 => (some ((1 : Int32), σ5)))) else (oc (hin x3 4) (oc (hin x1 4) (hl (sf σ4 33 (upd (σ4 33) (Int32.toNatClampNeg x1) (σ4 29 (Int32.toNatClampNeg x3)))) fun σ6 => (some ((1 : Int32), σ6))))))))
def fm_shelf_b89 (x1 : Int32) (x2 : Int32) (x3 : Int32) (x4 : Int32) (y0 : Int32) (y1 : Int32) (σ : SM) : Option (Int32 × SM) := (oc (hin y1 4) (hl (sf σ 31 (upd (σ 31) (Int32.toNatClampNeg y1) y0)) fun σ3 => (if ¬ x2 = 0 then (if x4 = 0 then (fm_shelf_b118 x1 x3 x4 (0 : Int32) x1 σ3) else (oc (hin x3 4) (fm_shelf_b118 x1 x3 x4 (σ3 28 (Int32.toNatClampNeg x3)) x1 σ3))) else (fm_shelf_b118 x1 x3 x4 x3 x1 σ3))))
def fm_shelf_b64 (x1 : Int32) (x2 : Int32) (x3 : Int32) (y0 : Int32) (σ : SM) : Option (Int32 × SM) := (if ¬ x2 = 0 then (if y0 = 0 then (fm_shelf_b89 x1 x2 x3 y0 (0 : Int32) x1 σ) else (fm_shelf_b89 x1 x2 x3 y0 (2 : Int32) x1 σ)) else (fm_shelf_b89 x1 x2 x3 y0 (1 : Int32) x1 σ))
def fm_shelf_b63 (x1 : Int32) (x2 : Int32) (x3 : Int32) (σ : SM) : Option (Int32 × SM) := (fm_shelf_b64 x1 x2 x3 (0 : Int32) σ)
def fm_shelf_b45 (x1 : Int32) (x2 : Int32) (x3 : Int32) (σ : SM) : Option (Int32 × SM) := (if ¬ x2 = (1 : Int32) then (fm_shelf_b63 x1 x2 x3 σ) else (oc (hin x3 4) (if (σ 28 (Int32.toNatClampNeg x3)) < 0 then (fm_shelf_b63 x1 x2 x3 σ) else (fm_shelf_b64 x1 x2 x3 (1 : Int32) σ))))
def fm_shelf_b31 (x1 : Int32) (x2 : Int32) (x3 : Int32) (σ : SM) : Option (Int32 × SM) := (if ¬ x2 = (1 : Int32) then (fm_shelf_b45 x1 x2 x3 σ) else (Option.bind (fm_isSheet x3) fun q7 => (if ¬ q7 = 0 then (fm_shelf_b45 x1 x2 x3 σ) else (some ((-1 : Int32), σ)))))
def fm_shelf (x1 : Int32) (x2 : Int32) (x3 : Int32) (σ : SM) : Option (Int32 × SM) := (Option.bind (fm_isShelf x1) fun q1 => (if q1 = 0 then (some ((-1 : Int32), σ)) else (Option.bind (fm_isIn (Int32.toInt64 x2) (0 : Int64) (2 : Int64)) fun q2 => (if q2 = 0 then (some ((-1 : Int32), σ)) else (if ¬ x2 = 0 then (fm_shelf_b31 x1 x2 x3 σ) else (Option.bind (fm_isOne σ x3) fun q8 => (if q8 = 0 then (some ((-1 : Int32), σ)) else (fm_shelf_b31 x1 x2 x3 σ))))))))
set_option maxHeartbeats 4000000 in
set_option maxRecDepth 100000 in
theorem wm_shelf_b118 {p : Program} {l : Launch} {e : Env} {s : State} {m : MethodId} {args : Array Value} {below : List Frame} {meth : Method} {c : Code} {A : Nat → Prop} {D : va_G} {cA : ClassId} {h : Nat} {ad : Nat → Nat} {r : Int32} {τ : SM} (X : hc p s m args meth c RX12 cX12_shelf 5 (some .int)) (hK : kM D cA A s) (hA : ∀ q, s.heap.size ≤ q → A q)   (x1 : Int32) (x3 : Int32) (x4 : Int32) (y0 : Int32) (y1 : Int32) (σ : SM) (hf : fm_shelf_b118 x1 x3 x4 y0 y1 σ = some (r, τ)) : gg p l e rm_shelf s m args below meth c (wM h ad cA) D vwCl A 5 (QI below args s (wM h ad cA) D vwCl A r τ) 118 [(0, .ref h), (1, .int x1), (3, .int x3), (4, .int x4)] [.int y0, .int y1, .ref (ad 32)] σ := by
  unfold fm_shelf_b118 at hf
  have hi_ := oc_1 hf
  replace hf := oc_2 hf
  refine gM_ast_32 X hK (Int32.toNatClampNeg y1) hi_ rfl dX12_shelf_118 ?_
  refine gM_gen (fun σ4 e_σ4 => ?_)
  replace hf := ot_l hf e_σ4
  refine gr_aload_n X dX12_shelf_119 rfl 0 rfl ?_
  refine gM_get_33 X hK dX12_shelf_120 ?_
  refine gr_iload_n X dX12_shelf_123 rfl 1 rfl ?_
  refine gr_iload X dX12_shelf_124 3 rfl ?_
  refine gr_if_eq X 138 dX12_shelf_126 (by decide) (fun hc_ => ?_) (fun hc_ => ?_)
  · replace hf := ot_t hf hc_
    refine gr_iconst (v := 0) X dX12_shelf_138 (by decide) ?_
    have hi_ := oc_1 hf
    replace hf := oc_2 hf
    refine gM_ast_33 X hK (Int32.toNatClampNeg x1) hi_ rfl dX12_shelf_139 ?_
    refine gM_gen (fun σ5 e_σ5 => ?_)
    replace hf := ot_l hf e_σ5
    refine gr_iconst (v := 1) X dX12_shelf_140 (by decide) ?_
    exact gr_iret X dX12_shelf_141 (Prod.mk.inj (Option.some.inj hf)).1 (Prod.mk.inj (Option.some.inj hf)).2
  · replace hf := ot_f hf hc_
    refine gr_aload_n X dX12_shelf_129 rfl 0 rfl ?_
    refine gM_get_29 X hK dX12_shelf_130 ?_
    refine gr_iload_n X dX12_shelf_133 rfl 2 rfl ?_
    have hi_ := oc_1 hf
    replace hf := oc_2 hf
    refine gM_ald_29 X hK (Int32.toNatClampNeg x3) hi_ rfl dX12_shelf_134 ?_
    refine gr_goto X 139 dX12_shelf_135 (by decide) ?_
    have hi_ := oc_1 hf
    replace hf := oc_2 hf
    refine gM_ast_33 X hK (Int32.toNatClampNeg x1) hi_ rfl dX12_shelf_139 ?_
    refine gM_gen (fun σ6 e_σ6 => ?_)
    replace hf := ot_l hf e_σ6
    refine gr_iconst (v := 1) X dX12_shelf_140 (by decide) ?_
    exact gr_iret X dX12_shelf_141 (Prod.mk.inj (Option.some.inj hf)).1 (Prod.mk.inj (Option.some.inj hf)).2
set_option maxHeartbeats 4000000 in
set_option maxRecDepth 100000 in
theorem wm_shelf_b89 {p : Program} {l : Launch} {e : Env} {s : State} {m : MethodId} {args : Array Value} {below : List Frame} {meth : Method} {c : Code} {A : Nat → Prop} {D : va_G} {cA : ClassId} {h : Nat} {ad : Nat → Nat} {r : Int32} {τ : SM} (X : hc p s m args meth c RX12 cX12_shelf 5 (some .int)) (hK : kM D cA A s) (hA : ∀ q, s.heap.size ≤ q → A q)   (x1 : Int32) (x2 : Int32) (x3 : Int32) (x4 : Int32) (y0 : Int32) (y1 : Int32) (σ : SM) (hf : fm_shelf_b89 x1 x2 x3 x4 y0 y1 σ = some (r, τ)) : gg p l e rm_shelf s m args below meth c (wM h ad cA) D vwCl A 5 (QI below args s (wM h ad cA) D vwCl A r τ) 89 [(0, .ref h), (1, .int x1), (2, .int x2), (3, .int x3), (4, .int x4)] [.int y0, .int y1, .ref (ad 31)] σ := by
  unfold fm_shelf_b89 at hf
  have hi_ := oc_1 hf
  replace hf := oc_2 hf
  refine gM_ast_31 X hK (Int32.toNatClampNeg y1) hi_ rfl dX12_shelf_89 ?_
  refine gM_gen (fun σ3 e_σ3 => ?_)
  replace hf := ot_l hf e_σ3
  refine gr_aload_n X dX12_shelf_90 rfl 0 rfl ?_
  refine gM_get_32 X hK dX12_shelf_91 ?_
  refine gr_iload_n X dX12_shelf_94 rfl 1 rfl ?_
  refine gr_iload_n X dX12_shelf_95 rfl 2 rfl ?_
  refine gr_if_ne X 103 dX12_shelf_96 (by decide) (fun hc_ => ?_) (fun hc_ => ?_)
  · replace hf := ot_t hf hc_
    refine gr_iload X dX12_shelf_103 4 rfl ?_
    refine gr_if_eq X 117 dX12_shelf_105 (by decide) (fun hc_ => ?_) (fun hc_ => ?_)
    · replace hf := ot_t hf hc_
      refine gr_iconst (v := 0) X dX12_shelf_117 (by decide) ?_
      refine gr_sub [0, 1, 3, 4] rfl ?_
      exact wm_shelf_b118 X hK hA _ _ _ _ _ _ hf
    · replace hf := ot_f hf hc_
      refine gr_aload_n X dX12_shelf_108 rfl 0 rfl ?_
      refine gM_get_28 X hK dX12_shelf_109 ?_
      refine gr_iload_n X dX12_shelf_112 rfl 3 rfl ?_
      have hi_ := oc_1 hf
      replace hf := oc_2 hf
      refine gM_ald_28 X hK (Int32.toNatClampNeg x3) hi_ rfl dX12_shelf_113 ?_
      refine gr_goto X 118 dX12_shelf_114 (by decide) ?_
      refine gr_sub [0, 1, 3, 4] rfl ?_
      exact wm_shelf_b118 X hK hA _ _ _ _ _ _ hf
  · replace hf := ot_f hf hc_
    refine gr_iload_n X dX12_shelf_99 rfl 3 rfl ?_
    refine gr_goto X 118 dX12_shelf_100 (by decide) ?_
    refine gr_sub [0, 1, 3, 4] rfl ?_
    exact wm_shelf_b118 X hK hA _ _ _ _ _ _ hf
set_option maxHeartbeats 4000000 in
set_option maxRecDepth 100000 in
theorem wm_shelf_b64 {p : Program} {l : Launch} {e : Env} {s : State} {m : MethodId} {args : Array Value} {below : List Frame} {meth : Method} {c : Code} {A : Nat → Prop} {D : va_G} {cA : ClassId} {h : Nat} {ad : Nat → Nat} {r : Int32} {τ : SM} (X : hc p s m args meth c RX12 cX12_shelf 5 (some .int)) (hK : kM D cA A s) (hA : ∀ q, s.heap.size ≤ q → A q)   (x1 : Int32) (x2 : Int32) (x3 : Int32) (y0 : Int32) (σ : SM) (hf : fm_shelf_b64 x1 x2 x3 y0 σ = some (r, τ)) : gg p l e rm_shelf s m args below meth c (wM h ad cA) D vwCl A 5 (QI below args s (wM h ad cA) D vwCl A r τ) 64 [(0, .ref h), (1, .int x1), (2, .int x2), (3, .int x3)] [.int y0] σ := by
  unfold fm_shelf_b64 at hf
  refine gr_istore (L2 := [(4, .int y0), (0, .ref h), (1, .int x1), (2, .int x2), (3, .int x3)]) X dX12_shelf_64 (by decide) rfl ?_
  refine gr_aload_n X dX12_shelf_66 rfl 1 rfl ?_
  refine gM_get_31 X hK dX12_shelf_67 ?_
  refine gr_iload_n X dX12_shelf_70 rfl 2 rfl ?_
  refine gr_iload_n X dX12_shelf_71 rfl 3 rfl ?_
  refine gr_if_ne X 79 dX12_shelf_72 (by decide) (fun hc_ => ?_) (fun hc_ => ?_)
  · replace hf := ot_t hf hc_
    refine gr_iload X dX12_shelf_79 0 rfl ?_
    refine gr_if_eq X 88 dX12_shelf_81 (by decide) (fun hc_ => ?_) (fun hc_ => ?_)
    · replace hf := ot_t hf hc_
      refine gr_iconst (v := 0) X dX12_shelf_88 (by decide) ?_
      refine gr_sub [1, 2, 3, 4, 0] rfl ?_
      exact wm_shelf_b89 X hK hA _ _ _ _ _ _ _ hf
    · replace hf := ot_f hf hc_
      refine gr_iconst (v := 2) X dX12_shelf_84 (by decide) ?_
      refine gr_goto X 89 dX12_shelf_85 (by decide) ?_
      refine gr_sub [1, 2, 3, 4, 0] rfl ?_
      exact wm_shelf_b89 X hK hA _ _ _ _ _ _ _ hf
  · replace hf := ot_f hf hc_
    refine gr_iconst (v := 1) X dX12_shelf_75 (by decide) ?_
    refine gr_goto X 89 dX12_shelf_76 (by decide) ?_
    refine gr_sub [1, 2, 3, 4, 0] rfl ?_
    exact wm_shelf_b89 X hK hA _ _ _ _ _ _ _ hf
set_option maxHeartbeats 4000000 in
set_option maxRecDepth 100000 in
theorem wm_shelf_b63 {p : Program} {l : Launch} {e : Env} {s : State} {m : MethodId} {args : Array Value} {below : List Frame} {meth : Method} {c : Code} {A : Nat → Prop} {D : va_G} {cA : ClassId} {h : Nat} {ad : Nat → Nat} {r : Int32} {τ : SM} (X : hc p s m args meth c RX12 cX12_shelf 5 (some .int)) (hK : kM D cA A s) (hA : ∀ q, s.heap.size ≤ q → A q)   (x1 : Int32) (x2 : Int32) (x3 : Int32) (σ : SM) (hf : fm_shelf_b63 x1 x2 x3 σ = some (r, τ)) : gg p l e rm_shelf s m args below meth c (wM h ad cA) D vwCl A 5 (QI below args s (wM h ad cA) D vwCl A r τ) 63 [(0, .ref h), (1, .int x1), (2, .int x2), (3, .int x3)] [] σ := by
  unfold fm_shelf_b63 at hf
  refine gr_iconst (v := 0) X dX12_shelf_63 (by decide) ?_
  refine gr_sub [0, 1, 2, 3] rfl ?_
  exact wm_shelf_b64 X hK hA _ _ _ _ _ hf
set_option maxHeartbeats 4000000 in
set_option maxRecDepth 100000 in
theorem wm_shelf_b45 {p : Program} {l : Launch} {e : Env} {s : State} {m : MethodId} {args : Array Value} {below : List Frame} {meth : Method} {c : Code} {A : Nat → Prop} {D : va_G} {cA : ClassId} {h : Nat} {ad : Nat → Nat} {r : Int32} {τ : SM} (X : hc p s m args meth c RX12 cX12_shelf 5 (some .int)) (hK : kM D cA A s) (hA : ∀ q, s.heap.size ≤ q → A q)   (x1 : Int32) (x2 : Int32) (x3 : Int32) (σ : SM) (hf : fm_shelf_b45 x1 x2 x3 σ = some (r, τ)) : gg p l e rm_shelf s m args below meth c (wM h ad cA) D vwCl A 5 (QI below args s (wM h ad cA) D vwCl A r τ) 45 [(0, .ref h), (1, .int x1), (2, .int x2), (3, .int x3)] [] σ := by
  unfold fm_shelf_b45 at hf
  refine gr_iload_n X dX12_shelf_45 rfl 2 rfl ?_
  refine gr_iconst (v := 1) X dX12_shelf_46 (by decide) ?_
  refine gr_icmp_ne X 63 dX12_shelf_47 (by decide) (fun hc_ => ?_) (fun hc_ => ?_)
  · replace hf := ot_t hf hc_
    refine gr_sub [0, 1, 2, 3] rfl ?_
    exact wm_shelf_b63 X hK hA _ _ _ _ hf
  · replace hf := ot_f hf hc_
    refine gr_aload_n X dX12_shelf_50 rfl 0 rfl ?_
    refine gM_get_28 X hK dX12_shelf_51 ?_
    refine gr_iload_n X dX12_shelf_54 rfl 3 rfl ?_
    have hi_ := oc_1 hf
    replace hf := oc_2 hf
    refine gM_ald_28 X hK (Int32.toNatClampNeg x3) hi_ rfl dX12_shelf_55 ?_
    refine gr_if_lt X 63 dX12_shelf_56 (by decide) (fun hc_ => ?_) (fun hc_ => ?_)
    · replace hf := ot_t hf hc_
      refine gr_sub [0, 1, 2, 3] rfl ?_
      exact wm_shelf_b63 X hK hA _ _ _ _ hf
    · replace hf := ot_f hf hc_
      refine gr_iconst (v := 1) X dX12_shelf_59 (by decide) ?_
      refine gr_goto X 64 dX12_shelf_60 (by decide) ?_
      refine gr_sub [0, 1, 2, 3] rfl ?_
      exact wm_shelf_b64 X hK hA _ _ _ _ _ hf
set_option maxHeartbeats 4000000 in
set_option maxRecDepth 100000 in
theorem wm_shelf_b31 {p : Program} {l : Launch} {e : Env} {s : State} {m : MethodId} {args : Array Value} {below : List Frame} {meth : Method} {c : Code} {A : Nat → Prop} {D : va_G} {cA : ClassId} {h : Nat} {ad : Nat → Nat} {r : Int32} {τ : SM} (X : hc p s m args meth c RX12 cX12_shelf 5 (some .int)) (hK : kM D cA A s) (hA : ∀ q, s.heap.size ≤ q → A q)   (x1 : Int32) (x2 : Int32) (x3 : Int32) (σ : SM) (hf : fm_shelf_b31 x1 x2 x3 σ = some (r, τ)) : gg p l e rm_shelf s m args below meth c (wM h ad cA) D vwCl A 5 (QI below args s (wM h ad cA) D vwCl A r τ) 31 [(0, .ref h), (1, .int x1), (2, .int x2), (3, .int x3)] [] σ := by
  unfold fm_shelf_b31 at hf
  refine gr_iload_n X dX12_shelf_31 rfl 2 rfl ?_
  refine gr_iconst (v := 1) X dX12_shelf_32 (by decide) ?_
  refine gr_icmp_ne X 45 dX12_shelf_33 (by decide) (fun hc_ => ?_) (fun hc_ => ?_)
  · replace hf := ot_t hf hc_
    refine gr_sub [0, 1, 2, 3] rfl ?_
    exact wm_shelf_b45 X hK hA _ _ _ _ hf
  · replace hf := ot_f hf hc_
    refine gr_iload_n X dX12_shelf_36 rfl 3 rfl ?_
    obtain ⟨q7, hq_, hf⟩ := ot_b hf
    refine gc_Si (rest := []) X kM_ok hK hA cw12_isSheet (xm_isSheet hq_) rfl ⟨rfl, rfl, Nat.le_of_ble_eq_true rfl, Nat.le_of_ble_eq_true rfl⟩ rfl (Nat.le_of_ble_eq_true rfl) dX12_shelf_37 ?_
    refine gr_if_ne X 45 dX12_shelf_40 (by decide) (fun hc_ => ?_) (fun hc_ => ?_)
    · replace hf := ot_t hf hc_
      refine gr_sub [0, 1, 2, 3] rfl ?_
      exact wm_shelf_b45 X hK hA _ _ _ _ hf
    · replace hf := ot_f hf hc_
      refine gr_iconst (v := -1) X dX12_shelf_43 (by decide) ?_
      exact gr_iret X dX12_shelf_44 (Prod.mk.inj (Option.some.inj hf)).1 (Prod.mk.inj (Option.some.inj hf)).2
set_option maxHeartbeats 4000000 in
set_option maxRecDepth 100000 in
theorem xm_shelf {l : Launch} {D : va_G} {cA : ClassId} {h : Nat} {ad : Nat → Nat} {σ : SM} {x1 : Int32} {x2 : Int32} {x3 : Int32} {r : Int32} {τ : SM} (hf : fm_shelf x1 x2 x3 σ = some (r, τ)) : ctI l (wM h ad cA) D vwCl (kM D cA) yX12_shelf cX12_shelf 5 .int rm_shelf [.ref h, .int x1, .int x2, .int x3] σ r τ := by
  refine ct_I RX12 (by decide +kernel) rfl (Nat.le_of_ble_eq_true rfl) ?_
  intro p e s m args below meth c A X hK hA
  refine gr_eqL (L2 := [(0, .ref h), (1, .int x1), (2, .int x2), (3, .int x3)]) rfl ?_
  unfold fm_shelf at hf
  refine gr_iload_n X dX12_shelf_0 rfl 1 rfl ?_
  obtain ⟨q1, hq_, hf⟩ := ot_b hf
  refine gc_Si (rest := []) X kM_ok hK hA cw12_isShelf (xm_isShelf hq_) rfl ⟨rfl, rfl, Nat.le_of_ble_eq_true rfl, Nat.le_of_ble_eq_true rfl⟩ rfl (Nat.le_of_ble_eq_true rfl) dX12_shelf_1 ?_
  refine gr_if_eq X 43 dX12_shelf_4 (by decide) (fun hc_ => ?_) (fun hc_ => ?_)
  · replace hf := ot_t hf hc_
    refine gr_iconst (v := -1) X dX12_shelf_43 (by decide) ?_
    exact gr_iret X dX12_shelf_44 (Prod.mk.inj (Option.some.inj hf)).1 (Prod.mk.inj (Option.some.inj hf)).2
  · replace hf := ot_f hf hc_
    refine gr_iload_n X dX12_shelf_7 rfl 2 rfl ?_
    refine gr_i2l X dX12_shelf_8 ?_
    refine gr_lconst (v := 0) X dX12_shelf_9 (by decide) ?_
    refine gr_ldc2_w X ck12_99 dX12_shelf_10 ?_
    obtain ⟨q2, hq_, hf⟩ := ot_b hf
    refine gc_Si (rest := []) X kM_ok hK hA cw12_isIn (xm_isIn hq_) rfl ⟨rfl, rfl, Nat.le_of_ble_eq_true rfl, Nat.le_of_ble_eq_true rfl⟩ rfl (Nat.le_of_ble_eq_true rfl) dX12_shelf_13 ?_
    refine gr_if_eq X 43 dX12_shelf_16 (by decide) (fun hc_ => ?_) (fun hc_ => ?_)
    · replace hf := ot_t hf hc_
      refine gr_iconst (v := -1) X dX12_shelf_43 (by decide) ?_
      exact gr_iret X dX12_shelf_44 (Prod.mk.inj (Option.some.inj hf)).1 (Prod.mk.inj (Option.some.inj hf)).2
    · replace hf := ot_f hf hc_
      refine gr_iload_n X dX12_shelf_19 rfl 2 rfl ?_
      refine gr_if_ne X 31 dX12_shelf_20 (by decide) (fun hc_ => ?_) (fun hc_ => ?_)
      · replace hf := ot_t hf hc_
        refine gr_sub [0, 1, 2, 3] rfl ?_
        exact wm_shelf_b31 X hK hA _ _ _ _ hf
      · replace hf := ot_f hf hc_
        refine gr_aload_n X dX12_shelf_23 rfl 0 rfl ?_
        refine gr_iload_n X dX12_shelf_24 rfl 3 rfl ?_
        obtain ⟨q8, hq_, hf⟩ := ot_b hf
        refine gc_Vi (rest := []) X kM_ok hK hA cw12_isOne (rvM hK) (xm_isOne hq_) rfl ⟨rfl, rfl, Nat.le_of_ble_eq_true rfl, Nat.le_of_ble_eq_true rfl⟩ rfl (Nat.le_of_ble_eq_true rfl) dX12_shelf_25 ?_
        refine gr_if_eq X 43 dX12_shelf_28 (by decide) (fun hc_ => ?_) (fun hc_ => ?_)
        · replace hf := ot_t hf hc_
          refine gr_iconst (v := -1) X dX12_shelf_43 (by decide) ?_
          exact gr_iret X dX12_shelf_44 (Prod.mk.inj (Option.some.inj hf)).1 (Prod.mk.inj (Option.some.inj hf)).2
        · replace hf := ot_f hf hc_
          refine gr_sub [0, 1, 2, 3] rfl ?_
          exact wm_shelf_b31 X hK hA _ _ _ _ hf
abbrev rm_heldOn : Room := { frames := 1, cells := 0, slots := 0, locals := 21 }
def fm_heldOn (σ : SM) (x1 : Int32) : Option Int32 := (oc (hin x1 4) (if ¬ (σ 31 (Int32.toNatClampNeg x1)) = (1 : Int32) then (oc (hin x1 4) (some (σ 31 (Int32.toNatClampNeg x1)))) else (oc (hin x1 4) (Option.bind (fm_isOne σ (σ 32 (Int32.toNatClampNeg x1))) fun q1 => (if ¬ q1 = 0 then (oc (hin x1 4) (some (σ 31 (Int32.toNatClampNeg x1)))) else (some (0 : Int32)))))))
set_option maxHeartbeats 4000000 in
set_option maxRecDepth 100000 in
theorem xm_heldOn {l : Launch} {D : va_G} {cA : ClassId} {h : Nat} {ad : Nat → Nat} {σ : SM} {x1 : Int32} {r : Int32} (hf : fm_heldOn σ x1 = some r) : ctI l (wM h ad cA) D vwCl (kM D cA) yX12_heldOn cX12_heldOn 2 .int rm_heldOn [.ref h, .int x1] σ r σ := by
  refine ct_I RX12 (by decide +kernel) rfl (Nat.le_of_ble_eq_true rfl) ?_
  intro p e s m args below meth c A X hK hA
  refine gr_eqL (L2 := [(0, .ref h), (1, .int x1)]) rfl ?_
  unfold fm_heldOn at hf
  refine gr_aload_n X dX12_heldOn_0 rfl 0 rfl ?_
  refine gM_get_31 X hK dX12_heldOn_1 ?_
  refine gr_iload_n X dX12_heldOn_4 rfl 1 rfl ?_
  have hi_ := oc_1 hf
  replace hf := oc_2 hf
  refine gM_ald_31 X hK (Int32.toNatClampNeg x1) hi_ rfl dX12_heldOn_5 ?_
  refine gr_iconst (v := 1) X dX12_heldOn_6 (by decide) ?_
  refine gr_icmp_ne X 27 dX12_heldOn_7 (by decide) (fun hc_ => ?_) (fun hc_ => ?_)
  · replace hf := ot_t hf hc_
    refine gr_aload_n X dX12_heldOn_27 rfl 0 rfl ?_
    refine gM_get_31 X hK dX12_heldOn_28 ?_
    refine gr_iload_n X dX12_heldOn_31 rfl 1 rfl ?_
    have hi_ := oc_1 hf
    replace hf := oc_2 hf
    refine gM_ald_31 X hK (Int32.toNatClampNeg x1) hi_ rfl dX12_heldOn_32 ?_
    exact gr_iret X dX12_heldOn_33 (Option.some.inj hf) rfl
  · replace hf := ot_f hf hc_
    refine gr_aload_n X dX12_heldOn_10 rfl 0 rfl ?_
    refine gr_aload_n X dX12_heldOn_11 rfl 0 rfl ?_
    refine gM_get_32 X hK dX12_heldOn_12 ?_
    refine gr_iload_n X dX12_heldOn_15 rfl 1 rfl ?_
    have hi_ := oc_1 hf
    replace hf := oc_2 hf
    refine gM_ald_32 X hK (Int32.toNatClampNeg x1) hi_ rfl dX12_heldOn_16 ?_
    obtain ⟨q1, hq_, hf⟩ := ot_b hf
    refine gc_Vi (rest := []) X kM_ok hK hA cw12_isOne (rvM hK) (xm_isOne hq_) rfl ⟨rfl, rfl, Nat.le_of_ble_eq_true rfl, Nat.le_of_ble_eq_true rfl⟩ rfl (Nat.le_of_ble_eq_true rfl) dX12_heldOn_17 ?_
    refine gr_if_ne X 27 dX12_heldOn_20 (by decide) (fun hc_ => ?_) (fun hc_ => ?_)
    · replace hf := ot_t hf hc_
      refine gr_aload_n X dX12_heldOn_27 rfl 0 rfl ?_
      refine gM_get_31 X hK dX12_heldOn_28 ?_
      refine gr_iload_n X dX12_heldOn_31 rfl 1 rfl ?_
      have hi_ := oc_1 hf
      replace hf := oc_2 hf
      refine gM_ald_31 X hK (Int32.toNatClampNeg x1) hi_ rfl dX12_heldOn_32 ?_
      exact gr_iret X dX12_heldOn_33 (Option.some.inj hf) rfl
    · replace hf := ot_f hf hc_
      refine gr_iconst (v := 0) X dX12_heldOn_23 (by decide) ?_
      refine gr_goto X 33 dX12_heldOn_24 (by decide) ?_
      exact gr_iret X dX12_heldOn_33 (Option.some.inj hf) rfl
abbrev rm_taken : Room := { frames := 2, cells := 0, slots := 0, locals := 45 }
def fm_taken (σ : SM) (x1 : Int32) (x2 : Int32) : Option Int32 := (Option.bind (fm_isShelf x1) fun q1 => (if q1 = 0 then (some (-1 : Int32)) else (Option.bind (fm_isIn (Int32.toInt64 x2) (0 : Int64) (14 : Int64)) fun q2 => (if q2 = 0 then (some (-1 : Int32)) else (Option.bind (fm_isIn (Int32.toInt64 x2) (6 : Int64) (9 : Int64)) fun q3 => (if q3 = 0 then (Option.bind (fm_heldOn σ x1) fun q4 => (if ¬ q4 = 0 then (if (10 : Int32) ≤ x2 then (if ¬ q4 = (2 : Int32) then (some (-13 : Int32)) else (oc (hin x1 4) (if ¬ (σ 32 (Int32.toNatClampNeg x1)) = (x2 - (10 : Int32)) then (some (-13 : Int32)) else (oc (hin x1 4) (some (σ 33 (Int32.toNatClampNeg x1))))))) else (if ¬ q4 = (1 : Int32) then (some (-13 : Int32)) else (oc (hin x1 4) (Option.bind (fm_its σ (σ 32 (Int32.toNatClampNeg x1)) (0 : Int32)) fun q5 => (Option.bind (fm_isUnder q5 x2) fun q6 => (if q6 = 0 then (some (-13 : Int32)) else (oc (hin x1 4) (some (σ 32 (Int32.toNatClampNeg x1)))))))))) else (some (-11 : Int32)))) else (some (-1 : Int32))))))))
set_option maxHeartbeats 4000000 in
set_option maxRecDepth 100000 in
theorem xm_taken {l : Launch} {D : va_G} {cA : ClassId} {h : Nat} {ad : Nat → Nat} {σ : SM} {x1 : Int32} {x2 : Int32} {r : Int32} (hf : fm_taken σ x1 x2 = some r) : ctI l (wM h ad cA) D vwCl (kM D cA) yX12_taken cX12_taken 4 .int rm_taken [.ref h, .int x1, .int x2] σ r σ := by
  refine ct_I RX12 (by decide +kernel) rfl (Nat.le_of_ble_eq_true rfl) ?_
  intro p e s m args below meth c A X hK hA
  refine gr_eqL (L2 := [(0, .ref h), (1, .int x1), (2, .int x2)]) rfl ?_
  unfold fm_taken at hf
  refine gr_iload_n X dX12_taken_0 rfl 1 rfl ?_
  obtain ⟨q1, hq_, hf⟩ := ot_b hf
  refine gc_Si (rest := []) X kM_ok hK hA cw12_isShelf (xm_isShelf hq_) rfl ⟨rfl, rfl, Nat.le_of_ble_eq_true rfl, Nat.le_of_ble_eq_true rfl⟩ rfl (Nat.le_of_ble_eq_true rfl) dX12_taken_1 ?_
  refine gr_if_eq X 33 dX12_taken_4 (by decide) (fun hc_ => ?_) (fun hc_ => ?_)
  · replace hf := ot_t hf hc_
    refine gr_iconst (v := -1) X dX12_taken_33 (by decide) ?_
    exact gr_iret X dX12_taken_34 (Option.some.inj hf) rfl
  · replace hf := ot_f hf hc_
    refine gr_iload_n X dX12_taken_7 rfl 2 rfl ?_
    refine gr_i2l X dX12_taken_8 ?_
    refine gr_lconst (v := 0) X dX12_taken_9 (by decide) ?_
    refine gr_ldc2_w X ck12_130 dX12_taken_10 ?_
    obtain ⟨q2, hq_, hf⟩ := ot_b hf
    refine gc_Si (rest := []) X kM_ok hK hA cw12_isIn (xm_isIn hq_) rfl ⟨rfl, rfl, Nat.le_of_ble_eq_true rfl, Nat.le_of_ble_eq_true rfl⟩ rfl (Nat.le_of_ble_eq_true rfl) dX12_taken_13 ?_
    refine gr_if_eq X 33 dX12_taken_16 (by decide) (fun hc_ => ?_) (fun hc_ => ?_)
    · replace hf := ot_t hf hc_
      refine gr_iconst (v := -1) X dX12_taken_33 (by decide) ?_
      exact gr_iret X dX12_taken_34 (Option.some.inj hf) rfl
    · replace hf := ot_f hf hc_
      refine gr_iload_n X dX12_taken_19 rfl 2 rfl ?_
      refine gr_i2l X dX12_taken_20 ?_
      refine gr_ldc2_w X ck12_365 dX12_taken_21 ?_
      refine gr_ldc2_w X ck12_69 dX12_taken_24 ?_
      obtain ⟨q3, hq_, hf⟩ := ot_b hf
      refine gc_Si (rest := []) X kM_ok hK hA cw12_isIn (xm_isIn hq_) rfl ⟨rfl, rfl, Nat.le_of_ble_eq_true rfl, Nat.le_of_ble_eq_true rfl⟩ rfl (Nat.le_of_ble_eq_true rfl) dX12_taken_27 ?_
      refine gr_if_eq X 35 dX12_taken_30 (by decide) (fun hc_ => ?_) (fun hc_ => ?_)
      · replace hf := ot_t hf hc_
        refine gr_aload_n X dX12_taken_35 rfl 0 rfl ?_
        refine gr_iload_n X dX12_taken_36 rfl 1 rfl ?_
        obtain ⟨q4, hq_, hf⟩ := ot_b hf
        refine gc_Vi (rest := []) X kM_ok hK hA cw12_heldOn (rvM hK) (xm_heldOn hq_) rfl ⟨rfl, rfl, Nat.le_of_ble_eq_true rfl, Nat.le_of_ble_eq_true rfl⟩ rfl (Nat.le_of_ble_eq_true rfl) dX12_taken_37 ?_
        refine gr_istore_n (L2 := [(3, .int q4), (0, .ref h), (1, .int x1), (2, .int x2)]) X dX12_taken_40 rfl (by decide) rfl ?_
        refine gr_iload_n X dX12_taken_41 rfl 0 rfl ?_
        refine gr_if_ne X 48 dX12_taken_42 (by decide) (fun hc_ => ?_) (fun hc_ => ?_)
        · replace hf := ot_t hf hc_
          refine gr_iload_n X dX12_taken_48 rfl 3 rfl ?_
          refine gr_bipush (v := 10) X dX12_taken_49 (by decide) ?_
          refine gr_icmp_ge X 89 dX12_taken_51 (by decide) (fun hc_ => ?_) (fun hc_ => ?_)
          · replace hf := ot_t hf hc_
            refine gr_iload_n X dX12_taken_89 rfl 0 rfl ?_
            refine gr_iconst (v := 2) X dX12_taken_90 (by decide) ?_
            refine gr_icmp_ne X 116 dX12_taken_91 (by decide) (fun hc_ => ?_) (fun hc_ => ?_)
            · replace hf := ot_t hf hc_
              refine gr_bipush (v := -13) X dX12_taken_116 (by decide) ?_
              exact gr_iret X dX12_taken_118 (Option.some.inj hf) rfl
            · replace hf := ot_f hf hc_
              refine gr_aload_n X dX12_taken_94 rfl 1 rfl ?_
              refine gM_get_32 X hK dX12_taken_95 ?_
              refine gr_iload_n X dX12_taken_98 rfl 2 rfl ?_
              have hi_ := oc_1 hf
              replace hf := oc_2 hf
              refine gM_ald_32 X hK (Int32.toNatClampNeg x1) hi_ rfl dX12_taken_99 ?_
              refine gr_iload_n X dX12_taken_100 rfl 3 rfl ?_
              refine gr_bipush (v := 10) X dX12_taken_101 (by decide) ?_
              refine gr_isub X dX12_taken_103 ?_
              refine gr_icmp_ne X 116 dX12_taken_104 (by decide) (fun hc_ => ?_) (fun hc_ => ?_)
              · replace hf := ot_t hf hc_
                refine gr_bipush (v := -13) X dX12_taken_116 (by decide) ?_
                exact gr_iret X dX12_taken_118 (Option.some.inj hf) rfl
              · replace hf := ot_f hf hc_
                refine gr_aload_n X dX12_taken_107 rfl 1 rfl ?_
                refine gM_get_33 X hK dX12_taken_108 ?_
                refine gr_iload_n X dX12_taken_111 rfl 2 rfl ?_
                have hi_ := oc_1 hf
                replace hf := oc_2 hf
                refine gM_ald_33 X hK (Int32.toNatClampNeg x1) hi_ rfl dX12_taken_112 ?_
                refine gr_goto X 118 dX12_taken_113 (by decide) ?_
                exact gr_iret X dX12_taken_118 (Option.some.inj hf) rfl
          · replace hf := ot_f hf hc_
            refine gr_iload_n X dX12_taken_54 rfl 0 rfl ?_
            refine gr_iconst (v := 1) X dX12_taken_55 (by decide) ?_
            refine gr_icmp_ne X 86 dX12_taken_56 (by decide) (fun hc_ => ?_) (fun hc_ => ?_)
            · replace hf := ot_t hf hc_
              refine gr_bipush (v := -13) X dX12_taken_86 (by decide) ?_
              exact gr_iret X dX12_taken_88 (Option.some.inj hf) rfl
            · replace hf := ot_f hf hc_
              refine gr_aload_n X dX12_taken_59 rfl 1 rfl ?_
              refine gr_aload_n X dX12_taken_60 rfl 1 rfl ?_
              refine gM_get_32 X hK dX12_taken_61 ?_
              refine gr_iload_n X dX12_taken_64 rfl 2 rfl ?_
              have hi_ := oc_1 hf
              replace hf := oc_2 hf
              refine gM_ald_32 X hK (Int32.toNatClampNeg x1) hi_ rfl dX12_taken_65 ?_
              refine gr_iconst (v := 0) X dX12_taken_66 (by decide) ?_
              obtain ⟨q5, hq_, hf⟩ := ot_b hf
              refine gc_Vi (rest := []) X kM_ok hK hA cw12_its (rvM hK) (xm_its hq_) rfl ⟨rfl, rfl, Nat.le_of_ble_eq_true rfl, Nat.le_of_ble_eq_true rfl⟩ rfl (Nat.le_of_ble_eq_true rfl) dX12_taken_67 ?_
              refine gr_iload_n X dX12_taken_70 rfl 3 rfl ?_
              obtain ⟨q6, hq_, hf⟩ := ot_b hf
              refine gc_Si (rest := []) X kM_ok hK hA cw12_isUnder (xm_isUnder hq_) rfl ⟨rfl, rfl, Nat.le_of_ble_eq_true rfl, Nat.le_of_ble_eq_true rfl⟩ rfl (Nat.le_of_ble_eq_true rfl) dX12_taken_71 ?_
              refine gr_if_eq X 86 dX12_taken_74 (by decide) (fun hc_ => ?_) (fun hc_ => ?_)
              · replace hf := ot_t hf hc_
                refine gr_bipush (v := -13) X dX12_taken_86 (by decide) ?_
                exact gr_iret X dX12_taken_88 (Option.some.inj hf) rfl
              · replace hf := ot_f hf hc_
                refine gr_aload_n X dX12_taken_77 rfl 1 rfl ?_
                refine gM_get_32 X hK dX12_taken_78 ?_
                refine gr_iload_n X dX12_taken_81 rfl 2 rfl ?_
                have hi_ := oc_1 hf
                replace hf := oc_2 hf
                refine gM_ald_32 X hK (Int32.toNatClampNeg x1) hi_ rfl dX12_taken_82 ?_
                refine gr_goto X 88 dX12_taken_83 (by decide) ?_
                exact gr_iret X dX12_taken_88 (Option.some.inj hf) rfl
        · replace hf := ot_f hf hc_
          refine gr_bipush (v := -11) X dX12_taken_45 (by decide) ?_
          exact gr_iret X dX12_taken_47 (Option.some.inj hf) rfl
      · replace hf := ot_f hf hc_
        refine gr_iconst (v := -1) X dX12_taken_33 (by decide) ?_
        exact gr_iret X dX12_taken_34 (Option.some.inj hf) rfl
abbrev rm_runs : Room := { frames := 0, cells := 0, slots := 0, locals := 0 }
def fm_runs (x1 : Int32) (σ : SM) : Option SM := (if (30 : Int32) ≤ (σ 35 0) then (some σ) else (oc (hin (σ 35 0) 30) (hl (sf σ 34 (upd (σ 34) (Int32.toNatClampNeg (σ 35 0)) x1)) fun σ1 => (hl (sf σ1 35 (fun _ => ((σ1 35 0) + (1 : Int32)))) fun σ2 => (some σ2)))))
set_option maxHeartbeats 4000000 in
set_option maxRecDepth 100000 in
theorem xm_runs {l : Launch} {D : va_G} {cA : ClassId} {h : Nat} {ad : Nat → Nat} {σ : SM} {x1 : Int32} {τ : SM} (hf : fm_runs x1 σ = some τ) : ctV l (wM h ad cA) D vwCl (kM D cA) yX12_runs cX12_runs 2 rm_runs [.ref h, .int x1] σ τ := by
  refine ct_V RX12 (by decide +kernel) rfl (Nat.le_of_ble_eq_true rfl) ?_
  intro p e s m args below meth c A X hK hA
  refine gr_eqL (L2 := [(0, .ref h), (1, .int x1)]) rfl ?_
  unfold fm_runs at hf
  refine gr_aload_n X dX12_runs_0 rfl 0 rfl ?_
  refine gM_get_35 X hK dX12_runs_1 ?_
  refine gr_bipush (v := 30) X dX12_runs_4 (by decide) ?_
  refine gr_icmp_ge X 29 dX12_runs_6 (by decide) (fun hc_ => ?_) (fun hc_ => ?_)
  · replace hf := ot_t hf hc_
    exact gr_vret X dX12_runs_29 (Option.some.inj hf)
  · replace hf := ot_f hf hc_
    refine gr_aload_n X dX12_runs_9 rfl 0 rfl ?_
    refine gM_get_34 X hK dX12_runs_10 ?_
    refine gr_aload_n X dX12_runs_13 rfl 0 rfl ?_
    refine gM_get_35 X hK dX12_runs_14 ?_
    refine gr_iload_n X dX12_runs_17 rfl 1 rfl ?_
    have hi_ := oc_1 hf
    replace hf := oc_2 hf
    refine gM_ast_34 X hK (Int32.toNatClampNeg (σ 35 0)) hi_ rfl dX12_runs_18 ?_
    refine gM_gen (fun σ1 e_σ1 => ?_)
    replace hf := ot_l hf e_σ1
    refine gr_aload_n X dX12_runs_19 rfl 0 rfl ?_
    refine gr_dup X dX12_runs_20 rfl ?_
    refine gM_get_35 X hK dX12_runs_21 ?_
    refine gr_iconst (v := 1) X dX12_runs_24 (by decide) ?_
    refine gr_iadd X dX12_runs_25 ?_
    refine gM_put_35 X hK dX12_runs_26 ?_
    refine gM_gen (fun σ2 e_σ2 => ?_)
    replace hf := ot_l hf e_σ2
    exact gr_vret X dX12_runs_29 (Option.some.inj hf)
