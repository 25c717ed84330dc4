abbrev rm_hour : Room := { frames := 8, cells := 0, slots := 0, locals := 182 }
def fm_hour (σ : SM) : Option (Int32 × SM) := (Option.bind (fm_isOver σ) fun q1 => (if q1 = 0 then (Option.bind (fm_restAct σ) fun q2 => (Option.bind (fm_goesWith q2 σ) fun p_ => hl p_.1 fun q3 => hl p_.2 fun σ4 => (some (q3, σ4)))) else (some ((-4 : Int32), σ))))
set_option maxHeartbeats 4000000 in
set_option maxRecDepth 100000 in
theorem xm_hour {l : Launch} {D : va_G} {cA : ClassId} {h : Nat} {ad : Nat → Nat} {σ : SM} {r : Int32} {τ : SM} (hf : fm_hour σ = some (r, τ)) : ctI l (wM h ad cA) D vwCl (kM D cA) yX12_hour cX12_hour 1 .int rm_hour [.ref h] σ r τ := by
  refine ct_I RX12 (by decide +kernel) rfl (Nat.le_of_ble_eq_true rfl) ?_
  intro p e s m args below meth c A X hK hA
  refine gr_eqL (L2 := [(0, .ref h)]) rfl ?_
  unfold fm_hour at hf
  refine gr_aload_n X dX12_hour_0 rfl 0 rfl ?_
  obtain ⟨q1, hq_, hf⟩ := ot_b hf
  refine gc_Vi (rest := []) X kM_ok hK hA cw12_isOver (rvM hK) (xm_isOver hq_) rfl ⟨rfl, rfl, Nat.le_of_ble_eq_true rfl, Nat.le_of_ble_eq_true rfl⟩ rfl (Nat.le_of_ble_eq_true rfl) dX12_hour_1 ?_
  refine gr_if_eq X 12 dX12_hour_4 (by decide) (fun hc_ => ?_) (fun hc_ => ?_)
  · replace hf := ot_t hf hc_
    refine gr_aload_n X dX12_hour_12 rfl 0 rfl ?_
    refine gr_aload_n X dX12_hour_13 rfl 0 rfl ?_
    obtain ⟨q2, hq_, hf⟩ := ot_b hf
    refine gc_Vi (rest := [.ref h]) X kM_ok hK hA cw12_restAct (rvM hK) (xm_restAct hq_) rfl ⟨rfl, rfl, Nat.le_of_ble_eq_true rfl, Nat.le_of_ble_eq_true rfl⟩ rfl (Nat.le_of_ble_eq_true rfl) dX12_hour_14 ?_
    obtain ⟨⟨q3, σ4⟩, hq_, hf⟩ := ot_b hf
    replace hf := ot_l (y := q3) hf rfl
    replace hf := ot_l (y := σ4) hf rfl
    refine gc_Vi (rest := []) X kM_ok hK hA cw12_goesWith (rvM hK) (xm_goesWith hq_) rfl ⟨rfl, rfl, Nat.le_of_ble_eq_true rfl, Nat.le_of_ble_eq_true rfl⟩ rfl (Nat.le_of_ble_eq_true rfl) dX12_hour_17 ?_
    exact gr_iret X dX12_hour_20 (Prod.mk.inj (Option.some.inj hf)).1 (Prod.mk.inj (Option.some.inj hf)).2
  · replace hf := ot_f hf hc_
    refine gr_bipush (v := -4) X dX12_hour_7 (by decide) ?_
    refine gr_goto X 20 dX12_hour_9 (by decide) ?_
    exact gr_iret X dX12_hour_20 (Prod.mk.inj (Option.some.inj hf)).1 (Prod.mk.inj (Option.some.inj hf)).2
abbrev rm_onBy : Room := { frames := 8, cells := 0, slots := 0, locals := 182 }
def fm_onBy_l9 : Nat → Int32 → Int32 → Int32 → SM → Option (Int32 × SM)
  | 0, _, _, _, _ => none
  | n + 1, x1, x2, x3, σ => (if x1 ≤ x3 then (Option.bind (fm_laysBack (0 : Int32) σ) fun σ4 => (some (x2, σ4))) else (Option.bind (fm_isOver σ) fun q5 => (if ¬ q5 = 0 then (Option.bind (fm_laysBack (0 : Int32) σ) fun σ7 => (some (x2, σ7))) else (Option.bind (fm_restAct σ) fun q8 => (Option.bind (fm_goesWith q8 σ) fun p_ => hl p_.1 fun q9 => hl p_.2 fun σ10 => (hl (x2 + q9) fun v11 => ((fm_onBy_l9 n) x1 v11 (x3 + (1 : Int32)) σ10)))))))
def fm_onBy (x1 : Int32) (σ : SM) : Option (Int32 × SM) := (Option.bind (fm_laysAside (0 : Int32) σ) fun σ2 => (fm_onBy_l9 hFU x1 (0 : Int32) (0 : Int32) σ2))
set_option maxHeartbeats 4000000 in
set_option maxRecDepth 100000 in
theorem wm_onBy_l9 {p : Program} {l : Launch} {e : Env} {s : State} {m : MethodId} {args : Array Value} {below : List Frame} {meth : Method} {c : Code} {A : Nat → Prop} {D : va_G} {cA : ClassId} {h : Nat} {ad : Nat → Nat} {r : Int32} {τ : SM} (X : hc p s m args meth c RX12 cX12_onBy 4 (some .int)) (hK : kM D cA A s) (hA : ∀ q, s.heap.size ≤ q → A q)  : ∀ (n : Nat) (x1 : Int32) (x2 : Int32) (x3 : Int32) (σ : SM), fm_onBy_l9 n x1 x2 x3 σ = some (r, τ) → gg p l e rm_onBy s m args below meth c (wM h ad cA) D vwCl A 4 (QI below args s (wM h ad cA) D vwCl A r τ) 9 [(0, .ref h), (1, .int x1), (2, .int x2), (3, .int x3)] [] σ := by
  intro n
  induction n with
  | zero =>
    intro x1 x2 x3 σ hf
    cases (show (none : Option (Int32 × SM)) = some (r, τ) from hf)
  | succ n ih =>
    intro x1 x2 x3 σ hf
    unfold fm_onBy_l9 at hf
    refine gr_iload_n X dX12_onBy_9 rfl 3 rfl ?_
    refine gr_iload_n X dX12_onBy_10 rfl 1 rfl ?_
    refine gr_icmp_ge X 38 dX12_onBy_11 (by decide) (fun hc_ => ?_) (fun hc_ => ?_)
    · replace hf := ot_t hf hc_
      refine gr_aload_n X dX12_onBy_38 rfl 0 rfl ?_
      refine gr_iconst (v := 0) X dX12_onBy_39 (by decide) ?_
      obtain ⟨σ4, hq_, hf⟩ := ot_b hf
      refine gc_Vv (rest := []) X kM_ok hK hA cw12_laysBack (rvM hK) (xm_laysBack hq_) rfl ⟨rfl, rfl, Nat.le_of_ble_eq_true rfl, Nat.le_of_ble_eq_true rfl⟩ rfl (Nat.le_of_ble_eq_true rfl) dX12_onBy_40 ?_
      refine gr_iload_n X dX12_onBy_43 rfl 2 rfl ?_
      exact gr_iret X dX12_onBy_44 (Prod.mk.inj (Option.some.inj hf)).1 (Prod.mk.inj (Option.some.inj hf)).2
    · replace hf := ot_f hf hc_
      refine gr_aload_n X dX12_onBy_14 rfl 0 rfl ?_
      obtain ⟨q5, hq_, hf⟩ := ot_b hf
      refine gc_Vi (rest := []) X kM_ok hK hA cw12_isOver (rvM hK) (xm_isOver hq_) rfl ⟨rfl, rfl, Nat.le_of_ble_eq_true rfl, Nat.le_of_ble_eq_true rfl⟩ rfl (Nat.le_of_ble_eq_true rfl) dX12_onBy_15 ?_
      refine gr_if_ne X 38 dX12_onBy_18 (by decide) (fun hc_ => ?_) (fun hc_ => ?_)
      · replace hf := ot_t hf hc_
        refine gr_aload_n X dX12_onBy_38 rfl 0 rfl ?_
        refine gr_iconst (v := 0) X dX12_onBy_39 (by decide) ?_
        obtain ⟨σ7, hq_, hf⟩ := ot_b hf
        refine gc_Vv (rest := []) X kM_ok hK hA cw12_laysBack (rvM hK) (xm_laysBack hq_) rfl ⟨rfl, rfl, Nat.le_of_ble_eq_true rfl, Nat.le_of_ble_eq_true rfl⟩ rfl (Nat.le_of_ble_eq_true rfl) dX12_onBy_40 ?_
        refine gr_iload_n X dX12_onBy_43 rfl 2 rfl ?_
        exact gr_iret X dX12_onBy_44 (Prod.mk.inj (Option.some.inj hf)).1 (Prod.mk.inj (Option.some.inj hf)).2
      · replace hf := ot_f hf hc_
        refine gr_iload_n X dX12_onBy_21 rfl 2 rfl ?_
        refine gr_aload_n X dX12_onBy_22 rfl 0 rfl ?_
        refine gr_aload_n X dX12_onBy_23 rfl 0 rfl ?_
        obtain ⟨q8, hq_, hf⟩ := ot_b hf
        refine gc_Vi (rest := [.ref h, .int x2]) X kM_ok hK hA cw12_restAct (rvM hK) (xm_restAct hq_) rfl ⟨rfl, rfl, Nat.le_of_ble_eq_true rfl, Nat.le_of_ble_eq_true rfl⟩ rfl (Nat.le_of_ble_eq_true rfl) dX12_onBy_24 ?_
        obtain ⟨⟨q9, σ10⟩, hq_, hf⟩ := ot_b hf
        replace hf := ot_l (y := q9) hf rfl
        replace hf := ot_l (y := σ10) hf rfl
        refine gc_Vi (rest := [.int x2]) X kM_ok hK hA cw12_goesWith (rvM hK) (xm_goesWith hq_) rfl ⟨rfl, rfl, Nat.le_of_ble_eq_true rfl, Nat.le_of_ble_eq_true rfl⟩ rfl (Nat.le_of_ble_eq_true rfl) dX12_onBy_27 ?_
        refine gr_iadd X dX12_onBy_30 ?_
        refine gM_top (fun v11 e_v11 => ?_)
        replace hf := ot_l hf e_v11
        refine gr_istore_n (L2 := [(2, .int v11), (0, .ref h), (1, .int x1), (3, .int x3)]) X dX12_onBy_31 rfl (by decide) rfl ?_
        refine gr_iinc (k := 3) (v := 1) (L2 := [(3, .int (x3 + (1 : Int32))), (2, .int v11), (0, .ref h), (1, .int x1)]) X dX12_onBy_32 rfl (by decide) (by decide) rfl ?_
        refine gr_goto X 9 dX12_onBy_35 (by decide) ?_
        refine gr_sub [2, 3, 1, 0] rfl ?_
        exact ih _ _ _ _ hf
set_option maxHeartbeats 4000000 in
set_option maxRecDepth 100000 in
theorem xm_onBy {l : Launch} {D : va_G} {cA : ClassId} {h : Nat} {ad : Nat → Nat} {σ : SM} {x1 : Int32} {r : Int32} {τ : SM} (hf : fm_onBy x1 σ = some (r, τ)) : ctI l (wM h ad cA) D vwCl (kM D cA) yX12_onBy cX12_onBy 4 .int rm_onBy [.ref h, .int x1] σ r τ := by
  refine ct_I RX12 (by decide +kernel) rfl (Nat.le_of_ble_eq_true rfl) ?_
  intro p e s m args below meth c A X hK hA
  refine gr_eqL (L2 := [(0, .ref h), (1, .int x1)]) rfl ?_
  unfold fm_onBy at hf
  refine gr_aload_n X dX12_onBy_0 rfl 0 rfl ?_
  refine gr_iconst (v := 0) X dX12_onBy_1 (by decide) ?_
  obtain ⟨σ2, hq_, hf⟩ := ot_b hf
  refine gc_Vv (rest := []) X kM_ok hK hA cw12_laysAside (rvM hK) (xm_laysAside hq_) rfl ⟨rfl, rfl, Nat.le_of_ble_eq_true rfl, Nat.le_of_ble_eq_true rfl⟩ rfl (Nat.le_of_ble_eq_true rfl) dX12_onBy_2 ?_
  refine gr_iconst (v := 0) X dX12_onBy_5 (by decide) ?_
  refine gr_istore_n (L2 := [(2, .int (0 : Int32)), (0, .ref h), (1, .int x1)]) X dX12_onBy_6 rfl (by decide) rfl ?_
  refine gr_iconst (v := 0) X dX12_onBy_7 (by decide) ?_
  refine gr_istore_n (L2 := [(3, .int (0 : Int32)), (2, .int (0 : Int32)), (0, .ref h), (1, .int x1)]) X dX12_onBy_8 rfl (by decide) rfl ?_
  refine gr_sub [2, 3, 1, 0] rfl ?_
  refine wm_onBy_l9 X hK hA  hFU _ _ _ _ hf
abbrev rm_on : Room := { frames := 9, cells := 0, slots := 0, locals := 205 }
def fm_on (x1 : Int32) (σ : SM) : Option (Int32 × SM) := (Option.bind (fm_isIn (Int32.toInt64 x1) (0 : Int64) (16 : Int64)) fun q1 => (if q1 = 0 then (some ((-1 : Int32), σ)) else (Option.bind (fm_onBy x1 σ) fun p_ => hl p_.1 fun q2 => hl p_.2 fun σ3 => (some (q2, σ3)))))
set_option maxHeartbeats 4000000 in
set_option maxRecDepth 100000 in
theorem xm_on {l : Launch} {D : va_G} {cA : ClassId} {h : Nat} {ad : Nat → Nat} {σ : SM} {x1 : Int32} {r : Int32} {τ : SM} (hf : fm_on x1 σ = some (r, τ)) : ctI l (wM h ad cA) D vwCl (kM D cA) yX12_on cX12_on 2 .int rm_on [.ref h, .int x1] σ r τ := by
  refine ct_I RX12 (by decide +kernel) rfl (Nat.le_of_ble_eq_true rfl) ?_
  intro p e s m args below meth c A X hK hA
  refine gr_eqL (L2 := [(0, .ref h), (1, .int x1)]) rfl ?_
  unfold fm_on at hf
  refine gr_iload_n X dX12_on_0 rfl 1 rfl ?_
  refine gr_i2l X dX12_on_1 ?_
  refine gr_lconst (v := 0) X dX12_on_2 (by decide) ?_
  refine gr_ldc2_w X ck12_134 dX12_on_3 ?_
  obtain ⟨q1, hq_, hf⟩ := ot_b hf
  refine gc_Si (rest := []) X kM_ok hK hA cw12_isIn (xm_isIn hq_) rfl ⟨rfl, rfl, Nat.le_of_ble_eq_true rfl, Nat.le_of_ble_eq_true rfl⟩ rfl (Nat.le_of_ble_eq_true rfl) dX12_on_6 ?_
  refine gr_if_eq X 20 dX12_on_9 (by decide) (fun hc_ => ?_) (fun hc_ => ?_)
  · replace hf := ot_t hf hc_
    refine gr_iconst (v := -1) X dX12_on_20 (by decide) ?_
    exact gr_iret X dX12_on_21 (Prod.mk.inj (Option.some.inj hf)).1 (Prod.mk.inj (Option.some.inj hf)).2
  · replace hf := ot_f hf hc_
    refine gr_aload_n X dX12_on_12 rfl 0 rfl ?_
    refine gr_iload_n X dX12_on_13 rfl 1 rfl ?_
    obtain ⟨⟨q2, σ3⟩, hq_, hf⟩ := ot_b hf
    replace hf := ot_l (y := q2) hf rfl
    replace hf := ot_l (y := σ3) hf rfl
    refine gc_Vi (rest := []) X kM_ok hK hA cw12_onBy (rvM hK) (xm_onBy hq_) rfl ⟨rfl, rfl, Nat.le_of_ble_eq_true rfl, Nat.le_of_ble_eq_true rfl⟩ rfl (Nat.le_of_ble_eq_true rfl) dX12_on_14 ?_
    refine gr_goto X 21 dX12_on_17 (by decide) ?_
    exact gr_iret X dX12_on_21 (Prod.mk.inj (Option.some.inj hf)).1 (Prod.mk.inj (Option.some.inj hf)).2
abbrev rm_when : Room := { frames := 8, cells := 0, slots := 0, locals := 182 }
def fm_when_l27 (K56 : Int32 → SM → Option (Int32 × SM)) : Nat → Int32 → SM → Option (Int32 × SM)
  | 0, _, _ => none
  | n + 1, x1, σ => (Option.bind (fm_isOver σ) fun q5 => (if ¬ q5 = 0 then (K56 x1 σ) else (Option.bind (fm_its σ x1 (4 : Int32)) fun q6 => (if ¬ q6 = (1 : Int32) then (K56 x1 σ) else (Option.bind (fm_restAct σ) fun q7 => (Option.bind (fm_goesWith q7 σ) fun p_ => hl p_.1 fun q8 => hl p_.2 fun σ9 => ((fm_when_l27 K56 n) x1 σ9)))))))
def fm_when_b56 (x1 : Int32) (σ : SM) : Option (Int32 × SM) := (Option.bind (fm_its σ x1 (4 : Int32)) fun q10 => (if ¬ q10 = (1 : Int32) then (hl ((σ 0 1) - (1 : Int32)) fun v11 => (Option.bind (fm_laysBack (0 : Int32) σ) fun σ13 => (some (v11, σ13)))) else (Option.bind (fm_laysBack (0 : Int32) σ) fun σ15 => (some ((-3 : Int32), σ15)))))
def fm_when (x1 : Int32) (σ : SM) : Option (Int32 × SM) := (Option.bind (fm_isOne σ x1) fun q1 => (if ¬ q1 = 0 then (Option.bind (fm_its σ x1 (4 : Int32)) fun q2 => (if ¬ q2 = 0 then (Option.bind (fm_laysAside (0 : Int32) σ) fun σ4 => (fm_when_l27 (fun x1 σ => (fm_when_b56 x1 σ)) hFU x1 σ4)) else (some ((-3 : Int32), σ)))) else (some ((-1 : Int32), σ))))
set_option maxHeartbeats 4000000 in
set_option maxRecDepth 100000 in
theorem wm_when_l27 {p : Program} {l : Launch} {e : Env} {s : State} {m : MethodId} {args : Array Value} {below : List Frame} {meth : Method} {c : Code} {A : Nat → Prop} {D : va_G} {cA : ClassId} {h : Nat} {ad : Nat → Nat} {r : Int32} {τ : SM} {K56 : Int32 → SM → Option (Int32 × SM)} (X : hc p s m args meth c RX12 cX12_when 3 (some .int)) (hK : kM D cA A s) (hA : ∀ q, s.heap.size ≤ q → A q) (hK56 : (∀ (x1 : Int32) (σ : SM), K56 x1 σ = some (r, τ) → gg p l e rm_when s m args below meth c (wM h ad cA) D vwCl A 3 (QI below args s (wM h ad cA) D vwCl A r τ) 56 [(0, .ref h), (1, .int x1)] [] σ)) : ∀ (n : Nat) (x1 : Int32) (σ : SM), fm_when_l27 K56 n x1 σ = some (r, τ) → gg p l e rm_when s m args below meth c (wM h ad cA) D vwCl A 3 (QI below args s (wM h ad cA) D vwCl A r τ) 27 [(0, .ref h), (1, .int x1)] [] σ := by
  intro n
  induction n with
  | zero =>
    intro x1 σ hf
    cases (show (none : Option (Int32 × SM)) = some (r, τ) from hf)
  | succ n ih =>
    intro x1 σ hf
    unfold fm_when_l27 at hf
    refine gr_aload_n X dX12_when_27 rfl 0 rfl ?_
    obtain ⟨q5, hq_, hf⟩ := ot_b hf
    refine gc_Vi (rest := []) X kM_ok hK hA cw12_isOver (rvM hK) (xm_isOver hq_) rfl ⟨rfl, rfl, Nat.le_of_ble_eq_true rfl, Nat.le_of_ble_eq_true rfl⟩ rfl (Nat.le_of_ble_eq_true rfl) dX12_when_28 ?_
    refine gr_if_ne X 56 dX12_when_31 (by decide) (fun hc_ => ?_) (fun hc_ => ?_)
    · replace hf := ot_t hf hc_
      refine gr_sub [0, 1] rfl ?_
      exact hK56 _ _ hf
    · replace hf := ot_f hf hc_
      refine gr_aload_n X dX12_when_34 rfl 0 rfl ?_
      refine gr_iload_n X dX12_when_35 rfl 1 rfl ?_
      refine gr_iconst (v := 4) X dX12_when_36 (by decide) ?_
      obtain ⟨q6, hq_, hf⟩ := ot_b hf
      refine gc_Vi (rest := []) X kM_ok hK hA cw12_its (rvM hK) (xm_its hq_) rfl ⟨rfl, rfl, Nat.le_of_ble_eq_true rfl, Nat.le_of_ble_eq_true rfl⟩ rfl (Nat.le_of_ble_eq_true rfl) dX12_when_37 ?_
      refine gr_iconst (v := 1) X dX12_when_40 (by decide) ?_
      refine gr_icmp_ne X 56 dX12_when_41 (by decide) (fun hc_ => ?_) (fun hc_ => ?_)
      · replace hf := ot_t hf hc_
        refine gr_sub [0, 1] rfl ?_
        exact hK56 _ _ hf
      · replace hf := ot_f hf hc_
        refine gr_aload_n X dX12_when_44 rfl 0 rfl ?_
        refine gr_aload_n X dX12_when_45 rfl 0 rfl ?_
        obtain ⟨q7, hq_, hf⟩ := ot_b hf
        refine gc_Vi (rest := [.ref h]) X kM_ok hK hA cw12_restAct (rvM hK) (xm_restAct hq_) rfl ⟨rfl, rfl, Nat.le_of_ble_eq_true rfl, Nat.le_of_ble_eq_true rfl⟩ rfl (Nat.le_of_ble_eq_true rfl) dX12_when_46 ?_
        obtain ⟨⟨q8, σ9⟩, hq_, hf⟩ := ot_b hf
        replace hf := ot_l (y := q8) hf rfl
        replace hf := ot_l (y := σ9) hf rfl
        refine gc_Vi (rest := []) X kM_ok hK hA cw12_goesWith (rvM hK) (xm_goesWith hq_) rfl ⟨rfl, rfl, Nat.le_of_ble_eq_true rfl, Nat.le_of_ble_eq_true rfl⟩ rfl (Nat.le_of_ble_eq_true rfl) dX12_when_49 ?_
        refine gr_istore_n (L2 := [(2, .int q8), (0, .ref h), (1, .int x1)]) X dX12_when_52 rfl (by decide) rfl ?_
        refine gr_goto X 27 dX12_when_53 (by decide) ?_
        refine gr_sub [1, 2] rfl ?_
        exact ih _ _ hf
set_option maxHeartbeats 4000000 in
set_option maxRecDepth 100000 in
theorem wm_when_b56 {p : Program} {l : Launch} {e : Env} {s : State} {m : MethodId} {args : Array Value} {below : List Frame} {meth : Method} {c : Code} {A : Nat → Prop} {D : va_G} {cA : ClassId} {h : Nat} {ad : Nat → Nat} {r : Int32} {τ : SM} (X : hc p s m args meth c RX12 cX12_when 3 (some .int)) (hK : kM D cA A s) (hA : ∀ q, s.heap.size ≤ q → A q)   (x1 : Int32) (σ : SM) (hf : fm_when_b56 x1 σ = some (r, τ)) : gg p l e rm_when s m args below meth c (wM h ad cA) D vwCl A 3 (QI below args s (wM h ad cA) D vwCl A r τ) 56 [(0, .ref h), (1, .int x1)] [] σ := by
  unfold fm_when_b56 at hf
  refine gr_aload_n X dX12_when_56 rfl 0 rfl ?_
  refine gr_iload_n X dX12_when_57 rfl 1 rfl ?_
  refine gr_iconst (v := 4) X dX12_when_58 (by decide) ?_
  obtain ⟨q10, hq_, hf⟩ := ot_b hf
  refine gc_Vi (rest := []) X kM_ok hK hA cw12_its (rvM hK) (xm_its hq_) rfl ⟨rfl, rfl, Nat.le_of_ble_eq_true rfl, Nat.le_of_ble_eq_true rfl⟩ rfl (Nat.le_of_ble_eq_true rfl) dX12_when_59 ?_
  refine gr_iconst (v := 1) X dX12_when_62 (by decide) ?_
  refine gr_icmp_ne X 71 dX12_when_63 (by decide) (fun hc_ => ?_) (fun hc_ => ?_)
  · replace hf := ot_t hf hc_
    refine gr_aload_n X dX12_when_71 rfl 0 rfl ?_
    refine gM_get_0 X hK dX12_when_72 ?_
    refine gr_iconst (v := 1) X dX12_when_75 (by decide) ?_
    refine gM_ald_0 X hK 1 (by decide) (by decide) dX12_when_76 ?_
    refine gr_iconst (v := 1) X dX12_when_77 (by decide) ?_
    refine gr_isub X dX12_when_78 ?_
    refine gM_top (fun v11 e_v11 => ?_)
    replace hf := ot_l hf e_v11
    refine gr_istore_n (L2 := [(2, .int v11), (0, .ref h), (1, .int x1)]) X dX12_when_79 rfl (by decide) rfl ?_
    refine gr_aload_n X dX12_when_80 rfl 1 rfl ?_
    refine gr_iconst (v := 0) X dX12_when_81 (by decide) ?_
    obtain ⟨σ13, hq_, hf⟩ := ot_b hf
    refine gc_Vv (rest := []) X kM_ok hK hA cw12_laysBack (rvM hK) (xm_laysBack hq_) rfl ⟨rfl, rfl, Nat.le_of_ble_eq_true rfl, Nat.le_of_ble_eq_true rfl⟩ rfl (Nat.le_of_ble_eq_true rfl) dX12_when_82 ?_
    refine gr_iload_n X dX12_when_85 rfl 0 rfl ?_
    exact gr_iret X dX12_when_86 (Prod.mk.inj (Option.some.inj hf)).1 (Prod.mk.inj (Option.some.inj hf)).2
  · replace hf := ot_f hf hc_
    refine gr_bipush (v := -3) X dX12_when_66 (by decide) ?_
    refine gr_goto X 79 dX12_when_68 (by decide) ?_
    refine gr_istore_n (L2 := [(2, .int (-3 : Int32)), (0, .ref h), (1, .int x1)]) X dX12_when_79 rfl (by decide) rfl ?_
    refine gr_aload_n X dX12_when_80 rfl 1 rfl ?_
    refine gr_iconst (v := 0) X dX12_when_81 (by decide) ?_
    obtain ⟨σ15, hq_, hf⟩ := ot_b hf
    refine gc_Vv (rest := []) X kM_ok hK hA cw12_laysBack (rvM hK) (xm_laysBack hq_) rfl ⟨rfl, rfl, Nat.le_of_ble_eq_true rfl, Nat.le_of_ble_eq_true rfl⟩ rfl (Nat.le_of_ble_eq_true rfl) dX12_when_82 ?_
    refine gr_iload_n X dX12_when_85 rfl 0 rfl ?_
    exact gr_iret X dX12_when_86 (Prod.mk.inj (Option.some.inj hf)).1 (Prod.mk.inj (Option.some.inj hf)).2
set_option maxHeartbeats 4000000 in
set_option maxRecDepth 100000 in
theorem xm_when {l : Launch} {D : va_G} {cA : ClassId} {h : Nat} {ad : Nat → Nat} {σ : SM} {x1 : Int32} {r : Int32} {τ : SM} (hf : fm_when x1 σ = some (r, τ)) : ctI l (wM h ad cA) D vwCl (kM D cA) yX12_when cX12_when 3 .int rm_when [.ref h, .int x1] σ r τ := by
  refine ct_I RX12 (by decide +kernel) rfl (Nat.le_of_ble_eq_true rfl) ?_
  intro p e s m args below meth c A X hK hA
  refine gr_eqL (L2 := [(0, .ref h), (1, .int x1)]) rfl ?_
  unfold fm_when at hf
  refine gr_aload_n X dX12_when_0 rfl 0 rfl ?_
  refine gr_iload_n X dX12_when_1 rfl 1 rfl ?_
  obtain ⟨q1, hq_, hf⟩ := ot_b hf
  refine gc_Vi (rest := []) X kM_ok hK hA cw12_isOne (rvM hK) (xm_isOne hq_) rfl ⟨rfl, rfl, Nat.le_of_ble_eq_true rfl, Nat.le_of_ble_eq_true rfl⟩ rfl (Nat.le_of_ble_eq_true rfl) dX12_when_2 ?_
  refine gr_if_ne X 10 dX12_when_5 (by decide) (fun hc_ => ?_) (fun hc_ => ?_)
  · replace hf := ot_t hf hc_
    refine gr_aload_n X dX12_when_10 rfl 0 rfl ?_
    refine gr_iload_n X dX12_when_11 rfl 1 rfl ?_
    refine gr_iconst (v := 4) X dX12_when_12 (by decide) ?_
    obtain ⟨q2, hq_, hf⟩ := ot_b hf
    refine gc_Vi (rest := []) X kM_ok hK hA cw12_its (rvM hK) (xm_its hq_) rfl ⟨rfl, rfl, Nat.le_of_ble_eq_true rfl, Nat.le_of_ble_eq_true rfl⟩ rfl (Nat.le_of_ble_eq_true rfl) dX12_when_13 ?_
    refine gr_if_ne X 22 dX12_when_16 (by decide) (fun hc_ => ?_) (fun hc_ => ?_)
    · replace hf := ot_t hf hc_
      refine gr_aload_n X dX12_when_22 rfl 0 rfl ?_
      refine gr_iconst (v := 0) X dX12_when_23 (by decide) ?_
      obtain ⟨σ4, hq_, hf⟩ := ot_b hf
      refine gc_Vv (rest := []) X kM_ok hK hA cw12_laysAside (rvM hK) (xm_laysAside hq_) rfl ⟨rfl, rfl, Nat.le_of_ble_eq_true rfl, Nat.le_of_ble_eq_true rfl⟩ rfl (Nat.le_of_ble_eq_true rfl) dX12_when_24 ?_
      refine gr_sub [0, 1] rfl ?_
      refine wm_when_l27 X hK hA (fun x1 σ hf => ?_) hFU _ _ hf
      refine gr_sub [0, 1] rfl ?_
      exact wm_when_b56 X hK hA _ _ hf
    · replace hf := ot_f hf hc_
      refine gr_bipush (v := -3) X dX12_when_19 (by decide) ?_
      exact gr_iret X dX12_when_21 (Prod.mk.inj (Option.some.inj hf)).1 (Prod.mk.inj (Option.some.inj hf)).2
  · replace hf := ot_f hf hc_
    refine gr_iconst (v := -1) X dX12_when_8 (by decide) ?_
    exact gr_iret X dX12_when_9 (Prod.mk.inj (Option.some.inj hf)).1 (Prod.mk.inj (Option.some.inj hf)).2
abbrev rm_valueFor : Room := { frames := 9, cells := 0, slots := 0, locals := 205 }
def fm_valueFor_b66 (K27 : Int32 → Int32 → Int32 → Int32 → Int32 → Int32 → SM → Option (Int32 × SM)) (x2 : Int32) (x3 : Int32) (x4 : Int32) (x6 : Int32) (x7 : Int32) (x8 : Int32) (y0 : Int32) (σ : SM) : Option (Int32 × SM) := (Option.bind (fm_greatest x6 x8) fun q8 => (K27 x2 x3 x4 y0 q8 (x7 + (1 : Int32)) σ))
def fm_valueFor_l27 : Nat → Int32 → Int32 → Int32 → Int32 → Int32 → Int32 → SM → Option (Int32 × SM)
  | 0, _, _, _, _, _, _, _ => none
  | n + 1, x2, x3, x4, x5, x6, x7, σ => (Option.bind (fm_greatestOf x2) fun q3 => (if q3 < x7 then (oc (hin x3 580) (hl (sf σ 0 (upd (σ 0) (Int32.toNatClampNeg x3) x4)) fun σ4 => (some (x5, σ4)))) else (oc (hin x3 580) (hl (sf σ 0 (upd (σ 0) (Int32.toNatClampNeg x3) x7)) fun σ5 => (Option.bind (fm_onBy (16 : Int32) σ5) fun p_ => hl p_.1 fun q6 => hl p_.2 fun σ7 => (if q6 ≤ x6 then (fm_valueFor_b66 (fm_valueFor_l27 n) x2 x3 x4 x6 x7 q6 x5 σ7) else (fm_valueFor_b66 (fm_valueFor_l27 n) x2 x3 x4 x6 x7 q6 x7 σ7)))))))
def fm_valueFor (x1 : Int32) (x2 : Int32) (σ : SM) : Option (Int32 × SM) := (hl (((10 : Int32) + ((6 : Int32) * x1)) + x2) fun v1 => (oc (hin v1 580) (hl (σ 0 (Int32.toNatClampNeg v1)) fun v2 => (fm_valueFor_l27 hFU x2 v1 v2 (0 : Int32) (-1 : Int32) (0 : Int32) σ))))
set_option maxHeartbeats 4000000 in
set_option maxRecDepth 100000 in
theorem wm_valueFor_b66 {p : Program} {l : Launch} {e : Env} {s : State} {m : MethodId} {args : Array Value} {below : List Frame} {meth : Method} {c : Code} {A : Nat → Prop} {D : va_G} {cA : ClassId} {h : Nat} {ad : Nat → Nat} {r : Int32} {τ : SM} {K27 : Int32 → Int32 → Int32 → Int32 → Int32 → Int32 → SM → Option (Int32 × SM)} (X : hc p s m args meth c RX12 cX12_valueFor 9 (some .int)) (hK : kM D cA A s) (hA : ∀ q, s.heap.size ≤ q → A q) (hK27 : (∀ (x2 : Int32) (x3 : Int32) (x4 : Int32) (x5 : Int32) (x6 : Int32) (x7 : Int32) (σ : SM), K27 x2 x3 x4 x5 x6 x7 σ = some (r, τ) → gg p l e rm_valueFor s m args below meth c (wM h ad cA) D vwCl A 9 (QI below args s (wM h ad cA) D vwCl A r τ) 27 [(0, .ref h), (2, .int x2), (3, .int x3), (4, .int x4), (5, .int x5), (6, .int x6), (7, .int x7)] [] σ))  (x2 : Int32) (x3 : Int32) (x4 : Int32) (x6 : Int32) (x7 : Int32) (x8 : Int32) (y0 : Int32) (σ : SM) (hf : fm_valueFor_b66 K27 x2 x3 x4 x6 x7 x8 y0 σ = some (r, τ)) : gg p l e rm_valueFor s m args below meth c (wM h ad cA) D vwCl A 9 (QI below args s (wM h ad cA) D vwCl A r τ) 66 [(0, .ref h), (2, .int x2), (3, .int x3), (4, .int x4), (6, .int x6), (7, .int x7), (8, .int x8)] [.int y0] σ := by
  unfold fm_valueFor_b66 at hf
  refine gr_istore (L2 := [(5, .int y0), (0, .ref h), (2, .int x2), (3, .int x3), (4, .int x4), (6, .int x6), (7, .int x7), (8, .int x8)]) X dX12_valueFor_66 (by decide) rfl ?_
  refine gr_iload X dX12_valueFor_68 5 rfl ?_
  refine gr_iload X dX12_valueFor_70 7 rfl ?_
  obtain ⟨q8, hq_, hf⟩ := ot_b hf
  refine gc_Si (rest := []) X kM_ok hK hA cw12_greatest (xm_greatest hq_) rfl ⟨rfl, rfl, Nat.le_of_ble_eq_true rfl, Nat.le_of_ble_eq_true rfl⟩ rfl (Nat.le_of_ble_eq_true rfl) dX12_valueFor_72 ?_
  refine gr_istore (L2 := [(6, .int q8), (5, .int y0), (0, .ref h), (2, .int x2), (3, .int x3), (4, .int x4), (7, .int x7), (8, .int x8)]) X dX12_valueFor_75 (by decide) rfl ?_
  refine gr_iinc (k := 6) (v := 1) (L2 := [(7, .int (x7 + (1 : Int32))), (6, .int q8), (5, .int y0), (0, .ref h), (2, .int x2), (3, .int x3), (4, .int x4), (8, .int x8)]) X dX12_valueFor_77 rfl (by decide) (by decide) rfl ?_
  refine gr_goto X 27 dX12_valueFor_80 (by decide) ?_
  refine gr_sub [3, 4, 5, 6, 2, 1, 0] rfl ?_
  exact hK27 _ _ _ _ _ _ _ hf
set_option maxHeartbeats 4000000 in
set_option maxRecDepth 100000 in
theorem wm_valueFor_l27 {p : Program} {l : Launch} {e : Env} {s : State} {m : MethodId} {args : Array Value} {below : List Frame} {meth : Method} {c : Code} {A : Nat → Prop} {D : va_G} {cA : ClassId} {h : Nat} {ad : Nat → Nat} {r : Int32} {τ : SM} (X : hc p s m args meth c RX12 cX12_valueFor 9 (some .int)) (hK : kM D cA A s) (hA : ∀ q, s.heap.size ≤ q → A q)  : ∀ (n : Nat) (x2 : Int32) (x3 : Int32) (x4 : Int32) (x5 : Int32) (x6 : Int32) (x7 : Int32) (σ : SM), fm_valueFor_l27 n x2 x3 x4 x5 x6 x7 σ = some (r, τ) → gg p l e rm_valueFor s m args below meth c (wM h ad cA) D vwCl A 9 (QI below args s (wM h ad cA) D vwCl A r τ) 27 [(0, .ref h), (2, .int x2), (3, .int x3), (4, .int x4), (5, .int x5), (6, .int x6), (7, .int x7)] [] σ := by
  intro n
  induction n with
  | zero =>
    intro x2 x3 x4 x5 x6 x7 σ hf
    cases (show (none : Option (Int32 × SM)) = some (r, τ) from hf)
  | succ n ih =>
    intro x2 x3 x4 x5 x6 x7 σ hf
    unfold fm_valueFor_l27 at hf
    refine gr_iload X dX12_valueFor_27 6 rfl ?_
    refine gr_iload_n X dX12_valueFor_29 rfl 1 rfl ?_
    obtain ⟨q3, hq_, hf⟩ := ot_b hf
    refine gc_Si (rest := [.int x7]) X kM_ok hK hA cw12_greatestOf (xm_greatestOf hq_) rfl ⟨rfl, rfl, Nat.le_of_ble_eq_true rfl, Nat.le_of_ble_eq_true rfl⟩ rfl (Nat.le_of_ble_eq_true rfl) dX12_valueFor_30 ?_
    refine gr_icmp_gt X 83 dX12_valueFor_33 (by decide) (fun hc_ => ?_) (fun hc_ => ?_)
    · replace hf := ot_t hf hc_
      refine gr_aload_n X dX12_valueFor_83 rfl 0 rfl ?_
      refine gM_get_0 X hK dX12_valueFor_84 ?_
      refine gr_iload_n X dX12_valueFor_87 rfl 2 rfl ?_
      refine gr_iload X dX12_valueFor_88 3 rfl ?_
      have hi_ := oc_1 hf
      replace hf := oc_2 hf
      refine gM_ast_0 X hK (Int32.toNatClampNeg x3) hi_ rfl dX12_valueFor_90 ?_
      refine gM_gen (fun σ4 e_σ4 => ?_)
      replace hf := ot_l hf e_σ4
      refine gr_iload X dX12_valueFor_91 4 rfl ?_
      exact gr_iret X dX12_valueFor_93 (Prod.mk.inj (Option.some.inj hf)).1 (Prod.mk.inj (Option.some.inj hf)).2
    · replace hf := ot_f hf hc_
      refine gr_aload_n X dX12_valueFor_36 rfl 0 rfl ?_
      refine gM_get_0 X hK dX12_valueFor_37 ?_
      refine gr_iload_n X dX12_valueFor_40 rfl 2 rfl ?_
      refine gr_iload X dX12_valueFor_41 6 rfl ?_
      have hi_ := oc_1 hf
      replace hf := oc_2 hf
      refine gM_ast_0 X hK (Int32.toNatClampNeg x3) hi_ rfl dX12_valueFor_43 ?_
      refine gM_gen (fun σ5 e_σ5 => ?_)
      replace hf := ot_l hf e_σ5
      refine gr_aload_n X dX12_valueFor_44 rfl 0 rfl ?_
      refine gr_bipush (v := 16) X dX12_valueFor_45 (by decide) ?_
      obtain ⟨⟨q6, σ7⟩, hq_, hf⟩ := ot_b hf
      replace hf := ot_l (y := q6) hf rfl
      replace hf := ot_l (y := σ7) hf rfl
      refine gc_Vi (rest := []) X kM_ok hK hA cw12_onBy (rvM hK) (xm_onBy hq_) rfl ⟨rfl, rfl, Nat.le_of_ble_eq_true rfl, Nat.le_of_ble_eq_true rfl⟩ rfl (Nat.le_of_ble_eq_true rfl) dX12_valueFor_47 ?_
      refine gr_istore (L2 := [(8, .int q6), (0, .ref h), (2, .int x2), (3, .int x3), (4, .int x4), (5, .int x5), (6, .int x6), (7, .int x7)]) X dX12_valueFor_50 (by decide) rfl ?_
      refine gr_iload X dX12_valueFor_52 0 rfl ?_
      refine gr_iload X dX12_valueFor_54 6 rfl ?_
      refine gr_icmp_le X 64 dX12_valueFor_56 (by decide) (fun hc_ => ?_) (fun hc_ => ?_)
      · replace hf := ot_t hf hc_
        refine gr_iload X dX12_valueFor_64 5 rfl ?_
        refine gr_sub [1, 2, 3, 4, 6, 7, 0] rfl ?_
        exact wm_valueFor_b66 X hK hA ih _ _ _ _ _ _ _ _ hf
      · replace hf := ot_f hf hc_
        refine gr_iload X dX12_valueFor_59 7 rfl ?_
        refine gr_goto X 66 dX12_valueFor_61 (by decide) ?_
        refine gr_sub [1, 2, 3, 4, 6, 7, 0] rfl ?_
        exact wm_valueFor_b66 X hK hA ih _ _ _ _ _ _ _ _ hf
set_option maxHeartbeats 4000000 in
set_option maxRecDepth 100000 in
theorem xm_valueFor {l : Launch} {D : va_G} {cA : ClassId} {h : Nat} {ad : Nat → Nat} {σ : SM} {x1 : Int32} {x2 : Int32} {r : Int32} {τ : SM} (hf : fm_valueFor x1 x2 σ = some (r, τ)) : ctI l (wM h ad cA) D vwCl (kM D cA) yX12_valueFor cX12_valueFor 9 .int rm_valueFor [.ref h, .int x1, .int x2] σ r τ := by
  refine ct_I RX12 (by decide +kernel) rfl (Nat.le_of_ble_eq_true rfl) ?_
  intro p e s m args below meth c A X hK hA
  refine gr_eqL (L2 := [(0, .ref h), (1, .int x1), (2, .int x2)]) rfl ?_
  unfold fm_valueFor at hf
  refine gr_bipush (v := 10) X dX12_valueFor_0 (by decide) ?_
  refine gr_bipush (v := 6) X dX12_valueFor_2 (by decide) ?_
  refine gr_iload_n X dX12_valueFor_4 rfl 1 rfl ?_
  refine gr_imul X dX12_valueFor_5 ?_
  refine gr_iadd X dX12_valueFor_6 ?_
  refine gr_iload_n X dX12_valueFor_7 rfl 2 rfl ?_
  refine gr_iadd X dX12_valueFor_8 ?_
  refine gM_top (fun v1 e_v1 => ?_)
  replace hf := ot_l hf e_v1
  refine gr_istore_n (L2 := [(3, .int v1), (0, .ref h), (1, .int x1), (2, .int x2)]) X dX12_valueFor_9 rfl (by decide) rfl ?_
  refine gr_aload_n X dX12_valueFor_10 rfl 1 rfl ?_
  refine gM_get_0 X hK dX12_valueFor_11 ?_
  refine gr_iload_n X dX12_valueFor_14 rfl 0 rfl ?_
  have hi_ := oc_1 hf
  replace hf := oc_2 hf
  refine gM_ald_0 X hK (Int32.toNatClampNeg v1) hi_ rfl dX12_valueFor_15 ?_
  refine gM_top (fun v2 e_v2 => ?_)
  replace hf := ot_l hf e_v2
  refine gr_istore (L2 := [(4, .int v2), (3, .int v1), (0, .ref h), (1, .int x1), (2, .int x2)]) X dX12_valueFor_16 (by decide) rfl ?_
  refine gr_iconst (v := 0) X dX12_valueFor_18 (by decide) ?_
  refine gr_istore (L2 := [(5, .int (0 : Int32)), (4, .int v2), (3, .int v1), (0, .ref h), (1, .int x1), (2, .int x2)]) X dX12_valueFor_19 (by decide) rfl ?_
  refine gr_iconst (v := -1) X dX12_valueFor_21 (by decide) ?_
  refine gr_istore (L2 := [(6, .int (-1 : Int32)), (5, .int (0 : Int32)), (4, .int v2), (3, .int v1), (0, .ref h), (1, .int x1), (2, .int x2)]) X dX12_valueFor_22 (by decide) rfl ?_
  refine gr_iconst (v := 0) X dX12_valueFor_24 (by decide) ?_
  refine gr_istore (L2 := [(7, .int (0 : Int32)), (6, .int (-1 : Int32)), (5, .int (0 : Int32)), (4, .int v2), (3, .int v1), (0, .ref h), (1, .int x1), (2, .int x2)]) X dX12_valueFor_25 (by decide) rfl ?_
  refine gr_sub [5, 7, 4, 3, 2, 1, 0] rfl ?_
  refine wm_valueFor_l27 X hK hA  hFU _ _ _ _ _ _ _ hf
abbrev rm_giftFor : Room := { frames := 10, cells := 0, slots := 0, locals := 233 }
def fm_giftFor (x1 : Int32) (σ : SM) : Option (Int32 × SM) := (Option.bind (fm_isOne σ x1) fun q1 => (if q1 = 0 then (some ((-1 : Int32), σ)) else (Option.bind (fm_valueFor x1 (2 : Int32) σ) fun p_ => hl p_.1 fun q2 => hl p_.2 fun σ3 => (some (q2, σ3)))))
set_option maxHeartbeats 4000000 in
set_option maxRecDepth 100000 in
theorem xm_giftFor {l : Launch} {D : va_G} {cA : ClassId} {h : Nat} {ad : Nat → Nat} {σ : SM} {x1 : Int32} {r : Int32} {τ : SM} (hf : fm_giftFor x1 σ = some (r, τ)) : ctI l (wM h ad cA) D vwCl (kM D cA) yX12_giftFor cX12_giftFor 2 .int rm_giftFor [.ref h, .int x1] σ r τ := by
  refine ct_I RX12 (by decide +kernel) rfl (Nat.le_of_ble_eq_true rfl) ?_
  intro p e s m args below meth c A X hK hA
  refine gr_eqL (L2 := [(0, .ref h), (1, .int x1)]) rfl ?_
  unfold fm_giftFor at hf
  refine gr_aload_n X dX12_giftFor_0 rfl 0 rfl ?_
  refine gr_iload_n X dX12_giftFor_1 rfl 1 rfl ?_
  obtain ⟨q1, hq_, hf⟩ := ot_b hf
  refine gc_Vi (rest := []) X kM_ok hK hA cw12_isOne (rvM hK) (xm_isOne hq_) rfl ⟨rfl, rfl, Nat.le_of_ble_eq_true rfl, Nat.le_of_ble_eq_true rfl⟩ rfl (Nat.le_of_ble_eq_true rfl) dX12_giftFor_2 ?_
  refine gr_if_eq X 17 dX12_giftFor_5 (by decide) (fun hc_ => ?_) (fun hc_ => ?_)
  · replace hf := ot_t hf hc_
    refine gr_iconst (v := -1) X dX12_giftFor_17 (by decide) ?_
    exact gr_iret X dX12_giftFor_18 (Prod.mk.inj (Option.some.inj hf)).1 (Prod.mk.inj (Option.some.inj hf)).2
  · replace hf := ot_f hf hc_
    refine gr_aload_n X dX12_giftFor_8 rfl 0 rfl ?_
    refine gr_iload_n X dX12_giftFor_9 rfl 1 rfl ?_
    refine gr_iconst (v := 2) X dX12_giftFor_10 (by decide) ?_
    obtain ⟨⟨q2, σ3⟩, hq_, hf⟩ := ot_b hf
    replace hf := ot_l (y := q2) hf rfl
    replace hf := ot_l (y := σ3) hf rfl
    refine gc_Vi (rest := []) X kM_ok hK hA cw12_valueFor (rvM hK) (xm_valueFor hq_) rfl ⟨rfl, rfl, Nat.le_of_ble_eq_true rfl, Nat.le_of_ble_eq_true rfl⟩ rfl (Nat.le_of_ble_eq_true rfl) dX12_giftFor_11 ?_
    refine gr_goto X 18 dX12_giftFor_14 (by decide) ?_
    exact gr_iret X dX12_giftFor_18 (Prod.mk.inj (Option.some.inj hf)).1 (Prod.mk.inj (Option.some.inj hf)).2
abbrev rm_dueFor : Room := { frames := 10, cells := 0, slots := 0, locals := 233 }
def fm_dueFor (x1 : Int32) (σ : SM) : Option (Int32 × SM) := (Option.bind (fm_isOne σ x1) fun q1 => (if q1 = 0 then (some ((-1 : Int32), σ)) else (Option.bind (fm_valueFor x1 (1 : Int32) σ) fun p_ => hl p_.1 fun q2 => hl p_.2 fun σ3 => (some (q2, σ3)))))
set_option maxHeartbeats 4000000 in
set_option maxRecDepth 100000 in
theorem xm_dueFor {l : Launch} {D : va_G} {cA : ClassId} {h : Nat} {ad : Nat → Nat} {σ : SM} {x1 : Int32} {r : Int32} {τ : SM} (hf : fm_dueFor x1 σ = some (r, τ)) : ctI l (wM h ad cA) D vwCl (kM D cA) yX12_dueFor cX12_dueFor 2 .int rm_dueFor [.ref h, .int x1] σ r τ := by
  refine ct_I RX12 (by decide +kernel) rfl (Nat.le_of_ble_eq_true rfl) ?_
  intro p e s m args below meth c A X hK hA
  refine gr_eqL (L2 := [(0, .ref h), (1, .int x1)]) rfl ?_
  unfold fm_dueFor at hf
  refine gr_aload_n X dX12_dueFor_0 rfl 0 rfl ?_
  refine gr_iload_n X dX12_dueFor_1 rfl 1 rfl ?_
  obtain ⟨q1, hq_, hf⟩ := ot_b hf
  refine gc_Vi (rest := []) X kM_ok hK hA cw12_isOne (rvM hK) (xm_isOne hq_) rfl ⟨rfl, rfl, Nat.le_of_ble_eq_true rfl, Nat.le_of_ble_eq_true rfl⟩ rfl (Nat.le_of_ble_eq_true rfl) dX12_dueFor_2 ?_
  refine gr_if_eq X 17 dX12_dueFor_5 (by decide) (fun hc_ => ?_) (fun hc_ => ?_)
  · replace hf := ot_t hf hc_
    refine gr_iconst (v := -1) X dX12_dueFor_17 (by decide) ?_
    exact gr_iret X dX12_dueFor_18 (Prod.mk.inj (Option.some.inj hf)).1 (Prod.mk.inj (Option.some.inj hf)).2
  · replace hf := ot_f hf hc_
    refine gr_aload_n X dX12_dueFor_8 rfl 0 rfl ?_
    refine gr_iload_n X dX12_dueFor_9 rfl 1 rfl ?_
    refine gr_iconst (v := 1) X dX12_dueFor_10 (by decide) ?_
    obtain ⟨⟨q2, σ3⟩, hq_, hf⟩ := ot_b hf
    replace hf := ot_l (y := q2) hf rfl
    replace hf := ot_l (y := σ3) hf rfl
    refine gc_Vi (rest := []) X kM_ok hK hA cw12_valueFor (rvM hK) (xm_valueFor hq_) rfl ⟨rfl, rfl, Nat.le_of_ble_eq_true rfl, Nat.le_of_ble_eq_true rfl⟩ rfl (Nat.le_of_ble_eq_true rfl) dX12_dueFor_11 ?_
    refine gr_goto X 18 dX12_dueFor_14 (by decide) ?_
    exact gr_iret X dX12_dueFor_18 (Prod.mk.inj (Option.some.inj hf)).1 (Prod.mk.inj (Option.some.inj hf)).2
abbrev rm_shows : Room := { frames := 8, cells := 0, slots := 0, locals := 182 }
def fm_shows_b63 (K22 : Int32 → Int32 → SM → Option (Int32 × SM)) (x1 : Int32) (y0 : Int32) (σ : SM) : Option (Int32 × SM) := (K22 x1 y0 σ)
def fm_shows_l22 : Nat → Int32 → Int32 → SM → Option (Int32 × SM)
  | 0, _, _, _ => none
  | n + 1, x1, x2, σ => (Option.bind (fm_isOver σ) fun q4 => (if ¬ q4 = 0 then (Option.bind (fm_laysBack (0 : Int32) σ) fun σ6 => (some (x2, σ6))) else (if 0 ≤ x2 then (Option.bind (fm_laysBack (0 : Int32) σ) fun σ8 => (some (x2, σ8))) else (Option.bind (fm_goesWith (0 : Int32) σ) fun p_ => hl p_.1 fun q9 => hl p_.2 fun σ10 => (if (σ10 0 9) < x1 then (fm_shows_b63 (fm_shows_l22 n) x1 (-3 : Int32) σ10) else (fm_shows_b63 (fm_shows_l22 n) x1 ((σ10 0 1) - (1 : Int32)) σ10))))))
def fm_shows (x1 : Int32) (σ : SM) : Option (Int32 × SM) := (Option.bind (fm_isIn (Int32.toInt64 x1) (0 : Int64) (99 : Int64)) fun q1 => (if ¬ q1 = 0 then (Option.bind (fm_laysAside (0 : Int32) σ) fun σ3 => (fm_shows_l22 hFU x1 (-3 : Int32) σ3)) else (some ((-1 : Int32), σ))))
set_option maxHeartbeats 4000000 in
set_option maxRecDepth 100000 in
theorem wm_shows_b63 {p : Program} {l : Launch} {e : Env} {s : State} {m : MethodId} {args : Array Value} {below : List Frame} {meth : Method} {c : Code} {A : Nat → Prop} {D : va_G} {cA : ClassId} {h : Nat} {ad : Nat → Nat} {r : Int32} {τ : SM} {K22 : Int32 → Int32 → SM → Option (Int32 × SM)} (X : hc p s m args meth c RX12 cX12_shows 4 (some .int)) (hK : kM D cA A s) (hA : ∀ q, s.heap.size ≤ q → A q) (hK22 : (∀ (x1 : Int32) (x2 : Int32) (σ : SM), K22 x1 x2 σ = some (r, τ) → gg p l e rm_shows s m args below meth c (wM h ad cA) D vwCl A 4 (QI below args s (wM h ad cA) D vwCl A r τ) 22 [(0, .ref h), (1, .int x1), (2, .int x2)] [] σ))  (x1 : Int32) (y0 : Int32) (σ : SM) (hf : fm_shows_b63 K22 x1 y0 σ = some (r, τ)) : gg p l e rm_shows s m args below meth c (wM h ad cA) D vwCl A 4 (QI below args s (wM h ad cA) D vwCl A r τ) 63 [(0, .ref h), (1, .int x1)] [.int y0] σ := by
  unfold fm_shows_b63 at hf
  refine gr_istore_n (L2 := [(2, .int y0), (0, .ref h), (1, .int x1)]) X dX12_shows_63 rfl (by decide) rfl ?_
  refine gr_goto X 22 dX12_shows_64 (by decide) ?_
  refine gr_sub [1, 2, 0] rfl ?_
  exact hK22 _ _ _ hf
set_option maxHeartbeats 4000000 in
set_option maxRecDepth 100000 in
theorem wm_shows_l22 {p : Program} {l : Launch} {e : Env} {s : State} {m : MethodId} {args : Array Value} {below : List Frame} {meth : Method} {c : Code} {A : Nat → Prop} {D : va_G} {cA : ClassId} {h : Nat} {ad : Nat → Nat} {r : Int32} {τ : SM} (X : hc p s m args meth c RX12 cX12_shows 4 (some .int)) (hK : kM D cA A s) (hA : ∀ q, s.heap.size ≤ q → A q)  : ∀ (n : Nat) (x1 : Int32) (x2 : Int32) (σ : SM), fm_shows_l22 n x1 x2 σ = some (r, τ) → gg p l e rm_shows s m args below meth c (wM h ad cA) D vwCl A 4 (QI below args s (wM h ad cA) D vwCl A r τ) 22 [(0, .ref h), (1, .int x1), (2, .int x2)] [] σ := by
  intro n
  induction n with
  | zero =>
    intro x1 x2 σ hf
    cases (show (none : Option (Int32 × SM)) = some (r, τ) from hf)
  | succ n ih =>
    intro x1 x2 σ hf
    unfold fm_shows_l22 at hf
    refine gr_aload_n X dX12_shows_22 rfl 0 rfl ?_
    obtain ⟨q4, hq_, hf⟩ := ot_b hf
    refine gc_Vi (rest := []) X kM_ok hK hA cw12_isOver (rvM hK) (xm_isOver hq_) rfl ⟨rfl, rfl, Nat.le_of_ble_eq_true rfl, Nat.le_of_ble_eq_true rfl⟩ rfl (Nat.le_of_ble_eq_true rfl) dX12_shows_23 ?_
    refine gr_if_ne X 67 dX12_shows_26 (by decide) (fun hc_ => ?_) (fun hc_ => ?_)
    · replace hf := ot_t hf hc_
      refine gr_aload_n X dX12_shows_67 rfl 0 rfl ?_
      refine gr_iconst (v := 0) X dX12_shows_68 (by decide) ?_
      obtain ⟨σ6, hq_, hf⟩ := ot_b hf
      refine gc_Vv (rest := []) X kM_ok hK hA cw12_laysBack (rvM hK) (xm_laysBack hq_) rfl ⟨rfl, rfl, Nat.le_of_ble_eq_true rfl, Nat.le_of_ble_eq_true rfl⟩ rfl (Nat.le_of_ble_eq_true rfl) dX12_shows_69 ?_
      refine gr_iload_n X dX12_shows_72 rfl 2 rfl ?_
      exact gr_iret X dX12_shows_73 (Prod.mk.inj (Option.some.inj hf)).1 (Prod.mk.inj (Option.some.inj hf)).2
    · replace hf := ot_f hf hc_
      refine gr_iload_n X dX12_shows_29 rfl 2 rfl ?_
      refine gr_if_ge X 67 dX12_shows_30 (by decide) (fun hc_ => ?_) (fun hc_ => ?_)
      · replace hf := ot_t hf hc_
        refine gr_aload_n X dX12_shows_67 rfl 0 rfl ?_
        refine gr_iconst (v := 0) X dX12_shows_68 (by decide) ?_
        obtain ⟨σ8, hq_, hf⟩ := ot_b hf
        refine gc_Vv (rest := []) X kM_ok hK hA cw12_laysBack (rvM hK) (xm_laysBack hq_) rfl ⟨rfl, rfl, Nat.le_of_ble_eq_true rfl, Nat.le_of_ble_eq_true rfl⟩ rfl (Nat.le_of_ble_eq_true rfl) dX12_shows_69 ?_
        refine gr_iload_n X dX12_shows_72 rfl 2 rfl ?_
        exact gr_iret X dX12_shows_73 (Prod.mk.inj (Option.some.inj hf)).1 (Prod.mk.inj (Option.some.inj hf)).2
      · replace hf := ot_f hf hc_
        refine gr_aload_n X dX12_shows_33 rfl 0 rfl ?_
        refine gr_iconst (v := 0) X dX12_shows_34 (by decide) ?_
        obtain ⟨⟨q9, σ10⟩, hq_, hf⟩ := ot_b hf
        replace hf := ot_l (y := q9) hf rfl
        replace hf := ot_l (y := σ10) hf rfl
        refine gc_Vi (rest := []) X kM_ok hK hA cw12_goesWith (rvM hK) (xm_goesWith hq_) rfl ⟨rfl, rfl, Nat.le_of_ble_eq_true rfl, Nat.le_of_ble_eq_true rfl⟩ rfl (Nat.le_of_ble_eq_true rfl) dX12_shows_35 ?_
        refine gr_istore_n (L2 := [(3, .int q9), (0, .ref h), (1, .int x1), (2, .int x2)]) X dX12_shows_38 rfl (by decide) rfl ?_
        refine gr_aload_n X dX12_shows_39 rfl 1 rfl ?_
        refine gM_get_0 X hK dX12_shows_40 ?_
        refine gr_bipush (v := 9) X dX12_shows_43 (by decide) ?_
        refine gM_ald_0 X hK 9 (by decide) (by decide) dX12_shows_45 ?_
        refine gr_iload_n X dX12_shows_46 rfl 2 rfl ?_
        refine gr_icmp_lt X 61 dX12_shows_47 (by decide) (fun hc_ => ?_) (fun hc_ => ?_)
        · replace hf := ot_t hf hc_
          refine gr_bipush (v := -3) X dX12_shows_61 (by decide) ?_
          refine gr_sub [1, 2] rfl ?_
          exact wm_shows_b63 X hK hA ih _ _ _ hf
        · replace hf := ot_f hf hc_
          refine gr_aload_n X dX12_shows_50 rfl 1 rfl ?_
          refine gM_get_0 X hK dX12_shows_51 ?_
          refine gr_iconst (v := 1) X dX12_shows_54 (by decide) ?_
          refine gM_ald_0 X hK 1 (by decide) (by decide) dX12_shows_55 ?_
          refine gr_iconst (v := 1) X dX12_shows_56 (by decide) ?_
          refine gr_isub X dX12_shows_57 ?_
          refine gr_goto X 63 dX12_shows_58 (by decide) ?_
          refine gr_sub [1, 2] rfl ?_
          exact wm_shows_b63 X hK hA ih _ _ _ hf
set_option maxHeartbeats 4000000 in
set_option maxRecDepth 100000 in
theorem xm_shows {l : Launch} {D : va_G} {cA : ClassId} {h : Nat} {ad : Nat → Nat} {σ : SM} {x1 : Int32} {r : Int32} {τ : SM} (hf : fm_shows x1 σ = some (r, τ)) : ctI l (wM h ad cA) D vwCl (kM D cA) yX12_shows cX12_shows 4 .int rm_shows [.ref h, .int x1] σ r τ := by
  refine ct_I RX12 (by decide +kernel) rfl (Nat.le_of_ble_eq_true rfl) ?_
  intro p e s m args below meth c A X hK hA
  refine gr_eqL (L2 := [(0, .ref h), (1, .int x1)]) rfl ?_
  unfold fm_shows at hf
  refine gr_iload_n X dX12_shows_0 rfl 1 rfl ?_
  refine gr_i2l X dX12_shows_1 ?_
  refine gr_lconst (v := 0) X dX12_shows_2 (by decide) ?_
  refine gr_ldc2_w X ck12_132 dX12_shows_3 ?_
  obtain ⟨q1, hq_, hf⟩ := ot_b hf
  refine gc_Si (rest := []) X kM_ok hK hA cw12_isIn (xm_isIn hq_) rfl ⟨rfl, rfl, Nat.le_of_ble_eq_true rfl, Nat.le_of_ble_eq_true rfl⟩ rfl (Nat.le_of_ble_eq_true rfl) dX12_shows_6 ?_
  refine gr_if_ne X 14 dX12_shows_9 (by decide) (fun hc_ => ?_) (fun hc_ => ?_)
  · replace hf := ot_t hf hc_
    refine gr_aload_n X dX12_shows_14 rfl 0 rfl ?_
    refine gr_iconst (v := 0) X dX12_shows_15 (by decide) ?_
    obtain ⟨σ3, hq_, hf⟩ := ot_b hf
    refine gc_Vv (rest := []) X kM_ok hK hA cw12_laysAside (rvM hK) (xm_laysAside hq_) rfl ⟨rfl, rfl, Nat.le_of_ble_eq_true rfl, Nat.le_of_ble_eq_true rfl⟩ rfl (Nat.le_of_ble_eq_true rfl) dX12_shows_16 ?_
    refine gr_bipush (v := -3) X dX12_shows_19 (by decide) ?_
    refine gr_istore_n (L2 := [(2, .int (-3 : Int32)), (0, .ref h), (1, .int x1)]) X dX12_shows_21 rfl (by decide) rfl ?_
    refine gr_sub [1, 2, 0] rfl ?_
    refine wm_shows_l22 X hK hA  hFU _ _ _ hf
  · replace hf := ot_f hf hc_
    refine gr_iconst (v := -1) X dX12_shows_12 (by decide) ?_
    exact gr_iret X dX12_shows_13 (Prod.mk.inj (Option.some.inj hf)).1 (Prod.mk.inj (Option.some.inj hf)).2
abbrev rm_right : Room := { frames := 8, cells := 0, slots := 0, locals := 182 }
def fm_right_b76 (K19 : Int32 → Int32 → SM → Option (Int32 × SM)) (x1 : Int32) (y0 : Int32) (y1 : Int32) (σ : SM) : Option (Int32 × SM) := (hl (y1 + y0) fun v11 => (K19 x1 v11 σ))
def fm_right_l19 : Nat → Int32 → Int32 → SM → Option (Int32 × SM)
  | 0, _, _, _ => none
  | n + 1, x1, x2, σ => (Option.bind (fm_isOver σ) fun q4 => (if ¬ q4 = 0 then (Option.bind (fm_laysBack (0 : Int32) σ) fun σ6 => (some (x2, σ6))) else (Option.bind (fm_restAct σ) fun q7 => (Option.bind (fm_goesWith q7 σ) fun p_ => hl p_.1 fun q8 => hl p_.2 fun σ9 => (Option.bind (fm_apart (σ9 0 9) ((4 : Int32) * (σ9 0 1))) fun q10 => (if ¬ x1 = (1 : Int32) then (if ¬ q10 = 0 then (fm_right_b76 (fm_right_l19 n) x1 (0 : Int32) x2 σ9) else (fm_right_b76 (fm_right_l19 n) x1 (1 : Int32) x2 σ9)) else (fm_right_b76 (fm_right_l19 n) x1 q10 x2 σ9)))))))
def fm_right (x1 : Int32) (σ : SM) : Option (Int32 × SM) := (Option.bind (fm_isIn (Int32.toInt64 x1) (0 : Int64) (1 : Int64)) fun q1 => (if ¬ q1 = 0 then (Option.bind (fm_laysAside (0 : Int32) σ) fun σ3 => (fm_right_l19 hFU x1 (0 : Int32) σ3)) else (some ((-1 : Int32), σ))))
set_option maxHeartbeats 4000000 in
set_option maxRecDepth 100000 in
theorem wm_right_b76 {p : Program} {l : Launch} {e : Env} {s : State} {m : MethodId} {args : Array Value} {below : List Frame} {meth : Method} {c : Code} {A : Nat → Prop} {D : va_G} {cA : ClassId} {h : Nat} {ad : Nat → Nat} {r : Int32} {τ : SM} {K19 : Int32 → Int32 → SM → Option (Int32 × SM)} (X : hc p s m args meth c RX12 cX12_right 5 (some .int)) (hK : kM D cA A s) (hA : ∀ q, s.heap.size ≤ q → A q) (hK19 : (∀ (x1 : Int32) (x2 : Int32) (σ : SM), K19 x1 x2 σ = some (r, τ) → gg p l e rm_right s m args below meth c (wM h ad cA) D vwCl A 5 (QI below args s (wM h ad cA) D vwCl A r τ) 19 [(0, .ref h), (1, .int x1), (2, .int x2)] [] σ))  (x1 : Int32) (y0 : Int32) (y1 : Int32) (σ : SM) (hf : fm_right_b76 K19 x1 y0 y1 σ = some (r, τ)) : gg p l e rm_right s m args below meth c (wM h ad cA) D vwCl A 5 (QI below args s (wM h ad cA) D vwCl A r τ) 76 [(0, .ref h), (1, .int x1)] [.int y0, .int y1] σ := by
  unfold fm_right_b76 at hf
  refine gr_iadd X dX12_right_76 ?_
  refine gM_top (fun v11 e_v11 => ?_)
  replace hf := ot_l hf e_v11
  refine gr_istore_n (L2 := [(2, .int v11), (0, .ref h), (1, .int x1)]) X dX12_right_77 rfl (by decide) rfl ?_
  refine gr_goto X 19 dX12_right_78 (by decide) ?_
  refine gr_sub [1, 2, 0] rfl ?_
  exact hK19 _ _ _ hf
set_option maxHeartbeats 4000000 in
set_option maxRecDepth 100000 in
theorem wm_right_l19 {p : Program} {l : Launch} {e : Env} {s : State} {m : MethodId} {args : Array Value} {below : List Frame} {meth : Method} {c : Code} {A : Nat → Prop} {D : va_G} {cA : ClassId} {h : Nat} {ad : Nat → Nat} {r : Int32} {τ : SM} (X : hc p s m args meth c RX12 cX12_right 5 (some .int)) (hK : kM D cA A s) (hA : ∀ q, s.heap.size ≤ q → A q)  : ∀ (n : Nat) (x1 : Int32) (x2 : Int32) (σ : SM), fm_right_l19 n x1 x2 σ = some (r, τ) → gg p l e rm_right s m args below meth c (wM h ad cA) D vwCl A 5 (QI below args s (wM h ad cA) D vwCl A r τ) 19 [(0, .ref h), (1, .int x1), (2, .int x2)] [] σ := by
  intro n
  induction n with
  | zero =>
    intro x1 x2 σ hf
    cases (show (none : Option (Int32 × SM)) = some (r, τ) from hf)
  | succ n ih =>
    intro x1 x2 σ hf
    unfold fm_right_l19 at hf
    refine gr_aload_n X dX12_right_19 rfl 0 rfl ?_
    obtain ⟨q4, hq_, hf⟩ := ot_b hf
    refine gc_Vi (rest := []) X kM_ok hK hA cw12_isOver (rvM hK) (xm_isOver hq_) rfl ⟨rfl, rfl, Nat.le_of_ble_eq_true rfl, Nat.le_of_ble_eq_true rfl⟩ rfl (Nat.le_of_ble_eq_true rfl) dX12_right_20 ?_
    refine gr_if_ne X 81 dX12_right_23 (by decide) (fun hc_ => ?_) (fun hc_ => ?_)
    · replace hf := ot_t hf hc_
      refine gr_aload_n X dX12_right_81 rfl 0 rfl ?_
      refine gr_iconst (v := 0) X dX12_right_82 (by decide) ?_
      obtain ⟨σ6, hq_, hf⟩ := ot_b hf
      refine gc_Vv (rest := []) X kM_ok hK hA cw12_laysBack (rvM hK) (xm_laysBack hq_) rfl ⟨rfl, rfl, Nat.le_of_ble_eq_true rfl, Nat.le_of_ble_eq_true rfl⟩ rfl (Nat.le_of_ble_eq_true rfl) dX12_right_83 ?_
      refine gr_iload_n X dX12_right_86 rfl 2 rfl ?_
      exact gr_iret X dX12_right_87 (Prod.mk.inj (Option.some.inj hf)).1 (Prod.mk.inj (Option.some.inj hf)).2
    · replace hf := ot_f hf hc_
      refine gr_aload_n X dX12_right_26 rfl 0 rfl ?_
      refine gr_aload_n X dX12_right_27 rfl 0 rfl ?_
      obtain ⟨q7, hq_, hf⟩ := ot_b hf
      refine gc_Vi (rest := [.ref h]) X kM_ok hK hA cw12_restAct (rvM hK) (xm_restAct hq_) rfl ⟨rfl, rfl, Nat.le_of_ble_eq_true rfl, Nat.le_of_ble_eq_true rfl⟩ rfl (Nat.le_of_ble_eq_true rfl) dX12_right_28 ?_
      obtain ⟨⟨q8, σ9⟩, hq_, hf⟩ := ot_b hf
      replace hf := ot_l (y := q8) hf rfl
      replace hf := ot_l (y := σ9) hf rfl
      refine gc_Vi (rest := []) X kM_ok hK hA cw12_goesWith (rvM hK) (xm_goesWith hq_) rfl ⟨rfl, rfl, Nat.le_of_ble_eq_true rfl, Nat.le_of_ble_eq_true rfl⟩ rfl (Nat.le_of_ble_eq_true rfl) dX12_right_31 ?_
      refine gr_istore_n (L2 := [(3, .int q8), (0, .ref h), (1, .int x1), (2, .int x2)]) X dX12_right_34 rfl (by decide) rfl ?_
      refine gr_aload_n X dX12_right_35 rfl 1 rfl ?_
      refine gM_get_0 X hK dX12_right_36 ?_
      refine gr_bipush (v := 9) X dX12_right_39 (by decide) ?_
      refine gM_ald_0 X hK 9 (by decide) (by decide) dX12_right_41 ?_
      refine gr_iconst (v := 4) X dX12_right_42 (by decide) ?_
      refine gr_aload_n X dX12_right_43 rfl 1 rfl ?_
      refine gM_get_0 X hK dX12_right_44 ?_
      refine gr_iconst (v := 1) X dX12_right_47 (by decide) ?_
      refine gM_ald_0 X hK 1 (by decide) (by decide) dX12_right_48 ?_
      refine gr_imul X dX12_right_49 ?_
      obtain ⟨q10, hq_, hf⟩ := ot_b hf
      refine gc_Si (rest := []) X kM_ok hK hA cw12_apart (xm_apart hq_) rfl ⟨rfl, rfl, Nat.le_of_ble_eq_true rfl, Nat.le_of_ble_eq_true rfl⟩ rfl (Nat.le_of_ble_eq_true rfl) dX12_right_50 ?_
      refine gr_istore (L2 := [(4, .int q10), (3, .int q8), (0, .ref h), (1, .int x1), (2, .int x2)]) X dX12_right_53 (by decide) rfl ?_
      refine gr_iload_n X dX12_right_55 rfl 4 rfl ?_
      refine gr_iload_n X dX12_right_56 rfl 3 rfl ?_
      refine gr_iconst (v := 1) X dX12_right_57 (by decide) ?_
      refine gr_icmp_ne X 66 dX12_right_58 (by decide) (fun hc_ => ?_) (fun hc_ => ?_)
      · replace hf := ot_t hf hc_
        refine gr_iload X dX12_right_66 0 rfl ?_
        refine gr_if_ne X 75 dX12_right_68 (by decide) (fun hc_ => ?_) (fun hc_ => ?_)
        · replace hf := ot_t hf hc_
          refine gr_iconst (v := 0) X dX12_right_75 (by decide) ?_
          refine gr_sub [2, 3] rfl ?_
          exact wm_right_b76 X hK hA ih _ _ _ _ hf
        · replace hf := ot_f hf hc_
          refine gr_iconst (v := 1) X dX12_right_71 (by decide) ?_
          refine gr_goto X 76 dX12_right_72 (by decide) ?_
          refine gr_sub [2, 3] rfl ?_
          exact wm_right_b76 X hK hA ih _ _ _ _ hf
      · replace hf := ot_f hf hc_
        refine gr_iload X dX12_right_61 0 rfl ?_
        refine gr_goto X 76 dX12_right_63 (by decide) ?_
        refine gr_sub [2, 3] rfl ?_
        exact wm_right_b76 X hK hA ih _ _ _ _ hf
set_option maxHeartbeats 4000000 in
set_option maxRecDepth 100000 in
theorem xm_right {l : Launch} {D : va_G} {cA : ClassId} {h : Nat} {ad : Nat → Nat} {σ : SM} {x1 : Int32} {r : Int32} {τ : SM} (hf : fm_right x1 σ = some (r, τ)) : ctI l (wM h ad cA) D vwCl (kM D cA) yX12_right cX12_right 5 .int rm_right [.ref h, .int x1] σ r τ := by
  refine ct_I RX12 (by decide +kernel) rfl (Nat.le_of_ble_eq_true rfl) ?_
  intro p e s m args below meth c A X hK hA
  refine gr_eqL (L2 := [(0, .ref h), (1, .int x1)]) rfl ?_
  unfold fm_right at hf
  refine gr_iload_n X dX12_right_0 rfl 1 rfl ?_
  refine gr_i2l X dX12_right_1 ?_
  refine gr_lconst (v := 0) X dX12_right_2 (by decide) ?_
  refine gr_lconst (v := 1) X dX12_right_3 (by decide) ?_
  obtain ⟨q1, hq_, hf⟩ := ot_b hf
  refine gc_Si (rest := []) X kM_ok hK hA cw12_isIn (xm_isIn hq_) rfl ⟨rfl, rfl, Nat.le_of_ble_eq_true rfl, Nat.le_of_ble_eq_true rfl⟩ rfl (Nat.le_of_ble_eq_true rfl) dX12_right_4 ?_
  refine gr_if_ne X 12 dX12_right_7 (by decide) (fun hc_ => ?_) (fun hc_ => ?_)
  · replace hf := ot_t hf hc_
    refine gr_aload_n X dX12_right_12 rfl 0 rfl ?_
    refine gr_iconst (v := 0) X dX12_right_13 (by decide) ?_
    obtain ⟨σ3, hq_, hf⟩ := ot_b hf
    refine gc_Vv (rest := []) X kM_ok hK hA cw12_laysAside (rvM hK) (xm_laysAside hq_) rfl ⟨rfl, rfl, Nat.le_of_ble_eq_true rfl, Nat.le_of_ble_eq_true rfl⟩ rfl (Nat.le_of_ble_eq_true rfl) dX12_right_14 ?_
    refine gr_iconst (v := 0) X dX12_right_17 (by decide) ?_
    refine gr_istore_n (L2 := [(2, .int (0 : Int32)), (0, .ref h), (1, .int x1)]) X dX12_right_18 rfl (by decide) rfl ?_
    refine gr_sub [1, 2, 0] rfl ?_
    refine wm_right_l19 X hK hA  hFU _ _ _ hf
  · replace hf := ot_f hf hc_
    refine gr_iconst (v := -1) X dX12_right_10 (by decide) ?_
    exact gr_iret X dX12_right_11 (Prod.mk.inj (Option.some.inj hf)).1 (Prod.mk.inj (Option.some.inj hf)).2
abbrev rm_queueOf : Room := { frames := 2, cells := 0, slots := 0, locals := 43 }
def fm_queueOf_b117 (σ : SM) (K11 : Int32 → Int32 → Option Int32) (K131 : Int32 → Int32 → Option Int32) (K20 : Int32 → Int32 → Int32 → Option Int32) (K125 : Int32 → Int32 → Int32 → Option Int32) (K34 : Int32 → Int32 → Int32 → Int32 → Option Int32) (x3 : Int32) (x4 : Int32) (x5 : Int32) (y0 : Int32) (y1 : Int32) : Option Int32 := (hl (y1 ||| y0) fun v4 => (K34 v4 x3 x4 (x5 + (1 : Int32))))
def fm_queueOf_b116 (σ : SM) (K11 : Int32 → Int32 → Option Int32) (K131 : Int32 → Int32 → Option Int32) (K20 : Int32 → Int32 → Int32 → Option Int32) (K125 : Int32 → Int32 → Int32 → Option Int32) (K34 : Int32 → Int32 → Int32 → Int32 → Option Int32) (x3 : Int32) (x4 : Int32) (x5 : Int32) (y0 : Int32) : Option Int32 := (fm_queueOf_b117 σ K11 K131 K20 K125 K34 x3 x4 x5 (0 : Int32) y0)
def fm_queueOf_b91 (σ : SM) (K11 : Int32 → Int32 → Option Int32) (K131 : Int32 → Int32 → Option Int32) (K20 : Int32 → Int32 → Int32 → Option Int32) (K125 : Int32 → Int32 → Int32 → Option Int32) (K34 : Int32 → Int32 → Int32 → Int32 → Option Int32) (x2 : Int32) (x3 : Int32) (x4 : Int32) (x5 : Int32) (y0 : Int32) : Option Int32 := (if y0 = 0 then (fm_queueOf_b116 σ K11 K131 K20 K125 K34 x3 x4 x5 x2) else (if ¬ ((x2 >>> (x4 &&& 31)) &&& (1 : Int32)) = (1 : Int32) then (fm_queueOf_b116 σ K11 K131 K20 K125 K34 x3 x4 x5 x2) else (fm_queueOf_b117 σ K11 K131 K20 K125 K34 x3 x4 x5 ((1 : Int32) <<< (x5 &&& 31)) x2)))
def fm_queueOf_b90 (σ : SM) (K11 : Int32 → Int32 → Option Int32) (K131 : Int32 → Int32 → Option Int32) (K20 : Int32 → Int32 → Int32 → Option Int32) (K125 : Int32 → Int32 → Int32 → Option Int32) (K34 : Int32 → Int32 → Int32 → Int32 → Option Int32) (x2 : Int32) (x3 : Int32) (x4 : Int32) (x5 : Int32) : Option Int32 := (fm_queueOf_b91 σ K11 K131 K20 K125 K34 x2 x3 x4 x5 (0 : Int32))
def fm_queueOf_l34 (σ : SM) (K11 : Int32 → Int32 → Option Int32) (K131 : Int32 → Int32 → Option Int32) (K20 : Int32 → Int32 → Int32 → Option Int32) (K125 : Int32 → Int32 → Int32 → Option Int32) : Nat → Int32 → Int32 → Int32 → Int32 → Option Int32
  | 0, _, _, _, _ => none
  | n + 1, x2, x3, x4, x5 => (if (σ 0 0) ≤ x5 then (K125 x2 x3 x4) else (Option.bind (fm_its σ x4 (4 : Int32)) fun q3 => (if ¬ q3 = (1 : Int32) then (fm_queueOf_b90 σ K11 K131 K20 K125 (fm_queueOf_l34 σ K11 K131 K20 K125 n) x2 x3 x4 x5) else (Option.bind (fm_its σ x5 (4 : Int32)) fun q5 => (if ¬ q5 = (1 : Int32) then (fm_queueOf_b90 σ K11 K131 K20 K125 (fm_queueOf_l34 σ K11 K131 K20 K125 n) x2 x3 x4 x5) else (Option.bind (fm_place σ x4) fun q6 => (Option.bind (fm_place σ x5) fun q7 => (Option.bind (fm_apart q6 q7) fun q8 => (if (2 : Int32) < q8 then (fm_queueOf_b90 σ K11 K131 K20 K125 (fm_queueOf_l34 σ K11 K131 K20 K125 n) x2 x3 x4 x5) else (fm_queueOf_b91 σ K11 K131 K20 K125 (fm_queueOf_l34 σ K11 K131 K20 K125 n) x2 x3 x4 x5 (1 : Int32)))))))))))
def fm_queueOf_l20 (σ : SM) (K11 : Int32 → Int32 → Option Int32) (K131 : Int32 → Int32 → Option Int32) : Nat → Int32 → Int32 → Int32 → Option Int32
  | 0, _, _, _ => none
  | n + 1, x2, x3, x4 => (if (σ 0 0) ≤ x4 then (K131 x2 x3) else (fm_queueOf_l34 σ K11 K131 (fm_queueOf_l20 σ K11 K131 n) (fun x2 x3 x4 => ((fm_queueOf_l20 σ K11 K131 n) x2 x3 (x4 + (1 : Int32)))) hFU x2 x3 x4 (0 : Int32)))
def fm_queueOf_l11 (σ : SM) : Nat → Int32 → Int32 → Option Int32
  | 0, _, _ => none
  | n + 1, x2, x3 => (if (6 : Int32) ≤ x3 then (some x2) else (fm_queueOf_l20 σ (fm_queueOf_l11 σ n) (fun x2 x3 => ((fm_queueOf_l11 σ n) x2 (x3 + (1 : Int32)))) hFU x2 x3 (0 : Int32)))
def fm_queueOf (σ : SM) (x1 : Int32) : Option Int32 := (Option.bind (fm_its σ x1 (4 : Int32)) fun q1 => (hl (q1 <<< (x1 &&& 31)) fun v2 => (fm_queueOf_l11 σ hFU v2 (0 : Int32))))
set_option maxHeartbeats 4000000 in
set_option maxRecDepth 100000 in
theorem wm_queueOf_b117 {p : Program} {l : Launch} {e : Env} {s : State} {m : MethodId} {args : Array Value} {below : List Frame} {meth : Method} {c : Code} {A : Nat → Prop} {D : va_G} {cA : ClassId} {h : Nat} {ad : Nat → Nat} {r : Int32} {σ : SM} {K11 : Int32 → Int32 → Option Int32} {K131 : Int32 → Int32 → Option Int32} {K20 : Int32 → Int32 → Int32 → Option Int32} {K125 : Int32 → Int32 → Int32 → Option Int32} {K34 : Int32 → Int32 → Int32 → Int32 → Option Int32} (X : hc p s m args meth c RX12 cX12_queueOf 7 (some .int)) (hK : kM D cA A s) (hA : ∀ q, s.heap.size ≤ q → A q) (hK11 : (∀ (x2 : Int32) (x3 : Int32), K11 x2 x3 = some r → gg p l e rm_queueOf s m args below meth c (wM h ad cA) D vwCl A 7 (QI below args s (wM h ad cA) D vwCl A r σ) 11 [(0, .ref h), (2, .int x2), (3, .int x3)] [] σ)) (hK131 : (∀ (x2 : Int32) (x3 : Int32), K131 x2 x3 = some r → gg p l e rm_queueOf s m args below meth c (wM h ad cA) D vwCl A 7 (QI below args s (wM h ad cA) D vwCl A r σ) 131 [(0, .ref h), (2, .int x2), (3, .int x3)] [] σ)) (hK20 : (∀ (x2 : Int32) (x3 : Int32) (x4 : Int32), K20 x2 x3 x4 = some r → gg p l e rm_queueOf s m args below meth c (wM h ad cA) D vwCl A 7 (QI below args s (wM h ad cA) D vwCl A r σ) 20 [(0, .ref h), (2, .int x2), (3, .int x3), (4, .int x4)] [] σ)) (hK125 : (∀ (x2 : Int32) (x3 : Int32) (x4 : Int32), K125 x2 x3 x4 = some r → gg p l e rm_queueOf s m args below meth c (wM h ad cA) D vwCl A 7 (QI below args s (wM h ad cA) D vwCl A r σ) 125 [(0, .ref h), (2, .int x2), (3, .int x3), (4, .int x4)] [] σ)) (hK34 : (∀ (x2 : Int32) (x3 : Int32) (x4 : Int32) (x5 : Int32), K34 x2 x3 x4 x5 = some r → gg p l e rm_queueOf s m args below meth c (wM h ad cA) D vwCl A 7 (QI below args s (wM h ad cA) D vwCl A r σ) 34 [(0, .ref h), (2, .int x2), (3, .int x3), (4, .int x4), (5, .int x5)] [] σ))  (x3 : Int32) (x4 : Int32) (x5 : Int32) (y0 : Int32) (y1 : Int32) (hf : fm_queueOf_b117 σ K11 K131 K20 K125 K34 x3 x4 x5 y0 y1 = some r) : gg p l e rm_queueOf s m args below meth c (wM h ad cA) D vwCl A 7 (QI below args s (wM h ad cA) D vwCl A r σ) 117 [(0, .ref h), (3, .int x3), (4, .int x4), (5, .int x5)] [.int y0, .int y1] σ := by
  unfold fm_queueOf_b117 at hf
  refine gr_ior X dX12_queueOf_117 ?_
  refine gM_top (fun v4 e_v4 => ?_)
  replace hf := ot_l hf e_v4
  refine gr_istore_n (L2 := [(2, .int v4), (0, .ref h), (3, .int x3), (4, .int x4), (5, .int x5)]) X dX12_queueOf_118 rfl (by decide) rfl ?_
  refine gr_iinc (k := 4) (v := 1) (L2 := [(5, .int (x5 + (1 : Int32))), (2, .int v4), (0, .ref h), (3, .int x3), (4, .int x4)]) X dX12_queueOf_119 rfl (by decide) (by decide) rfl ?_
  refine gr_goto X 34 dX12_queueOf_122 (by decide) ?_
  refine gr_sub [2, 1, 3, 4, 0] rfl ?_
  exact hK34 _ _ _ _ hf
set_option maxHeartbeats 4000000 in
set_option maxRecDepth 100000 in
theorem wm_queueOf_b116 {p : Program} {l : Launch} {e : Env} {s : State} {m : MethodId} {args : Array Value} {below : List Frame} {meth : Method} {c : Code} {A : Nat → Prop} {D : va_G} {cA : ClassId} {h : Nat} {ad : Nat → Nat} {r : Int32} {σ : SM} {K11 : Int32 → Int32 → Option Int32} {K131 : Int32 → Int32 → Option Int32} {K20 : Int32 → Int32 → Int32 → Option Int32} {K125 : Int32 → Int32 → Int32 → Option Int32} {K34 : Int32 → Int32 → Int32 → Int32 → Option Int32} (X : hc p s m args meth c RX12 cX12_queueOf 7 (some .int)) (hK : kM D cA A s) (hA : ∀ q, s.heap.size ≤ q → A q) (hK11 : (∀ (x2 : Int32) (x3 : Int32), K11 x2 x3 = some r → gg p l e rm_queueOf s m args below meth c (wM h ad cA) D vwCl A 7 (QI below args s (wM h ad cA) D vwCl A r σ) 11 [(0, .ref h), (2, .int x2), (3, .int x3)] [] σ)) (hK131 : (∀ (x2 : Int32) (x3 : Int32), K131 x2 x3 = some r → gg p l e rm_queueOf s m args below meth c (wM h ad cA) D vwCl A 7 (QI below args s (wM h ad cA) D vwCl A r σ) 131 [(0, .ref h), (2, .int x2), (3, .int x3)] [] σ)) (hK20 : (∀ (x2 : Int32) (x3 : Int32) (x4 : Int32), K20 x2 x3 x4 = some r → gg p l e rm_queueOf s m args below meth c (wM h ad cA) D vwCl A 7 (QI below args s (wM h ad cA) D vwCl A r σ) 20 [(0, .ref h), (2, .int x2), (3, .int x3), (4, .int x4)] [] σ)) (hK125 : (∀ (x2 : Int32) (x3 : Int32) (x4 : Int32), K125 x2 x3 x4 = some r → gg p l e rm_queueOf s m args below meth c (wM h ad cA) D vwCl A 7 (QI below args s (wM h ad cA) D vwCl A r σ) 125 [(0, .ref h), (2, .int x2), (3, .int x3), (4, .int x4)] [] σ)) (hK34 : (∀ (x2 : Int32) (x3 : Int32) (x4 : Int32) (x5 : Int32), K34 x2 x3 x4 x5 = some r → gg p l e rm_queueOf s m args below meth c (wM h ad cA) D vwCl A 7 (QI below args s (wM h ad cA) D vwCl A r σ) 34 [(0, .ref h), (2, .int x2), (3, .int x3), (4, .int x4), (5, .int x5)] [] σ))  (x3 : Int32) (x4 : Int32) (x5 : Int32) (y0 : Int32) (hf : fm_queueOf_b116 σ K11 K131 K20 K125 K34 x3 x4 x5 y0 = some r) : gg p l e rm_queueOf s m args below meth c (wM h ad cA) D vwCl A 7 (QI below args s (wM h ad cA) D vwCl A r σ) 116 [(0, .ref h), (3, .int x3), (4, .int x4), (5, .int x5)] [.int y0] σ := by
  unfold fm_queueOf_b116 at hf
  refine gr_iconst (v := 0) X dX12_queueOf_116 (by decide) ?_
  refine gr_sub [0, 1, 2, 3] rfl ?_
  exact wm_queueOf_b117 X hK hA hK11 hK131 hK20 hK125 hK34 _ _ _ _ _ hf
set_option maxHeartbeats 4000000 in
set_option maxRecDepth 100000 in
theorem wm_queueOf_b91 {p : Program} {l : Launch} {e : Env} {s : State} {m : MethodId} {args : Array Value} {below : List Frame} {meth : Method} {c : Code} {A : Nat → Prop} {D : va_G} {cA : ClassId} {h : Nat} {ad : Nat → Nat} {r : Int32} {σ : SM} {K11 : Int32 → Int32 → Option Int32} {K131 : Int32 → Int32 → Option Int32} {K20 : Int32 → Int32 → Int32 → Option Int32} {K125 : Int32 → Int32 → Int32 → Option Int32} {K34 : Int32 → Int32 → Int32 → Int32 → Option Int32} (X : hc p s m args meth c RX12 cX12_queueOf 7 (some .int)) (hK : kM D cA A s) (hA : ∀ q, s.heap.size ≤ q → A q) (hK11 : (∀ (x2 : Int32) (x3 : Int32), K11 x2 x3 = some r → gg p l e rm_queueOf s m args below meth c (wM h ad cA) D vwCl A 7 (QI below args s (wM h ad cA) D vwCl A r σ) 11 [(0, .ref h), (2, .int x2), (3, .int x3)] [] σ)) (hK131 : (∀ (x2 : Int32) (x3 : Int32), K131 x2 x3 = some r → gg p l e rm_queueOf s m args below meth c (wM h ad cA) D vwCl A 7 (QI below args s (wM h ad cA) D vwCl A r σ) 131 [(0, .ref h), (2, .int x2), (3, .int x3)] [] σ)) (hK20 : (∀ (x2 : Int32) (x3 : Int32) (x4 : Int32), K20 x2 x3 x4 = some r → gg p l e rm_queueOf s m args below meth c (wM h ad cA) D vwCl A 7 (QI below args s (wM h ad cA) D vwCl A r σ) 20 [(0, .ref h), (2, .int x2), (3, .int x3), (4, .int x4)] [] σ)) (hK125 : (∀ (x2 : Int32) (x3 : Int32) (x4 : Int32), K125 x2 x3 x4 = some r → gg p l e rm_queueOf s m args below meth c (wM h ad cA) D vwCl A 7 (QI below args s (wM h ad cA) D vwCl A r σ) 125 [(0, .ref h), (2, .int x2), (3, .int x3), (4, .int x4)] [] σ)) (hK34 : (∀ (x2 : Int32) (x3 : Int32) (x4 : Int32) (x5 : Int32), K34 x2 x3 x4 x5 = some r → gg p l e rm_queueOf s m args below meth c (wM h ad cA) D vwCl A 7 (QI below args s (wM h ad cA) D vwCl A r σ) 34 [(0, .ref h), (2, .int x2), (3, .int x3), (4, .int x4), (5, .int x5)] [] σ))  (x2 : Int32) (x3 : Int32) (x4 : Int32) (x5 : Int32) (y0 : Int32) (hf : fm_queueOf_b91 σ K11 K131 K20 K125 K34 x2 x3 x4 x5 y0 = some r) : gg p l e rm_queueOf s m args below meth c (wM h ad cA) D vwCl A 7 (QI below args s (wM h ad cA) D vwCl A r σ) 91 [(0, .ref h), (2, .int x2), (3, .int x3), (4, .int x4), (5, .int x5)] [.int y0] σ := by
  unfold fm_queueOf_b91 at hf
  refine gr_istore (L2 := [(6, .int y0), (0, .ref h), (2, .int x2), (3, .int x3), (4, .int x4), (5, .int x5)]) X dX12_queueOf_91 (by decide) rfl ?_
  refine gr_iload_n X dX12_queueOf_93 rfl 2 rfl ?_
  refine gr_iload X dX12_queueOf_94 0 rfl ?_
  refine gr_if_eq X 116 dX12_queueOf_96 (by decide) (fun hc_ => ?_) (fun hc_ => ?_)
  · replace hf := ot_t hf hc_
    refine gr_sub [1, 3, 4, 5] rfl ?_
    exact wm_queueOf_b116 X hK hA hK11 hK131 hK20 hK125 hK34 _ _ _ _ hf
  · replace hf := ot_f hf hc_
    refine gr_iload_n X dX12_queueOf_99 rfl 2 rfl ?_
    refine gr_iload X dX12_queueOf_100 4 rfl ?_
    refine gr_ishr X dX12_queueOf_102 ?_
    refine gr_iconst (v := 1) X dX12_queueOf_103 (by decide) ?_
    refine gr_iand X dX12_queueOf_104 ?_
    refine gr_iconst (v := 1) X dX12_queueOf_105 (by decide) ?_
    refine gr_icmp_ne X 116 dX12_queueOf_106 (by decide) (fun hc_ => ?_) (fun hc_ => ?_)
    · replace hf := ot_t hf hc_
      refine gr_sub [1, 3, 4, 5] rfl ?_
      exact wm_queueOf_b116 X hK hA hK11 hK131 hK20 hK125 hK34 _ _ _ _ hf
    · replace hf := ot_f hf hc_
      refine gr_iconst (v := 1) X dX12_queueOf_109 (by decide) ?_
      refine gr_iload X dX12_queueOf_110 5 rfl ?_
      refine gr_ishl X dX12_queueOf_112 ?_
      refine gr_goto X 117 dX12_queueOf_113 (by decide) ?_
      refine gr_sub [1, 3, 4, 5] rfl ?_
      exact wm_queueOf_b117 X hK hA hK11 hK131 hK20 hK125 hK34 _ _ _ _ _ hf
set_option maxHeartbeats 4000000 in
set_option maxRecDepth 100000 in
theorem wm_queueOf_b90 {p : Program} {l : Launch} {e : Env} {s : State} {m : MethodId} {args : Array Value} {below : List Frame} {meth : Method} {c : Code} {A : Nat → Prop} {D : va_G} {cA : ClassId} {h : Nat} {ad : Nat → Nat} {r : Int32} {σ : SM} {K11 : Int32 → Int32 → Option Int32} {K131 : Int32 → Int32 → Option Int32} {K20 : Int32 → Int32 → Int32 → Option Int32} {K125 : Int32 → Int32 → Int32 → Option Int32} {K34 : Int32 → Int32 → Int32 → Int32 → Option Int32} (X : hc p s m args meth c RX12 cX12_queueOf 7 (some .int)) (hK : kM D cA A s) (hA : ∀ q, s.heap.size ≤ q → A q) (hK11 : (∀ (x2 : Int32) (x3 : Int32), K11 x2 x3 = some r → gg p l e rm_queueOf s m args below meth c (wM h ad cA) D vwCl A 7 (QI below args s (wM h ad cA) D vwCl A r σ) 11 [(0, .ref h), (2, .int x2), (3, .int x3)] [] σ)) (hK131 : (∀ (x2 : Int32) (x3 : Int32), K131 x2 x3 = some r → gg p l e rm_queueOf s m args below meth c (wM h ad cA) D vwCl A 7 (QI below args s (wM h ad cA) D vwCl A r σ) 131 [(0, .ref h), (2, .int x2), (3, .int x3)] [] σ)) (hK20 : (∀ (x2 : Int32) (x3 : Int32) (x4 : Int32), K20 x2 x3 x4 = some r → gg p l e rm_queueOf s m args below meth c (wM h ad cA) D vwCl A 7 (QI below args s (wM h ad cA) D vwCl A r σ) 20 [(0, .ref h), (2, .int x2), (3, .int x3), (4, .int x4)] [] σ)) (hK125 : (∀ (x2 : Int32) (x3 : Int32) (x4 : Int32), K125 x2 x3 x4 = some r → gg p l e rm_queueOf s m args below meth c (wM h ad cA) D vwCl A 7 (QI below args s (wM h ad cA) D vwCl A r σ) 125 [(0, .ref h), (2, .int x2), (3, .int x3), (4, .int x4)] [] σ)) (hK34 : (∀ (x2 : Int32) (x3 : Int32) (x4 : Int32) (x5 : Int32), K34 x2 x3 x4 x5 = some r → gg p l e rm_queueOf s m args below meth c (wM h ad cA) D vwCl A 7 (QI below args s (wM h ad cA) D vwCl A r σ) 34 [(0, .ref h), (2, .int x2), (3, .int x3), (4, .int x4), (5, .int x5)] [] σ))  (x2 : Int32) (x3 : Int32) (x4 : Int32) (x5 : Int32) (hf : fm_queueOf_b90 σ K11 K131 K20 K125 K34 x2 x3 x4 x5 = some r) : gg p l e rm_queueOf s m args below meth c (wM h ad cA) D vwCl A 7 (QI below args s (wM h ad cA) D vwCl A r σ) 90 [(0, .ref h), (2, .int x2), (3, .int x3), (4, .int x4), (5, .int x5)] [] σ := by
  unfold fm_queueOf_b90 at hf
  refine gr_iconst (v := 0) X dX12_queueOf_90 (by decide) ?_
  refine gr_sub [0, 1, 2, 3, 4] rfl ?_
  exact wm_queueOf_b91 X hK hA hK11 hK131 hK20 hK125 hK34 _ _ _ _ _ hf
set_option maxHeartbeats 4000000 in
set_option maxRecDepth 100000 in
theorem wm_queueOf_l34 {p : Program} {l : Launch} {e : Env} {s : State} {m : MethodId} {args : Array Value} {below : List Frame} {meth : Method} {c : Code} {A : Nat → Prop} {D : va_G} {cA : ClassId} {h : Nat} {ad : Nat → Nat} {r : Int32} {σ : SM} {K11 : Int32 → Int32 → Option Int32} {K131 : Int32 → Int32 → Option Int32} {K20 : Int32 → Int32 → Int32 → Option Int32} {K125 : Int32 → Int32 → Int32 → Option Int32} (X : hc p s m args meth c RX12 cX12_queueOf 7 (some .int)) (hK : kM D cA A s) (hA : ∀ q, s.heap.size ≤ q → A q) (hK11 : (∀ (x2 : Int32) (x3 : Int32), K11 x2 x3 = some r → gg p l e rm_queueOf s m args below meth c (wM h ad cA) D vwCl A 7 (QI below args s (wM h ad cA) D vwCl A r σ) 11 [(0, .ref h), (2, .int x2), (3, .int x3)] [] σ)) (hK131 : (∀ (x2 : Int32) (x3 : Int32), K131 x2 x3 = some r → gg p l e rm_queueOf s m args below meth c (wM h ad cA) D vwCl A 7 (QI below args s (wM h ad cA) D vwCl A r σ) 131 [(0, .ref h), (2, .int x2), (3, .int x3)] [] σ)) (hK20 : (∀ (x2 : Int32) (x3 : Int32) (x4 : Int32), K20 x2 x3 x4 = some r → gg p l e rm_queueOf s m args below meth c (wM h ad cA) D vwCl A 7 (QI below args s (wM h ad cA) D vwCl A r σ) 20 [(0, .ref h), (2, .int x2), (3, .int x3), (4, .int x4)] [] σ)) (hK125 : (∀ (x2 : Int32) (x3 : Int32) (x4 : Int32), K125 x2 x3 x4 = some r → gg p l e rm_queueOf s m args below meth c (wM h ad cA) D vwCl A 7 (QI below args s (wM h ad cA) D vwCl A r σ) 125 [(0, .ref h), (2, .int x2), (3, .int x3), (4, .int x4)] [] σ)) : ∀ (n : Nat) (x2 : Int32) (x3 : Int32) (x4 : Int32) (x5 : Int32), fm_queueOf_l34 σ K11 K131 K20 K125 n x2 x3 x4 x5 = some r → gg p l e rm_queueOf s m args below meth c (wM h ad cA) D vwCl A 7 (QI below args s (wM h ad cA) D vwCl A r σ) 34 [(0, .ref h), (2, .int x2), (3, .int x3), (4, .int x4), (5, .int x5)] [] σ := by
  intro n
  induction n with
  | zero =>
    intro x2 x3 x4 x5 hf
    cases (show (none : Option Int32) = some r from hf)
  | succ n ih =>
    intro x2 x3 x4 x5 hf
    unfold fm_queueOf_l34 at hf
    refine gr_iload X dX12_queueOf_34 4 rfl ?_
    refine gr_aload_n X dX12_queueOf_36 rfl 0 rfl ?_
    refine gM_get_0 X hK dX12_queueOf_37 ?_
    refine gr_iconst (v := 0) X dX12_queueOf_40 (by decide) ?_
    refine gM_ald_0 X hK 0 (by decide) (by decide) dX12_queueOf_41 ?_
    refine gr_icmp_ge X 125 dX12_queueOf_42 (by decide) (fun hc_ => ?_) (fun hc_ => ?_)
    · replace hf := ot_t hf hc_
      refine gr_sub [0, 1, 2, 3] rfl ?_
      exact hK125 _ _ _ hf
    · replace hf := ot_f hf hc_
      refine gr_aload_n X dX12_queueOf_45 rfl 0 rfl ?_
      refine gr_iload X dX12_queueOf_46 3 rfl ?_
      refine gr_iconst (v := 4) X dX12_queueOf_48 (by decide) ?_
      obtain ⟨q3, hq_, hf⟩ := ot_b hf
      refine gc_Vi (rest := []) X kM_ok hK hA cw12_its (rvM hK) (xm_its hq_) rfl ⟨rfl, rfl, Nat.le_of_ble_eq_true rfl, Nat.le_of_ble_eq_true rfl⟩ rfl (Nat.le_of_ble_eq_true rfl) dX12_queueOf_49 ?_
      refine gr_iconst (v := 1) X dX12_queueOf_52 (by decide) ?_
      refine gr_icmp_ne X 90 dX12_queueOf_53 (by decide) (fun hc_ => ?_) (fun hc_ => ?_)
      · replace hf := ot_t hf hc_
        refine gr_sub [0, 1, 2, 3, 4] rfl ?_
        exact wm_queueOf_b90 X hK hA hK11 hK131 hK20 hK125 ih _ _ _ _ hf
      · replace hf := ot_f hf hc_
        refine gr_aload_n X dX12_queueOf_56 rfl 0 rfl ?_
        refine gr_iload X dX12_queueOf_57 4 rfl ?_
        refine gr_iconst (v := 4) X dX12_queueOf_59 (by decide) ?_
        obtain ⟨q5, hq_, hf⟩ := ot_b hf
        refine gc_Vi (rest := []) X kM_ok hK hA cw12_its (rvM hK) (xm_its hq_) rfl ⟨rfl, rfl, Nat.le_of_ble_eq_true rfl, Nat.le_of_ble_eq_true rfl⟩ rfl (Nat.le_of_ble_eq_true rfl) dX12_queueOf_60 ?_
        refine gr_iconst (v := 1) X dX12_queueOf_63 (by decide) ?_
        refine gr_icmp_ne X 90 dX12_queueOf_64 (by decide) (fun hc_ => ?_) (fun hc_ => ?_)
        · replace hf := ot_t hf hc_
          refine gr_sub [0, 1, 2, 3, 4] rfl ?_
          exact wm_queueOf_b90 X hK hA hK11 hK131 hK20 hK125 ih _ _ _ _ hf
        · replace hf := ot_f hf hc_
          refine gr_aload_n X dX12_queueOf_67 rfl 0 rfl ?_
          refine gr_iload X dX12_queueOf_68 3 rfl ?_
          obtain ⟨q6, hq_, hf⟩ := ot_b hf
          refine gc_Vi (rest := []) X kM_ok hK hA cw12_place (rvM hK) (xm_place hq_) rfl ⟨rfl, rfl, Nat.le_of_ble_eq_true rfl, Nat.le_of_ble_eq_true rfl⟩ rfl (Nat.le_of_ble_eq_true rfl) dX12_queueOf_70 ?_
          refine gr_aload_n X dX12_queueOf_73 rfl 0 rfl ?_
          refine gr_iload X dX12_queueOf_74 4 rfl ?_
          obtain ⟨q7, hq_, hf⟩ := ot_b hf
          refine gc_Vi (rest := [.int q6]) X kM_ok hK hA cw12_place (rvM hK) (xm_place hq_) rfl ⟨rfl, rfl, Nat.le_of_ble_eq_true rfl, Nat.le_of_ble_eq_true rfl⟩ rfl (Nat.le_of_ble_eq_true rfl) dX12_queueOf_76 ?_
          obtain ⟨q8, hq_, hf⟩ := ot_b hf
          refine gc_Si (rest := []) X kM_ok hK hA cw12_apart (xm_apart hq_) rfl ⟨rfl, rfl, Nat.le_of_ble_eq_true rfl, Nat.le_of_ble_eq_true rfl⟩ rfl (Nat.le_of_ble_eq_true rfl) dX12_queueOf_79 ?_
          refine gr_iconst (v := 2) X dX12_queueOf_82 (by decide) ?_
          refine gr_icmp_gt X 90 dX12_queueOf_83 (by decide) (fun hc_ => ?_) (fun hc_ => ?_)
          · replace hf := ot_t hf hc_
            refine gr_sub [0, 1, 2, 3, 4] rfl ?_
            exact wm_queueOf_b90 X hK hA hK11 hK131 hK20 hK125 ih _ _ _ _ hf
          · replace hf := ot_f hf hc_
            refine gr_iconst (v := 1) X dX12_queueOf_86 (by decide) ?_
            refine gr_goto X 91 dX12_queueOf_87 (by decide) ?_
            refine gr_sub [0, 1, 2, 3, 4] rfl ?_
            exact wm_queueOf_b91 X hK hA hK11 hK131 hK20 hK125 ih _ _ _ _ _ hf
set_option maxHeartbeats 4000000 in
set_option maxRecDepth 100000 in
theorem wm_queueOf_l20 {p : Program} {l : Launch} {e : Env} {s : State} {m : MethodId} {args : Array Value} {below : List Frame} {meth : Method} {c : Code} {A : Nat → Prop} {D : va_G} {cA : ClassId} {h : Nat} {ad : Nat → Nat} {r : Int32} {σ : SM} {K11 : Int32 → Int32 → Option Int32} {K131 : Int32 → Int32 → Option Int32} (X : hc p s m args meth c RX12 cX12_queueOf 7 (some .int)) (hK : kM D cA A s) (hA : ∀ q, s.heap.size ≤ q → A q) (hK11 : (∀ (x2 : Int32) (x3 : Int32), K11 x2 x3 = some r → gg p l e rm_queueOf s m args below meth c (wM h ad cA) D vwCl A 7 (QI below args s (wM h ad cA) D vwCl A r σ) 11 [(0, .ref h), (2, .int x2), (3, .int x3)] [] σ)) (hK131 : (∀ (x2 : Int32) (x3 : Int32), K131 x2 x3 = some r → gg p l e rm_queueOf s m args below meth c (wM h ad cA) D vwCl A 7 (QI below args s (wM h ad cA) D vwCl A r σ) 131 [(0, .ref h), (2, .int x2), (3, .int x3)] [] σ)) : ∀ (n : Nat) (x2 : Int32) (x3 : Int32) (x4 : Int32), fm_queueOf_l20 σ K11 K131 n x2 x3 x4 = some r → gg p l e rm_queueOf s m args below meth c (wM h ad cA) D vwCl A 7 (QI below args s (wM h ad cA) D vwCl A r σ) 20 [(0, .ref h), (2, .int x2), (3, .int x3), (4, .int x4)] [] σ := by
  intro n
  induction n with
  | zero =>
    intro x2 x3 x4 hf
    cases (show (none : Option Int32) = some r from hf)
  | succ n ih =>
    intro x2 x3 x4 hf
    unfold fm_queueOf_l20 at hf
    refine gr_iload X dX12_queueOf_20 3 rfl ?_
    refine gr_aload_n X dX12_queueOf_22 rfl 0 rfl ?_
    refine gM_get_0 X hK dX12_queueOf_23 ?_
    refine gr_iconst (v := 0) X dX12_queueOf_26 (by decide) ?_
    refine gM_ald_0 X hK 0 (by decide) (by decide) dX12_queueOf_27 ?_
    refine gr_icmp_ge X 131 dX12_queueOf_28 (by decide) (fun hc_ => ?_) (fun hc_ => ?_)
    · replace hf := ot_t hf hc_
      refine gr_sub [0, 1, 2] rfl ?_
      exact hK131 _ _ hf
    · replace hf := ot_f hf hc_
      refine gr_iconst (v := 0) X dX12_queueOf_31 (by decide) ?_
      refine gr_istore (L2 := [(5, .int (0 : Int32)), (0, .ref h), (2, .int x2), (3, .int x3), (4, .int x4)]) X dX12_queueOf_32 (by decide) rfl ?_
      refine gr_sub [1, 2, 3, 4, 0] rfl ?_
      refine wm_queueOf_l34 X hK hA hK11 hK131 ih (fun x2 x3 x4 hf => ?_) hFU _ _ _ _ hf
      refine gr_iinc (k := 3) (v := 1) (L2 := [(4, .int (x4 + (1 : Int32))), (0, .ref h), (2, .int x2), (3, .int x3)]) X dX12_queueOf_125 rfl (by decide) (by decide) rfl ?_
      refine gr_goto X 20 dX12_queueOf_128 (by decide) ?_
      refine gr_sub [1, 2, 3, 0] rfl ?_
      exact ih _ _ _ hf
set_option maxHeartbeats 4000000 in
set_option maxRecDepth 100000 in
theorem wm_queueOf_l11 {p : Program} {l : Launch} {e : Env} {s : State} {m : MethodId} {args : Array Value} {below : List Frame} {meth : Method} {c : Code} {A : Nat → Prop} {D : va_G} {cA : ClassId} {h : Nat} {ad : Nat → Nat} {r : Int32} {σ : SM} (X : hc p s m args meth c RX12 cX12_queueOf 7 (some .int)) (hK : kM D cA A s) (hA : ∀ q, s.heap.size ≤ q → A q)  : ∀ (n : Nat) (x2 : Int32) (x3 : Int32), fm_queueOf_l11 σ n x2 x3 = some r → gg p l e rm_queueOf s m args below meth c (wM h ad cA) D vwCl A 7 (QI below args s (wM h ad cA) D vwCl A r σ) 11 [(0, .ref h), (2, .int x2), (3, .int x3)] [] σ := by
  intro n
  induction n with
  | zero =>
    intro x2 x3 hf
    cases (show (none : Option Int32) = some r from hf)
  | succ n ih =>
    intro x2 x3 hf
    unfold fm_queueOf_l11 at hf
    refine gr_iload_n X dX12_queueOf_11 rfl 2 rfl ?_
    refine gr_bipush (v := 6) X dX12_queueOf_12 (by decide) ?_
    refine gr_icmp_ge X 137 dX12_queueOf_14 (by decide) (fun hc_ => ?_) (fun hc_ => ?_)
    · replace hf := ot_t hf hc_
      refine gr_iload_n X dX12_queueOf_137 rfl 1 rfl ?_
      exact gr_iret X dX12_queueOf_138 (Option.some.inj hf) rfl
    · replace hf := ot_f hf hc_
      refine gr_iconst (v := 0) X dX12_queueOf_17 (by decide) ?_
      refine gr_istore (L2 := [(4, .int (0 : Int32)), (0, .ref h), (2, .int x2), (3, .int x3)]) X dX12_queueOf_18 (by decide) rfl ?_
      refine gr_sub [1, 2, 3, 0] rfl ?_
      refine wm_queueOf_l20 X hK hA ih (fun x2 x3 hf => ?_) hFU _ _ _ hf
      refine gr_iinc (k := 2) (v := 1) (L2 := [(3, .int (x3 + (1 : Int32))), (0, .ref h), (2, .int x2)]) X dX12_queueOf_131 rfl (by decide) (by decide) rfl ?_
      refine gr_goto X 11 dX12_queueOf_134 (by decide) ?_
      refine gr_sub [1, 2, 0] rfl ?_
      exact ih _ _ hf
set_option maxHeartbeats 4000000 in
set_option maxRecDepth 100000 in
theorem xm_queueOf {l : Launch} {D : va_G} {cA : ClassId} {h : Nat} {ad : Nat → Nat} {σ : SM} {x1 : Int32} {r : Int32} (hf : fm_queueOf σ x1 = some r) : ctI l (wM h ad cA) D vwCl (kM D cA) yX12_queueOf cX12_queueOf 7 .int rm_queueOf [.ref h, .int x1] σ r σ := by
  refine ct_I RX12 (by decide +kernel) rfl (Nat.le_of_ble_eq_true rfl) ?_
  intro p e s m args below meth c A X hK hA
  refine gr_eqL (L2 := [(0, .ref h), (1, .int x1)]) rfl ?_
  unfold fm_queueOf at hf
  refine gr_aload_n X dX12_queueOf_0 rfl 0 rfl ?_
  refine gr_iload_n X dX12_queueOf_1 rfl 1 rfl ?_
  refine gr_iconst (v := 4) X dX12_queueOf_2 (by decide) ?_
  obtain ⟨q1, hq_, hf⟩ := ot_b hf
  refine gc_Vi (rest := []) X kM_ok hK hA cw12_its (rvM hK) (xm_its hq_) rfl ⟨rfl, rfl, Nat.le_of_ble_eq_true rfl, Nat.le_of_ble_eq_true rfl⟩ rfl (Nat.le_of_ble_eq_true rfl) dX12_queueOf_3 ?_
  refine gr_iload_n X dX12_queueOf_6 rfl 1 rfl ?_
  refine gr_ishl X dX12_queueOf_7 ?_
  refine gM_top (fun v2 e_v2 => ?_)
  replace hf := ot_l hf e_v2
  refine gr_istore_n (L2 := [(2, .int v2), (0, .ref h), (1, .int x1)]) X dX12_queueOf_8 rfl (by decide) rfl ?_
  refine gr_iconst (v := 0) X dX12_queueOf_9 (by decide) ?_
  refine gr_istore_n (L2 := [(3, .int (0 : Int32)), (2, .int v2), (0, .ref h), (1, .int x1)]) X dX12_queueOf_10 rfl (by decide) rfl ?_
  refine gr_sub [2, 1, 0] rfl ?_
  refine wm_queueOf_l11 X hK hA  hFU _ _ hf
abbrev rm_queues : Room := { frames := 3, cells := 0, slots := 0, locals := 69 }
def fm_queues_b69 (σ : SM) (K29 : Int32 → Int32 → Option Int32) (x3 : Int32) (y0 : Int32) (y1 : Int32) : Option Int32 := (hl (y1 + y0) fun v2 => (K29 v2 (x3 + (1 : Int32))))
def fm_queues_b68 (σ : SM) (K29 : Int32 → Int32 → Option Int32) (x3 : Int32) (y0 : Int32) : Option Int32 := (fm_queues_b69 σ K29 x3 (0 : Int32) y0)
def fm_queues_l29 (σ : SM) : Nat → Int32 → Int32 → Option Int32
  | 0, _, _ => none
  | n + 1, x2, x3 => (if (σ 0 0) ≤ x3 then (some x2) else (Option.bind (fm_its σ x3 (4 : Int32)) fun q1 => (if ¬ q1 = (1 : Int32) then (fm_queues_b68 σ (fm_queues_l29 σ n) x3 x2) else (Option.bind (fm_queueOf σ x3) fun q3 => (if ¬ (q3 &&& (((1 : Int32) <<< (x3 &&& 31)) - (1 : Int32))) = 0 then (fm_queues_b68 σ (fm_queues_l29 σ n) x3 x2) else (fm_queues_b69 σ (fm_queues_l29 σ n) x3 (1 : Int32) x2))))))
def fm_queues_b15 (σ : SM) (x1 : Int32) : Option Int32 := (if x1 < 0 then (fm_queues_l29 σ hFU (0 : Int32) (0 : Int32)) else (Option.bind (fm_queueOf σ x1) fun q4 => (some q4)))
def fm_queues (σ : SM) (x1 : Int32) : Option Int32 := (if x1 = (-1 : Int32) then (fm_queues_b15 σ x1) else (Option.bind (fm_isOne σ x1) fun q5 => (if ¬ q5 = 0 then (fm_queues_b15 σ x1) else (some (-1 : Int32)))))
set_option maxHeartbeats 4000000 in
set_option maxRecDepth 100000 in
theorem wm_queues_b69 {p : Program} {l : Launch} {e : Env} {s : State} {m : MethodId} {args : Array Value} {below : List Frame} {meth : Method} {c : Code} {A : Nat → Prop} {D : va_G} {cA : ClassId} {h : Nat} {ad : Nat → Nat} {r : Int32} {σ : SM} {K29 : Int32 → Int32 → Option Int32} (X : hc p s m args meth c RX12 cX12_queues 4 (some .int)) (hK : kM D cA A s) (hA : ∀ q, s.heap.size ≤ q → A q) (hK29 : (∀ (x2 : Int32) (x3 : Int32), K29 x2 x3 = some r → gg p l e rm_queues s m args below meth c (wM h ad cA) D vwCl A 4 (QI below args s (wM h ad cA) D vwCl A r σ) 29 [(0, .ref h), (2, .int x2), (3, .int x3)] [] σ))  (x3 : Int32) (y0 : Int32) (y1 : Int32) (hf : fm_queues_b69 σ K29 x3 y0 y1 = some r) : gg p l e rm_queues s m args below meth c (wM h ad cA) D vwCl A 4 (QI below args s (wM h ad cA) D vwCl A r σ) 69 [(0, .ref h), (3, .int x3)] [.int y0, .int y1] σ := by
  unfold fm_queues_b69 at hf
  refine gr_iadd X dX12_queues_69 ?_
  refine gM_top (fun v2 e_v2 => ?_)
  replace hf := ot_l hf e_v2
  refine gr_istore_n (L2 := [(2, .int v2), (0, .ref h), (3, .int x3)]) X dX12_queues_70 rfl (by decide) rfl ?_
  refine gr_iinc (k := 2) (v := 1) (L2 := [(3, .int (x3 + (1 : Int32))), (2, .int v2), (0, .ref h)]) X dX12_queues_71 rfl (by decide) (by decide) rfl ?_
  refine gr_goto X 29 dX12_queues_74 (by decide) ?_
  refine gr_sub [2, 1, 0] rfl ?_
  exact hK29 _ _ hf
set_option maxHeartbeats 4000000 in
set_option maxRecDepth 100000 in
theorem wm_queues_b68 {p : Program} {l : Launch} {e : Env} {s : State} {m : MethodId} {args : Array Value} {below : List Frame} {meth : Method} {c : Code} {A : Nat → Prop} {D : va_G} {cA : ClassId} {h : Nat} {ad : Nat → Nat} {r : Int32} {σ : SM} {K29 : Int32 → Int32 → Option Int32} (X : hc p s m args meth c RX12 cX12_queues 4 (some .int)) (hK : kM D cA A s) (hA : ∀ q, s.heap.size ≤ q → A q) (hK29 : (∀ (x2 : Int32) (x3 : Int32), K29 x2 x3 = some r → gg p l e rm_queues s m args below meth c (wM h ad cA) D vwCl A 4 (QI below args s (wM h ad cA) D vwCl A r σ) 29 [(0, .ref h), (2, .int x2), (3, .int x3)] [] σ))  (x3 : Int32) (y0 : Int32) (hf : fm_queues_b68 σ K29 x3 y0 = some r) : gg p l e rm_queues s m args below meth c (wM h ad cA) D vwCl A 4 (QI below args s (wM h ad cA) D vwCl A r σ) 68 [(0, .ref h), (3, .int x3)] [.int y0] σ := by
  unfold fm_queues_b68 at hf
  refine gr_iconst (v := 0) X dX12_queues_68 (by decide) ?_
  refine gr_sub [0, 1] rfl ?_
  exact wm_queues_b69 X hK hA hK29 _ _ _ hf
set_option maxHeartbeats 4000000 in
set_option maxRecDepth 100000 in
theorem wm_queues_l29 {p : Program} {l : Launch} {e : Env} {s : State} {m : MethodId} {args : Array Value} {below : List Frame} {meth : Method} {c : Code} {A : Nat → Prop} {D : va_G} {cA : ClassId} {h : Nat} {ad : Nat → Nat} {r : Int32} {σ : SM} (X : hc p s m args meth c RX12 cX12_queues 4 (some .int)) (hK : kM D cA A s) (hA : ∀ q, s.heap.size ≤ q → A q)  : ∀ (n : Nat) (x2 : Int32) (x3 : Int32), fm_queues_l29 σ n x2 x3 = some r → gg p l e rm_queues s m args below meth c (wM h ad cA) D vwCl A 4 (QI below args s (wM h ad cA) D vwCl A r σ) 29 [(0, .ref h), (2, .int x2), (3, .int x3)] [] σ := by
  intro n
  induction n with
  | zero =>
    intro x2 x3 hf
    cases (show (none : Option Int32) = some r from hf)
  | succ n ih =>
    intro x2 x3 hf
    unfold fm_queues_l29 at hf
    refine gr_iload_n X dX12_queues_29 rfl 2 rfl ?_
    refine gr_aload_n X dX12_queues_30 rfl 0 rfl ?_
    refine gM_get_0 X hK dX12_queues_31 ?_
    refine gr_iconst (v := 0) X dX12_queues_34 (by decide) ?_
    refine gM_ald_0 X hK 0 (by decide) (by decide) dX12_queues_35 ?_
    refine gr_icmp_ge X 77 dX12_queues_36 (by decide) (fun hc_ => ?_) (fun hc_ => ?_)
    · replace hf := ot_t hf hc_
      refine gr_iload_n X dX12_queues_77 rfl 1 rfl ?_
      exact gr_iret X dX12_queues_78 (Option.some.inj hf) rfl
    · replace hf := ot_f hf hc_
      refine gr_iload_n X dX12_queues_39 rfl 1 rfl ?_
      refine gr_aload_n X dX12_queues_40 rfl 0 rfl ?_
      refine gr_iload_n X dX12_queues_41 rfl 2 rfl ?_
      refine gr_iconst (v := 4) X dX12_queues_42 (by decide) ?_
      obtain ⟨q1, hq_, hf⟩ := ot_b hf
      refine gc_Vi (rest := [.int x2]) X kM_ok hK hA cw12_its (rvM hK) (xm_its hq_) rfl ⟨rfl, rfl, Nat.le_of_ble_eq_true rfl, Nat.le_of_ble_eq_true rfl⟩ rfl (Nat.le_of_ble_eq_true rfl) dX12_queues_43 ?_
      refine gr_iconst (v := 1) X dX12_queues_46 (by decide) ?_
      refine gr_icmp_ne X 68 dX12_queues_47 (by decide) (fun hc_ => ?_) (fun hc_ => ?_)
      · replace hf := ot_t hf hc_
        refine gr_sub [0, 2] rfl ?_
        exact wm_queues_b68 X hK hA ih _ _ hf
      · replace hf := ot_f hf hc_
        refine gr_aload_n X dX12_queues_50 rfl 0 rfl ?_
        refine gr_iload_n X dX12_queues_51 rfl 2 rfl ?_
        obtain ⟨q3, hq_, hf⟩ := ot_b hf
        refine gc_Vi (rest := [.int x2]) X kM_ok hK hA cw12_queueOf (rvM hK) (xm_queueOf hq_) rfl ⟨rfl, rfl, Nat.le_of_ble_eq_true rfl, Nat.le_of_ble_eq_true rfl⟩ rfl (Nat.le_of_ble_eq_true rfl) dX12_queues_52 ?_
        refine gr_iconst (v := 1) X dX12_queues_55 (by decide) ?_
        refine gr_iload_n X dX12_queues_56 rfl 2 rfl ?_
        refine gr_ishl X dX12_queues_57 ?_
        refine gr_iconst (v := 1) X dX12_queues_58 (by decide) ?_
        refine gr_isub X dX12_queues_59 ?_
        refine gr_iand X dX12_queues_60 ?_
        refine gr_if_ne X 68 dX12_queues_61 (by decide) (fun hc_ => ?_) (fun hc_ => ?_)
        · replace hf := ot_t hf hc_
          refine gr_sub [0, 2] rfl ?_
          exact wm_queues_b68 X hK hA ih _ _ hf
        · replace hf := ot_f hf hc_
          refine gr_iconst (v := 1) X dX12_queues_64 (by decide) ?_
          refine gr_goto X 69 dX12_queues_65 (by decide) ?_
          refine gr_sub [0, 2] rfl ?_
          exact wm_queues_b69 X hK hA ih _ _ _ hf
set_option maxHeartbeats 4000000 in
set_option maxRecDepth 100000 in
theorem wm_queues_b15 {p : Program} {l : Launch} {e : Env} {s : State} {m : MethodId} {args : Array Value} {below : List Frame} {meth : Method} {c : Code} {A : Nat → Prop} {D : va_G} {cA : ClassId} {h : Nat} {ad : Nat → Nat} {r : Int32} {σ : SM} (X : hc p s m args meth c RX12 cX12_queues 4 (some .int)) (hK : kM D cA A s) (hA : ∀ q, s.heap.size ≤ q → A q)   (x1 : Int32) (hf : fm_queues_b15 σ x1 = some r) : gg p l e rm_queues s m args below meth c (wM h ad cA) D vwCl A 4 (QI below args s (wM h ad cA) D vwCl A r σ) 15 [(0, .ref h), (1, .int x1)] [] σ := by
  unfold fm_queues_b15 at hf
  refine gr_iload_n X dX12_queues_15 rfl 1 rfl ?_
  refine gr_if_lt X 25 dX12_queues_16 (by decide) (fun hc_ => ?_) (fun hc_ => ?_)
  · replace hf := ot_t hf hc_
    refine gr_iconst (v := 0) X dX12_queues_25 (by decide) ?_
    refine gr_istore_n (L2 := [(2, .int (0 : Int32)), (0, .ref h), (1, .int x1)]) X dX12_queues_26 rfl (by decide) rfl ?_
    refine gr_iconst (v := 0) X dX12_queues_27 (by decide) ?_
    refine gr_istore_n (L2 := [(3, .int (0 : Int32)), (2, .int (0 : Int32)), (0, .ref h), (1, .int x1)]) X dX12_queues_28 rfl (by decide) rfl ?_
    refine gr_sub [2, 1, 0] rfl ?_
    refine wm_queues_l29 X hK hA  hFU _ _ hf
  · replace hf := ot_f hf hc_
    refine gr_aload_n X dX12_queues_19 rfl 0 rfl ?_
    refine gr_iload_n X dX12_queues_20 rfl 1 rfl ?_
    obtain ⟨q4, hq_, hf⟩ := ot_b hf
    refine gc_Vi (rest := []) X kM_ok hK hA cw12_queueOf (rvM hK) (xm_queueOf hq_) rfl ⟨rfl, rfl, Nat.le_of_ble_eq_true rfl, Nat.le_of_ble_eq_true rfl⟩ rfl (Nat.le_of_ble_eq_true rfl) dX12_queues_21 ?_
    exact gr_iret X dX12_queues_24 (Option.some.inj hf) rfl
set_option maxHeartbeats 4000000 in
set_option maxRecDepth 100000 in
theorem xm_queues {l : Launch} {D : va_G} {cA : ClassId} {h : Nat} {ad : Nat → Nat} {σ : SM} {x1 : Int32} {r : Int32} (hf : fm_queues σ x1 = some r) : ctI l (wM h ad cA) D vwCl (kM D cA) yX12_queues cX12_queues 4 .int rm_queues [.ref h, .int x1] σ r σ := by
  refine ct_I RX12 (by decide +kernel) rfl (Nat.le_of_ble_eq_true rfl) ?_
  intro p e s m args below meth c A X hK hA
  refine gr_eqL (L2 := [(0, .ref h), (1, .int x1)]) rfl ?_
  unfold fm_queues at hf
  refine gr_iload_n X dX12_queues_0 rfl 1 rfl ?_
  refine gr_iconst (v := -1) X dX12_queues_1 (by decide) ?_
  refine gr_icmp_eq X 15 dX12_queues_2 (by decide) (fun hc_ => ?_) (fun hc_ => ?_)
  · replace hf := ot_t hf hc_
    refine gr_sub [0, 1] rfl ?_
    exact wm_queues_b15 X hK hA _ hf
  · replace hf := ot_f hf hc_
    refine gr_aload_n X dX12_queues_5 rfl 0 rfl ?_
    refine gr_iload_n X dX12_queues_6 rfl 1 rfl ?_
    obtain ⟨q5, hq_, hf⟩ := ot_b hf
    refine gc_Vi (rest := []) X kM_ok hK hA cw12_isOne (rvM hK) (xm_isOne hq_) rfl ⟨rfl, rfl, Nat.le_of_ble_eq_true rfl, Nat.le_of_ble_eq_true rfl⟩ rfl (Nat.le_of_ble_eq_true rfl) dX12_queues_7 ?_
    refine gr_if_ne X 15 dX12_queues_10 (by decide) (fun hc_ => ?_) (fun hc_ => ?_)
    · replace hf := ot_t hf hc_
      refine gr_sub [0, 1] rfl ?_
      exact wm_queues_b15 X hK hA _ hf
    · replace hf := ot_f hf hc_
      refine gr_iconst (v := -1) X dX12_queues_13 (by decide) ?_
      exact gr_iret X dX12_queues_14 (Option.some.inj hf) rfl
abbrev rm_wayTo : Room := { frames := 2, cells := 0, slots := 0, locals := 43 }
def fm_wayTo_b71 (σ : SM) (K79 : Int32 → Int32 → Int32 → Int32 → Option Int32) (K9 : Int32 → Int32 → Int32 → Int32 → Int32 → Option Int32) (x1 : Int32) (x2 : Int32) (x3 : Int32) (x5 : Int32) (y0 : Int32) : Option Int32 := (K9 x1 x2 x3 y0 (x5 + (1 : Int32)))
def fm_wayTo_b44 (σ : SM) (K79 : Int32 → Int32 → Int32 → Int32 → Option Int32) (K9 : Int32 → Int32 → Int32 → Int32 → Int32 → Option Int32) (x1 : Int32) (x2 : Int32) (x4 : Int32) (x5 : Int32) (y0 : Int32) : Option Int32 := (if ¬ ((x1 >>> (x5 &&& 31)) &&& (1 : Int32)) = (1 : Int32) then (fm_wayTo_b71 σ K79 K9 x1 x2 y0 x5 x4) else (Option.bind (fm_place σ x5) fun q1 => (Option.bind (fm_greatest x4 q1) fun q2 => (fm_wayTo_b71 σ K79 K9 x1 x2 y0 x5 q2))))
def fm_wayTo_l9 (σ : SM) (K79 : Int32 → Int32 → Int32 → Int32 → Option Int32) : Nat → Int32 → Int32 → Int32 → Int32 → Int32 → Option Int32
  | 0, _, _, _, _, _ => none
  | n + 1, x1, x2, x3, x4, x5 => (if (σ 0 0) ≤ x5 then (K79 x1 x2 x3 x4) else (if ¬ ((x1 >>> (x5 &&& 31)) &&& (1 : Int32)) = (1 : Int32) then (fm_wayTo_b44 σ K79 (fm_wayTo_l9 σ K79 n) x1 x2 x4 x5 x3) else (Option.bind (fm_place σ x5) fun q3 => (Option.bind (fm_least x3 q3) fun q4 => (fm_wayTo_b44 σ K79 (fm_wayTo_l9 σ K79 n) x1 x2 x4 x5 q4)))))
def fm_wayTo (σ : SM) (x1 : Int32) (x2 : Int32) : Option Int32 := (fm_wayTo_l9 σ (fun x1 x2 x3 x4 => (if ¬ x1 = 0 then (Option.bind (fm_apart x2 x3) fun q5 => (Option.bind (fm_apart x2 x4) fun q6 => (Option.bind (fm_least q5 q6) fun q7 => (some ((x4 - x3) + q7))))) else (some (0 : Int32)))) hFU x1 x2 (99 : Int32) (-1 : Int32) (0 : Int32))
set_option maxHeartbeats 4000000 in
set_option maxRecDepth 100000 in
theorem wm_wayTo_b71 {p : Program} {l : Launch} {e : Env} {s : State} {m : MethodId} {args : Array Value} {below : List Frame} {meth : Method} {c : Code} {A : Nat → Prop} {D : va_G} {cA : ClassId} {h : Nat} {ad : Nat → Nat} {r : Int32} {σ : SM} {K79 : Int32 → Int32 → Int32 → Int32 → Option Int32} {K9 : Int32 → Int32 → Int32 → Int32 → Int32 → Option Int32} (X : hc p s m args meth c RX12 cX12_wayTo 6 (some .int)) (hK : kM D cA A s) (hA : ∀ q, s.heap.size ≤ q → A q) (hK79 : (∀ (x1 : Int32) (x2 : Int32) (x3 : Int32) (x4 : Int32), K79 x1 x2 x3 x4 = some r → gg p l e rm_wayTo s m args below meth c (wM h ad cA) D vwCl A 6 (QI below args s (wM h ad cA) D vwCl A r σ) 79 [(1, .int x1), (2, .int x2), (3, .int x3), (4, .int x4)] [] σ)) (hK9 : (∀ (x1 : Int32) (x2 : Int32) (x3 : Int32) (x4 : Int32) (x5 : Int32), K9 x1 x2 x3 x4 x5 = some r → gg p l e rm_wayTo s m args below meth c (wM h ad cA) D vwCl A 6 (QI below args s (wM h ad cA) D vwCl A r σ) 9 [(0, .ref h), (1, .int x1), (2, .int x2), (3, .int x3), (4, .int x4), (5, .int x5)] [] σ))  (x1 : Int32) (x2 : Int32) (x3 : Int32) (x5 : Int32) (y0 : Int32) (hf : fm_wayTo_b71 σ K79 K9 x1 x2 x3 x5 y0 = some r) : gg p l e rm_wayTo s m args below meth c (wM h ad cA) D vwCl A 6 (QI below args s (wM h ad cA) D vwCl A r σ) 71 [(0, .ref h), (1, .int x1), (2, .int x2), (3, .int x3), (5, .int x5)] [.int y0] σ := by
  unfold fm_wayTo_b71 at hf
  refine gr_istore (L2 := [(4, .int y0), (0, .ref h), (1, .int x1), (2, .int x2), (3, .int x3), (5, .int x5)]) X dX12_wayTo_71 (by decide) rfl ?_
  refine gr_iinc (k := 5) (v := 1) (L2 := [(5, .int (x5 + (1 : Int32))), (4, .int y0), (0, .ref h), (1, .int x1), (2, .int x2), (3, .int x3)]) X dX12_wayTo_73 rfl (by decide) (by decide) rfl ?_
  refine gr_goto X 9 dX12_wayTo_76 (by decide) ?_
  refine gr_sub [2, 3, 4, 5, 1, 0] rfl ?_
  exact hK9 _ _ _ _ _ hf
set_option maxHeartbeats 4000000 in
set_option maxRecDepth 100000 in
theorem wm_wayTo_b44 {p : Program} {l : Launch} {e : Env} {s : State} {m : MethodId} {args : Array Value} {below : List Frame} {meth : Method} {c : Code} {A : Nat → Prop} {D : va_G} {cA : ClassId} {h : Nat} {ad : Nat → Nat} {r : Int32} {σ : SM} {K79 : Int32 → Int32 → Int32 → Int32 → Option Int32} {K9 : Int32 → Int32 → Int32 → Int32 → Int32 → Option Int32} (X : hc p s m args meth c RX12 cX12_wayTo 6 (some .int)) (hK : kM D cA A s) (hA : ∀ q, s.heap.size ≤ q → A q) (hK79 : (∀ (x1 : Int32) (x2 : Int32) (x3 : Int32) (x4 : Int32), K79 x1 x2 x3 x4 = some r → gg p l e rm_wayTo s m args below meth c (wM h ad cA) D vwCl A 6 (QI below args s (wM h ad cA) D vwCl A r σ) 79 [(1, .int x1), (2, .int x2), (3, .int x3), (4, .int x4)] [] σ)) (hK9 : (∀ (x1 : Int32) (x2 : Int32) (x3 : Int32) (x4 : Int32) (x5 : Int32), K9 x1 x2 x3 x4 x5 = some r → gg p l e rm_wayTo s m args below meth c (wM h ad cA) D vwCl A 6 (QI below args s (wM h ad cA) D vwCl A r σ) 9 [(0, .ref h), (1, .int x1), (2, .int x2), (3, .int x3), (4, .int x4), (5, .int x5)] [] σ))  (x1 : Int32) (x2 : Int32) (x4 : Int32) (x5 : Int32) (y0 : Int32) (hf : fm_wayTo_b44 σ K79 K9 x1 x2 x4 x5 y0 = some r) : gg p l e rm_wayTo s m args below meth c (wM h ad cA) D vwCl A 6 (QI below args s (wM h ad cA) D vwCl A r σ) 44 [(0, .ref h), (1, .int x1), (2, .int x2), (4, .int x4), (5, .int x5)] [.int y0] σ := by
  unfold fm_wayTo_b44 at hf
  refine gr_istore_n (L2 := [(3, .int y0), (0, .ref h), (1, .int x1), (2, .int x2), (4, .int x4), (5, .int x5)]) X dX12_wayTo_44 rfl (by decide) rfl ?_
  refine gr_iload_n X dX12_wayTo_45 rfl 2 rfl ?_
  refine gr_iload X dX12_wayTo_46 5 rfl ?_
  refine gr_ishr X dX12_wayTo_48 ?_
  refine gr_iconst (v := 1) X dX12_wayTo_49 (by decide) ?_
  refine gr_iand X dX12_wayTo_50 ?_
  refine gr_iconst (v := 1) X dX12_wayTo_51 (by decide) ?_
  refine gr_icmp_ne X 69 dX12_wayTo_52 (by decide) (fun hc_ => ?_) (fun hc_ => ?_)
  · replace hf := ot_t hf hc_
    refine gr_iload X dX12_wayTo_69 4 rfl ?_
    refine gr_sub [1, 2, 3, 0, 5] rfl ?_
    exact wm_wayTo_b71 X hK hA hK79 hK9 _ _ _ _ _ hf
  · replace hf := ot_f hf hc_
    refine gr_iload X dX12_wayTo_55 4 rfl ?_
    refine gr_aload_n X dX12_wayTo_57 rfl 1 rfl ?_
    refine gr_iload X dX12_wayTo_58 5 rfl ?_
    obtain ⟨q1, hq_, hf⟩ := ot_b hf
    refine gc_Vi (rest := [.int x4]) X kM_ok hK hA cw12_place (rvM hK) (xm_place hq_) rfl ⟨rfl, rfl, Nat.le_of_ble_eq_true rfl, Nat.le_of_ble_eq_true rfl⟩ rfl (Nat.le_of_ble_eq_true rfl) dX12_wayTo_60 ?_
    obtain ⟨q2, hq_, hf⟩ := ot_b hf
    refine gc_Si (rest := []) X kM_ok hK hA cw12_greatest (xm_greatest hq_) rfl ⟨rfl, rfl, Nat.le_of_ble_eq_true rfl, Nat.le_of_ble_eq_true rfl⟩ rfl (Nat.le_of_ble_eq_true rfl) dX12_wayTo_63 ?_
    refine gr_goto X 71 dX12_wayTo_66 (by decide) ?_
    refine gr_sub [1, 2, 3, 0, 5] rfl ?_
    exact wm_wayTo_b71 X hK hA hK79 hK9 _ _ _ _ _ hf
set_option maxHeartbeats 4000000 in
set_option maxRecDepth 100000 in
theorem wm_wayTo_l9 {p : Program} {l : Launch} {e : Env} {s : State} {m : MethodId} {args : Array Value} {below : List Frame} {meth : Method} {c : Code} {A : Nat → Prop} {D : va_G} {cA : ClassId} {h : Nat} {ad : Nat → Nat} {r : Int32} {σ : SM} {K79 : Int32 → Int32 → Int32 → Int32 → Option Int32} (X : hc p s m args meth c RX12 cX12_wayTo 6 (some .int)) (hK : kM D cA A s) (hA : ∀ q, s.heap.size ≤ q → A q) (hK79 : (∀ (x1 : Int32) (x2 : Int32) (x3 : Int32) (x4 : Int32), K79 x1 x2 x3 x4 = some r → gg p l e rm_wayTo s m args below meth c (wM h ad cA) D vwCl A 6 (QI below args s (wM h ad cA) D vwCl A r σ) 79 [(1, .int x1), (2, .int x2), (3, .int x3), (4, .int x4)] [] σ)) : ∀ (n : Nat) (x1 : Int32) (x2 : Int32) (x3 : Int32) (x4 : Int32) (x5 : Int32), fm_wayTo_l9 σ K79 n x1 x2 x3 x4 x5 = some r → gg p l e rm_wayTo s m args below meth c (wM h ad cA) D vwCl A 6 (QI below args s (wM h ad cA) D vwCl A r σ) 9 [(0, .ref h), (1, .int x1), (2, .int x2), (3, .int x3), (4, .int x4), (5, .int x5)] [] σ := by
  intro n
  induction n with
  | zero =>
    intro x1 x2 x3 x4 x5 hf
    cases (show (none : Option Int32) = some r from hf)
  | succ n ih =>
    intro x1 x2 x3 x4 x5 hf
    unfold fm_wayTo_l9 at hf
    refine gr_iload X dX12_wayTo_9 5 rfl ?_
    refine gr_aload_n X dX12_wayTo_11 rfl 0 rfl ?_
    refine gM_get_0 X hK dX12_wayTo_12 ?_
    refine gr_iconst (v := 0) X dX12_wayTo_15 (by decide) ?_
    refine gM_ald_0 X hK 0 (by decide) (by decide) dX12_wayTo_16 ?_
    refine gr_icmp_ge X 79 dX12_wayTo_17 (by decide) (fun hc_ => ?_) (fun hc_ => ?_)
    · replace hf := ot_t hf hc_
      refine gr_sub [1, 2, 3, 4] rfl ?_
      exact hK79 _ _ _ _ hf
    · replace hf := ot_f hf hc_
      refine gr_iload_n X dX12_wayTo_20 rfl 1 rfl ?_
      refine gr_iload X dX12_wayTo_21 5 rfl ?_
      refine gr_ishr X dX12_wayTo_23 ?_
      refine gr_iconst (v := 1) X dX12_wayTo_24 (by decide) ?_
      refine gr_iand X dX12_wayTo_25 ?_
      refine gr_iconst (v := 1) X dX12_wayTo_26 (by decide) ?_
      refine gr_icmp_ne X 43 dX12_wayTo_27 (by decide) (fun hc_ => ?_) (fun hc_ => ?_)
      · replace hf := ot_t hf hc_
        refine gr_iload_n X dX12_wayTo_43 rfl 3 rfl ?_
        refine gr_sub [0, 1, 2, 4, 5] rfl ?_
        exact wm_wayTo_b44 X hK hA hK79 ih _ _ _ _ _ hf
      · replace hf := ot_f hf hc_
        refine gr_iload_n X dX12_wayTo_30 rfl 3 rfl ?_
        refine gr_aload_n X dX12_wayTo_31 rfl 0 rfl ?_
        refine gr_iload X dX12_wayTo_32 5 rfl ?_
        obtain ⟨q3, hq_, hf⟩ := ot_b hf
        refine gc_Vi (rest := [.int x3]) X kM_ok hK hA cw12_place (rvM hK) (xm_place hq_) rfl ⟨rfl, rfl, Nat.le_of_ble_eq_true rfl, Nat.le_of_ble_eq_true rfl⟩ rfl (Nat.le_of_ble_eq_true rfl) dX12_wayTo_34 ?_
        obtain ⟨q4, hq_, hf⟩ := ot_b hf
        refine gc_Si (rest := []) X kM_ok hK hA cw12_least (xm_least hq_) rfl ⟨rfl, rfl, Nat.le_of_ble_eq_true rfl, Nat.le_of_ble_eq_true rfl⟩ rfl (Nat.le_of_ble_eq_true rfl) dX12_wayTo_37 ?_
        refine gr_goto X 44 dX12_wayTo_40 (by decide) ?_
        refine gr_sub [0, 1, 2, 4, 5] rfl ?_
        exact wm_wayTo_b44 X hK hA hK79 ih _ _ _ _ _ hf
set_option maxHeartbeats 4000000 in
set_option maxRecDepth 100000 in
theorem xm_wayTo {l : Launch} {D : va_G} {cA : ClassId} {h : Nat} {ad : Nat → Nat} {σ : SM} {x1 : Int32} {x2 : Int32} {r : Int32} (hf : fm_wayTo σ x1 x2 = some r) : ctI l (wM h ad cA) D vwCl (kM D cA) yX12_wayTo cX12_wayTo 6 .int rm_wayTo [.ref h, .int x1, .int x2] σ r σ := by
  refine ct_I RX12 (by decide +kernel) rfl (Nat.le_of_ble_eq_true rfl) ?_
  intro p e s m args below meth c A X hK hA
  refine gr_eqL (L2 := [(0, .ref h), (1, .int x1), (2, .int x2)]) rfl ?_
  unfold fm_wayTo at hf
  refine gr_bipush (v := 99) X dX12_wayTo_0 (by decide) ?_
  refine gr_istore_n (L2 := [(3, .int (99 : Int32)), (0, .ref h), (1, .int x1), (2, .int x2)]) X dX12_wayTo_2 rfl (by decide) rfl ?_
  refine gr_iconst (v := -1) X dX12_wayTo_3 (by decide) ?_
  refine gr_istore (L2 := [(4, .int (-1 : Int32)), (3, .int (99 : Int32)), (0, .ref h), (1, .int x1), (2, .int x2)]) X dX12_wayTo_4 (by decide) rfl ?_
  refine gr_iconst (v := 0) X dX12_wayTo_6 (by decide) ?_
  refine gr_istore (L2 := [(5, .int (0 : Int32)), (4, .int (-1 : Int32)), (3, .int (99 : Int32)), (0, .ref h), (1, .int x1), (2, .int x2)]) X dX12_wayTo_7 (by decide) rfl ?_
  refine gr_sub [3, 4, 5, 2, 1, 0] rfl ?_
  refine wm_wayTo_l9 X hK hA (fun x1 x2 x3 x4 hf => ?_) hFU _ _ _ _ _ hf
  refine gr_iload_n X dX12_wayTo_79 rfl 0 rfl ?_
  refine gr_if_ne X 87 dX12_wayTo_80 (by decide) (fun hc_ => ?_) (fun hc_ => ?_)
  · replace hf := ot_t hf hc_
    refine gr_iload X dX12_wayTo_87 3 rfl ?_
    refine gr_iload_n X dX12_wayTo_89 rfl 2 rfl ?_
    refine gr_isub X dX12_wayTo_90 ?_
    refine gr_iload_n X dX12_wayTo_91 rfl 1 rfl ?_
    refine gr_iload_n X dX12_wayTo_92 rfl 2 rfl ?_
    obtain ⟨q5, hq_, hf⟩ := ot_b hf
    refine gc_Si (rest := [.int (x4 - x3)]) X kM_ok hK hA cw12_apart (xm_apart hq_) rfl ⟨rfl, rfl, Nat.le_of_ble_eq_true rfl, Nat.le_of_ble_eq_true rfl⟩ rfl (Nat.le_of_ble_eq_true rfl) dX12_wayTo_93 ?_
    refine gr_iload_n X dX12_wayTo_96 rfl 1 rfl ?_
    refine gr_iload X dX12_wayTo_97 3 rfl ?_
    obtain ⟨q6, hq_, hf⟩ := ot_b hf
    refine gc_Si (rest := [.int q5, .int (x4 - x3)]) X kM_ok hK hA cw12_apart (xm_apart hq_) rfl ⟨rfl, rfl, Nat.le_of_ble_eq_true rfl, Nat.le_of_ble_eq_true rfl⟩ rfl (Nat.le_of_ble_eq_true rfl) dX12_wayTo_99 ?_
    obtain ⟨q7, hq_, hf⟩ := ot_b hf
    refine gc_Si (rest := [.int (x4 - x3)]) X kM_ok hK hA cw12_least (xm_least hq_) rfl ⟨rfl, rfl, Nat.le_of_ble_eq_true rfl, Nat.le_of_ble_eq_true rfl⟩ rfl (Nat.le_of_ble_eq_true rfl) dX12_wayTo_102 ?_
    refine gr_iadd X dX12_wayTo_105 ?_
    exact gr_iret X dX12_wayTo_106 (Option.some.inj hf) rfl
  · replace hf := ot_f hf hc_
    refine gr_iconst (v := 0) X dX12_wayTo_83 (by decide) ?_
    refine gr_goto X 106 dX12_wayTo_84 (by decide) ?_
    exact gr_iret X dX12_wayTo_106 (Option.some.inj hf) rfl
