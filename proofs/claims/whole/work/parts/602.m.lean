abbrev rm_ends : Room := { frames := 1, cells := 0, slots := 0, locals := 25 }
def fm_ends (x1 : Int32) (σ : SM) : Option (Int32 × SM) := (Option.bind (fm_isIn (Int32.toInt64 x1) (1 : Int64) (16 : Int64)) fun q1 => (if ¬ q1 = 0 then (if (σ 0 1) ≤ x1 then (Option.bind (fm_becomes (2 : Int32) x1 σ) fun p_ => hl p_.1 fun q2 => hl p_.2 fun σ3 => (some (q2, σ3))) else (some ((-4 : Int32), σ))) else (some ((-1 : Int32), σ))))
set_option maxHeartbeats 4000000 in
set_option maxRecDepth 100000 in
theorem xm_ends {l : Launch} {D : va_G} {cA : ClassId} {h : Nat} {ad : Nat → Nat} {σ : SM} {x1 : Int32} {r : Int32} {τ : SM} (hf : fm_ends x1 σ = some (r, τ)) : ctI l (wM h ad cA) D vwCl (kM D cA) yX12_ends cX12_ends 2 .int rm_ends [.ref h, .int x1] σ r τ := by
  refine ct_I RX12 (by decide +kernel) rfl (Nat.le_of_ble_eq_true rfl) ?_
  intro p e s m args below meth c A X hK hA
  refine gr_eqL (L2 := [(0, .ref h), (1, .int x1)]) rfl ?_
  unfold fm_ends at hf
  refine gr_iload_n X dX12_ends_0 rfl 1 rfl ?_
  refine gr_i2l X dX12_ends_1 ?_
  refine gr_lconst (v := 1) X dX12_ends_2 (by decide) ?_
  refine gr_ldc2_w X ck12_134 dX12_ends_3 ?_
  obtain ⟨q1, hq_, hf⟩ := ot_b hf
  refine gc_Si (rest := []) X kM_ok hK hA cw12_isIn (xm_isIn hq_) rfl ⟨rfl, rfl, Nat.le_of_ble_eq_true rfl, Nat.le_of_ble_eq_true rfl⟩ rfl (Nat.le_of_ble_eq_true rfl) dX12_ends_6 ?_
  refine gr_if_ne X 14 dX12_ends_9 (by decide) (fun hc_ => ?_) (fun hc_ => ?_)
  · replace hf := ot_t hf hc_
    refine gr_iload_n X dX12_ends_14 rfl 1 rfl ?_
    refine gr_aload_n X dX12_ends_15 rfl 0 rfl ?_
    refine gM_get_0 X hK dX12_ends_16 ?_
    refine gr_iconst (v := 1) X dX12_ends_19 (by decide) ?_
    refine gM_ald_0 X hK 1 (by decide) (by decide) dX12_ends_20 ?_
    refine gr_icmp_ge X 29 dX12_ends_21 (by decide) (fun hc_ => ?_) (fun hc_ => ?_)
    · replace hf := ot_t hf hc_
      refine gr_aload_n X dX12_ends_29 rfl 0 rfl ?_
      refine gr_iconst (v := 2) X dX12_ends_30 (by decide) ?_
      refine gr_iload_n X dX12_ends_31 rfl 1 rfl ?_
      obtain ⟨⟨q2, σ3⟩, hq_, hf⟩ := ot_b hf
      replace hf := ot_l (y := q2) hf rfl
      replace hf := ot_l (y := σ3) hf rfl
      refine gc_Vi (rest := []) X kM_ok hK hA cw12_becomes (rvM hK) (xm_becomes hq_) rfl ⟨rfl, rfl, Nat.le_of_ble_eq_true rfl, Nat.le_of_ble_eq_true rfl⟩ rfl (Nat.le_of_ble_eq_true rfl) dX12_ends_32 ?_
      exact gr_iret X dX12_ends_35 (Prod.mk.inj (Option.some.inj hf)).1 (Prod.mk.inj (Option.some.inj hf)).2
    · replace hf := ot_f hf hc_
      refine gr_bipush (v := -4) X dX12_ends_24 (by decide) ?_
      refine gr_goto X 35 dX12_ends_26 (by decide) ?_
      exact gr_iret X dX12_ends_35 (Prod.mk.inj (Option.some.inj hf)).1 (Prod.mk.inj (Option.some.inj hf)).2
  · replace hf := ot_f hf hc_
    refine gr_iconst (v := -1) X dX12_ends_12 (by decide) ?_
    exact gr_iret X dX12_ends_13 (Prod.mk.inj (Option.some.inj hf)).1 (Prod.mk.inj (Option.some.inj hf)).2
abbrev rm_anew : Room := { frames := 1, cells := 0, slots := 0, locals := 23 }
def fm_anew_l2 (K48 : SM → Option (Int32 × SM)) : Nat → Int32 → SM → Option (Int32 × SM)
  | 0, _, _ => none
  | n + 1, x1, σ => (if (σ 0 0) ≤ x1 then (K48 σ) else (oc (hin (((10 : Int32) + ((6 : Int32) * x1)) + (4 : Int32)) 580) (hl (sf σ 0 (upd (σ 0) (Int32.toNatClampNeg (((10 : Int32) + ((6 : Int32) * x1)) + (4 : Int32))) (1 : Int32))) fun σ1 => (oc (hin (((10 : Int32) + ((6 : Int32) * x1)) + (5 : Int32)) 580) (hl (sf σ1 0 (upd (σ1 0) (Int32.toNatClampNeg (((10 : Int32) + ((6 : Int32) * x1)) + (5 : Int32))) (0 : Int32))) fun σ2 => ((fm_anew_l2 K48 n) (x1 + (1 : Int32)) σ2))))))
def fm_anew (σ : SM) : Option (Int32 × SM) := (fm_anew_l2 (fun σ => (hl (sf σ 0 (upd (σ 0) 3 (0 : Int32))) fun σ3 => (hl (sf σ3 0 (upd (σ3 0) 8 (5 : Int32))) fun σ4 => (hl (sf σ4 0 (upd (σ4 0) 9 (0 : Int32))) fun σ5 => (Option.bind (fm_becomes (1 : Int32) (0 : Int32) σ5) fun p_ => hl p_.1 fun q6 => hl p_.2 fun σ7 => (some (q6, σ7))))))) hFU (0 : Int32) σ)
set_option maxHeartbeats 4000000 in
set_option maxRecDepth 100000 in
theorem wm_anew_l2 {p : Program} {l : Launch} {e : Env} {s : State} {m : MethodId} {args : Array Value} {below : List Frame} {meth : Method} {c : Code} {A : Nat → Prop} {D : va_G} {cA : ClassId} {h : Nat} {ad : Nat → Nat} {r : Int32} {τ : SM} {K48 : SM → Option (Int32 × SM)} (X : hc p s m args meth c RX12 cX12_anew 2 (some .int)) (hK : kM D cA A s) (hA : ∀ q, s.heap.size ≤ q → A q) (hK48 : (∀ (σ : SM), K48 σ = some (r, τ) → gg p l e rm_anew s m args below meth c (wM h ad cA) D vwCl A 2 (QI below args s (wM h ad cA) D vwCl A r τ) 48 [(0, .ref h)] [] σ)) : ∀ (n : Nat) (x1 : Int32) (σ : SM), fm_anew_l2 K48 n x1 σ = some (r, τ) → gg p l e rm_anew s m args below meth c (wM h ad cA) D vwCl A 2 (QI below args s (wM h ad cA) D vwCl A r τ) 2 [(0, .ref h), (1, .int x1)] [] σ := by
  intro n
  induction n with
  | zero =>
    intro x1 σ hf
    cases (show (none : Option (Int32 × SM)) = some (r, τ) from hf)
  | succ n ih =>
    intro x1 σ hf
    unfold fm_anew_l2 at hf
    refine gr_iload_n X dX12_anew_2 rfl 1 rfl ?_
    refine gr_aload_n X dX12_anew_3 rfl 0 rfl ?_
    refine gM_get_0 X hK dX12_anew_4 ?_
    refine gr_iconst (v := 0) X dX12_anew_7 (by decide) ?_
    refine gM_ald_0 X hK 0 (by decide) (by decide) dX12_anew_8 ?_
    refine gr_icmp_ge X 48 dX12_anew_9 (by decide) (fun hc_ => ?_) (fun hc_ => ?_)
    · replace hf := ot_t hf hc_
      refine gr_sub [0] rfl ?_
      exact hK48 _ hf
    · replace hf := ot_f hf hc_
      refine gr_aload_n X dX12_anew_12 rfl 0 rfl ?_
      refine gM_get_0 X hK dX12_anew_13 ?_
      refine gr_bipush (v := 10) X dX12_anew_16 (by decide) ?_
      refine gr_bipush (v := 6) X dX12_anew_18 (by decide) ?_
      refine gr_iload_n X dX12_anew_20 rfl 1 rfl ?_
      refine gr_imul X dX12_anew_21 ?_
      refine gr_iadd X dX12_anew_22 ?_
      refine gr_iconst (v := 4) X dX12_anew_23 (by decide) ?_
      refine gr_iadd X dX12_anew_24 ?_
      refine gr_iconst (v := 1) X dX12_anew_25 (by decide) ?_
      have hi_ := oc_1 hf
      replace hf := oc_2 hf
      refine gM_ast_0 X hK (Int32.toNatClampNeg (((10 : Int32) + ((6 : Int32) * x1)) + (4 : Int32))) hi_ rfl dX12_anew_26 ?_
      refine gM_gen (fun σ1 e_σ1 => ?_)
      replace hf := ot_l hf e_σ1
      refine gr_aload_n X dX12_anew_27 rfl 0 rfl ?_
      refine gM_get_0 X hK dX12_anew_28 ?_
      refine gr_bipush (v := 10) X dX12_anew_31 (by decide) ?_
      refine gr_bipush (v := 6) X dX12_anew_33 (by decide) ?_
      refine gr_iload_n X dX12_anew_35 rfl 1 rfl ?_
      refine gr_imul X dX12_anew_36 ?_
      refine gr_iadd X dX12_anew_37 ?_
      refine gr_iconst (v := 5) X dX12_anew_38 (by decide) ?_
      refine gr_iadd X dX12_anew_39 ?_
      refine gr_iconst (v := 0) X dX12_anew_40 (by decide) ?_
      have hi_ := oc_1 hf
      replace hf := oc_2 hf
      refine gM_ast_0 X hK (Int32.toNatClampNeg (((10 : Int32) + ((6 : Int32) * x1)) + (5 : Int32))) hi_ rfl dX12_anew_41 ?_
      refine gM_gen (fun σ2 e_σ2 => ?_)
      replace hf := ot_l hf e_σ2
      refine gr_iinc (k := 1) (v := 1) (L2 := [(1, .int (x1 + (1 : Int32))), (0, .ref h)]) X dX12_anew_42 rfl (by decide) (by decide) rfl ?_
      refine gr_goto X 2 dX12_anew_45 (by decide) ?_
      refine gr_sub [1, 0] rfl ?_
      exact ih _ _ hf
set_option maxHeartbeats 4000000 in
set_option maxRecDepth 100000 in
theorem xm_anew {l : Launch} {D : va_G} {cA : ClassId} {h : Nat} {ad : Nat → Nat} {σ : SM} {r : Int32} {τ : SM} (hf : fm_anew σ = some (r, τ)) : ctI l (wM h ad cA) D vwCl (kM D cA) yX12_anew cX12_anew 2 .int rm_anew [.ref h] σ r τ := by
  refine ct_I RX12 (by decide +kernel) rfl (Nat.le_of_ble_eq_true rfl) ?_
  intro p e s m args below meth c A X hK hA
  refine gr_eqL (L2 := [(0, .ref h)]) rfl ?_
  unfold fm_anew at hf
  refine gr_iconst (v := 0) X dX12_anew_0 (by decide) ?_
  refine gr_istore_n (L2 := [(1, .int (0 : Int32)), (0, .ref h)]) X dX12_anew_1 rfl (by decide) rfl ?_
  refine gr_sub [1, 0] rfl ?_
  refine wm_anew_l2 X hK hA (fun σ hf => ?_) hFU _ _ hf
  refine gr_aload_n X dX12_anew_48 rfl 0 rfl ?_
  refine gM_get_0 X hK dX12_anew_49 ?_
  refine gr_iconst (v := 3) X dX12_anew_52 (by decide) ?_
  refine gr_iconst (v := 0) X dX12_anew_53 (by decide) ?_
  refine gM_ast_0 X hK 3 (by decide) (by decide) dX12_anew_54 ?_
  refine gM_gen (fun σ3 e_σ3 => ?_)
  replace hf := ot_l hf e_σ3
  refine gr_aload_n X dX12_anew_55 rfl 0 rfl ?_
  refine gM_get_0 X hK dX12_anew_56 ?_
  refine gr_bipush (v := 8) X dX12_anew_59 (by decide) ?_
  refine gr_iconst (v := 5) X dX12_anew_61 (by decide) ?_
  refine gM_ast_0 X hK 8 (by decide) (by decide) dX12_anew_62 ?_
  refine gM_gen (fun σ4 e_σ4 => ?_)
  replace hf := ot_l hf e_σ4
  refine gr_aload_n X dX12_anew_63 rfl 0 rfl ?_
  refine gM_get_0 X hK dX12_anew_64 ?_
  refine gr_bipush (v := 9) X dX12_anew_67 (by decide) ?_
  refine gr_iconst (v := 0) X dX12_anew_69 (by decide) ?_
  refine gM_ast_0 X hK 9 (by decide) (by decide) dX12_anew_70 ?_
  refine gM_gen (fun σ5 e_σ5 => ?_)
  replace hf := ot_l hf e_σ5
  refine gr_aload_n X dX12_anew_71 rfl 0 rfl ?_
  refine gr_iconst (v := 1) X dX12_anew_72 (by decide) ?_
  refine gr_iconst (v := 0) X dX12_anew_73 (by decide) ?_
  obtain ⟨⟨q6, σ7⟩, hq_, hf⟩ := ot_b hf
  replace hf := ot_l (y := q6) hf rfl
  replace hf := ot_l (y := σ7) hf rfl
  refine gc_Vi (rest := []) X kM_ok hK hA cw12_becomes (rvM hK) (xm_becomes hq_) rfl ⟨rfl, rfl, Nat.le_of_ble_eq_true rfl, Nat.le_of_ble_eq_true rfl⟩ rfl (Nat.le_of_ble_eq_true rfl) dX12_anew_74 ?_
  exact gr_iret X dX12_anew_77 (Prod.mk.inj (Option.some.inj hf)).1 (Prod.mk.inj (Option.some.inj hf)).2
abbrev rm_those : Room := { frames := 1, cells := 0, slots := 0, locals := 22 }
def fm_those_l4 (σ : SM) : Nat → Int32 → Int32 → Int32 → Option Int32
  | 0, _, _, _ => none
  | n + 1, x1, x2, x3 => (if (σ 0 0) ≤ x3 then (some x2) else (Option.bind (fm_its σ x3 x1) fun q1 => (hl (x2 ||| (q1 <<< (x3 &&& 31))) fun v2 => ((fm_those_l4 σ n) x1 v2 (x3 + (1 : Int32))))))
def fm_those (σ : SM) (x1 : Int32) : Option Int32 := (fm_those_l4 σ hFU x1 (0 : Int32) (0 : Int32))
set_option maxHeartbeats 4000000 in
set_option maxRecDepth 100000 in
theorem wm_those_l4 {p : Program} {l : Launch} {e : Env} {s : State} {m : MethodId} {args : Array Value} {below : List Frame} {meth : Method} {c : Code} {A : Nat → Prop} {D : va_G} {cA : ClassId} {h : Nat} {ad : Nat → Nat} {r : Int32} {σ : SM} (X : hc p s m args meth c RX12 cX12_those 4 (some .int)) (hK : kM D cA A s) (hA : ∀ q, s.heap.size ≤ q → A q)  : ∀ (n : Nat) (x1 : Int32) (x2 : Int32) (x3 : Int32), fm_those_l4 σ n x1 x2 x3 = some r → gg p l e rm_those s m args below meth c (wM h ad cA) D vwCl A 4 (QI below args s (wM h ad cA) D vwCl A r σ) 4 [(0, .ref h), (1, .int x1), (2, .int x2), (3, .int x3)] [] σ := by
  intro n
  induction n with
  | zero =>
    intro x1 x2 x3 hf
    cases (show (none : Option Int32) = some r from hf)
  | succ n ih =>
    intro x1 x2 x3 hf
    unfold fm_those_l4 at hf
    refine gr_iload_n X dX12_those_4 rfl 3 rfl ?_
    refine gr_aload_n X dX12_those_5 rfl 0 rfl ?_
    refine gM_get_0 X hK dX12_those_6 ?_
    refine gr_iconst (v := 0) X dX12_those_9 (by decide) ?_
    refine gM_ald_0 X hK 0 (by decide) (by decide) dX12_those_10 ?_
    refine gr_icmp_ge X 31 dX12_those_11 (by decide) (fun hc_ => ?_) (fun hc_ => ?_)
    · replace hf := ot_t hf hc_
      refine gr_iload_n X dX12_those_31 rfl 2 rfl ?_
      exact gr_iret X dX12_those_32 (Option.some.inj hf) rfl
    · replace hf := ot_f hf hc_
      refine gr_iload_n X dX12_those_14 rfl 2 rfl ?_
      refine gr_aload_n X dX12_those_15 rfl 0 rfl ?_
      refine gr_iload_n X dX12_those_16 rfl 3 rfl ?_
      refine gr_iload_n X dX12_those_17 rfl 1 rfl ?_
      obtain ⟨q1, hq_, hf⟩ := ot_b hf
      refine gc_Vi (rest := [.int x2]) X kM_ok hK hA cw12_its (rvM hK) (xm_its hq_) rfl ⟨rfl, rfl, Nat.le_of_ble_eq_true rfl, Nat.le_of_ble_eq_true rfl⟩ rfl (Nat.le_of_ble_eq_true rfl) dX12_those_18 ?_
      refine gr_iload_n X dX12_those_21 rfl 3 rfl ?_
      refine gr_ishl X dX12_those_22 ?_
      refine gr_ior X dX12_those_23 ?_
      refine gM_top (fun v2 e_v2 => ?_)
      replace hf := ot_l hf e_v2
      refine gr_istore_n (L2 := [(2, .int v2), (0, .ref h), (1, .int x1), (3, .int x3)]) X dX12_those_24 rfl (by decide) rfl ?_
      refine gr_iinc (k := 3) (v := 1) (L2 := [(3, .int (x3 + (1 : Int32))), (2, .int v2), (0, .ref h), (1, .int x1)]) X dX12_those_25 rfl (by decide) (by decide) rfl ?_
      refine gr_goto X 4 dX12_those_28 (by decide) ?_
      refine gr_sub [2, 3, 1, 0] rfl ?_
      exact ih _ _ _ hf
set_option maxHeartbeats 4000000 in
set_option maxRecDepth 100000 in
theorem xm_those {l : Launch} {D : va_G} {cA : ClassId} {h : Nat} {ad : Nat → Nat} {σ : SM} {x1 : Int32} {r : Int32} (hf : fm_those σ x1 = some r) : ctI l (wM h ad cA) D vwCl (kM D cA) yX12_those cX12_those 4 .int rm_those [.ref h, .int x1] σ r σ := by
  refine ct_I RX12 (by decide +kernel) rfl (Nat.le_of_ble_eq_true rfl) ?_
  intro p e s m args below meth c A X hK hA
  refine gr_eqL (L2 := [(0, .ref h), (1, .int x1)]) rfl ?_
  unfold fm_those at hf
  refine gr_iconst (v := 0) X dX12_those_0 (by decide) ?_
  refine gr_istore_n (L2 := [(2, .int (0 : Int32)), (0, .ref h), (1, .int x1)]) X dX12_those_1 rfl (by decide) rfl ?_
  refine gr_iconst (v := 0) X dX12_those_2 (by decide) ?_
  refine gr_istore_n (L2 := [(3, .int (0 : Int32)), (2, .int (0 : Int32)), (0, .ref h), (1, .int x1)]) X dX12_those_3 rfl (by decide) rfl ?_
  refine gr_sub [2, 3, 1, 0] rfl ?_
  refine wm_those_l4 X hK hA  hFU _ _ _ hf
abbrev rm_doneOnes : Room := { frames := 2, cells := 0, slots := 0, locals := 45 }
def fm_doneOnes (σ : SM) : Option Int32 := (Option.bind (fm_those σ (5 : Int32)) fun q1 => (some q1))
set_option maxHeartbeats 4000000 in
set_option maxRecDepth 100000 in
theorem xm_doneOnes {l : Launch} {D : va_G} {cA : ClassId} {h : Nat} {ad : Nat → Nat} {σ : SM} {r : Int32} (hf : fm_doneOnes σ = some r) : ctI l (wM h ad cA) D vwCl (kM D cA) yX12_doneOnes cX12_doneOnes 1 .int rm_doneOnes [.ref h] σ r σ := by
  refine ct_I RX12 (by decide +kernel) rfl (Nat.le_of_ble_eq_true rfl) ?_
  intro p e s m args below meth c A X hK hA
  refine gr_eqL (L2 := [(0, .ref h)]) rfl ?_
  unfold fm_doneOnes at hf
  refine gr_aload_n X dX12_doneOnes_0 rfl 0 rfl ?_
  refine gr_iconst (v := 5) X dX12_doneOnes_1 (by decide) ?_
  obtain ⟨q1, hq_, hf⟩ := ot_b hf
  refine gc_Vi (rest := []) X kM_ok hK hA cw12_those (rvM hK) (xm_those hq_) rfl ⟨rfl, rfl, Nat.le_of_ble_eq_true rfl, Nat.le_of_ble_eq_true rfl⟩ rfl (Nat.le_of_ble_eq_true rfl) dX12_doneOnes_2 ?_
  exact gr_iret X dX12_doneOnes_5 (Option.some.inj hf) rfl
abbrev rm_state : Room := { frames := 3, cells := 0, slots := 0, locals := 65 }
def fm_state (σ : SM) (x1 : Int32) : Option Int32 := (if x1 = 0 then (oc (hin ((1 : Int32) + x1) 580) (some (σ 0 (Int32.toNatClampNeg ((1 : Int32) + x1))))) else (if x1 = 1 then (oc (hin ((1 : Int32) + x1) 580) (some (σ 0 (Int32.toNatClampNeg ((1 : Int32) + x1))))) else (if x1 = 2 then (oc (hin ((1 : Int32) + x1) 580) (some (σ 0 (Int32.toNatClampNeg ((1 : Int32) + x1))))) else (if x1 = 3 then (Option.bind (fm_isOver σ) fun q1 => (if q1 = 0 then (some (0 : Int32)) else (some (1 : Int32)))) else (if x1 = 4 then (Option.bind (fm_those σ (4 : Int32)) fun q2 => (some q2)) else (if x1 = 5 then (Option.bind (fm_doneOnes σ) fun q3 => (some q3)) else (if x1 = 6 then (if (16 : Int32) ≤ (σ 0 1) then (some (0 : Int32)) else (oc (hin ((58 : Int32) + (σ 0 1)) 580) (some (σ 0 (Int32.toNatClampNeg ((58 : Int32) + (σ 0 1))))))) else (if x1 = 7 then (some (σ 0 8)) else (if x1 = 8 then (some (σ 0 9)) else (some (-1 : Int32)))))))))))
set_option maxHeartbeats 4000000 in
set_option maxRecDepth 100000 in
theorem xm_state {l : Launch} {D : va_G} {cA : ClassId} {h : Nat} {ad : Nat → Nat} {σ : SM} {x1 : Int32} {r : Int32} (hf : fm_state σ x1 = some r) : ctI l (wM h ad cA) D vwCl (kM D cA) yX12_state cX12_state 2 .int rm_state [.ref h, .int x1] σ r σ := by
  refine ct_I RX12 (by decide +kernel) rfl (Nat.le_of_ble_eq_true rfl) ?_
  intro p e s m args below meth c A X hK hA
  refine gr_eqL (L2 := [(0, .ref h), (1, .int x1)]) rfl ?_
  unfold fm_state at hf
  refine gr_iload_n X dX12_state_0 rfl 1 rfl ?_
  by_cases hs0 : x1 = 0
  · replace hf := ot_t hf hs0
    refine gr_tin X (0) 52 dX12_state_1 (by rw [hs0]; decide) (by decide) (by decide) rfl (by decide) ?_
    refine gr_aload_n X dX12_state_52 rfl 0 rfl ?_
    refine gM_get_0 X hK dX12_state_53 ?_
    refine gr_iconst (v := 1) X dX12_state_56 (by decide) ?_
    refine gr_iload_n X dX12_state_57 rfl 1 rfl ?_
    refine gr_iadd X dX12_state_58 ?_
    have hi_ := oc_1 hf
    replace hf := oc_2 hf
    refine gM_ald_0 X hK (Int32.toNatClampNeg ((1 : Int32) + x1)) hi_ rfl dX12_state_59 ?_
    exact gr_iret X dX12_state_60 (Option.some.inj hf) rfl
  replace hf := ot_f hf hs0
  by_cases hs1 : x1 = 1
  · replace hf := ot_t hf hs1
    refine gr_tin X (1) 52 dX12_state_1 (by rw [hs1]; decide) (by decide) (by decide) rfl (by decide) ?_
    refine gr_aload_n X dX12_state_52 rfl 0 rfl ?_
    refine gM_get_0 X hK dX12_state_53 ?_
    refine gr_iconst (v := 1) X dX12_state_56 (by decide) ?_
    refine gr_iload_n X dX12_state_57 rfl 1 rfl ?_
    refine gr_iadd X dX12_state_58 ?_
    have hi_ := oc_1 hf
    replace hf := oc_2 hf
    refine gM_ald_0 X hK (Int32.toNatClampNeg ((1 : Int32) + x1)) hi_ rfl dX12_state_59 ?_
    exact gr_iret X dX12_state_60 (Option.some.inj hf) rfl
  replace hf := ot_f hf hs1
  by_cases hs2 : x1 = 2
  · replace hf := ot_t hf hs2
    refine gr_tin X (2) 52 dX12_state_1 (by rw [hs2]; decide) (by decide) (by decide) rfl (by decide) ?_
    refine gr_aload_n X dX12_state_52 rfl 0 rfl ?_
    refine gM_get_0 X hK dX12_state_53 ?_
    refine gr_iconst (v := 1) X dX12_state_56 (by decide) ?_
    refine gr_iload_n X dX12_state_57 rfl 1 rfl ?_
    refine gr_iadd X dX12_state_58 ?_
    have hi_ := oc_1 hf
    replace hf := oc_2 hf
    refine gM_ald_0 X hK (Int32.toNatClampNeg ((1 : Int32) + x1)) hi_ rfl dX12_state_59 ?_
    exact gr_iret X dX12_state_60 (Option.some.inj hf) rfl
  replace hf := ot_f hf hs2
  by_cases hs3 : x1 = 3
  · replace hf := ot_t hf hs3
    refine gr_tin X (3) 61 dX12_state_1 (by rw [hs3]; decide) (by decide) (by decide) rfl (by decide) ?_
    refine gr_aload_n X dX12_state_61 rfl 0 rfl ?_
    obtain ⟨q1, hq_, hf⟩ := ot_b hf
    refine gc_Vi (rest := []) X kM_ok hK hA cw12_isOver (rvM hK) (xm_isOver hq_) rfl ⟨rfl, rfl, Nat.le_of_ble_eq_true rfl, Nat.le_of_ble_eq_true rfl⟩ rfl (Nat.le_of_ble_eq_true rfl) dX12_state_62 ?_
    refine gr_if_eq X 72 dX12_state_65 (by decide) (fun hc_ => ?_) (fun hc_ => ?_)
    · replace hf := ot_t hf hc_
      refine gr_iconst (v := 0) X dX12_state_72 (by decide) ?_
      exact gr_iret X dX12_state_73 (Option.some.inj hf) rfl
    · replace hf := ot_f hf hc_
      refine gr_iconst (v := 1) X dX12_state_68 (by decide) ?_
      refine gr_goto X 73 dX12_state_69 (by decide) ?_
      exact gr_iret X dX12_state_73 (Option.some.inj hf) rfl
  replace hf := ot_f hf hs3
  by_cases hs4 : x1 = 4
  · replace hf := ot_t hf hs4
    refine gr_tin X (4) 74 dX12_state_1 (by rw [hs4]; decide) (by decide) (by decide) rfl (by decide) ?_
    refine gr_aload_n X dX12_state_74 rfl 0 rfl ?_
    refine gr_iconst (v := 4) X dX12_state_75 (by decide) ?_
    obtain ⟨q2, hq_, hf⟩ := ot_b hf
    refine gc_Vi (rest := []) X kM_ok hK hA cw12_those (rvM hK) (xm_those hq_) rfl ⟨rfl, rfl, Nat.le_of_ble_eq_true rfl, Nat.le_of_ble_eq_true rfl⟩ rfl (Nat.le_of_ble_eq_true rfl) dX12_state_76 ?_
    exact gr_iret X dX12_state_79 (Option.some.inj hf) rfl
  replace hf := ot_f hf hs4
  by_cases hs5 : x1 = 5
  · replace hf := ot_t hf hs5
    refine gr_tin X (5) 80 dX12_state_1 (by rw [hs5]; decide) (by decide) (by decide) rfl (by decide) ?_
    refine gr_aload_n X dX12_state_80 rfl 0 rfl ?_
    obtain ⟨q3, hq_, hf⟩ := ot_b hf
    refine gc_Vi (rest := []) X kM_ok hK hA cw12_doneOnes (rvM hK) (xm_doneOnes hq_) rfl ⟨rfl, rfl, Nat.le_of_ble_eq_true rfl, Nat.le_of_ble_eq_true rfl⟩ rfl (Nat.le_of_ble_eq_true rfl) dX12_state_81 ?_
    exact gr_iret X dX12_state_84 (Option.some.inj hf) rfl
  replace hf := ot_f hf hs5
  by_cases hs6 : x1 = 6
  · replace hf := ot_t hf hs6
    refine gr_tin X (6) 85 dX12_state_1 (by rw [hs6]; decide) (by decide) (by decide) rfl (by decide) ?_
    refine gr_aload_n X dX12_state_85 rfl 0 rfl ?_
    refine gM_get_0 X hK dX12_state_86 ?_
    refine gr_iconst (v := 1) X dX12_state_89 (by decide) ?_
    refine gM_ald_0 X hK 1 (by decide) (by decide) dX12_state_90 ?_
    refine gr_bipush (v := 16) X dX12_state_91 (by decide) ?_
    refine gr_icmp_ge X 113 dX12_state_93 (by decide) (fun hc_ => ?_) (fun hc_ => ?_)
    · replace hf := ot_t hf hc_
      refine gr_iconst (v := 0) X dX12_state_113 (by decide) ?_
      exact gr_iret X dX12_state_114 (Option.some.inj hf) rfl
    · replace hf := ot_f hf hc_
      refine gr_aload_n X dX12_state_96 rfl 0 rfl ?_
      refine gM_get_0 X hK dX12_state_97 ?_
      refine gr_bipush (v := 58) X dX12_state_100 (by decide) ?_
      refine gr_aload_n X dX12_state_102 rfl 0 rfl ?_
      refine gM_get_0 X hK dX12_state_103 ?_
      refine gr_iconst (v := 1) X dX12_state_106 (by decide) ?_
      refine gM_ald_0 X hK 1 (by decide) (by decide) dX12_state_107 ?_
      refine gr_iadd X dX12_state_108 ?_
      have hi_ := oc_1 hf
      replace hf := oc_2 hf
      refine gM_ald_0 X hK (Int32.toNatClampNeg ((58 : Int32) + (σ 0 1))) hi_ rfl dX12_state_109 ?_
      refine gr_goto X 114 dX12_state_110 (by decide) ?_
      exact gr_iret X dX12_state_114 (Option.some.inj hf) rfl
  replace hf := ot_f hf hs6
  by_cases hs7 : x1 = 7
  · replace hf := ot_t hf hs7
    refine gr_tin X (7) 115 dX12_state_1 (by rw [hs7]; decide) (by decide) (by decide) rfl (by decide) ?_
    refine gr_aload_n X dX12_state_115 rfl 0 rfl ?_
    refine gM_get_0 X hK dX12_state_116 ?_
    refine gr_bipush (v := 8) X dX12_state_119 (by decide) ?_
    refine gM_ald_0 X hK 8 (by decide) (by decide) dX12_state_121 ?_
    exact gr_iret X dX12_state_122 (Option.some.inj hf) rfl
  replace hf := ot_f hf hs7
  by_cases hs8 : x1 = 8
  · replace hf := ot_t hf hs8
    refine gr_tin X (8) 123 dX12_state_1 (by rw [hs8]; decide) (by decide) (by decide) rfl (by decide) ?_
    refine gr_aload_n X dX12_state_123 rfl 0 rfl ?_
    refine gM_get_0 X hK dX12_state_124 ?_
    refine gr_bipush (v := 9) X dX12_state_127 (by decide) ?_
    refine gM_ald_0 X hK 9 (by decide) (by decide) dX12_state_129 ?_
    exact gr_iret X dX12_state_130 (Option.some.inj hf) rfl
  replace hf := ot_f hf hs8
  refine gr_tout X 131 dX12_state_1 (by have := lv_neT hs0 (show (0 : Int32).toInt = 0 by decide); have := lv_neT hs1 (show (1 : Int32).toInt = 1 by decide); have := lv_neT hs2 (show (2 : Int32).toInt = 2 by decide); have := lv_neT hs3 (show (3 : Int32).toInt = 3 by decide); have := lv_neT hs4 (show (4 : Int32).toInt = 4 by decide); have := lv_neT hs5 (show (5 : Int32).toInt = 5 by decide); have := lv_neT hs6 (show (6 : Int32).toInt = 6 by decide); have := lv_neT hs7 (show (7 : Int32).toInt = 7 by decide); have := lv_neT hs8 (show (8 : Int32).toInt = 8 by decide); omega) (by decide) ?_
  refine gr_iconst (v := -1) X dX12_state_131 (by decide) ?_
  exact gr_iret X dX12_state_132 (Option.some.inj hf) rfl
abbrev rm_feed : Room := { frames := 1, cells := 0, slots := 0, locals := 25 }
def fm_feed_l32 : Nat → Int64 → Int32 → Int32 → SM → Option (Int32 × SM)
  | 0, _, _, _, _ => none
  | n + 1, x1, x3, x4, σ => (if x3 ≤ x4 then (some ((σ 5 0), σ)) else (oc (hin (σ 5 0) 200) (hl (sf σ 4 (upd (σ 4) (Int32.toNatClampNeg (σ 5 0)) (Int64.toInt32 ((hlshr x1 ((8 : Int32) * x4)) &&& (255 : Int64))))) fun σ2 => (hl (sf σ2 5 (fun _ => ((σ2 5 0) + (1 : Int32)))) fun σ3 => ((fm_feed_l32 n) x1 x3 (x4 + (1 : Int32)) σ3)))))
def fm_feed (x1 : Int64) (x3 : Int32) (σ : SM) : Option (Int32 × SM) := (Option.bind (fm_isIn (Int32.toInt64 x3) (1 : Int64) (8 : Int64)) fun q1 => (if ¬ q1 = 0 then (if ((σ 5 0) + x3) ≤ (200 : Int32) then (fm_feed_l32 hFU x1 x3 (0 : Int32) σ) else (some ((-2 : Int32), σ))) else (some ((-1 : Int32), σ))))
set_option maxHeartbeats 4000000 in
set_option maxRecDepth 100000 in
theorem wm_feed_l32 {p : Program} {l : Launch} {e : Env} {s : State} {m : MethodId} {args : Array Value} {below : List Frame} {meth : Method} {c : Code} {A : Nat → Prop} {D : va_G} {cA : ClassId} {h : Nat} {ad : Nat → Nat} {r : Int32} {τ : SM} (X : hc p s m args meth c RX12 cX12_feed 5 (some .int)) (hK : kM D cA A s) (hA : ∀ q, s.heap.size ≤ q → A q)  : ∀ (n : Nat) (x1 : Int64) (x3 : Int32) (x4 : Int32) (σ : SM), fm_feed_l32 n x1 x3 x4 σ = some (r, τ) → gg p l e rm_feed s m args below meth c (wM h ad cA) D vwCl A 5 (QI below args s (wM h ad cA) D vwCl A r τ) 32 [(0, .ref h), (1, .long x1), (3, .int x3), (4, .int x4)] [] σ := by
  intro n
  induction n with
  | zero =>
    intro x1 x3 x4 σ hf
    cases (show (none : Option (Int32 × SM)) = some (r, τ) from hf)
  | succ n ih =>
    intro x1 x3 x4 σ hf
    unfold fm_feed_l32 at hf
    refine gr_iload X dX12_feed_32 3 rfl ?_
    refine gr_iload_n X dX12_feed_34 rfl 2 rfl ?_
    refine gr_icmp_ge X 75 dX12_feed_35 (by decide) (fun hc_ => ?_) (fun hc_ => ?_)
    · replace hf := ot_t hf hc_
      refine gr_aload_n X dX12_feed_75 rfl 0 rfl ?_
      refine gM_get_5 X hK dX12_feed_76 ?_
      exact gr_iret X dX12_feed_79 (Prod.mk.inj (Option.some.inj hf)).1 (Prod.mk.inj (Option.some.inj hf)).2
    · replace hf := ot_f hf hc_
      refine gr_aload_n X dX12_feed_38 rfl 0 rfl ?_
      refine gM_get_4 X hK dX12_feed_39 ?_
      refine gr_aload_n X dX12_feed_42 rfl 0 rfl ?_
      refine gM_get_5 X hK dX12_feed_43 ?_
      refine gr_lload_n X dX12_feed_46 rfl 1 rfl ?_
      refine gr_bipush (v := 8) X dX12_feed_47 (by decide) ?_
      refine gr_iload X dX12_feed_49 3 rfl ?_
      refine gr_imul X dX12_feed_51 ?_
      refine gr_lshr X dX12_feed_52 ?_
      refine gr_ldc2_w X ck12_153 dX12_feed_53 ?_
      refine gr_land X dX12_feed_56 ?_
      refine gr_l2i X dX12_feed_57 ?_
      have hi_ := oc_1 hf
      replace hf := oc_2 hf
      refine gM_ast_4 X hK (Int32.toNatClampNeg (σ 5 0)) hi_ rfl dX12_feed_58 ?_
      refine gM_gen (fun σ2 e_σ2 => ?_)
      replace hf := ot_l hf e_σ2
      refine gr_aload_n X dX12_feed_59 rfl 0 rfl ?_
      refine gr_dup X dX12_feed_60 rfl ?_
      refine gM_get_5 X hK dX12_feed_61 ?_
      refine gr_iconst (v := 1) X dX12_feed_64 (by decide) ?_
      refine gr_iadd X dX12_feed_65 ?_
      refine gM_put_5 X hK dX12_feed_66 ?_
      refine gM_gen (fun σ3 e_σ3 => ?_)
      replace hf := ot_l hf e_σ3
      refine gr_iinc (k := 3) (v := 1) (L2 := [(4, .int (x4 + (1 : Int32))), (0, .ref h), (1, .long x1), (3, .int x3)]) X dX12_feed_69 rfl (by decide) (by decide) rfl ?_
      refine gr_goto X 32 dX12_feed_72 (by decide) ?_
      refine gr_sub [1, 2, 3, 0] rfl ?_
      exact ih _ _ _ _ hf
set_option maxHeartbeats 4000000 in
set_option maxRecDepth 100000 in
theorem xm_feed {l : Launch} {D : va_G} {cA : ClassId} {h : Nat} {ad : Nat → Nat} {σ : SM} {x1 : Int64} {x3 : Int32} {r : Int32} {τ : SM} (hf : fm_feed x1 x3 σ = some (r, τ)) : ctI l (wM h ad cA) D vwCl (kM D cA) yX12_feed cX12_feed 5 .int rm_feed [.ref h, .long x1, .int x3] σ r τ := by
  refine ct_I RX12 (by decide +kernel) rfl (Nat.le_of_ble_eq_true rfl) ?_
  intro p e s m args below meth c A X hK hA
  refine gr_eqL (L2 := [(0, .ref h), (1, .long x1), (3, .int x3)]) rfl ?_
  unfold fm_feed at hf
  refine gr_iload_n X dX12_feed_0 rfl 2 rfl ?_
  refine gr_i2l X dX12_feed_1 ?_
  refine gr_lconst (v := 1) X dX12_feed_2 (by decide) ?_
  refine gr_ldc2_w X ck12_147 dX12_feed_3 ?_
  obtain ⟨q1, hq_, hf⟩ := ot_b hf
  refine gc_Si (rest := []) X kM_ok hK hA cw12_isIn (xm_isIn hq_) rfl ⟨rfl, rfl, Nat.le_of_ble_eq_true rfl, Nat.le_of_ble_eq_true rfl⟩ rfl (Nat.le_of_ble_eq_true rfl) dX12_feed_6 ?_
  refine gr_if_ne X 14 dX12_feed_9 (by decide) (fun hc_ => ?_) (fun hc_ => ?_)
  · replace hf := ot_t hf hc_
    refine gr_aload_n X dX12_feed_14 rfl 0 rfl ?_
    refine gM_get_5 X hK dX12_feed_15 ?_
    refine gr_iload_n X dX12_feed_18 rfl 2 rfl ?_
    refine gr_iadd X dX12_feed_19 ?_
    refine gr_sipush (v := 200) X dX12_feed_20 (by decide) ?_
    refine gr_icmp_le X 29 dX12_feed_23 (by decide) (fun hc_ => ?_) (fun hc_ => ?_)
    · replace hf := ot_t hf hc_
      refine gr_iconst (v := 0) X dX12_feed_29 (by decide) ?_
      refine gr_istore (L2 := [(4, .int (0 : Int32)), (0, .ref h), (1, .long x1), (3, .int x3)]) X dX12_feed_30 (by decide) rfl ?_
      refine gr_sub [1, 2, 3, 0] rfl ?_
      refine wm_feed_l32 X hK hA  hFU _ _ _ _ hf
    · replace hf := ot_f hf hc_
      refine gr_bipush (v := -2) X dX12_feed_26 (by decide) ?_
      exact gr_iret X dX12_feed_28 (Prod.mk.inj (Option.some.inj hf)).1 (Prod.mk.inj (Option.some.inj hf)).2
  · replace hf := ot_f hf hc_
    refine gr_iconst (v := -1) X dX12_feed_12 (by decide) ?_
    exact gr_iret X dX12_feed_13 (Prod.mk.inj (Option.some.inj hf)).1 (Prod.mk.inj (Option.some.inj hf)).2
abbrev rm_isAlpha : Room := { frames := 0, cells := 0, slots := 0, locals := 0 }
def fm_isAlpha (x0 : Int32) : Option Int32 := (if x0 < (97 : Int32) then (some (0 : Int32)) else (if (122 : Int32) < x0 then (some (0 : Int32)) else (some (1 : Int32))))
set_option maxHeartbeats 4000000 in
set_option maxRecDepth 100000 in
theorem xm_isAlpha {l : Launch} {D : va_G} {cA : ClassId} {h : Nat} {ad : Nat → Nat} {σ : SM} {x0 : Int32} {r : Int32} (hf : fm_isAlpha x0 = some r) : ctI l (wM h ad cA) D vwCl (kM D cA) yX12_isAlpha cX12_isAlpha 1 .boolean rm_isAlpha [.int x0] σ r σ := by
  refine ct_I RX12 (by decide +kernel) rfl (Nat.le_of_ble_eq_true rfl) ?_
  intro p e s m args below meth c A X hK hA
  refine gr_eqL (L2 := [(0, .int x0)]) rfl ?_
  unfold fm_isAlpha at hf
  refine gr_iload_n X dX12_isAlpha_0 rfl 0 rfl ?_
  refine gr_bipush (v := 97) X dX12_isAlpha_1 (by decide) ?_
  refine gr_icmp_lt X 16 dX12_isAlpha_3 (by decide) (fun hc_ => ?_) (fun hc_ => ?_)
  · replace hf := ot_t hf hc_
    refine gr_iconst (v := 0) X dX12_isAlpha_16 (by decide) ?_
    exact gr_zret X dX12_isAlpha_17 (by decide) (Option.some.inj hf) rfl
  · replace hf := ot_f hf hc_
    refine gr_iload_n X dX12_isAlpha_6 rfl 0 rfl ?_
    refine gr_bipush (v := 122) X dX12_isAlpha_7 (by decide) ?_
    refine gr_icmp_gt X 16 dX12_isAlpha_9 (by decide) (fun hc_ => ?_) (fun hc_ => ?_)
    · replace hf := ot_t hf hc_
      refine gr_iconst (v := 0) X dX12_isAlpha_16 (by decide) ?_
      exact gr_zret X dX12_isAlpha_17 (by decide) (Option.some.inj hf) rfl
    · replace hf := ot_f hf hc_
      refine gr_iconst (v := 1) X dX12_isAlpha_12 (by decide) ?_
      refine gr_goto X 17 dX12_isAlpha_13 (by decide) ?_
      exact gr_zret X dX12_isAlpha_17 (by decide) (Option.some.inj hf) rfl
abbrev rm_isDigit : Room := { frames := 0, cells := 0, slots := 0, locals := 0 }
def fm_isDigit (x0 : Int32) : Option Int32 := (if x0 < (48 : Int32) then (some (0 : Int32)) else (if (57 : Int32) < x0 then (some (0 : Int32)) else (some (1 : Int32))))
set_option maxHeartbeats 4000000 in
set_option maxRecDepth 100000 in
theorem xm_isDigit {l : Launch} {D : va_G} {cA : ClassId} {h : Nat} {ad : Nat → Nat} {σ : SM} {x0 : Int32} {r : Int32} (hf : fm_isDigit x0 = some r) : ctI l (wM h ad cA) D vwCl (kM D cA) yX12_isDigit cX12_isDigit 1 .boolean rm_isDigit [.int x0] σ r σ := by
  refine ct_I RX12 (by decide +kernel) rfl (Nat.le_of_ble_eq_true rfl) ?_
  intro p e s m args below meth c A X hK hA
  refine gr_eqL (L2 := [(0, .int x0)]) rfl ?_
  unfold fm_isDigit at hf
  refine gr_iload_n X dX12_isDigit_0 rfl 0 rfl ?_
  refine gr_bipush (v := 48) X dX12_isDigit_1 (by decide) ?_
  refine gr_icmp_lt X 16 dX12_isDigit_3 (by decide) (fun hc_ => ?_) (fun hc_ => ?_)
  · replace hf := ot_t hf hc_
    refine gr_iconst (v := 0) X dX12_isDigit_16 (by decide) ?_
    exact gr_zret X dX12_isDigit_17 (by decide) (Option.some.inj hf) rfl
  · replace hf := ot_f hf hc_
    refine gr_iload_n X dX12_isDigit_6 rfl 0 rfl ?_
    refine gr_bipush (v := 57) X dX12_isDigit_7 (by decide) ?_
    refine gr_icmp_gt X 16 dX12_isDigit_9 (by decide) (fun hc_ => ?_) (fun hc_ => ?_)
    · replace hf := ot_t hf hc_
      refine gr_iconst (v := 0) X dX12_isDigit_16 (by decide) ?_
      exact gr_zret X dX12_isDigit_17 (by decide) (Option.some.inj hf) rfl
    · replace hf := ot_f hf hc_
      refine gr_iconst (v := 1) X dX12_isDigit_12 (by decide) ?_
      refine gr_goto X 17 dX12_isDigit_13 (by decide) ?_
      exact gr_zret X dX12_isDigit_17 (by decide) (Option.some.inj hf) rfl
abbrev rm_byteAt : Room := { frames := 0, cells := 0, slots := 0, locals := 0 }
def fm_byteAt (σ : SM) (x1 : Int32) : Option Int32 := (if (σ 5 0) ≤ x1 then (some (-1 : Int32)) else (oc (hin x1 200) (some (σ 4 (Int32.toNatClampNeg x1)))))
set_option maxHeartbeats 4000000 in
set_option maxRecDepth 100000 in
theorem xm_byteAt {l : Launch} {D : va_G} {cA : ClassId} {h : Nat} {ad : Nat → Nat} {σ : SM} {x1 : Int32} {r : Int32} (hf : fm_byteAt σ x1 = some r) : ctI l (wM h ad cA) D vwCl (kM D cA) yX12_byteAt cX12_byteAt 2 .int rm_byteAt [.ref h, .int x1] σ r σ := by
  refine ct_I RX12 (by decide +kernel) rfl (Nat.le_of_ble_eq_true rfl) ?_
  intro p e s m args below meth c A X hK hA
  refine gr_eqL (L2 := [(0, .ref h), (1, .int x1)]) rfl ?_
  unfold fm_byteAt at hf
  refine gr_iload_n X dX12_byteAt_0 rfl 1 rfl ?_
  refine gr_aload_n X dX12_byteAt_1 rfl 0 rfl ?_
  refine gM_get_5 X hK dX12_byteAt_2 ?_
  refine gr_icmp_ge X 17 dX12_byteAt_5 (by decide) (fun hc_ => ?_) (fun hc_ => ?_)
  · replace hf := ot_t hf hc_
    refine gr_iconst (v := -1) X dX12_byteAt_17 (by decide) ?_
    exact gr_iret X dX12_byteAt_18 (Option.some.inj hf) rfl
  · replace hf := ot_f hf hc_
    refine gr_aload_n X dX12_byteAt_8 rfl 0 rfl ?_
    refine gM_get_4 X hK dX12_byteAt_9 ?_
    refine gr_iload_n X dX12_byteAt_12 rfl 1 rfl ?_
    have hi_ := oc_1 hf
    replace hf := oc_2 hf
    refine gM_ald_4 X hK (Int32.toNatClampNeg x1) hi_ rfl dX12_byteAt_13 ?_
    refine gr_goto X 18 dX12_byteAt_14 (by decide) ?_
    exact gr_iret X dX12_byteAt_18 (Option.some.inj hf) rfl
abbrev rm_nextToken : Room := { frames := 1, cells := 0, slots := 0, locals := 21 }
def fm_nextToken_l8 (K34 : SM → Option SM) : Nat → SM → Option SM
  | 0, _ => none
  | n + 1, σ => (Option.bind (fm_byteAt σ (σ 7 0)) fun q2 => (if ¬ q2 = (32 : Int32) then (K34 σ) else (hl (sf σ 7 (fun _ => ((σ 7 0) + (1 : Int32)))) fun σ3 => ((fm_nextToken_l8 K34 n) σ3))))
def fm_nextToken_l91 (K126 : SM → Option SM) : Nat → SM → Option SM
  | 0, _ => none
  | n + 1, σ => (if ¬ (σ 6 0) = (1 : Int32) then (K126 σ) else (Option.bind (fm_byteAt σ (σ 8 0)) fun q10 => (Option.bind (fm_isAlpha q10) fun q11 => (if q11 = 0 then (K126 σ) else (hl (sf σ 8 (fun _ => ((σ 8 0) + (1 : Int32)))) fun σ12 => ((fm_nextToken_l91 K126 n) σ12))))))
def fm_nextToken_b185 (K201 : SM → Option SM) (K126 : SM → Option SM) (y0 : Int32) (σ : SM) : Option SM := (hl (sf σ 9 (fun _ => y0)) fun σ16 => (hl (sf σ16 8 (fun _ => ((σ16 8 0) + (1 : Int32)))) fun σ17 => (K126 σ17)))
def fm_nextToken_l126 (K201 : SM → Option SM) : Nat → SM → Option SM
  | 0, _ => none
  | n + 1, σ => (if ¬ (σ 6 0) = (2 : Int32) then (K201 σ) else (Option.bind (fm_byteAt σ (σ 8 0)) fun q13 => (Option.bind (fm_isDigit q13) fun q14 => (if q14 = 0 then (K201 σ) else (if (σ 9 0) ≤ (9999 : Int32) then (Option.bind (fm_byteAt σ (σ 8 0)) fun q15 => (fm_nextToken_b185 K201 (fm_nextToken_l126 K201 n) ((((10 : Int32) * (σ 9 0)) + q15) - (48 : Int32)) σ)) else (fm_nextToken_b185 K201 (fm_nextToken_l126 K201 n) (σ 9 0) σ))))))
def fm_nextToken_b201 (σ : SM) : Option SM := (if (σ 6 0) ≤ (2 : Int32) then (hl (sf σ 8 (fun _ => ((σ 8 0) + (0 : Int32)))) fun σ18 => (some σ18)) else (hl (sf σ 8 (fun _ => ((σ 8 0) + (1 : Int32)))) fun σ19 => (some σ19)))
def fm_nextToken_b83 (y0 : Int32) (σ : SM) : Option SM := (hl (sf σ 6 (fun _ => y0)) fun σ8 => (hl (sf σ8 9 (fun _ => (0 : Int32))) fun σ9 => (fm_nextToken_l91 (fun σ => (fm_nextToken_l126 (fun σ => (fm_nextToken_b201 σ)) hFU σ)) hFU σ9)))
def fm_nextToken (σ : SM) : Option SM := (hl (sf σ 7 (fun _ => (σ 8 0))) fun σ1 => (fm_nextToken_l8 (fun σ => (hl (sf σ 8 (fun _ => (σ 7 0))) fun σ4 => (Option.bind (fm_byteAt σ4 (σ4 7 0)) fun q5 => (if 0 ≤ q5 then (Option.bind (fm_isAlpha q5) fun q6 => (if q6 = 0 then (Option.bind (fm_isDigit q5) fun q7 => (if q7 = 0 then (fm_nextToken_b83 (3 : Int32) σ4) else (fm_nextToken_b83 (2 : Int32) σ4))) else (fm_nextToken_b83 (1 : Int32) σ4))) else (fm_nextToken_b83 (0 : Int32) σ4))))) hFU σ1))
set_option maxHeartbeats 4000000 in
set_option maxRecDepth 100000 in
theorem wm_nextToken_l8 {p : Program} {l : Launch} {e : Env} {s : State} {m : MethodId} {args : Array Value} {below : List Frame} {meth : Method} {c : Code} {A : Nat → Prop} {D : va_G} {cA : ClassId} {h : Nat} {ad : Nat → Nat} {τ : SM} {K34 : SM → Option SM} (X : hc p s m args meth c RX12 cX12_nextToken 2 none) (hK : kM D cA A s) (hA : ∀ q, s.heap.size ≤ q → A q) (hK34 : (∀ (σ : SM), K34 σ = some τ → gg p l e rm_nextToken s m args below meth c (wM h ad cA) D vwCl A 2 (QV below args s (wM h ad cA) D vwCl A τ) 34 [(0, .ref h)] [] σ)) : ∀ (n : Nat) (σ : SM), fm_nextToken_l8 K34 n σ = some τ → gg p l e rm_nextToken s m args below meth c (wM h ad cA) D vwCl A 2 (QV below args s (wM h ad cA) D vwCl A τ) 8 [(0, .ref h)] [] σ := by
  intro n
  induction n with
  | zero =>
    intro σ hf
    cases (show (none : Option SM) = some τ from hf)
  | succ n ih =>
    intro σ hf
    unfold fm_nextToken_l8 at hf
    refine gr_aload_n X dX12_nextToken_8 rfl 0 rfl ?_
    refine gr_aload_n X dX12_nextToken_9 rfl 0 rfl ?_
    refine gM_get_7 X hK dX12_nextToken_10 ?_
    obtain ⟨q2, hq_, hf⟩ := ot_b hf
    refine gc_Vi (rest := []) X kM_ok hK hA cw12_byteAt (rvM hK) (xm_byteAt hq_) rfl ⟨rfl, rfl, Nat.le_of_ble_eq_true rfl, Nat.le_of_ble_eq_true rfl⟩ rfl (Nat.le_of_ble_eq_true rfl) dX12_nextToken_13 ?_
    refine gr_bipush (v := 32) X dX12_nextToken_16 (by decide) ?_
    refine gr_icmp_ne X 34 dX12_nextToken_18 (by decide) (fun hc_ => ?_) (fun hc_ => ?_)
    · replace hf := ot_t hf hc_
      refine gr_sub [0] rfl ?_
      exact hK34 _ hf
    · replace hf := ot_f hf hc_
      refine gr_aload_n X dX12_nextToken_21 rfl 0 rfl ?_
      refine gr_dup X dX12_nextToken_22 rfl ?_
      refine gM_get_7 X hK dX12_nextToken_23 ?_
      refine gr_iconst (v := 1) X dX12_nextToken_26 (by decide) ?_
      refine gr_iadd X dX12_nextToken_27 ?_
      refine gM_put_7 X hK dX12_nextToken_28 ?_
      refine gM_gen (fun σ3 e_σ3 => ?_)
      replace hf := ot_l hf e_σ3
      refine gr_goto X 8 dX12_nextToken_31 (by decide) ?_
      refine gr_sub [0] rfl ?_
      exact ih _ hf
set_option maxHeartbeats 4000000 in
set_option maxRecDepth 100000 in
theorem wm_nextToken_l91 {p : Program} {l : Launch} {e : Env} {s : State} {m : MethodId} {args : Array Value} {below : List Frame} {meth : Method} {c : Code} {A : Nat → Prop} {D : va_G} {cA : ClassId} {h : Nat} {ad : Nat → Nat} {τ : SM} {K126 : SM → Option SM} (X : hc p s m args meth c RX12 cX12_nextToken 2 none) (hK : kM D cA A s) (hA : ∀ q, s.heap.size ≤ q → A q) (hK126 : (∀ (σ : SM), K126 σ = some τ → gg p l e rm_nextToken s m args below meth c (wM h ad cA) D vwCl A 2 (QV below args s (wM h ad cA) D vwCl A τ) 126 [(0, .ref h)] [] σ)) : ∀ (n : Nat) (σ : SM), fm_nextToken_l91 K126 n σ = some τ → gg p l e rm_nextToken s m args below meth c (wM h ad cA) D vwCl A 2 (QV below args s (wM h ad cA) D vwCl A τ) 91 [(0, .ref h)] [] σ := by
  intro n
  induction n with
  | zero =>
    intro σ hf
    cases (show (none : Option SM) = some τ from hf)
  | succ n ih =>
    intro σ hf
    unfold fm_nextToken_l91 at hf
    refine gr_aload_n X dX12_nextToken_91 rfl 0 rfl ?_
    refine gM_get_6 X hK dX12_nextToken_92 ?_
    refine gr_iconst (v := 1) X dX12_nextToken_95 (by decide) ?_
    refine gr_icmp_ne X 126 dX12_nextToken_96 (by decide) (fun hc_ => ?_) (fun hc_ => ?_)
    · replace hf := ot_t hf hc_
      refine gr_sub [0] rfl ?_
      exact hK126 _ hf
    · replace hf := ot_f hf hc_
      refine gr_aload_n X dX12_nextToken_99 rfl 0 rfl ?_
      refine gr_aload_n X dX12_nextToken_100 rfl 0 rfl ?_
      refine gM_get_8 X hK dX12_nextToken_101 ?_
      obtain ⟨q10, hq_, hf⟩ := ot_b hf
      refine gc_Vi (rest := []) X kM_ok hK hA cw12_byteAt (rvM hK) (xm_byteAt hq_) rfl ⟨rfl, rfl, Nat.le_of_ble_eq_true rfl, Nat.le_of_ble_eq_true rfl⟩ rfl (Nat.le_of_ble_eq_true rfl) dX12_nextToken_104 ?_
      obtain ⟨q11, hq_, hf⟩ := ot_b hf
      refine gc_Si (rest := []) X kM_ok hK hA cw12_isAlpha (xm_isAlpha hq_) rfl ⟨rfl, rfl, Nat.le_of_ble_eq_true rfl, Nat.le_of_ble_eq_true rfl⟩ rfl (Nat.le_of_ble_eq_true rfl) dX12_nextToken_107 ?_
      refine gr_if_eq X 126 dX12_nextToken_110 (by decide) (fun hc_ => ?_) (fun hc_ => ?_)
      · replace hf := ot_t hf hc_
        refine gr_sub [0] rfl ?_
        exact hK126 _ hf
      · replace hf := ot_f hf hc_
        refine gr_aload_n X dX12_nextToken_113 rfl 0 rfl ?_
        refine gr_dup X dX12_nextToken_114 rfl ?_
        refine gM_get_8 X hK dX12_nextToken_115 ?_
        refine gr_iconst (v := 1) X dX12_nextToken_118 (by decide) ?_
        refine gr_iadd X dX12_nextToken_119 ?_
        refine gM_put_8 X hK dX12_nextToken_120 ?_
        refine gM_gen (fun σ12 e_σ12 => ?_)
        replace hf := ot_l hf e_σ12
        refine gr_goto X 91 dX12_nextToken_123 (by decide) ?_
        refine gr_sub [0] rfl ?_
        exact ih _ hf
set_option maxHeartbeats 4000000 in
set_option maxRecDepth 100000 in
theorem wm_nextToken_b185 {p : Program} {l : Launch} {e : Env} {s : State} {m : MethodId} {args : Array Value} {below : List Frame} {meth : Method} {c : Code} {A : Nat → Prop} {D : va_G} {cA : ClassId} {h : Nat} {ad : Nat → Nat} {τ : SM} {K201 : SM → Option SM} {K126 : SM → Option SM} (X : hc p s m args meth c RX12 cX12_nextToken 2 none) (hK : kM D cA A s) (hA : ∀ q, s.heap.size ≤ q → A q) (hK201 : (∀ (σ : SM), K201 σ = some τ → gg p l e rm_nextToken s m args below meth c (wM h ad cA) D vwCl A 2 (QV below args s (wM h ad cA) D vwCl A τ) 201 [(0, .ref h)] [] σ)) (hK126 : (∀ (σ : SM), K126 σ = some τ → gg p l e rm_nextToken s m args below meth c (wM h ad cA) D vwCl A 2 (QV below args s (wM h ad cA) D vwCl A τ) 126 [(0, .ref h)] [] σ))  (y0 : Int32) (σ : SM) (hf : fm_nextToken_b185 K201 K126 y0 σ = some τ) : gg p l e rm_nextToken s m args below meth c (wM h ad cA) D vwCl A 2 (QV below args s (wM h ad cA) D vwCl A τ) 185 [(0, .ref h)] [.int y0, .ref h] σ := by
  unfold fm_nextToken_b185 at hf
  refine gM_put_9 X hK dX12_nextToken_185 ?_
  refine gM_gen (fun σ16 e_σ16 => ?_)
  replace hf := ot_l hf e_σ16
  refine gr_aload_n X dX12_nextToken_188 rfl 0 rfl ?_
  refine gr_dup X dX12_nextToken_189 rfl ?_
  refine gM_get_8 X hK dX12_nextToken_190 ?_
  refine gr_iconst (v := 1) X dX12_nextToken_193 (by decide) ?_
  refine gr_iadd X dX12_nextToken_194 ?_
  refine gM_put_8 X hK dX12_nextToken_195 ?_
  refine gM_gen (fun σ17 e_σ17 => ?_)
  replace hf := ot_l hf e_σ17
  refine gr_goto X 126 dX12_nextToken_198 (by decide) ?_
  refine gr_sub [0] rfl ?_
  exact hK126 _ hf
set_option maxHeartbeats 4000000 in
set_option maxRecDepth 100000 in
theorem wm_nextToken_l126 {p : Program} {l : Launch} {e : Env} {s : State} {m : MethodId} {args : Array Value} {below : List Frame} {meth : Method} {c : Code} {A : Nat → Prop} {D : va_G} {cA : ClassId} {h : Nat} {ad : Nat → Nat} {τ : SM} {K201 : SM → Option SM} (X : hc p s m args meth c RX12 cX12_nextToken 2 none) (hK : kM D cA A s) (hA : ∀ q, s.heap.size ≤ q → A q) (hK201 : (∀ (σ : SM), K201 σ = some τ → gg p l e rm_nextToken s m args below meth c (wM h ad cA) D vwCl A 2 (QV below args s (wM h ad cA) D vwCl A τ) 201 [(0, .ref h)] [] σ)) : ∀ (n : Nat) (σ : SM), fm_nextToken_l126 K201 n σ = some τ → gg p l e rm_nextToken s m args below meth c (wM h ad cA) D vwCl A 2 (QV below args s (wM h ad cA) D vwCl A τ) 126 [(0, .ref h)] [] σ := by
  intro n
  induction n with
  | zero =>
    intro σ hf
    cases (show (none : Option SM) = some τ from hf)
  | succ n ih =>
    intro σ hf
    unfold fm_nextToken_l126 at hf
    refine gr_aload_n X dX12_nextToken_126 rfl 0 rfl ?_
    refine gM_get_6 X hK dX12_nextToken_127 ?_
    refine gr_iconst (v := 2) X dX12_nextToken_130 (by decide) ?_
    refine gr_icmp_ne X 201 dX12_nextToken_131 (by decide) (fun hc_ => ?_) (fun hc_ => ?_)
    · replace hf := ot_t hf hc_
      refine gr_sub [0] rfl ?_
      exact hK201 _ hf
    · replace hf := ot_f hf hc_
      refine gr_aload_n X dX12_nextToken_134 rfl 0 rfl ?_
      refine gr_aload_n X dX12_nextToken_135 rfl 0 rfl ?_
      refine gM_get_8 X hK dX12_nextToken_136 ?_
      obtain ⟨q13, hq_, hf⟩ := ot_b hf
      refine gc_Vi (rest := []) X kM_ok hK hA cw12_byteAt (rvM hK) (xm_byteAt hq_) rfl ⟨rfl, rfl, Nat.le_of_ble_eq_true rfl, Nat.le_of_ble_eq_true rfl⟩ rfl (Nat.le_of_ble_eq_true rfl) dX12_nextToken_139 ?_
      obtain ⟨q14, hq_, hf⟩ := ot_b hf
      refine gc_Si (rest := []) X kM_ok hK hA cw12_isDigit (xm_isDigit hq_) rfl ⟨rfl, rfl, Nat.le_of_ble_eq_true rfl, Nat.le_of_ble_eq_true rfl⟩ rfl (Nat.le_of_ble_eq_true rfl) dX12_nextToken_142 ?_
      refine gr_if_eq X 201 dX12_nextToken_145 (by decide) (fun hc_ => ?_) (fun hc_ => ?_)
      · replace hf := ot_t hf hc_
        refine gr_sub [0] rfl ?_
        exact hK201 _ hf
      · replace hf := ot_f hf hc_
        refine gr_aload_n X dX12_nextToken_148 rfl 0 rfl ?_
        refine gr_aload_n X dX12_nextToken_149 rfl 0 rfl ?_
        refine gM_get_9 X hK dX12_nextToken_150 ?_
        refine gr_sipush (v := 9999) X dX12_nextToken_153 (by decide) ?_
        refine gr_icmp_le X 166 dX12_nextToken_156 (by decide) (fun hc_ => ?_) (fun hc_ => ?_)
        · replace hf := ot_t hf hc_
          refine gr_bipush (v := 10) X dX12_nextToken_166 (by decide) ?_
          refine gr_aload_n X dX12_nextToken_168 rfl 0 rfl ?_
          refine gM_get_9 X hK dX12_nextToken_169 ?_
          refine gr_imul X dX12_nextToken_172 ?_
          refine gr_aload_n X dX12_nextToken_173 rfl 0 rfl ?_
          refine gr_aload_n X dX12_nextToken_174 rfl 0 rfl ?_
          refine gM_get_8 X hK dX12_nextToken_175 ?_
          obtain ⟨q15, hq_, hf⟩ := ot_b hf
          refine gc_Vi (rest := [.int ((10 : Int32) * (σ 9 0)), .ref h]) X kM_ok hK hA cw12_byteAt (rvM hK) (xm_byteAt hq_) rfl ⟨rfl, rfl, Nat.le_of_ble_eq_true rfl, Nat.le_of_ble_eq_true rfl⟩ rfl (Nat.le_of_ble_eq_true rfl) dX12_nextToken_178 ?_
          refine gr_iadd X dX12_nextToken_181 ?_
          refine gr_bipush (v := 48) X dX12_nextToken_182 (by decide) ?_
          refine gr_isub X dX12_nextToken_184 ?_
          refine gr_sub [0] rfl ?_
          exact wm_nextToken_b185 X hK hA hK201 ih _ _ hf
        · replace hf := ot_f hf hc_
          refine gr_aload_n X dX12_nextToken_159 rfl 0 rfl ?_
          refine gM_get_9 X hK dX12_nextToken_160 ?_
          refine gr_goto X 185 dX12_nextToken_163 (by decide) ?_
          refine gr_sub [0] rfl ?_
          exact wm_nextToken_b185 X hK hA hK201 ih _ _ hf
set_option maxHeartbeats 4000000 in
set_option maxRecDepth 100000 in
theorem wm_nextToken_b201 {p : Program} {l : Launch} {e : Env} {s : State} {m : MethodId} {args : Array Value} {below : List Frame} {meth : Method} {c : Code} {A : Nat → Prop} {D : va_G} {cA : ClassId} {h : Nat} {ad : Nat → Nat} {τ : SM} (X : hc p s m args meth c RX12 cX12_nextToken 2 none) (hK : kM D cA A s) (hA : ∀ q, s.heap.size ≤ q → A q)   (σ : SM) (hf : fm_nextToken_b201 σ = some τ) : gg p l e rm_nextToken s m args below meth c (wM h ad cA) D vwCl A 2 (QV below args s (wM h ad cA) D vwCl A τ) 201 [(0, .ref h)] [] σ := by
  unfold fm_nextToken_b201 at hf
  refine gr_aload_n X dX12_nextToken_201 rfl 0 rfl ?_
  refine gr_dup X dX12_nextToken_202 rfl ?_
  refine gM_get_8 X hK dX12_nextToken_203 ?_
  refine gr_aload_n X dX12_nextToken_206 rfl 0 rfl ?_
  refine gM_get_6 X hK dX12_nextToken_207 ?_
  refine gr_iconst (v := 2) X dX12_nextToken_210 (by decide) ?_
  refine gr_icmp_le X 218 dX12_nextToken_211 (by decide) (fun hc_ => ?_) (fun hc_ => ?_)
  · replace hf := ot_t hf hc_
    refine gr_iconst (v := 0) X dX12_nextToken_218 (by decide) ?_
    refine gr_iadd X dX12_nextToken_219 ?_
    refine gM_put_8 X hK dX12_nextToken_220 ?_
    refine gM_gen (fun σ18 e_σ18 => ?_)
    replace hf := ot_l hf e_σ18
    exact gr_vret X dX12_nextToken_223 (Option.some.inj hf)
  · replace hf := ot_f hf hc_
    refine gr_iconst (v := 1) X dX12_nextToken_214 (by decide) ?_
    refine gr_goto X 219 dX12_nextToken_215 (by decide) ?_
    refine gr_iadd X dX12_nextToken_219 ?_
    refine gM_put_8 X hK dX12_nextToken_220 ?_
    refine gM_gen (fun σ19 e_σ19 => ?_)
    replace hf := ot_l hf e_σ19
    exact gr_vret X dX12_nextToken_223 (Option.some.inj hf)
set_option maxHeartbeats 4000000 in
set_option maxRecDepth 100000 in
theorem wm_nextToken_b83 {p : Program} {l : Launch} {e : Env} {s : State} {m : MethodId} {args : Array Value} {below : List Frame} {meth : Method} {c : Code} {A : Nat → Prop} {D : va_G} {cA : ClassId} {h : Nat} {ad : Nat → Nat} {τ : SM} (X : hc p s m args meth c RX12 cX12_nextToken 2 none) (hK : kM D cA A s) (hA : ∀ q, s.heap.size ≤ q → A q)   (y0 : Int32) (σ : SM) (hf : fm_nextToken_b83 y0 σ = some τ) : gg p l e rm_nextToken s m args below meth c (wM h ad cA) D vwCl A 2 (QV below args s (wM h ad cA) D vwCl A τ) 83 [(0, .ref h)] [.int y0, .ref h] σ := by
  unfold fm_nextToken_b83 at hf
  refine gM_put_6 X hK dX12_nextToken_83 ?_
  refine gM_gen (fun σ8 e_σ8 => ?_)
  replace hf := ot_l hf e_σ8
  refine gr_aload_n X dX12_nextToken_86 rfl 0 rfl ?_
  refine gr_iconst (v := 0) X dX12_nextToken_87 (by decide) ?_
  refine gM_put_9 X hK dX12_nextToken_88 ?_
  refine gM_gen (fun σ9 e_σ9 => ?_)
  replace hf := ot_l hf e_σ9
  refine gr_sub [0] rfl ?_
  refine wm_nextToken_l91 X hK hA (fun σ hf => ?_) hFU _ hf
  refine gr_sub [0] rfl ?_
  refine wm_nextToken_l126 X hK hA (fun σ hf => ?_) hFU _ hf
  refine gr_sub [0] rfl ?_
  exact wm_nextToken_b201 X hK hA _ hf
set_option maxHeartbeats 4000000 in
set_option maxRecDepth 100000 in
theorem xm_nextToken {l : Launch} {D : va_G} {cA : ClassId} {h : Nat} {ad : Nat → Nat} {σ : SM} {τ : SM} (hf : fm_nextToken σ = some τ) : ctV l (wM h ad cA) D vwCl (kM D cA) yX12_nextToken cX12_nextToken 2 rm_nextToken [.ref h] σ τ := by
  refine ct_V RX12 (by decide +kernel) rfl (Nat.le_of_ble_eq_true rfl) ?_
  intro p e s m args below meth c A X hK hA
  refine gr_eqL (L2 := [(0, .ref h)]) rfl ?_
  unfold fm_nextToken at hf
  refine gr_aload_n X dX12_nextToken_0 rfl 0 rfl ?_
  refine gr_aload_n X dX12_nextToken_1 rfl 0 rfl ?_
  refine gM_get_8 X hK dX12_nextToken_2 ?_
  refine gM_put_7 X hK dX12_nextToken_5 ?_
  refine gM_gen (fun σ1 e_σ1 => ?_)
  replace hf := ot_l hf e_σ1
  refine gr_sub [0] rfl ?_
  refine wm_nextToken_l8 X hK hA (fun σ hf => ?_) hFU _ hf
  refine gr_aload_n X dX12_nextToken_34 rfl 0 rfl ?_
  refine gr_aload_n X dX12_nextToken_35 rfl 0 rfl ?_
  refine gM_get_7 X hK dX12_nextToken_36 ?_
  refine gM_put_8 X hK dX12_nextToken_39 ?_
  refine gM_gen (fun σ4 e_σ4 => ?_)
  replace hf := ot_l hf e_σ4
  refine gr_aload_n X dX12_nextToken_42 rfl 0 rfl ?_
  refine gr_aload_n X dX12_nextToken_43 rfl 0 rfl ?_
  refine gM_get_7 X hK dX12_nextToken_44 ?_
  obtain ⟨q5, hq_, hf⟩ := ot_b hf
  refine gc_Vi (rest := []) X kM_ok hK hA cw12_byteAt (rvM hK) (xm_byteAt hq_) rfl ⟨rfl, rfl, Nat.le_of_ble_eq_true rfl, Nat.le_of_ble_eq_true rfl⟩ rfl (Nat.le_of_ble_eq_true rfl) dX12_nextToken_47 ?_
  refine gr_istore_n (L2 := [(1, .int q5), (0, .ref h)]) X dX12_nextToken_50 rfl (by decide) rfl ?_
  refine gr_aload_n X dX12_nextToken_51 rfl 1 rfl ?_
  refine gr_iload_n X dX12_nextToken_52 rfl 0 rfl ?_
  refine gr_if_ge X 60 dX12_nextToken_53 (by decide) (fun hc_ => ?_) (fun hc_ => ?_)
  · replace hf := ot_t hf hc_
    refine gr_iload_n X dX12_nextToken_60 rfl 0 rfl ?_
    obtain ⟨q6, hq_, hf⟩ := ot_b hf
    refine gc_Si (rest := [.ref h]) X kM_ok hK hA cw12_isAlpha (xm_isAlpha hq_) rfl ⟨rfl, rfl, Nat.le_of_ble_eq_true rfl, Nat.le_of_ble_eq_true rfl⟩ rfl (Nat.le_of_ble_eq_true rfl) dX12_nextToken_61 ?_
    refine gr_if_eq X 71 dX12_nextToken_64 (by decide) (fun hc_ => ?_) (fun hc_ => ?_)
    · replace hf := ot_t hf hc_
      refine gr_iload_n X dX12_nextToken_71 rfl 0 rfl ?_
      obtain ⟨q7, hq_, hf⟩ := ot_b hf
      refine gc_Si (rest := [.ref h]) X kM_ok hK hA cw12_isDigit (xm_isDigit hq_) rfl ⟨rfl, rfl, Nat.le_of_ble_eq_true rfl, Nat.le_of_ble_eq_true rfl⟩ rfl (Nat.le_of_ble_eq_true rfl) dX12_nextToken_72 ?_
      refine gr_if_eq X 82 dX12_nextToken_75 (by decide) (fun hc_ => ?_) (fun hc_ => ?_)
      · replace hf := ot_t hf hc_
        refine gr_iconst (v := 3) X dX12_nextToken_82 (by decide) ?_
        refine gr_sub [1] rfl ?_
        exact wm_nextToken_b83 X hK hA _ _ hf
      · replace hf := ot_f hf hc_
        refine gr_iconst (v := 2) X dX12_nextToken_78 (by decide) ?_
        refine gr_goto X 83 dX12_nextToken_79 (by decide) ?_
        refine gr_sub [1] rfl ?_
        exact wm_nextToken_b83 X hK hA _ _ hf
    · replace hf := ot_f hf hc_
      refine gr_iconst (v := 1) X dX12_nextToken_67 (by decide) ?_
      refine gr_goto X 83 dX12_nextToken_68 (by decide) ?_
      refine gr_sub [1] rfl ?_
      exact wm_nextToken_b83 X hK hA _ _ hf
  · replace hf := ot_f hf hc_
    refine gr_iconst (v := 0) X dX12_nextToken_56 (by decide) ?_
    refine gr_goto X 83 dX12_nextToken_57 (by decide) ?_
    refine gr_sub [1] rfl ?_
    exact wm_nextToken_b83 X hK hA _ _ hf
abbrev rm_needs : Room := { frames := 2, cells := 0, slots := 0, locals := 42 }
def fm_needs_b17 (y0 : Int32) (σ : SM) : Option SM := (oc (hz y0) (hl (sf σ 10 (fun _ => y0)) fun σ1 => (if ¬ (σ1 10 0) = 0 then (some σ1) else (Option.bind (fm_nextToken σ1) fun σ3 => (some σ3)))))
def fm_needs_b12 (σ : SM) : Option SM := (fm_needs_b17 (1 : Int32) σ)
def fm_needs (x1 : Int32) (σ : SM) : Option SM := (if ¬ (σ 10 0) = 0 then (fm_needs_b12 σ) else (if ¬ x1 = 0 then (fm_needs_b17 (0 : Int32) σ) else (fm_needs_b12 σ)))
set_option maxHeartbeats 4000000 in
set_option maxRecDepth 100000 in
theorem wm_needs_b17 {p : Program} {l : Launch} {e : Env} {s : State} {m : MethodId} {args : Array Value} {below : List Frame} {meth : Method} {c : Code} {A : Nat → Prop} {D : va_G} {cA : ClassId} {h : Nat} {ad : Nat → Nat} {τ : SM} (X : hc p s m args meth c RX12 cX12_needs 2 none) (hK : kM D cA A s) (hA : ∀ q, s.heap.size ≤ q → A q)   (y0 : Int32) (σ : SM) (hf : fm_needs_b17 y0 σ = some τ) : gg p l e rm_needs s m args below meth c (wM h ad cA) D vwCl A 2 (QV below args s (wM h ad cA) D vwCl A τ) 17 [(0, .ref h)] [.int y0, .ref h] σ := by
  unfold fm_needs_b17 at hf
  have hz_ := oc_1 hf
  replace hf := oc_2 hf
  refine gM_put_10 X hK hz_ dX12_needs_17 ?_
  refine gM_gen (fun σ1 e_σ1 => ?_)
  replace hf := ot_l hf e_σ1
  refine gr_aload_n X dX12_needs_20 rfl 0 rfl ?_
  refine gM_get_10 X hK dX12_needs_21 ?_
  refine gr_if_ne X 31 dX12_needs_24 (by decide) (fun hc_ => ?_) (fun hc_ => ?_)
  · replace hf := ot_t hf hc_
    exact gr_vret X dX12_needs_31 (Option.some.inj hf)
  · replace hf := ot_f hf hc_
    refine gr_aload_n X dX12_needs_27 rfl 0 rfl ?_
    obtain ⟨σ3, hq_, hf⟩ := ot_b hf
    refine gc_Vv (rest := []) X kM_ok hK hA cw12_nextToken (rvM hK) (xm_nextToken hq_) rfl ⟨rfl, rfl, Nat.le_of_ble_eq_true rfl, Nat.le_of_ble_eq_true rfl⟩ rfl (Nat.le_of_ble_eq_true rfl) dX12_needs_28 ?_
    exact gr_vret X dX12_needs_31 (Option.some.inj hf)
set_option maxHeartbeats 4000000 in
set_option maxRecDepth 100000 in
theorem wm_needs_b12 {p : Program} {l : Launch} {e : Env} {s : State} {m : MethodId} {args : Array Value} {below : List Frame} {meth : Method} {c : Code} {A : Nat → Prop} {D : va_G} {cA : ClassId} {h : Nat} {ad : Nat → Nat} {τ : SM} (X : hc p s m args meth c RX12 cX12_needs 2 none) (hK : kM D cA A s) (hA : ∀ q, s.heap.size ≤ q → A q)   (σ : SM) (hf : fm_needs_b12 σ = some τ) : gg p l e rm_needs s m args below meth c (wM h ad cA) D vwCl A 2 (QV below args s (wM h ad cA) D vwCl A τ) 12 [(0, .ref h)] [.ref h] σ := by
  unfold fm_needs_b12 at hf
  refine gr_iconst (v := 1) X dX12_needs_12 (by decide) ?_
  refine gr_goto X 17 dX12_needs_13 (by decide) ?_
  refine gr_sub [0] rfl ?_
  exact wm_needs_b17 X hK hA _ _ hf
set_option maxHeartbeats 4000000 in
set_option maxRecDepth 100000 in
theorem xm_needs {l : Launch} {D : va_G} {cA : ClassId} {h : Nat} {ad : Nat → Nat} {σ : SM} {x1 : Int32} {τ : SM} (hf : fm_needs x1 σ = some τ) : ctV l (wM h ad cA) D vwCl (kM D cA) yX12_needs cX12_needs 2 rm_needs [.ref h, .int x1] σ τ := by
  refine ct_V RX12 (by decide +kernel) rfl (Nat.le_of_ble_eq_true rfl) ?_
  intro p e s m args below meth c A X hK hA
  refine gr_eqL (L2 := [(0, .ref h), (1, .int x1)]) rfl ?_
  unfold fm_needs at hf
  refine gr_aload_n X dX12_needs_0 rfl 0 rfl ?_
  refine gr_aload_n X dX12_needs_1 rfl 0 rfl ?_
  refine gM_get_10 X hK dX12_needs_2 ?_
  refine gr_if_ne X 12 dX12_needs_5 (by decide) (fun hc_ => ?_) (fun hc_ => ?_)
  · replace hf := ot_t hf hc_
    refine gr_sub [0] rfl ?_
    exact wm_needs_b12 X hK hA _ hf
  · replace hf := ot_f hf hc_
    refine gr_iload_n X dX12_needs_8 rfl 1 rfl ?_
    refine gr_if_ne X 16 dX12_needs_9 (by decide) (fun hc_ => ?_) (fun hc_ => ?_)
    · replace hf := ot_t hf hc_
      refine gr_iconst (v := 0) X dX12_needs_16 (by decide) ?_
      refine gr_sub [0] rfl ?_
      exact wm_needs_b17 X hK hA _ _ hf
    · replace hf := ot_f hf hc_
      refine gr_sub [0] rfl ?_
      exact wm_needs_b12 X hK hA _ hf
abbrev rm_isByte : Room := { frames := 1, cells := 0, slots := 0, locals := 21 }
def fm_isByte (σ : SM) (x1 : Int32) : Option Int32 := (if ¬ (σ 6 0) = (3 : Int32) then (some (0 : Int32)) else (Option.bind (fm_byteAt σ (σ 7 0)) fun q1 => (if ¬ q1 = x1 then (some (0 : Int32)) else (some (1 : Int32)))))
set_option maxHeartbeats 4000000 in
set_option maxRecDepth 100000 in
theorem xm_isByte {l : Launch} {D : va_G} {cA : ClassId} {h : Nat} {ad : Nat → Nat} {σ : SM} {x1 : Int32} {r : Int32} (hf : fm_isByte σ x1 = some r) : ctI l (wM h ad cA) D vwCl (kM D cA) yX12_isByte cX12_isByte 2 .boolean rm_isByte [.ref h, .int x1] σ r σ := by
  refine ct_I RX12 (by decide +kernel) rfl (Nat.le_of_ble_eq_true rfl) ?_
  intro p e s m args below meth c A X hK hA
  refine gr_eqL (L2 := [(0, .ref h), (1, .int x1)]) rfl ?_
  unfold fm_isByte at hf
  refine gr_aload_n X dX12_isByte_0 rfl 0 rfl ?_
  refine gM_get_6 X hK dX12_isByte_1 ?_
  refine gr_iconst (v := 3) X dX12_isByte_4 (by decide) ?_
  refine gr_icmp_ne X 24 dX12_isByte_5 (by decide) (fun hc_ => ?_) (fun hc_ => ?_)
  · replace hf := ot_t hf hc_
    refine gr_iconst (v := 0) X dX12_isByte_24 (by decide) ?_
    exact gr_zret X dX12_isByte_25 (by decide) (Option.some.inj hf) rfl
  · replace hf := ot_f hf hc_
    refine gr_aload_n X dX12_isByte_8 rfl 0 rfl ?_
    refine gr_aload_n X dX12_isByte_9 rfl 0 rfl ?_
    refine gM_get_7 X hK dX12_isByte_10 ?_
    obtain ⟨q1, hq_, hf⟩ := ot_b hf
    refine gc_Vi (rest := []) X kM_ok hK hA cw12_byteAt (rvM hK) (xm_byteAt hq_) rfl ⟨rfl, rfl, Nat.le_of_ble_eq_true rfl, Nat.le_of_ble_eq_true rfl⟩ rfl (Nat.le_of_ble_eq_true rfl) dX12_isByte_13 ?_
    refine gr_iload_n X dX12_isByte_16 rfl 1 rfl ?_
    refine gr_icmp_ne X 24 dX12_isByte_17 (by decide) (fun hc_ => ?_) (fun hc_ => ?_)
    · replace hf := ot_t hf hc_
      refine gr_iconst (v := 0) X dX12_isByte_24 (by decide) ?_
      exact gr_zret X dX12_isByte_25 (by decide) (Option.some.inj hf) rfl
    · replace hf := ot_f hf hc_
      refine gr_iconst (v := 1) X dX12_isByte_20 (by decide) ?_
      refine gr_goto X 25 dX12_isByte_21 (by decide) ?_
      exact gr_zret X dX12_isByte_25 (by decide) (Option.some.inj hf) rfl
abbrev rm_isName : Room := { frames := 1, cells := 0, slots := 0, locals := 21 }
def fm_isName (σ : SM) (x1 : Int32) (x2 : Int32) (x3 : Int32) (x4 : Int32) (x5 : Int32) : Option Int32 := (if ¬ (σ 6 0) = (1 : Int32) then (some (0 : Int32)) else (if ¬ ((σ 8 0) - (σ 7 0)) = x1 then (some (0 : Int32)) else (Option.bind (fm_byteAt σ (σ 7 0)) fun q1 => (if ¬ q1 = x2 then (some (0 : Int32)) else (Option.bind (fm_byteAt σ ((σ 7 0) + (1 : Int32))) fun q2 => (if ¬ q2 = x3 then (some (0 : Int32)) else (Option.bind (fm_byteAt σ ((σ 7 0) + (2 : Int32))) fun q3 => (if ¬ q3 = x4 then (some (0 : Int32)) else (Option.bind (fm_byteAt σ ((σ 8 0) - (1 : Int32))) fun q4 => (if ¬ q4 = x5 then (some (0 : Int32)) else (some (1 : Int32))))))))))))
set_option maxHeartbeats 4000000 in
set_option maxRecDepth 100000 in
theorem xm_isName {l : Launch} {D : va_G} {cA : ClassId} {h : Nat} {ad : Nat → Nat} {σ : SM} {x1 : Int32} {x2 : Int32} {x3 : Int32} {x4 : Int32} {x5 : Int32} {r : Int32} (hf : fm_isName σ x1 x2 x3 x4 x5 = some r) : ctI l (wM h ad cA) D vwCl (kM D cA) yX12_isName cX12_isName 6 .boolean rm_isName [.ref h, .int x1, .int x2, .int x3, .int x4, .int x5] σ r σ := by
  refine ct_I RX12 (by decide +kernel) rfl (Nat.le_of_ble_eq_true rfl) ?_
  intro p e s m args below meth c A X hK hA
  refine gr_eqL (L2 := [(0, .ref h), (1, .int x1), (2, .int x2), (3, .int x3), (4, .int x4), (5, .int x5)]) rfl ?_
  unfold fm_isName at hf
  refine gr_aload_n X dX12_isName_0 rfl 0 rfl ?_
  refine gM_get_6 X hK dX12_isName_1 ?_
  refine gr_iconst (v := 1) X dX12_isName_4 (by decide) ?_
  refine gr_icmp_ne X 81 dX12_isName_5 (by decide) (fun hc_ => ?_) (fun hc_ => ?_)
  · replace hf := ot_t hf hc_
    refine gr_iconst (v := 0) X dX12_isName_81 (by decide) ?_
    exact gr_zret X dX12_isName_82 (by decide) (Option.some.inj hf) rfl
  · replace hf := ot_f hf hc_
    refine gr_aload_n X dX12_isName_8 rfl 0 rfl ?_
    refine gM_get_8 X hK dX12_isName_9 ?_
    refine gr_aload_n X dX12_isName_12 rfl 0 rfl ?_
    refine gM_get_7 X hK dX12_isName_13 ?_
    refine gr_isub X dX12_isName_16 ?_
    refine gr_iload_n X dX12_isName_17 rfl 1 rfl ?_
    refine gr_icmp_ne X 81 dX12_isName_18 (by decide) (fun hc_ => ?_) (fun hc_ => ?_)
    · replace hf := ot_t hf hc_
      refine gr_iconst (v := 0) X dX12_isName_81 (by decide) ?_
      exact gr_zret X dX12_isName_82 (by decide) (Option.some.inj hf) rfl
    · replace hf := ot_f hf hc_
      refine gr_aload_n X dX12_isName_21 rfl 0 rfl ?_
      refine gr_aload_n X dX12_isName_22 rfl 0 rfl ?_
      refine gM_get_7 X hK dX12_isName_23 ?_
      obtain ⟨q1, hq_, hf⟩ := ot_b hf
      refine gc_Vi (rest := []) X kM_ok hK hA cw12_byteAt (rvM hK) (xm_byteAt hq_) rfl ⟨rfl, rfl, Nat.le_of_ble_eq_true rfl, Nat.le_of_ble_eq_true rfl⟩ rfl (Nat.le_of_ble_eq_true rfl) dX12_isName_26 ?_
      refine gr_iload_n X dX12_isName_29 rfl 2 rfl ?_
      refine gr_icmp_ne X 81 dX12_isName_30 (by decide) (fun hc_ => ?_) (fun hc_ => ?_)
      · replace hf := ot_t hf hc_
        refine gr_iconst (v := 0) X dX12_isName_81 (by decide) ?_
        exact gr_zret X dX12_isName_82 (by decide) (Option.some.inj hf) rfl
      · replace hf := ot_f hf hc_
        refine gr_aload_n X dX12_isName_33 rfl 0 rfl ?_
        refine gr_aload_n X dX12_isName_34 rfl 0 rfl ?_
        refine gM_get_7 X hK dX12_isName_35 ?_
        refine gr_iconst (v := 1) X dX12_isName_38 (by decide) ?_
        refine gr_iadd X dX12_isName_39 ?_
        obtain ⟨q2, hq_, hf⟩ := ot_b hf
        refine gc_Vi (rest := []) X kM_ok hK hA cw12_byteAt (rvM hK) (xm_byteAt hq_) rfl ⟨rfl, rfl, Nat.le_of_ble_eq_true rfl, Nat.le_of_ble_eq_true rfl⟩ rfl (Nat.le_of_ble_eq_true rfl) dX12_isName_40 ?_
        refine gr_iload_n X dX12_isName_43 rfl 3 rfl ?_
        refine gr_icmp_ne X 81 dX12_isName_44 (by decide) (fun hc_ => ?_) (fun hc_ => ?_)
        · replace hf := ot_t hf hc_
          refine gr_iconst (v := 0) X dX12_isName_81 (by decide) ?_
          exact gr_zret X dX12_isName_82 (by decide) (Option.some.inj hf) rfl
        · replace hf := ot_f hf hc_
          refine gr_aload_n X dX12_isName_47 rfl 0 rfl ?_
          refine gr_aload_n X dX12_isName_48 rfl 0 rfl ?_
          refine gM_get_7 X hK dX12_isName_49 ?_
          refine gr_iconst (v := 2) X dX12_isName_52 (by decide) ?_
          refine gr_iadd X dX12_isName_53 ?_
          obtain ⟨q3, hq_, hf⟩ := ot_b hf
          refine gc_Vi (rest := []) X kM_ok hK hA cw12_byteAt (rvM hK) (xm_byteAt hq_) rfl ⟨rfl, rfl, Nat.le_of_ble_eq_true rfl, Nat.le_of_ble_eq_true rfl⟩ rfl (Nat.le_of_ble_eq_true rfl) dX12_isName_54 ?_
          refine gr_iload X dX12_isName_57 4 rfl ?_
          refine gr_icmp_ne X 81 dX12_isName_59 (by decide) (fun hc_ => ?_) (fun hc_ => ?_)
          · replace hf := ot_t hf hc_
            refine gr_iconst (v := 0) X dX12_isName_81 (by decide) ?_
            exact gr_zret X dX12_isName_82 (by decide) (Option.some.inj hf) rfl
          · replace hf := ot_f hf hc_
            refine gr_aload_n X dX12_isName_62 rfl 0 rfl ?_
            refine gr_aload_n X dX12_isName_63 rfl 0 rfl ?_
            refine gM_get_8 X hK dX12_isName_64 ?_
            refine gr_iconst (v := 1) X dX12_isName_67 (by decide) ?_
            refine gr_isub X dX12_isName_68 ?_
            obtain ⟨q4, hq_, hf⟩ := ot_b hf
            refine gc_Vi (rest := []) X kM_ok hK hA cw12_byteAt (rvM hK) (xm_byteAt hq_) rfl ⟨rfl, rfl, Nat.le_of_ble_eq_true rfl, Nat.le_of_ble_eq_true rfl⟩ rfl (Nat.le_of_ble_eq_true rfl) dX12_isName_69 ?_
            refine gr_iload X dX12_isName_72 5 rfl ?_
            refine gr_icmp_ne X 81 dX12_isName_74 (by decide) (fun hc_ => ?_) (fun hc_ => ?_)
            · replace hf := ot_t hf hc_
              refine gr_iconst (v := 0) X dX12_isName_81 (by decide) ?_
              exact gr_zret X dX12_isName_82 (by decide) (Option.some.inj hf) rfl
            · replace hf := ot_f hf hc_
              refine gr_iconst (v := 1) X dX12_isName_77 (by decide) ?_
              refine gr_goto X 82 dX12_isName_78 (by decide) ?_
              exact gr_zret X dX12_isName_82 (by decide) (Option.some.inj hf) rfl
