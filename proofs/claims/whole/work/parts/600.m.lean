abbrev rm_isIn : Room := { frames := 0, cells := 0, slots := 0, locals := 0 }
def fm_isIn (x0 : Int64) (x2 : Int64) (x4 : Int64) : Option Int32 := (if (lg_cmp x0 x2) < 0 then (some (0 : Int32)) else (if 0 < (lg_cmp x0 x4) then (some (0 : Int32)) else (some (1 : Int32))))
set_option maxHeartbeats 4000000 in
set_option maxRecDepth 100000 in
theorem xm_isIn {l : Launch} {D : va_G} {cA : ClassId} {h : Nat} {ad : Nat → Nat} {σ : SM} {x0 : Int64} {x2 : Int64} {x4 : Int64} {r : Int32} (hf : fm_isIn x0 x2 x4 = some r) : ctI l (wM h ad cA) D vwCl (kM D cA) yX12_isIn cX12_isIn 6 .boolean rm_isIn [.long x0, .long x2, .long x4] σ r σ := by
  refine ct_I RX12 (by decide +kernel) rfl (Nat.le_of_ble_eq_true rfl) ?_
  intro p e s m args below meth c A X hK hA
  refine gr_eqL (L2 := [(0, .long x0), (2, .long x2), (4, .long x4)]) rfl ?_
  unfold fm_isIn at hf
  refine gr_lload_n X dX12_isIn_0 rfl 0 rfl ?_
  refine gr_lload_n X dX12_isIn_1 rfl 1 rfl ?_
  refine gr_lcmp X dX12_isIn_2 ?_
  refine gr_if_lt X 17 dX12_isIn_3 (by decide) (fun hc_ => ?_) (fun hc_ => ?_)
  · replace hf := ot_t hf hc_
    refine gr_iconst (v := 0) X dX12_isIn_17 (by decide) ?_
    exact gr_zret X dX12_isIn_18 (by decide) (Option.some.inj hf) rfl
  · replace hf := ot_f hf hc_
    refine gr_lload_n X dX12_isIn_6 rfl 0 rfl ?_
    refine gr_lload X dX12_isIn_7 2 rfl ?_
    refine gr_lcmp X dX12_isIn_9 ?_
    refine gr_if_gt X 17 dX12_isIn_10 (by decide) (fun hc_ => ?_) (fun hc_ => ?_)
    · replace hf := ot_t hf hc_
      refine gr_iconst (v := 0) X dX12_isIn_17 (by decide) ?_
      exact gr_zret X dX12_isIn_18 (by decide) (Option.some.inj hf) rfl
    · replace hf := ot_f hf hc_
      refine gr_iconst (v := 1) X dX12_isIn_13 (by decide) ?_
      refine gr_goto X 18 dX12_isIn_14 (by decide) ?_
      exact gr_zret X dX12_isIn_18 (by decide) (Option.some.inj hf) rfl
abbrev rm_isOne : Room := { frames := 0, cells := 0, slots := 0, locals := 0 }
def fm_isOne (σ : SM) (x1 : Int32) : Option Int32 := (if x1 < 0 then (some (0 : Int32)) else (if (σ 0 0) ≤ x1 then (some (0 : Int32)) else (some (1 : Int32))))
set_option maxHeartbeats 4000000 in
set_option maxRecDepth 100000 in
theorem xm_isOne {l : Launch} {D : va_G} {cA : ClassId} {h : Nat} {ad : Nat → Nat} {σ : SM} {x1 : Int32} {r : Int32} (hf : fm_isOne σ x1 = some r) : ctI l (wM h ad cA) D vwCl (kM D cA) yX12_isOne cX12_isOne 2 .boolean rm_isOne [.ref h, .int x1] σ r σ := by
  refine ct_I RX12 (by decide +kernel) rfl (Nat.le_of_ble_eq_true rfl) ?_
  intro p e s m args below meth c A X hK hA
  refine gr_eqL (L2 := [(0, .ref h), (1, .int x1)]) rfl ?_
  unfold fm_isOne at hf
  refine gr_iload_n X dX12_isOne_0 rfl 1 rfl ?_
  refine gr_if_lt X 18 dX12_isOne_1 (by decide) (fun hc_ => ?_) (fun hc_ => ?_)
  · replace hf := ot_t hf hc_
    refine gr_iconst (v := 0) X dX12_isOne_18 (by decide) ?_
    exact gr_zret X dX12_isOne_19 (by decide) (Option.some.inj hf) rfl
  · replace hf := ot_f hf hc_
    refine gr_iload_n X dX12_isOne_4 rfl 1 rfl ?_
    refine gr_aload_n X dX12_isOne_5 rfl 0 rfl ?_
    refine gM_get_0 X hK dX12_isOne_6 ?_
    refine gr_iconst (v := 0) X dX12_isOne_9 (by decide) ?_
    refine gM_ald_0 X hK 0 (by decide) (by decide) dX12_isOne_10 ?_
    refine gr_icmp_ge X 18 dX12_isOne_11 (by decide) (fun hc_ => ?_) (fun hc_ => ?_)
    · replace hf := ot_t hf hc_
      refine gr_iconst (v := 0) X dX12_isOne_18 (by decide) ?_
      exact gr_zret X dX12_isOne_19 (by decide) (Option.some.inj hf) rfl
    · replace hf := ot_f hf hc_
      refine gr_iconst (v := 1) X dX12_isOne_14 (by decide) ?_
      refine gr_goto X 19 dX12_isOne_15 (by decide) ?_
      exact gr_zret X dX12_isOne_19 (by decide) (Option.some.inj hf) rfl
abbrev rm_isStreet : Room := { frames := 0, cells := 0, slots := 0, locals := 0 }
def fm_isStreet (x0 : Int32) : Option Int32 := (if x0 < 0 then (some (0 : Int32)) else (if (6 : Int32) ≤ x0 then (some (0 : Int32)) else (some (1 : Int32))))
set_option maxHeartbeats 4000000 in
set_option maxRecDepth 100000 in
theorem xm_isStreet {l : Launch} {D : va_G} {cA : ClassId} {h : Nat} {ad : Nat → Nat} {σ : SM} {x0 : Int32} {r : Int32} (hf : fm_isStreet x0 = some r) : ctI l (wM h ad cA) D vwCl (kM D cA) yX12_isStreet cX12_isStreet 1 .boolean rm_isStreet [.int x0] σ r σ := by
  refine ct_I RX12 (by decide +kernel) rfl (Nat.le_of_ble_eq_true rfl) ?_
  intro p e s m args below meth c A X hK hA
  refine gr_eqL (L2 := [(0, .int x0)]) rfl ?_
  unfold fm_isStreet at hf
  refine gr_iload_n X dX12_isStreet_0 rfl 0 rfl ?_
  refine gr_if_lt X 14 dX12_isStreet_1 (by decide) (fun hc_ => ?_) (fun hc_ => ?_)
  · replace hf := ot_t hf hc_
    refine gr_iconst (v := 0) X dX12_isStreet_14 (by decide) ?_
    exact gr_zret X dX12_isStreet_15 (by decide) (Option.some.inj hf) rfl
  · replace hf := ot_f hf hc_
    refine gr_iload_n X dX12_isStreet_4 rfl 0 rfl ?_
    refine gr_bipush (v := 6) X dX12_isStreet_5 (by decide) ?_
    refine gr_icmp_ge X 14 dX12_isStreet_7 (by decide) (fun hc_ => ?_) (fun hc_ => ?_)
    · replace hf := ot_t hf hc_
      refine gr_iconst (v := 0) X dX12_isStreet_14 (by decide) ?_
      exact gr_zret X dX12_isStreet_15 (by decide) (Option.some.inj hf) rfl
    · replace hf := ot_f hf hc_
      refine gr_iconst (v := 1) X dX12_isStreet_10 (by decide) ?_
      refine gr_goto X 15 dX12_isStreet_11 (by decide) ?_
      exact gr_zret X dX12_isStreet_15 (by decide) (Option.some.inj hf) rfl
abbrev rm_its : Room := { frames := 0, cells := 0, slots := 0, locals := 0 }
def fm_its (σ : SM) (x1 : Int32) (x2 : Int32) : Option Int32 := (oc (hin (((10 : Int32) + ((6 : Int32) * x1)) + x2) 580) (some (σ 0 (Int32.toNatClampNeg (((10 : Int32) + ((6 : Int32) * x1)) + x2)))))
set_option maxHeartbeats 4000000 in
set_option maxRecDepth 100000 in
theorem xm_its {l : Launch} {D : va_G} {cA : ClassId} {h : Nat} {ad : Nat → Nat} {σ : SM} {x1 : Int32} {x2 : Int32} {r : Int32} (hf : fm_its σ x1 x2 = some r) : ctI l (wM h ad cA) D vwCl (kM D cA) yX12_its cX12_its 3 .int rm_its [.ref h, .int x1, .int x2] σ r σ := by
  refine ct_I RX12 (by decide +kernel) rfl (Nat.le_of_ble_eq_true rfl) ?_
  intro p e s m args below meth c A X hK hA
  refine gr_eqL (L2 := [(0, .ref h), (1, .int x1), (2, .int x2)]) rfl ?_
  unfold fm_its at hf
  refine gr_aload_n X dX12_its_0 rfl 0 rfl ?_
  refine gM_get_0 X hK dX12_its_1 ?_
  refine gr_bipush (v := 10) X dX12_its_4 (by decide) ?_
  refine gr_bipush (v := 6) X dX12_its_6 (by decide) ?_
  refine gr_iload_n X dX12_its_8 rfl 1 rfl ?_
  refine gr_imul X dX12_its_9 ?_
  refine gr_iadd X dX12_its_10 ?_
  refine gr_iload_n X dX12_its_11 rfl 2 rfl ?_
  refine gr_iadd X dX12_its_12 ?_
  have hi_ := oc_1 hf
  replace hf := oc_2 hf
  refine gM_ald_0 X hK (Int32.toNatClampNeg (((10 : Int32) + ((6 : Int32) * x1)) + x2)) hi_ rfl dX12_its_13 ?_
  exact gr_iret X dX12_its_14 (Option.some.inj hf) rfl
abbrev rm_becomes : Room := { frames := 0, cells := 0, slots := 0, locals := 0 }
def fm_becomes (x1 : Int32) (x2 : Int32) (σ : SM) : Option (Int32 × SM) := (oc (hin x1 580) (hl (σ 0 (Int32.toNatClampNeg x1)) fun v1 => (oc (hin x1 580) (hl (sf σ 0 (upd (σ 0) (Int32.toNatClampNeg x1) x2)) fun σ2 => (some (v1, σ2))))))
set_option maxHeartbeats 4000000 in
set_option maxRecDepth 100000 in
theorem xm_becomes {l : Launch} {D : va_G} {cA : ClassId} {h : Nat} {ad : Nat → Nat} {σ : SM} {x1 : Int32} {x2 : Int32} {r : Int32} {τ : SM} (hf : fm_becomes x1 x2 σ = some (r, τ)) : ctI l (wM h ad cA) D vwCl (kM D cA) yX12_becomes cX12_becomes 4 .int rm_becomes [.ref h, .int x1, .int x2] σ r τ := by
  refine ct_I RX12 (by decide +kernel) rfl (Nat.le_of_ble_eq_true rfl) ?_
  intro p e s m args below meth c A X hK hA
  refine gr_eqL (L2 := [(0, .ref h), (1, .int x1), (2, .int x2)]) rfl ?_
  unfold fm_becomes at hf
  refine gr_aload_n X dX12_becomes_0 rfl 0 rfl ?_
  refine gM_get_0 X hK dX12_becomes_1 ?_
  refine gr_iload_n X dX12_becomes_4 rfl 1 rfl ?_
  have hi_ := oc_1 hf
  replace hf := oc_2 hf
  refine gM_ald_0 X hK (Int32.toNatClampNeg x1) hi_ rfl dX12_becomes_5 ?_
  refine gM_top (fun v1 e_v1 => ?_)
  replace hf := ot_l hf e_v1
  refine gr_istore_n (L2 := [(3, .int v1), (0, .ref h), (1, .int x1), (2, .int x2)]) X dX12_becomes_6 rfl (by decide) rfl ?_
  refine gr_aload_n X dX12_becomes_7 rfl 1 rfl ?_
  refine gM_get_0 X hK dX12_becomes_8 ?_
  refine gr_iload_n X dX12_becomes_11 rfl 2 rfl ?_
  refine gr_iload_n X dX12_becomes_12 rfl 3 rfl ?_
  have hi_ := oc_1 hf
  replace hf := oc_2 hf
  refine gM_ast_0 X hK (Int32.toNatClampNeg x1) hi_ rfl dX12_becomes_13 ?_
  refine gM_gen (fun σ2 e_σ2 => ?_)
  replace hf := ot_l hf e_σ2
  refine gr_iload_n X dX12_becomes_14 rfl 0 rfl ?_
  exact gr_iret X dX12_becomes_15 (Prod.mk.inj (Option.some.inj hf)).1 (Prod.mk.inj (Option.some.inj hf)).2
abbrev rm_laysAside : Room := { frames := 0, cells := 0, slots := 0, locals := 0 }
def fm_laysAside_l2 : Nat → Int32 → Int32 → SM → Option SM
  | 0, _, _, _ => none
  | n + 1, x1, x2, σ => (if (46 : Int32) ≤ x2 then (some σ) else (oc (hin x2 580) (oc (hin (((46 : Int32) * x1) + x2) 230) (hl (sf σ 3 (upd (σ 3) (Int32.toNatClampNeg (((46 : Int32) * x1) + x2)) (σ 0 (Int32.toNatClampNeg x2)))) fun σ1 => ((fm_laysAside_l2 n) x1 (x2 + (1 : Int32)) σ1)))))
def fm_laysAside (x1 : Int32) (σ : SM) : Option SM := (fm_laysAside_l2 hFU x1 (0 : Int32) σ)
set_option maxHeartbeats 4000000 in
set_option maxRecDepth 100000 in
theorem wm_laysAside_l2 {p : Program} {l : Launch} {e : Env} {s : State} {m : MethodId} {args : Array Value} {below : List Frame} {meth : Method} {c : Code} {A : Nat → Prop} {D : va_G} {cA : ClassId} {h : Nat} {ad : Nat → Nat} {τ : SM} (X : hc p s m args meth c RX12 cX12_laysAside 3 none) (hK : kM D cA A s) (hA : ∀ q, s.heap.size ≤ q → A q)  : ∀ (n : Nat) (x1 : Int32) (x2 : Int32) (σ : SM), fm_laysAside_l2 n x1 x2 σ = some τ → gg p l e rm_laysAside s m args below meth c (wM h ad cA) D vwCl A 3 (QV below args s (wM h ad cA) D vwCl A τ) 2 [(0, .ref h), (1, .int x1), (2, .int x2)] [] σ := by
  intro n
  induction n with
  | zero =>
    intro x1 x2 σ hf
    cases (show (none : Option SM) = some τ from hf)
  | succ n ih =>
    intro x1 x2 σ hf
    unfold fm_laysAside_l2 at hf
    refine gr_iload_n X dX12_laysAside_2 rfl 2 rfl ?_
    refine gr_bipush (v := 46) X dX12_laysAside_3 (by decide) ?_
    refine gr_icmp_ge X 31 dX12_laysAside_5 (by decide) (fun hc_ => ?_) (fun hc_ => ?_)
    · replace hf := ot_t hf hc_
      exact gr_vret X dX12_laysAside_31 (Option.some.inj hf)
    · replace hf := ot_f hf hc_
      refine gr_aload_n X dX12_laysAside_8 rfl 0 rfl ?_
      refine gM_get_3 X hK dX12_laysAside_9 ?_
      refine gr_bipush (v := 46) X dX12_laysAside_12 (by decide) ?_
      refine gr_iload_n X dX12_laysAside_14 rfl 1 rfl ?_
      refine gr_imul X dX12_laysAside_15 ?_
      refine gr_iload_n X dX12_laysAside_16 rfl 2 rfl ?_
      refine gr_iadd X dX12_laysAside_17 ?_
      refine gr_aload_n X dX12_laysAside_18 rfl 0 rfl ?_
      refine gM_get_0 X hK dX12_laysAside_19 ?_
      refine gr_iload_n X dX12_laysAside_22 rfl 2 rfl ?_
      have hi_ := oc_1 hf
      replace hf := oc_2 hf
      refine gM_ald_0 X hK (Int32.toNatClampNeg x2) hi_ rfl dX12_laysAside_23 ?_
      have hi_ := oc_1 hf
      replace hf := oc_2 hf
      refine gM_ast_3 X hK (Int32.toNatClampNeg (((46 : Int32) * x1) + x2)) hi_ rfl dX12_laysAside_24 ?_
      refine gM_gen (fun σ1 e_σ1 => ?_)
      replace hf := ot_l hf e_σ1
      refine gr_iinc (k := 2) (v := 1) (L2 := [(2, .int (x2 + (1 : Int32))), (0, .ref h), (1, .int x1)]) X dX12_laysAside_25 rfl (by decide) (by decide) rfl ?_
      refine gr_goto X 2 dX12_laysAside_28 (by decide) ?_
      refine gr_sub [1, 2, 0] rfl ?_
      exact ih _ _ _ hf
set_option maxHeartbeats 4000000 in
set_option maxRecDepth 100000 in
theorem xm_laysAside {l : Launch} {D : va_G} {cA : ClassId} {h : Nat} {ad : Nat → Nat} {σ : SM} {x1 : Int32} {τ : SM} (hf : fm_laysAside x1 σ = some τ) : ctV l (wM h ad cA) D vwCl (kM D cA) yX12_laysAside cX12_laysAside 3 rm_laysAside [.ref h, .int x1] σ τ := by
  refine ct_V RX12 (by decide +kernel) rfl (Nat.le_of_ble_eq_true rfl) ?_
  intro p e s m args below meth c A X hK hA
  refine gr_eqL (L2 := [(0, .ref h), (1, .int x1)]) rfl ?_
  unfold fm_laysAside at hf
  refine gr_iconst (v := 0) X dX12_laysAside_0 (by decide) ?_
  refine gr_istore_n (L2 := [(2, .int (0 : Int32)), (0, .ref h), (1, .int x1)]) X dX12_laysAside_1 rfl (by decide) rfl ?_
  refine gr_sub [1, 2, 0] rfl ?_
  refine wm_laysAside_l2 X hK hA  hFU _ _ _ hf
abbrev rm_laysBack : Room := { frames := 0, cells := 0, slots := 0, locals := 0 }
def fm_laysBack_l2 : Nat → Int32 → Int32 → SM → Option SM
  | 0, _, _, _ => none
  | n + 1, x1, x2, σ => (if (46 : Int32) ≤ x2 then (some σ) else (oc (hin (((46 : Int32) * x1) + x2) 230) (oc (hin x2 580) (hl (sf σ 0 (upd (σ 0) (Int32.toNatClampNeg x2) (σ 3 (Int32.toNatClampNeg (((46 : Int32) * x1) + x2))))) fun σ1 => ((fm_laysBack_l2 n) x1 (x2 + (1 : Int32)) σ1)))))
def fm_laysBack (x1 : Int32) (σ : SM) : Option SM := (fm_laysBack_l2 hFU x1 (0 : Int32) σ)
set_option maxHeartbeats 4000000 in
set_option maxRecDepth 100000 in
theorem wm_laysBack_l2 {p : Program} {l : Launch} {e : Env} {s : State} {m : MethodId} {args : Array Value} {below : List Frame} {meth : Method} {c : Code} {A : Nat → Prop} {D : va_G} {cA : ClassId} {h : Nat} {ad : Nat → Nat} {τ : SM} (X : hc p s m args meth c RX12 cX12_laysBack 3 none) (hK : kM D cA A s) (hA : ∀ q, s.heap.size ≤ q → A q)  : ∀ (n : Nat) (x1 : Int32) (x2 : Int32) (σ : SM), fm_laysBack_l2 n x1 x2 σ = some τ → gg p l e rm_laysBack s m args below meth c (wM h ad cA) D vwCl A 3 (QV below args s (wM h ad cA) D vwCl A τ) 2 [(0, .ref h), (1, .int x1), (2, .int x2)] [] σ := by
  intro n
  induction n with
  | zero =>
    intro x1 x2 σ hf
    cases (show (none : Option SM) = some τ from hf)
  | succ n ih =>
    intro x1 x2 σ hf
    unfold fm_laysBack_l2 at hf
    refine gr_iload_n X dX12_laysBack_2 rfl 2 rfl ?_
    refine gr_bipush (v := 46) X dX12_laysBack_3 (by decide) ?_
    refine gr_icmp_ge X 31 dX12_laysBack_5 (by decide) (fun hc_ => ?_) (fun hc_ => ?_)
    · replace hf := ot_t hf hc_
      exact gr_vret X dX12_laysBack_31 (Option.some.inj hf)
    · replace hf := ot_f hf hc_
      refine gr_aload_n X dX12_laysBack_8 rfl 0 rfl ?_
      refine gM_get_0 X hK dX12_laysBack_9 ?_
      refine gr_iload_n X dX12_laysBack_12 rfl 2 rfl ?_
      refine gr_aload_n X dX12_laysBack_13 rfl 0 rfl ?_
      refine gM_get_3 X hK dX12_laysBack_14 ?_
      refine gr_bipush (v := 46) X dX12_laysBack_17 (by decide) ?_
      refine gr_iload_n X dX12_laysBack_19 rfl 1 rfl ?_
      refine gr_imul X dX12_laysBack_20 ?_
      refine gr_iload_n X dX12_laysBack_21 rfl 2 rfl ?_
      refine gr_iadd X dX12_laysBack_22 ?_
      have hi_ := oc_1 hf
      replace hf := oc_2 hf
      refine gM_ald_3 X hK (Int32.toNatClampNeg (((46 : Int32) * x1) + x2)) hi_ rfl dX12_laysBack_23 ?_
      have hi_ := oc_1 hf
      replace hf := oc_2 hf
      refine gM_ast_0 X hK (Int32.toNatClampNeg x2) hi_ rfl dX12_laysBack_24 ?_
      refine gM_gen (fun σ1 e_σ1 => ?_)
      replace hf := ot_l hf e_σ1
      refine gr_iinc (k := 2) (v := 1) (L2 := [(2, .int (x2 + (1 : Int32))), (0, .ref h), (1, .int x1)]) X dX12_laysBack_25 rfl (by decide) (by decide) rfl ?_
      refine gr_goto X 2 dX12_laysBack_28 (by decide) ?_
      refine gr_sub [1, 2, 0] rfl ?_
      exact ih _ _ _ hf
set_option maxHeartbeats 4000000 in
set_option maxRecDepth 100000 in
theorem xm_laysBack {l : Launch} {D : va_G} {cA : ClassId} {h : Nat} {ad : Nat → Nat} {σ : SM} {x1 : Int32} {τ : SM} (hf : fm_laysBack x1 σ = some τ) : ctV l (wM h ad cA) D vwCl (kM D cA) yX12_laysBack cX12_laysBack 3 rm_laysBack [.ref h, .int x1] σ τ := by
  refine ct_V RX12 (by decide +kernel) rfl (Nat.le_of_ble_eq_true rfl) ?_
  intro p e s m args below meth c A X hK hA
  refine gr_eqL (L2 := [(0, .ref h), (1, .int x1)]) rfl ?_
  unfold fm_laysBack at hf
  refine gr_iconst (v := 0) X dX12_laysBack_0 (by decide) ?_
  refine gr_istore_n (L2 := [(2, .int (0 : Int32)), (0, .ref h), (1, .int x1)]) X dX12_laysBack_1 rfl (by decide) rfl ?_
  refine gr_sub [1, 2, 0] rfl ?_
  refine wm_laysBack_l2 X hK hA  hFU _ _ _ hf
abbrev rm_isOver : Room := { frames := 0, cells := 0, slots := 0, locals := 0 }
def fm_isOver (σ : SM) : Option Int32 := (if (σ 0 1) < (σ 0 2) then (some (0 : Int32)) else (some (1 : Int32)))
set_option maxHeartbeats 4000000 in
set_option maxRecDepth 100000 in
theorem xm_isOver {l : Launch} {D : va_G} {cA : ClassId} {h : Nat} {ad : Nat → Nat} {σ : SM} {r : Int32} (hf : fm_isOver σ = some r) : ctI l (wM h ad cA) D vwCl (kM D cA) yX12_isOver cX12_isOver 1 .boolean rm_isOver [.ref h] σ r σ := by
  refine ct_I RX12 (by decide +kernel) rfl (Nat.le_of_ble_eq_true rfl) ?_
  intro p e s m args below meth c A X hK hA
  refine gr_eqL (L2 := [(0, .ref h)]) rfl ?_
  unfold fm_isOver at hf
  refine gr_aload_n X dX12_isOver_0 rfl 0 rfl ?_
  refine gM_get_0 X hK dX12_isOver_1 ?_
  refine gr_iconst (v := 1) X dX12_isOver_4 (by decide) ?_
  refine gM_ald_0 X hK 1 (by decide) (by decide) dX12_isOver_5 ?_
  refine gr_aload_n X dX12_isOver_6 rfl 0 rfl ?_
  refine gM_get_0 X hK dX12_isOver_7 ?_
  refine gr_iconst (v := 2) X dX12_isOver_10 (by decide) ?_
  refine gM_ald_0 X hK 2 (by decide) (by decide) dX12_isOver_11 ?_
  refine gr_icmp_lt X 19 dX12_isOver_12 (by decide) (fun hc_ => ?_) (fun hc_ => ?_)
  · replace hf := ot_t hf hc_
    refine gr_iconst (v := 0) X dX12_isOver_19 (by decide) ?_
    exact gr_zret X dX12_isOver_20 (by decide) (Option.some.inj hf) rfl
  · replace hf := ot_f hf hc_
    refine gr_iconst (v := 1) X dX12_isOver_15 (by decide) ?_
    refine gr_goto X 20 dX12_isOver_16 (by decide) ?_
    exact gr_zret X dX12_isOver_20 (by decide) (Option.some.inj hf) rfl
abbrev rm_size : Room := { frames := 0, cells := 0, slots := 0, locals := 0 }
def fm_size_l4 : Nat → Int32 → Int32 → Option Int32
  | 0, _, _ => none
  | n + 1, x1, x2 => (if x2 = 0 then (some x1) else (hl (x2 &&& (x2 - (1 : Int32))) fun v1 => ((fm_size_l4 n) (x1 + (1 : Int32)) v1)))
def fm_size (x0 : Int32) : Option Int32 := (fm_size_l4 hFU (0 : Int32) x0)
set_option maxHeartbeats 4000000 in
set_option maxRecDepth 100000 in
theorem wm_size_l4 {p : Program} {l : Launch} {e : Env} {s : State} {m : MethodId} {args : Array Value} {below : List Frame} {meth : Method} {c : Code} {A : Nat → Prop} {D : va_G} {cA : ClassId} {h : Nat} {ad : Nat → Nat} {r : Int32} {σ : SM} (X : hc p s m args meth c RX12 cX12_size 3 (some .int)) (hK : kM D cA A s) (hA : ∀ q, s.heap.size ≤ q → A q)  : ∀ (n : Nat) (x1 : Int32) (x2 : Int32), fm_size_l4 n x1 x2 = some r → gg p l e rm_size s m args below meth c (wM h ad cA) D vwCl A 3 (QI below args s (wM h ad cA) D vwCl A r σ) 4 [(1, .int x1), (2, .int x2)] [] σ := by
  intro n
  induction n with
  | zero =>
    intro x1 x2 hf
    cases (show (none : Option Int32) = some r from hf)
  | succ n ih =>
    intro x1 x2 hf
    unfold fm_size_l4 at hf
    refine gr_iload_n X dX12_size_4 rfl 1 rfl ?_
    refine gr_if_eq X 20 dX12_size_5 (by decide) (fun hc_ => ?_) (fun hc_ => ?_)
    · replace hf := ot_t hf hc_
      refine gr_iload_n X dX12_size_20 rfl 0 rfl ?_
      exact gr_iret X dX12_size_21 (Option.some.inj hf) rfl
    · replace hf := ot_f hf hc_
      refine gr_iinc (k := 0) (v := 1) (L2 := [(1, .int (x1 + (1 : Int32))), (2, .int x2)]) X dX12_size_8 rfl (by decide) (by decide) rfl ?_
      refine gr_iload_n X dX12_size_11 rfl 1 rfl ?_
      refine gr_iload_n X dX12_size_12 rfl 1 rfl ?_
      refine gr_iconst (v := 1) X dX12_size_13 (by decide) ?_
      refine gr_isub X dX12_size_14 ?_
      refine gr_iand X dX12_size_15 ?_
      refine gM_top (fun v1 e_v1 => ?_)
      replace hf := ot_l hf e_v1
      refine gr_istore_n (L2 := [(2, .int v1), (1, .int (x1 + (1 : Int32)))]) X dX12_size_16 rfl (by decide) rfl ?_
      refine gr_goto X 4 dX12_size_17 (by decide) ?_
      refine gr_sub [1, 0] rfl ?_
      exact ih _ _ hf
set_option maxHeartbeats 4000000 in
set_option maxRecDepth 100000 in
theorem xm_size {l : Launch} {D : va_G} {cA : ClassId} {h : Nat} {ad : Nat → Nat} {σ : SM} {x0 : Int32} {r : Int32} (hf : fm_size x0 = some r) : ctI l (wM h ad cA) D vwCl (kM D cA) yX12_size cX12_size 3 .int rm_size [.int x0] σ r σ := by
  refine ct_I RX12 (by decide +kernel) rfl (Nat.le_of_ble_eq_true rfl) ?_
  intro p e s m args below meth c A X hK hA
  refine gr_eqL (L2 := [(0, .int x0)]) rfl ?_
  unfold fm_size at hf
  refine gr_iconst (v := 0) X dX12_size_0 (by decide) ?_
  refine gr_istore_n (L2 := [(1, .int (0 : Int32)), (0, .int x0)]) X dX12_size_1 rfl (by decide) rfl ?_
  refine gr_iload_n X dX12_size_2 rfl 1 rfl ?_
  refine gr_istore_n (L2 := [(2, .int x0), (1, .int (0 : Int32)), (0, .int x0)]) X dX12_size_3 rfl (by decide) rfl ?_
  refine gr_sub [1, 0] rfl ?_
  refine wm_size_l4 X hK hA  hFU _ _ hf
abbrev rm_least : Room := { frames := 0, cells := 0, slots := 0, locals := 0 }
def fm_least (x0 : Int32) (x1 : Int32) : Option Int32 := (if x1 ≤ x0 then (some x1) else (some x0))
set_option maxHeartbeats 4000000 in
set_option maxRecDepth 100000 in
theorem xm_least {l : Launch} {D : va_G} {cA : ClassId} {h : Nat} {ad : Nat → Nat} {σ : SM} {x0 : Int32} {x1 : Int32} {r : Int32} (hf : fm_least x0 x1 = some r) : ctI l (wM h ad cA) D vwCl (kM D cA) yX12_least cX12_least 2 .int rm_least [.int x0, .int x1] σ r σ := by
  refine ct_I RX12 (by decide +kernel) rfl (Nat.le_of_ble_eq_true rfl) ?_
  intro p e s m args below meth c A X hK hA
  refine gr_eqL (L2 := [(0, .int x0), (1, .int x1)]) rfl ?_
  unfold fm_least at hf
  refine gr_iload_n X dX12_least_0 rfl 0 rfl ?_
  refine gr_iload_n X dX12_least_1 rfl 1 rfl ?_
  refine gr_icmp_ge X 9 dX12_least_2 (by decide) (fun hc_ => ?_) (fun hc_ => ?_)
  · replace hf := ot_t hf hc_
    refine gr_iload_n X dX12_least_9 rfl 1 rfl ?_
    exact gr_iret X dX12_least_10 (Option.some.inj hf) rfl
  · replace hf := ot_f hf hc_
    refine gr_iload_n X dX12_least_5 rfl 0 rfl ?_
    refine gr_goto X 10 dX12_least_6 (by decide) ?_
    exact gr_iret X dX12_least_10 (Option.some.inj hf) rfl
abbrev rm_greatest : Room := { frames := 0, cells := 0, slots := 0, locals := 0 }
def fm_greatest (x0 : Int32) (x1 : Int32) : Option Int32 := (if x0 ≤ x1 then (some x1) else (some x0))
set_option maxHeartbeats 4000000 in
set_option maxRecDepth 100000 in
theorem xm_greatest {l : Launch} {D : va_G} {cA : ClassId} {h : Nat} {ad : Nat → Nat} {σ : SM} {x0 : Int32} {x1 : Int32} {r : Int32} (hf : fm_greatest x0 x1 = some r) : ctI l (wM h ad cA) D vwCl (kM D cA) yX12_greatest cX12_greatest 2 .int rm_greatest [.int x0, .int x1] σ r σ := by
  refine ct_I RX12 (by decide +kernel) rfl (Nat.le_of_ble_eq_true rfl) ?_
  intro p e s m args below meth c A X hK hA
  refine gr_eqL (L2 := [(0, .int x0), (1, .int x1)]) rfl ?_
  unfold fm_greatest at hf
  refine gr_iload_n X dX12_greatest_0 rfl 0 rfl ?_
  refine gr_iload_n X dX12_greatest_1 rfl 1 rfl ?_
  refine gr_icmp_le X 9 dX12_greatest_2 (by decide) (fun hc_ => ?_) (fun hc_ => ?_)
  · replace hf := ot_t hf hc_
    refine gr_iload_n X dX12_greatest_9 rfl 1 rfl ?_
    exact gr_iret X dX12_greatest_10 (Option.some.inj hf) rfl
  · replace hf := ot_f hf hc_
    refine gr_iload_n X dX12_greatest_5 rfl 0 rfl ?_
    refine gr_goto X 10 dX12_greatest_6 (by decide) ?_
    exact gr_iret X dX12_greatest_10 (Option.some.inj hf) rfl
abbrev rm_within : Room := { frames := 0, cells := 0, slots := 0, locals := 0 }
def fm_within (x0 : Int32) : Option Int32 := (if 0 ≤ x0 then (if x0 ≤ (9 : Int32) then (some x0) else (some (9 : Int32))) else (some (0 : Int32)))
set_option maxHeartbeats 4000000 in
set_option maxRecDepth 100000 in
theorem xm_within {l : Launch} {D : va_G} {cA : ClassId} {h : Nat} {ad : Nat → Nat} {σ : SM} {x0 : Int32} {r : Int32} (hf : fm_within x0 = some r) : ctI l (wM h ad cA) D vwCl (kM D cA) yX12_within cX12_within 1 .int rm_within [.int x0] σ r σ := by
  refine ct_I RX12 (by decide +kernel) rfl (Nat.le_of_ble_eq_true rfl) ?_
  intro p e s m args below meth c A X hK hA
  refine gr_eqL (L2 := [(0, .int x0)]) rfl ?_
  unfold fm_within at hf
  refine gr_iload_n X dX12_within_0 rfl 0 rfl ?_
  refine gr_if_ge X 8 dX12_within_1 (by decide) (fun hc_ => ?_) (fun hc_ => ?_)
  · replace hf := ot_t hf hc_
    refine gr_iload_n X dX12_within_8 rfl 0 rfl ?_
    refine gr_bipush (v := 9) X dX12_within_9 (by decide) ?_
    refine gr_icmp_le X 19 dX12_within_11 (by decide) (fun hc_ => ?_) (fun hc_ => ?_)
    · replace hf := ot_t hf hc_
      refine gr_iload_n X dX12_within_19 rfl 0 rfl ?_
      exact gr_iret X dX12_within_20 (Option.some.inj hf) rfl
    · replace hf := ot_f hf hc_
      refine gr_bipush (v := 9) X dX12_within_14 (by decide) ?_
      refine gr_goto X 20 dX12_within_16 (by decide) ?_
      exact gr_iret X dX12_within_20 (Option.some.inj hf) rfl
  · replace hf := ot_f hf hc_
    refine gr_iconst (v := 0) X dX12_within_4 (by decide) ?_
    refine gr_goto X 20 dX12_within_5 (by decide) ?_
    exact gr_iret X dX12_within_20 (Option.some.inj hf) rfl
abbrev rm_apart : Room := { frames := 0, cells := 0, slots := 0, locals := 0 }
def fm_apart (x0 : Int32) (x1 : Int32) : Option Int32 := (if x1 ≤ x0 then (some (x0 - x1)) else (some (x1 - x0)))
set_option maxHeartbeats 4000000 in
set_option maxRecDepth 100000 in
theorem xm_apart {l : Launch} {D : va_G} {cA : ClassId} {h : Nat} {ad : Nat → Nat} {σ : SM} {x0 : Int32} {x1 : Int32} {r : Int32} (hf : fm_apart x0 x1 = some r) : ctI l (wM h ad cA) D vwCl (kM D cA) yX12_apart cX12_apart 2 .int rm_apart [.int x0, .int x1] σ r σ := by
  refine ct_I RX12 (by decide +kernel) rfl (Nat.le_of_ble_eq_true rfl) ?_
  intro p e s m args below meth c A X hK hA
  refine gr_eqL (L2 := [(0, .int x0), (1, .int x1)]) rfl ?_
  unfold fm_apart at hf
  refine gr_iload_n X dX12_apart_0 rfl 0 rfl ?_
  refine gr_iload_n X dX12_apart_1 rfl 1 rfl ?_
  refine gr_icmp_ge X 11 dX12_apart_2 (by decide) (fun hc_ => ?_) (fun hc_ => ?_)
  · replace hf := ot_t hf hc_
    refine gr_iload_n X dX12_apart_11 rfl 0 rfl ?_
    refine gr_iload_n X dX12_apart_12 rfl 1 rfl ?_
    refine gr_isub X dX12_apart_13 ?_
    exact gr_iret X dX12_apart_14 (Option.some.inj hf) rfl
  · replace hf := ot_f hf hc_
    refine gr_iload_n X dX12_apart_5 rfl 1 rfl ?_
    refine gr_iload_n X dX12_apart_6 rfl 0 rfl ?_
    refine gr_isub X dX12_apart_7 ?_
    refine gr_goto X 14 dX12_apart_8 (by decide) ?_
    exact gr_iret X dX12_apart_14 (Option.some.inj hf) rfl
abbrev rm_guild : Room := { frames := 1, cells := 0, slots := 0, locals := 25 }
def fm_guild (x1 : Int32) (x2 : Int32) (x3 : Int32) (x4 : Int32) (σ : SM) : Option (Int32 × SM) := (Option.bind (fm_isIn (Int32.toInt64 x1) (1 : Int64) (5 : Int64)) fun q1 => (if q1 = 0 then (some ((-1 : Int32), σ)) else (Option.bind (fm_isIn (Int32.toInt64 x2) (0 : Int64) (60 : Int64)) fun q2 => (if q2 = 0 then (some ((-1 : Int32), σ)) else (Option.bind (fm_isIn (Int32.toInt64 x3) (0 : Int64) (9 : Int64)) fun q3 => (if q3 = 0 then (some ((-1 : Int32), σ)) else (Option.bind (fm_isStreet x4) fun q4 => (if ¬ q4 = 0 then (if ¬ (σ 0 0) = (6 : Int32) then (hl ((10 : Int32) + ((6 : Int32) * (σ 0 0))) fun v5 => (oc (hin v5 580) (hl (sf σ 0 (upd (σ 0) (Int32.toNatClampNeg v5) x1)) fun σ6 => (oc (hin (v5 + (1 : Int32)) 580) (hl (sf σ6 0 (upd (σ6 0) (Int32.toNatClampNeg (v5 + (1 : Int32))) x2)) fun σ7 => (oc (hin (v5 + (2 : Int32)) 580) (hl (sf σ7 0 (upd (σ7 0) (Int32.toNatClampNeg (v5 + (2 : Int32))) x3)) fun σ8 => (oc (hin (v5 + (3 : Int32)) 580) (hl (sf σ8 0 (upd (σ8 0) (Int32.toNatClampNeg (v5 + (3 : Int32))) x4)) fun σ9 => (oc (hin (v5 + (4 : Int32)) 580) (hl (sf σ9 0 (upd (σ9 0) (Int32.toNatClampNeg (v5 + (4 : Int32))) (1 : Int32))) fun σ10 => (oc (hin (v5 + (5 : Int32)) 580) (hl (sf σ10 0 (upd (σ10 0) (Int32.toNatClampNeg (v5 + (5 : Int32))) (0 : Int32))) fun σ11 => (hl (sf σ11 0 (upd (σ11 0) 0 ((σ11 0 0) + (1 : Int32)))) fun σ12 => (some (((σ12 0 0) - (1 : Int32)), σ12)))))))))))))))) else (some ((-2 : Int32), σ))) else (some ((-1 : Int32), σ))))))))))
set_option maxHeartbeats 4000000 in
set_option maxRecDepth 100000 in
theorem xm_guild {l : Launch} {D : va_G} {cA : ClassId} {h : Nat} {ad : Nat → Nat} {σ : SM} {x1 : Int32} {x2 : Int32} {x3 : Int32} {x4 : Int32} {r : Int32} {τ : SM} (hf : fm_guild x1 x2 x3 x4 σ = some (r, τ)) : ctI l (wM h ad cA) D vwCl (kM D cA) yX12_guild cX12_guild 6 .int rm_guild [.ref h, .int x1, .int x2, .int x3, .int x4] σ r τ := by
  refine ct_I RX12 (by decide +kernel) rfl (Nat.le_of_ble_eq_true rfl) ?_
  intro p e s m args below meth c A X hK hA
  refine gr_eqL (L2 := [(0, .ref h), (1, .int x1), (2, .int x2), (3, .int x3), (4, .int x4)]) rfl ?_
  unfold fm_guild at hf
  refine gr_iload_n X dX12_guild_0 rfl 1 rfl ?_
  refine gr_i2l X dX12_guild_1 ?_
  refine gr_lconst (v := 1) X dX12_guild_2 (by decide) ?_
  refine gr_ldc2_w X ck12_61 dX12_guild_3 ?_
  obtain ⟨q1, hq_, hf⟩ := ot_b hf
  refine gc_Si (rest := []) X kM_ok hK hA cw12_isIn (xm_isIn hq_) rfl ⟨rfl, rfl, Nat.le_of_ble_eq_true rfl, Nat.le_of_ble_eq_true rfl⟩ rfl (Nat.le_of_ble_eq_true rfl) dX12_guild_6 ?_
  refine gr_if_eq X 44 dX12_guild_9 (by decide) (fun hc_ => ?_) (fun hc_ => ?_)
  · replace hf := ot_t hf hc_
    refine gr_iconst (v := -1) X dX12_guild_44 (by decide) ?_
    exact gr_iret X dX12_guild_45 (Prod.mk.inj (Option.some.inj hf)).1 (Prod.mk.inj (Option.some.inj hf)).2
  · replace hf := ot_f hf hc_
    refine gr_iload_n X dX12_guild_12 rfl 2 rfl ?_
    refine gr_i2l X dX12_guild_13 ?_
    refine gr_lconst (v := 0) X dX12_guild_14 (by decide) ?_
    refine gr_ldc2_w X ck12_67 dX12_guild_15 ?_
    obtain ⟨q2, hq_, hf⟩ := ot_b hf
    refine gc_Si (rest := []) X kM_ok hK hA cw12_isIn (xm_isIn hq_) rfl ⟨rfl, rfl, Nat.le_of_ble_eq_true rfl, Nat.le_of_ble_eq_true rfl⟩ rfl (Nat.le_of_ble_eq_true rfl) dX12_guild_18 ?_
    refine gr_if_eq X 44 dX12_guild_21 (by decide) (fun hc_ => ?_) (fun hc_ => ?_)
    · replace hf := ot_t hf hc_
      refine gr_iconst (v := -1) X dX12_guild_44 (by decide) ?_
      exact gr_iret X dX12_guild_45 (Prod.mk.inj (Option.some.inj hf)).1 (Prod.mk.inj (Option.some.inj hf)).2
    · replace hf := ot_f hf hc_
      refine gr_iload_n X dX12_guild_24 rfl 3 rfl ?_
      refine gr_i2l X dX12_guild_25 ?_
      refine gr_lconst (v := 0) X dX12_guild_26 (by decide) ?_
      refine gr_ldc2_w X ck12_69 dX12_guild_27 ?_
      obtain ⟨q3, hq_, hf⟩ := ot_b hf
      refine gc_Si (rest := []) X kM_ok hK hA cw12_isIn (xm_isIn hq_) rfl ⟨rfl, rfl, Nat.le_of_ble_eq_true rfl, Nat.le_of_ble_eq_true rfl⟩ rfl (Nat.le_of_ble_eq_true rfl) dX12_guild_30 ?_
      refine gr_if_eq X 44 dX12_guild_33 (by decide) (fun hc_ => ?_) (fun hc_ => ?_)
      · replace hf := ot_t hf hc_
        refine gr_iconst (v := -1) X dX12_guild_44 (by decide) ?_
        exact gr_iret X dX12_guild_45 (Prod.mk.inj (Option.some.inj hf)).1 (Prod.mk.inj (Option.some.inj hf)).2
      · replace hf := ot_f hf hc_
        refine gr_iload X dX12_guild_36 4 rfl ?_
        obtain ⟨q4, hq_, hf⟩ := ot_b hf
        refine gc_Si (rest := []) X kM_ok hK hA cw12_isStreet (xm_isStreet hq_) rfl ⟨rfl, rfl, Nat.le_of_ble_eq_true rfl, Nat.le_of_ble_eq_true rfl⟩ rfl (Nat.le_of_ble_eq_true rfl) dX12_guild_38 ?_
        refine gr_if_ne X 46 dX12_guild_41 (by decide) (fun hc_ => ?_) (fun hc_ => ?_)
        · replace hf := ot_t hf hc_
          refine gr_aload_n X dX12_guild_46 rfl 0 rfl ?_
          refine gM_get_0 X hK dX12_guild_47 ?_
          refine gr_iconst (v := 0) X dX12_guild_50 (by decide) ?_
          refine gM_ald_0 X hK 0 (by decide) (by decide) dX12_guild_51 ?_
          refine gr_bipush (v := 6) X dX12_guild_52 (by decide) ?_
          refine gr_icmp_ne X 60 dX12_guild_54 (by decide) (fun hc_ => ?_) (fun hc_ => ?_)
          · replace hf := ot_t hf hc_
            refine gr_bipush (v := 10) X dX12_guild_60 (by decide) ?_
            refine gr_bipush (v := 6) X dX12_guild_62 (by decide) ?_
            refine gr_aload_n X dX12_guild_64 rfl 0 rfl ?_
            refine gM_get_0 X hK dX12_guild_65 ?_
            refine gr_iconst (v := 0) X dX12_guild_68 (by decide) ?_
            refine gM_ald_0 X hK 0 (by decide) (by decide) dX12_guild_69 ?_
            refine gr_imul X dX12_guild_70 ?_
            refine gr_iadd X dX12_guild_71 ?_
            refine gM_top (fun v5 e_v5 => ?_)
            replace hf := ot_l hf e_v5
            refine gr_istore (L2 := [(5, .int v5), (0, .ref h), (1, .int x1), (2, .int x2), (3, .int x3), (4, .int x4)]) X dX12_guild_72 (by decide) rfl ?_
            refine gr_aload_n X dX12_guild_74 rfl 1 rfl ?_
            refine gM_get_0 X hK dX12_guild_75 ?_
            refine gr_iload X dX12_guild_78 0 rfl ?_
            refine gr_iload_n X dX12_guild_80 rfl 2 rfl ?_
            have hi_ := oc_1 hf
            replace hf := oc_2 hf
            refine gM_ast_0 X hK (Int32.toNatClampNeg v5) hi_ rfl dX12_guild_81 ?_
            refine gM_gen (fun σ6 e_σ6 => ?_)
            replace hf := ot_l hf e_σ6
            refine gr_aload_n X dX12_guild_82 rfl 1 rfl ?_
            refine gM_get_0 X hK dX12_guild_83 ?_
            refine gr_iload X dX12_guild_86 0 rfl ?_
            refine gr_iconst (v := 1) X dX12_guild_88 (by decide) ?_
            refine gr_iadd X dX12_guild_89 ?_
            refine gr_iload_n X dX12_guild_90 rfl 3 rfl ?_
            have hi_ := oc_1 hf
            replace hf := oc_2 hf
            refine gM_ast_0 X hK (Int32.toNatClampNeg (v5 + (1 : Int32))) hi_ rfl dX12_guild_91 ?_
            refine gM_gen (fun σ7 e_σ7 => ?_)
            replace hf := ot_l hf e_σ7
            refine gr_aload_n X dX12_guild_92 rfl 1 rfl ?_
            refine gM_get_0 X hK dX12_guild_93 ?_
            refine gr_iload X dX12_guild_96 0 rfl ?_
            refine gr_iconst (v := 2) X dX12_guild_98 (by decide) ?_
            refine gr_iadd X dX12_guild_99 ?_
            refine gr_iload_n X dX12_guild_100 rfl 4 rfl ?_
            have hi_ := oc_1 hf
            replace hf := oc_2 hf
            refine gM_ast_0 X hK (Int32.toNatClampNeg (v5 + (2 : Int32))) hi_ rfl dX12_guild_101 ?_
            refine gM_gen (fun σ8 e_σ8 => ?_)
            replace hf := ot_l hf e_σ8
            refine gr_aload_n X dX12_guild_102 rfl 1 rfl ?_
            refine gM_get_0 X hK dX12_guild_103 ?_
            refine gr_iload X dX12_guild_106 0 rfl ?_
            refine gr_iconst (v := 3) X dX12_guild_108 (by decide) ?_
            refine gr_iadd X dX12_guild_109 ?_
            refine gr_iload X dX12_guild_110 5 rfl ?_
            have hi_ := oc_1 hf
            replace hf := oc_2 hf
            refine gM_ast_0 X hK (Int32.toNatClampNeg (v5 + (3 : Int32))) hi_ rfl dX12_guild_112 ?_
            refine gM_gen (fun σ9 e_σ9 => ?_)
            replace hf := ot_l hf e_σ9
            refine gr_aload_n X dX12_guild_113 rfl 1 rfl ?_
            refine gM_get_0 X hK dX12_guild_114 ?_
            refine gr_iload X dX12_guild_117 0 rfl ?_
            refine gr_iconst (v := 4) X dX12_guild_119 (by decide) ?_
            refine gr_iadd X dX12_guild_120 ?_
            refine gr_iconst (v := 1) X dX12_guild_121 (by decide) ?_
            have hi_ := oc_1 hf
            replace hf := oc_2 hf
            refine gM_ast_0 X hK (Int32.toNatClampNeg (v5 + (4 : Int32))) hi_ rfl dX12_guild_122 ?_
            refine gM_gen (fun σ10 e_σ10 => ?_)
            replace hf := ot_l hf e_σ10
            refine gr_aload_n X dX12_guild_123 rfl 1 rfl ?_
            refine gM_get_0 X hK dX12_guild_124 ?_
            refine gr_iload X dX12_guild_127 0 rfl ?_
            refine gr_iconst (v := 5) X dX12_guild_129 (by decide) ?_
            refine gr_iadd X dX12_guild_130 ?_
            refine gr_iconst (v := 0) X dX12_guild_131 (by decide) ?_
            have hi_ := oc_1 hf
            replace hf := oc_2 hf
            refine gM_ast_0 X hK (Int32.toNatClampNeg (v5 + (5 : Int32))) hi_ rfl dX12_guild_132 ?_
            refine gM_gen (fun σ11 e_σ11 => ?_)
            replace hf := ot_l hf e_σ11
            refine gr_aload_n X dX12_guild_133 rfl 1 rfl ?_
            refine gM_get_0 X hK dX12_guild_134 ?_
            refine gr_iconst (v := 0) X dX12_guild_137 (by decide) ?_
            refine gr_dup2 X dX12_guild_138 rfl rfl ?_
            refine gM_ald_0 X hK 0 (by decide) (by decide) dX12_guild_139 ?_
            refine gr_iconst (v := 1) X dX12_guild_140 (by decide) ?_
            refine gr_iadd X dX12_guild_141 ?_
            refine gM_ast_0 X hK 0 (by decide) (by decide) dX12_guild_142 ?_
            refine gM_gen (fun σ12 e_σ12 => ?_)
            replace hf := ot_l hf e_σ12
            refine gr_aload_n X dX12_guild_143 rfl 1 rfl ?_
            refine gM_get_0 X hK dX12_guild_144 ?_
            refine gr_iconst (v := 0) X dX12_guild_147 (by decide) ?_
            refine gM_ald_0 X hK 0 (by decide) (by decide) dX12_guild_148 ?_
            refine gr_iconst (v := 1) X dX12_guild_149 (by decide) ?_
            refine gr_isub X dX12_guild_150 ?_
            exact gr_iret X dX12_guild_151 (Prod.mk.inj (Option.some.inj hf)).1 (Prod.mk.inj (Option.some.inj hf)).2
          · replace hf := ot_f hf hc_
            refine gr_bipush (v := -2) X dX12_guild_57 (by decide) ?_
            exact gr_iret X dX12_guild_59 (Prod.mk.inj (Option.some.inj hf)).1 (Prod.mk.inj (Option.some.inj hf)).2
        · replace hf := ot_f hf hc_
          refine gr_iconst (v := -1) X dX12_guild_44 (by decide) ?_
          exact gr_iret X dX12_guild_45 (Prod.mk.inj (Option.some.inj hf)).1 (Prod.mk.inj (Option.some.inj hf)).2
abbrev rm_cheersBy : Room := { frames := 1, cells := 0, slots := 0, locals := 21 }
def fm_cheersBy (x0 : Int32) (x1 : Int32) (x2 : Int32) : Option Int32 := (hl (x1 / (3 : Int32)) fun v1 => (if x0 = 1 then (some ((2 : Int32) * v1)) else (if x0 = 2 then (some (v1 - (3 : Int32))) else (if x0 = 3 then (if ¬ (hrem x2 (2 : Int32)) = 0 then (some (v1 - (3 : Int32))) else (some (v1 + (1 : Int32)))) else (if x0 = 4 then (Option.bind (fm_least (2 : Int32) (v1 + (1 : Int32))) fun q2 => (some q2)) else (if ¬ (hrem x2 (3 : Int32)) = (1 : Int32) then (Option.bind (fm_least (2 : Int32) (v1 + (1 : Int32))) fun q3 => (some q3)) else (some (0 : Int32))))))))
set_option maxHeartbeats 4000000 in
set_option maxRecDepth 100000 in
theorem xm_cheersBy {l : Launch} {D : va_G} {cA : ClassId} {h : Nat} {ad : Nat → Nat} {σ : SM} {x0 : Int32} {x1 : Int32} {x2 : Int32} {r : Int32} (hf : fm_cheersBy x0 x1 x2 = some r) : ctI l (wM h ad cA) D vwCl (kM D cA) yX12_cheersBy cX12_cheersBy 4 .int rm_cheersBy [.int x0, .int x1, .int x2] σ r σ := by
  refine ct_I RX12 (by decide +kernel) rfl (Nat.le_of_ble_eq_true rfl) ?_
  intro p e s m args below meth c A X hK hA
  refine gr_eqL (L2 := [(0, .int x0), (1, .int x1), (2, .int x2)]) rfl ?_
  unfold fm_cheersBy at hf
  refine gr_iload_n X dX12_cheersBy_0 rfl 1 rfl ?_
  refine gr_iconst (v := 3) X dX12_cheersBy_1 (by decide) ?_
  refine gr_idiv X dX12_cheersBy_2 (by decide) ?_
  refine gM_top (fun v1 e_v1 => ?_)
  replace hf := ot_l hf e_v1
  refine gr_istore_n (L2 := [(3, .int v1), (0, .int x0), (1, .int x1), (2, .int x2)]) X dX12_cheersBy_3 rfl (by decide) rfl ?_
  refine gr_iload_n X dX12_cheersBy_4 rfl 1 rfl ?_
  by_cases hs0 : x0 = 1
  · replace hf := ot_t hf hs0
    refine gr_tin X (1) 36 dX12_cheersBy_5 (by rw [hs0]; decide) (by decide) (by decide) rfl (by decide) ?_
    refine gr_iconst (v := 2) X dX12_cheersBy_36 (by decide) ?_
    refine gr_iload_n X dX12_cheersBy_37 rfl 0 rfl ?_
    refine gr_imul X dX12_cheersBy_38 ?_
    exact gr_iret X dX12_cheersBy_39 (Option.some.inj hf) rfl
  replace hf := ot_f hf hs0
  by_cases hs1 : x0 = 2
  · replace hf := ot_t hf hs1
    refine gr_tin X (2) 40 dX12_cheersBy_5 (by rw [hs1]; decide) (by decide) (by decide) rfl (by decide) ?_
    refine gr_iload_n X dX12_cheersBy_40 rfl 0 rfl ?_
    refine gr_iconst (v := 3) X dX12_cheersBy_41 (by decide) ?_
    refine gr_isub X dX12_cheersBy_42 ?_
    exact gr_iret X dX12_cheersBy_43 (Option.some.inj hf) rfl
  replace hf := ot_f hf hs1
  by_cases hs2 : x0 = 3
  · replace hf := ot_t hf hs2
    refine gr_tin X (3) 44 dX12_cheersBy_5 (by rw [hs2]; decide) (by decide) (by decide) rfl (by decide) ?_
    refine gr_iload_n X dX12_cheersBy_44 rfl 3 rfl ?_
    refine gr_iconst (v := 2) X dX12_cheersBy_45 (by decide) ?_
    refine gr_irem X dX12_cheersBy_46 (by decide) ?_
    refine gr_if_ne X 56 dX12_cheersBy_47 (by decide) (fun hc_ => ?_) (fun hc_ => ?_)
    · replace hf := ot_t hf hc_
      refine gr_iload_n X dX12_cheersBy_56 rfl 0 rfl ?_
      refine gr_iconst (v := 3) X dX12_cheersBy_57 (by decide) ?_
      refine gr_isub X dX12_cheersBy_58 ?_
      exact gr_iret X dX12_cheersBy_59 (Option.some.inj hf) rfl
    · replace hf := ot_f hf hc_
      refine gr_iload_n X dX12_cheersBy_50 rfl 0 rfl ?_
      refine gr_iconst (v := 1) X dX12_cheersBy_51 (by decide) ?_
      refine gr_iadd X dX12_cheersBy_52 ?_
      refine gr_goto X 59 dX12_cheersBy_53 (by decide) ?_
      exact gr_iret X dX12_cheersBy_59 (Option.some.inj hf) rfl
  replace hf := ot_f hf hs2
  by_cases hs3 : x0 = 4
  · replace hf := ot_t hf hs3
    refine gr_tin X (4) 60 dX12_cheersBy_5 (by rw [hs3]; decide) (by decide) (by decide) rfl (by decide) ?_
    refine gr_iconst (v := 2) X dX12_cheersBy_60 (by decide) ?_
    refine gr_iload_n X dX12_cheersBy_61 rfl 0 rfl ?_
    refine gr_iconst (v := 1) X dX12_cheersBy_62 (by decide) ?_
    refine gr_iadd X dX12_cheersBy_63 ?_
    obtain ⟨q2, hq_, hf⟩ := ot_b hf
    refine gc_Si (rest := []) X kM_ok hK hA cw12_least (xm_least hq_) rfl ⟨rfl, rfl, Nat.le_of_ble_eq_true rfl, Nat.le_of_ble_eq_true rfl⟩ rfl (Nat.le_of_ble_eq_true rfl) dX12_cheersBy_64 ?_
    exact gr_iret X dX12_cheersBy_67 (Option.some.inj hf) rfl
  replace hf := ot_f hf hs3
  refine gr_tout X 68 dX12_cheersBy_5 (by have := lv_neT hs0 (show (1 : Int32).toInt = 1 by decide); have := lv_neT hs1 (show (2 : Int32).toInt = 2 by decide); have := lv_neT hs2 (show (3 : Int32).toInt = 3 by decide); have := lv_neT hs3 (show (4 : Int32).toInt = 4 by decide); omega) (by decide) ?_
  refine gr_iload_n X dX12_cheersBy_68 rfl 3 rfl ?_
  refine gr_iconst (v := 3) X dX12_cheersBy_69 (by decide) ?_
  refine gr_irem X dX12_cheersBy_70 (by decide) ?_
  refine gr_iconst (v := 1) X dX12_cheersBy_71 (by decide) ?_
  refine gr_icmp_ne X 79 dX12_cheersBy_72 (by decide) (fun hc_ => ?_) (fun hc_ => ?_)
  · replace hf := ot_t hf hc_
    refine gr_iconst (v := 2) X dX12_cheersBy_79 (by decide) ?_
    refine gr_iload_n X dX12_cheersBy_80 rfl 0 rfl ?_
    refine gr_iconst (v := 1) X dX12_cheersBy_81 (by decide) ?_
    refine gr_iadd X dX12_cheersBy_82 ?_
    obtain ⟨q3, hq_, hf⟩ := ot_b hf
    refine gc_Si (rest := []) X kM_ok hK hA cw12_least (xm_least hq_) rfl ⟨rfl, rfl, Nat.le_of_ble_eq_true rfl, Nat.le_of_ble_eq_true rfl⟩ rfl (Nat.le_of_ble_eq_true rfl) dX12_cheersBy_83 ?_
    exact gr_iret X dX12_cheersBy_86 (Option.some.inj hf) rfl
  · replace hf := ot_f hf hc_
    refine gr_iconst (v := 0) X dX12_cheersBy_75 (by decide) ?_
    refine gr_goto X 86 dX12_cheersBy_76 (by decide) ?_
    exact gr_iret X dX12_cheersBy_86 (Option.some.inj hf) rfl
abbrev rm_cheers : Room := { frames := 2, cells := 0, slots := 0, locals := 44 }
def fm_cheers (σ : SM) (x1 : Int32) : Option Int32 := (Option.bind (fm_its σ x1 (0 : Int32)) fun q1 => (Option.bind (fm_its σ x1 (2 : Int32)) fun q2 => (Option.bind (fm_cheersBy q1 q2 (σ 0 1)) fun q3 => (some q3))))
set_option maxHeartbeats 4000000 in
set_option maxRecDepth 100000 in
theorem xm_cheers {l : Launch} {D : va_G} {cA : ClassId} {h : Nat} {ad : Nat → Nat} {σ : SM} {x1 : Int32} {r : Int32} (hf : fm_cheers σ x1 = some r) : ctI l (wM h ad cA) D vwCl (kM D cA) yX12_cheers cX12_cheers 2 .int rm_cheers [.ref h, .int x1] σ r σ := by
  refine ct_I RX12 (by decide +kernel) rfl (Nat.le_of_ble_eq_true rfl) ?_
  intro p e s m args below meth c A X hK hA
  refine gr_eqL (L2 := [(0, .ref h), (1, .int x1)]) rfl ?_
  unfold fm_cheers at hf
  refine gr_aload_n X dX12_cheers_0 rfl 0 rfl ?_
  refine gr_iload_n X dX12_cheers_1 rfl 1 rfl ?_
  refine gr_iconst (v := 0) X dX12_cheers_2 (by decide) ?_
  obtain ⟨q1, hq_, hf⟩ := ot_b hf
  refine gc_Vi (rest := []) X kM_ok hK hA cw12_its (rvM hK) (xm_its hq_) rfl ⟨rfl, rfl, Nat.le_of_ble_eq_true rfl, Nat.le_of_ble_eq_true rfl⟩ rfl (Nat.le_of_ble_eq_true rfl) dX12_cheers_3 ?_
  refine gr_aload_n X dX12_cheers_6 rfl 0 rfl ?_
  refine gr_iload_n X dX12_cheers_7 rfl 1 rfl ?_
  refine gr_iconst (v := 2) X dX12_cheers_8 (by decide) ?_
  obtain ⟨q2, hq_, hf⟩ := ot_b hf
  refine gc_Vi (rest := [.int q1]) X kM_ok hK hA cw12_its (rvM hK) (xm_its hq_) rfl ⟨rfl, rfl, Nat.le_of_ble_eq_true rfl, Nat.le_of_ble_eq_true rfl⟩ rfl (Nat.le_of_ble_eq_true rfl) dX12_cheers_9 ?_
  refine gr_aload_n X dX12_cheers_12 rfl 0 rfl ?_
  refine gM_get_0 X hK dX12_cheers_13 ?_
  refine gr_iconst (v := 1) X dX12_cheers_16 (by decide) ?_
  refine gM_ald_0 X hK 1 (by decide) (by decide) dX12_cheers_17 ?_
  obtain ⟨q3, hq_, hf⟩ := ot_b hf
  refine gc_Si (rest := []) X kM_ok hK hA cw12_cheersBy (xm_cheersBy hq_) rfl ⟨rfl, rfl, Nat.le_of_ble_eq_true rfl, Nat.le_of_ble_eq_true rfl⟩ rfl (Nat.le_of_ble_eq_true rfl) dX12_cheers_18 ?_
  exact gr_iret X dX12_cheers_21 (Option.some.inj hf) rfl
abbrev rm_pays : Room := { frames := 1, cells := 0, slots := 0, locals := 22 }
def fm_pays (σ : SM) (x1 : Int32) : Option Int32 := (Option.bind (fm_its σ x1 (0 : Int32)) fun q1 => (if q1 = 1 then (some (6 : Int32)) else (if q1 = 2 then (some ((4 : Int32) + x1)) else (if q1 = 3 then (some ((2 : Int32) * ((4 : Int32) + x1))) else (if q1 = 4 then (some (3 : Int32)) else (some (1 : Int32)))))))
set_option maxHeartbeats 4000000 in
set_option maxRecDepth 100000 in
theorem xm_pays {l : Launch} {D : va_G} {cA : ClassId} {h : Nat} {ad : Nat → Nat} {σ : SM} {x1 : Int32} {r : Int32} (hf : fm_pays σ x1 = some r) : ctI l (wM h ad cA) D vwCl (kM D cA) yX12_pays cX12_pays 2 .int rm_pays [.ref h, .int x1] σ r σ := by
  refine ct_I RX12 (by decide +kernel) rfl (Nat.le_of_ble_eq_true rfl) ?_
  intro p e s m args below meth c A X hK hA
  refine gr_eqL (L2 := [(0, .ref h), (1, .int x1)]) rfl ?_
  unfold fm_pays at hf
  refine gr_aload_n X dX12_pays_0 rfl 0 rfl ?_
  refine gr_iload_n X dX12_pays_1 rfl 1 rfl ?_
  refine gr_iconst (v := 0) X dX12_pays_2 (by decide) ?_
  obtain ⟨q1, hq_, hf⟩ := ot_b hf
  refine gc_Vi (rest := []) X kM_ok hK hA cw12_its (rvM hK) (xm_its hq_) rfl ⟨rfl, rfl, Nat.le_of_ble_eq_true rfl, Nat.le_of_ble_eq_true rfl⟩ rfl (Nat.le_of_ble_eq_true rfl) dX12_pays_3 ?_
  by_cases hs0 : q1 = 1
  · replace hf := ot_t hf hs0
    refine gr_tin X (1) 36 dX12_pays_6 (by rw [hs0]; decide) (by decide) (by decide) rfl (by decide) ?_
    refine gr_bipush (v := 6) X dX12_pays_36 (by decide) ?_
    exact gr_iret X dX12_pays_38 (Option.some.inj hf) rfl
  replace hf := ot_f hf hs0
  by_cases hs1 : q1 = 2
  · replace hf := ot_t hf hs1
    refine gr_tin X (2) 39 dX12_pays_6 (by rw [hs1]; decide) (by decide) (by decide) rfl (by decide) ?_
    refine gr_iconst (v := 4) X dX12_pays_39 (by decide) ?_
    refine gr_iload_n X dX12_pays_40 rfl 1 rfl ?_
    refine gr_iadd X dX12_pays_41 ?_
    exact gr_iret X dX12_pays_42 (Option.some.inj hf) rfl
  replace hf := ot_f hf hs1
  by_cases hs2 : q1 = 3
  · replace hf := ot_t hf hs2
    refine gr_tin X (3) 43 dX12_pays_6 (by rw [hs2]; decide) (by decide) (by decide) rfl (by decide) ?_
    refine gr_iconst (v := 2) X dX12_pays_43 (by decide) ?_
    refine gr_iconst (v := 4) X dX12_pays_44 (by decide) ?_
    refine gr_iload_n X dX12_pays_45 rfl 1 rfl ?_
    refine gr_iadd X dX12_pays_46 ?_
    refine gr_imul X dX12_pays_47 ?_
    exact gr_iret X dX12_pays_48 (Option.some.inj hf) rfl
  replace hf := ot_f hf hs2
  by_cases hs3 : q1 = 4
  · replace hf := ot_t hf hs3
    refine gr_tin X (4) 49 dX12_pays_6 (by rw [hs3]; decide) (by decide) (by decide) rfl (by decide) ?_
    refine gr_iconst (v := 3) X dX12_pays_49 (by decide) ?_
    exact gr_iret X dX12_pays_50 (Option.some.inj hf) rfl
  replace hf := ot_f hf hs3
  refine gr_tout X 51 dX12_pays_6 (by have := lv_neT hs0 (show (1 : Int32).toInt = 1 by decide); have := lv_neT hs1 (show (2 : Int32).toInt = 2 by decide); have := lv_neT hs2 (show (3 : Int32).toInt = 3 by decide); have := lv_neT hs3 (show (4 : Int32).toInt = 4 by decide); omega) (by decide) ?_
  refine gr_iconst (v := 1) X dX12_pays_51 (by decide) ?_
  exact gr_iret X dX12_pays_52 (Option.some.inj hf) rfl
abbrev rm_place : Room := { frames := 1, cells := 0, slots := 0, locals := 22 }
def fm_place (σ : SM) (x1 : Int32) : Option Int32 := (Option.bind (fm_its σ x1 (1 : Int32)) fun q1 => (Option.bind (fm_its σ x1 (3 : Int32)) fun q2 => (oc (hin ((46 : Int32) + q2) 580) (some (q1 + (σ 0 (Int32.toNatClampNeg ((46 : Int32) + q2))))))))
set_option maxHeartbeats 4000000 in
set_option maxRecDepth 100000 in
theorem xm_place {l : Launch} {D : va_G} {cA : ClassId} {h : Nat} {ad : Nat → Nat} {σ : SM} {x1 : Int32} {r : Int32} (hf : fm_place σ x1 = some r) : ctI l (wM h ad cA) D vwCl (kM D cA) yX12_place cX12_place 2 .int rm_place [.ref h, .int x1] σ r σ := by
  refine ct_I RX12 (by decide +kernel) rfl (Nat.le_of_ble_eq_true rfl) ?_
  intro p e s m args below meth c A X hK hA
  refine gr_eqL (L2 := [(0, .ref h), (1, .int x1)]) rfl ?_
  unfold fm_place at hf
  refine gr_aload_n X dX12_place_0 rfl 0 rfl ?_
  refine gr_iload_n X dX12_place_1 rfl 1 rfl ?_
  refine gr_iconst (v := 1) X dX12_place_2 (by decide) ?_
  obtain ⟨q1, hq_, hf⟩ := ot_b hf
  refine gc_Vi (rest := []) X kM_ok hK hA cw12_its (rvM hK) (xm_its hq_) rfl ⟨rfl, rfl, Nat.le_of_ble_eq_true rfl, Nat.le_of_ble_eq_true rfl⟩ rfl (Nat.le_of_ble_eq_true rfl) dX12_place_3 ?_
  refine gr_aload_n X dX12_place_6 rfl 0 rfl ?_
  refine gM_get_0 X hK dX12_place_7 ?_
  refine gr_bipush (v := 46) X dX12_place_10 (by decide) ?_
  refine gr_aload_n X dX12_place_12 rfl 0 rfl ?_
  refine gr_iload_n X dX12_place_13 rfl 1 rfl ?_
  refine gr_iconst (v := 3) X dX12_place_14 (by decide) ?_
  obtain ⟨q2, hq_, hf⟩ := ot_b hf
  refine gc_Vi (rest := [.int (46 : Int32), .ref (ad 0), .int q1]) X kM_ok hK hA cw12_its (rvM hK) (xm_its hq_) rfl ⟨rfl, rfl, Nat.le_of_ble_eq_true rfl, Nat.le_of_ble_eq_true rfl⟩ rfl (Nat.le_of_ble_eq_true rfl) dX12_place_15 ?_
  refine gr_iadd X dX12_place_18 ?_
  have hi_ := oc_1 hf
  replace hf := oc_2 hf
  refine gM_ald_0 X hK (Int32.toNatClampNeg ((46 : Int32) + q2)) hi_ rfl dX12_place_19 ?_
  refine gr_iadd X dX12_place_20 ?_
  exact gr_iret X dX12_place_21 (Option.some.inj hf) rfl
abbrev rm_late : Room := { frames := 2, cells := 0, slots := 0, locals := 43 }
def fm_late (σ : SM) (x1 : Int32) : Option Int32 := (Option.bind (fm_place σ x1) fun q1 => (Option.bind (fm_apart (σ 0 9) q1) fun q2 => (some q2)))
set_option maxHeartbeats 4000000 in
set_option maxRecDepth 100000 in
theorem xm_late {l : Launch} {D : va_G} {cA : ClassId} {h : Nat} {ad : Nat → Nat} {σ : SM} {x1 : Int32} {r : Int32} (hf : fm_late σ x1 = some r) : ctI l (wM h ad cA) D vwCl (kM D cA) yX12_late cX12_late 2 .int rm_late [.ref h, .int x1] σ r σ := by
  refine ct_I RX12 (by decide +kernel) rfl (Nat.le_of_ble_eq_true rfl) ?_
  intro p e s m args below meth c A X hK hA
  refine gr_eqL (L2 := [(0, .ref h), (1, .int x1)]) rfl ?_
  unfold fm_late at hf
  refine gr_aload_n X dX12_late_0 rfl 0 rfl ?_
  refine gM_get_0 X hK dX12_late_1 ?_
  refine gr_bipush (v := 9) X dX12_late_4 (by decide) ?_
  refine gM_ald_0 X hK 9 (by decide) (by decide) dX12_late_6 ?_
  refine gr_aload_n X dX12_late_7 rfl 0 rfl ?_
  refine gr_iload_n X dX12_late_8 rfl 1 rfl ?_
  obtain ⟨q1, hq_, hf⟩ := ot_b hf
  refine gc_Vi (rest := [.int (σ 0 9)]) X kM_ok hK hA cw12_place (rvM hK) (xm_place hq_) rfl ⟨rfl, rfl, Nat.le_of_ble_eq_true rfl, Nat.le_of_ble_eq_true rfl⟩ rfl (Nat.le_of_ble_eq_true rfl) dX12_late_9 ?_
  obtain ⟨q2, hq_, hf⟩ := ot_b hf
  refine gc_Si (rest := []) X kM_ok hK hA cw12_apart (xm_apart hq_) rfl ⟨rfl, rfl, Nat.le_of_ble_eq_true rfl, Nat.le_of_ble_eq_true rfl⟩ rfl (Nat.le_of_ble_eq_true rfl) dX12_late_12 ?_
  exact gr_iret X dX12_late_15 (Option.some.inj hf) rfl
abbrev rm_isInTime : Room := { frames := 3, cells := 0, slots := 0, locals := 64 }
def fm_isInTime (σ : SM) (x1 : Int32) : Option Int32 := (Option.bind (fm_late σ x1) fun q1 => (Option.bind (fm_its σ x1 (3 : Int32)) fun q2 => (oc (hin ((52 : Int32) + q2) 580) (if (σ 0 (Int32.toNatClampNeg ((52 : Int32) + q2))) < q1 then (some (0 : Int32)) else (some (1 : Int32))))))
set_option maxHeartbeats 4000000 in
set_option maxRecDepth 100000 in
theorem xm_isInTime {l : Launch} {D : va_G} {cA : ClassId} {h : Nat} {ad : Nat → Nat} {σ : SM} {x1 : Int32} {r : Int32} (hf : fm_isInTime σ x1 = some r) : ctI l (wM h ad cA) D vwCl (kM D cA) yX12_isInTime cX12_isInTime 2 .boolean rm_isInTime [.ref h, .int x1] σ r σ := by
  refine ct_I RX12 (by decide +kernel) rfl (Nat.le_of_ble_eq_true rfl) ?_
  intro p e s m args below meth c A X hK hA
  refine gr_eqL (L2 := [(0, .ref h), (1, .int x1)]) rfl ?_
  unfold fm_isInTime at hf
  refine gr_aload_n X dX12_isInTime_0 rfl 0 rfl ?_
  refine gr_iload_n X dX12_isInTime_1 rfl 1 rfl ?_
  obtain ⟨q1, hq_, hf⟩ := ot_b hf
  refine gc_Vi (rest := []) X kM_ok hK hA cw12_late (rvM hK) (xm_late hq_) rfl ⟨rfl, rfl, Nat.le_of_ble_eq_true rfl, Nat.le_of_ble_eq_true rfl⟩ rfl (Nat.le_of_ble_eq_true rfl) dX12_isInTime_2 ?_
  refine gr_aload_n X dX12_isInTime_5 rfl 0 rfl ?_
  refine gM_get_0 X hK dX12_isInTime_6 ?_
  refine gr_bipush (v := 52) X dX12_isInTime_9 (by decide) ?_
  refine gr_aload_n X dX12_isInTime_11 rfl 0 rfl ?_
  refine gr_iload_n X dX12_isInTime_12 rfl 1 rfl ?_
  refine gr_iconst (v := 3) X dX12_isInTime_13 (by decide) ?_
  obtain ⟨q2, hq_, hf⟩ := ot_b hf
  refine gc_Vi (rest := [.int (52 : Int32), .ref (ad 0), .int q1]) X kM_ok hK hA cw12_its (rvM hK) (xm_its hq_) rfl ⟨rfl, rfl, Nat.le_of_ble_eq_true rfl, Nat.le_of_ble_eq_true rfl⟩ rfl (Nat.le_of_ble_eq_true rfl) dX12_isInTime_14 ?_
  refine gr_iadd X dX12_isInTime_17 ?_
  have hi_ := oc_1 hf
  replace hf := oc_2 hf
  refine gM_ald_0 X hK (Int32.toNatClampNeg ((52 : Int32) + q2)) hi_ rfl dX12_isInTime_18 ?_
  refine gr_icmp_gt X 26 dX12_isInTime_19 (by decide) (fun hc_ => ?_) (fun hc_ => ?_)
  · replace hf := ot_t hf hc_
    refine gr_iconst (v := 0) X dX12_isInTime_26 (by decide) ?_
    exact gr_zret X dX12_isInTime_27 (by decide) (Option.some.inj hf) rfl
  · replace hf := ot_f hf hc_
    refine gr_iconst (v := 1) X dX12_isInTime_22 (by decide) ?_
    refine gr_goto X 27 dX12_isInTime_23 (by decide) ?_
    exact gr_zret X dX12_isInTime_27 (by decide) (Option.some.inj hf) rfl
abbrev rm_isUnder : Room := { frames := 0, cells := 0, slots := 0, locals := 0 }
def fm_isUnder_b19 (x0 : Int32) (x1 : Int32) : Option Int32 := (if ¬ x1 = (4 : Int32) then (some (0 : Int32)) else (if ¬ x0 = (5 : Int32) then (some (0 : Int32)) else (some (1 : Int32))))
def fm_isUnder (x0 : Int32) (x1 : Int32) : Option Int32 := (if x1 = 0 then (some (1 : Int32)) else (if x0 = x1 then (some (1 : Int32)) else (if ¬ x1 = (2 : Int32) then (fm_isUnder_b19 x0 x1) else (if x0 = (3 : Int32) then (some (1 : Int32)) else (fm_isUnder_b19 x0 x1)))))
set_option maxHeartbeats 4000000 in
set_option maxRecDepth 100000 in
theorem wm_isUnder_b19 {p : Program} {l : Launch} {e : Env} {s : State} {m : MethodId} {args : Array Value} {below : List Frame} {meth : Method} {c : Code} {A : Nat → Prop} {D : va_G} {cA : ClassId} {h : Nat} {ad : Nat → Nat} {r : Int32} {σ : SM} (X : hc p s m args meth c RX12 cX12_isUnder 2 (some .boolean)) (hK : kM D cA A s) (hA : ∀ q, s.heap.size ≤ q → A q)   (x0 : Int32) (x1 : Int32) (hf : fm_isUnder_b19 x0 x1 = some r) : gg p l e rm_isUnder s m args below meth c (wM h ad cA) D vwCl A 2 (QI below args s (wM h ad cA) D vwCl A r σ) 19 [(0, .int x0), (1, .int x1)] [] σ := by
  unfold fm_isUnder_b19 at hf
  refine gr_iload_n X dX12_isUnder_19 rfl 1 rfl ?_
  refine gr_iconst (v := 4) X dX12_isUnder_20 (by decide) ?_
  refine gr_icmp_ne X 33 dX12_isUnder_21 (by decide) (fun hc_ => ?_) (fun hc_ => ?_)
  · replace hf := ot_t hf hc_
    refine gr_iconst (v := 0) X dX12_isUnder_33 (by decide) ?_
    exact gr_zret X dX12_isUnder_34 (by decide) (Option.some.inj hf) rfl
  · replace hf := ot_f hf hc_
    refine gr_iload_n X dX12_isUnder_24 rfl 0 rfl ?_
    refine gr_iconst (v := 5) X dX12_isUnder_25 (by decide) ?_
    refine gr_icmp_ne X 33 dX12_isUnder_26 (by decide) (fun hc_ => ?_) (fun hc_ => ?_)
    · replace hf := ot_t hf hc_
      refine gr_iconst (v := 0) X dX12_isUnder_33 (by decide) ?_
      exact gr_zret X dX12_isUnder_34 (by decide) (Option.some.inj hf) rfl
    · replace hf := ot_f hf hc_
      refine gr_iconst (v := 1) X dX12_isUnder_29 (by decide) ?_
      refine gr_goto X 34 dX12_isUnder_30 (by decide) ?_
      exact gr_zret X dX12_isUnder_34 (by decide) (Option.some.inj hf) rfl
set_option maxHeartbeats 4000000 in
set_option maxRecDepth 100000 in
theorem xm_isUnder {l : Launch} {D : va_G} {cA : ClassId} {h : Nat} {ad : Nat → Nat} {σ : SM} {x0 : Int32} {x1 : Int32} {r : Int32} (hf : fm_isUnder x0 x1 = some r) : ctI l (wM h ad cA) D vwCl (kM D cA) yX12_isUnder cX12_isUnder 2 .boolean rm_isUnder [.int x0, .int x1] σ r σ := by
  refine ct_I RX12 (by decide +kernel) rfl (Nat.le_of_ble_eq_true rfl) ?_
  intro p e s m args below meth c A X hK hA
  refine gr_eqL (L2 := [(0, .int x0), (1, .int x1)]) rfl ?_
  unfold fm_isUnder at hf
  refine gr_iload_n X dX12_isUnder_0 rfl 1 rfl ?_
  refine gr_if_eq X 29 dX12_isUnder_1 (by decide) (fun hc_ => ?_) (fun hc_ => ?_)
  · replace hf := ot_t hf hc_
    refine gr_iconst (v := 1) X dX12_isUnder_29 (by decide) ?_
    refine gr_goto X 34 dX12_isUnder_30 (by decide) ?_
    exact gr_zret X dX12_isUnder_34 (by decide) (Option.some.inj hf) rfl
  · replace hf := ot_f hf hc_
    refine gr_iload_n X dX12_isUnder_4 rfl 0 rfl ?_
    refine gr_iload_n X dX12_isUnder_5 rfl 1 rfl ?_
    refine gr_icmp_eq X 29 dX12_isUnder_6 (by decide) (fun hc_ => ?_) (fun hc_ => ?_)
    · replace hf := ot_t hf hc_
      refine gr_iconst (v := 1) X dX12_isUnder_29 (by decide) ?_
      refine gr_goto X 34 dX12_isUnder_30 (by decide) ?_
      exact gr_zret X dX12_isUnder_34 (by decide) (Option.some.inj hf) rfl
    · replace hf := ot_f hf hc_
      refine gr_iload_n X dX12_isUnder_9 rfl 1 rfl ?_
      refine gr_iconst (v := 2) X dX12_isUnder_10 (by decide) ?_
      refine gr_icmp_ne X 19 dX12_isUnder_11 (by decide) (fun hc_ => ?_) (fun hc_ => ?_)
      · replace hf := ot_t hf hc_
        refine gr_sub [0, 1] rfl ?_
        exact wm_isUnder_b19 X hK hA _ _ hf
      · replace hf := ot_f hf hc_
        refine gr_iload_n X dX12_isUnder_14 rfl 0 rfl ?_
        refine gr_iconst (v := 3) X dX12_isUnder_15 (by decide) ?_
        refine gr_icmp_eq X 29 dX12_isUnder_16 (by decide) (fun hc_ => ?_) (fun hc_ => ?_)
        · replace hf := ot_t hf hc_
          refine gr_iconst (v := 1) X dX12_isUnder_29 (by decide) ?_
          refine gr_goto X 34 dX12_isUnder_30 (by decide) ?_
          exact gr_zret X dX12_isUnder_34 (by decide) (Option.some.inj hf) rfl
        · replace hf := ot_f hf hc_
          refine gr_sub [0, 1] rfl ?_
          exact wm_isUnder_b19 X hK hA _ _ hf
abbrev rm_valueOf : Room := { frames := 3, cells := 0, slots := 0, locals := 64 }
def fm_valueOf (σ : SM) (x1 : Int32) (x2 : Int32) : Option Int32 := (if (x1 - (10000 : Int32)) = 0 then (some (σ 0 1)) else (if (x1 - (10000 : Int32)) = 1 then (Option.bind (fm_its σ x2 (2 : Int32)) fun q1 => (some q1)) else (if (x1 - (10000 : Int32)) = 2 then (Option.bind (fm_late σ x2) fun q2 => (some q2)) else (if (x1 - (10000 : Int32)) = 3 then (some (σ 0 8)) else (if (x1 - (10000 : Int32)) = 4 then (some x2) else (some x1))))))
set_option maxHeartbeats 4000000 in
set_option maxRecDepth 100000 in
theorem xm_valueOf {l : Launch} {D : va_G} {cA : ClassId} {h : Nat} {ad : Nat → Nat} {σ : SM} {x1 : Int32} {x2 : Int32} {r : Int32} (hf : fm_valueOf σ x1 x2 = some r) : ctI l (wM h ad cA) D vwCl (kM D cA) yX12_valueOf cX12_valueOf 3 .int rm_valueOf [.ref h, .int x1, .int x2] σ r σ := by
  refine ct_I RX12 (by decide +kernel) rfl (Nat.le_of_ble_eq_true rfl) ?_
  intro p e s m args below meth c A X hK hA
  refine gr_eqL (L2 := [(0, .ref h), (1, .int x1), (2, .int x2)]) rfl ?_
  unfold fm_valueOf at hf
  refine gr_iload_n X dX12_valueOf_0 rfl 1 rfl ?_
  refine gr_sipush (v := 10000) X dX12_valueOf_1 (by decide) ?_
  refine gr_isub X dX12_valueOf_4 ?_
  by_cases hs0 : (x1 - (10000 : Int32)) = 0
  · replace hf := ot_t hf hs0
    refine gr_tin X (0) 40 dX12_valueOf_5 (by rw [hs0]; decide) (by decide) (by decide) rfl (by decide) ?_
    refine gr_aload_n X dX12_valueOf_40 rfl 0 rfl ?_
    refine gM_get_0 X hK dX12_valueOf_41 ?_
    refine gr_iconst (v := 1) X dX12_valueOf_44 (by decide) ?_
    refine gM_ald_0 X hK 1 (by decide) (by decide) dX12_valueOf_45 ?_
    exact gr_iret X dX12_valueOf_46 (Option.some.inj hf) rfl
  replace hf := ot_f hf hs0
  by_cases hs1 : (x1 - (10000 : Int32)) = 1
  · replace hf := ot_t hf hs1
    refine gr_tin X (1) 47 dX12_valueOf_5 (by rw [hs1]; decide) (by decide) (by decide) rfl (by decide) ?_
    refine gr_aload_n X dX12_valueOf_47 rfl 0 rfl ?_
    refine gr_iload_n X dX12_valueOf_48 rfl 2 rfl ?_
    refine gr_iconst (v := 2) X dX12_valueOf_49 (by decide) ?_
    obtain ⟨q1, hq_, hf⟩ := ot_b hf
    refine gc_Vi (rest := []) X kM_ok hK hA cw12_its (rvM hK) (xm_its hq_) rfl ⟨rfl, rfl, Nat.le_of_ble_eq_true rfl, Nat.le_of_ble_eq_true rfl⟩ rfl (Nat.le_of_ble_eq_true rfl) dX12_valueOf_50 ?_
    exact gr_iret X dX12_valueOf_53 (Option.some.inj hf) rfl
  replace hf := ot_f hf hs1
  by_cases hs2 : (x1 - (10000 : Int32)) = 2
  · replace hf := ot_t hf hs2
    refine gr_tin X (2) 54 dX12_valueOf_5 (by rw [hs2]; decide) (by decide) (by decide) rfl (by decide) ?_
    refine gr_aload_n X dX12_valueOf_54 rfl 0 rfl ?_
    refine gr_iload_n X dX12_valueOf_55 rfl 2 rfl ?_
    obtain ⟨q2, hq_, hf⟩ := ot_b hf
    refine gc_Vi (rest := []) X kM_ok hK hA cw12_late (rvM hK) (xm_late hq_) rfl ⟨rfl, rfl, Nat.le_of_ble_eq_true rfl, Nat.le_of_ble_eq_true rfl⟩ rfl (Nat.le_of_ble_eq_true rfl) dX12_valueOf_56 ?_
    exact gr_iret X dX12_valueOf_59 (Option.some.inj hf) rfl
  replace hf := ot_f hf hs2
  by_cases hs3 : (x1 - (10000 : Int32)) = 3
  · replace hf := ot_t hf hs3
    refine gr_tin X (3) 60 dX12_valueOf_5 (by rw [hs3]; decide) (by decide) (by decide) rfl (by decide) ?_
    refine gr_aload_n X dX12_valueOf_60 rfl 0 rfl ?_
    refine gM_get_0 X hK dX12_valueOf_61 ?_
    refine gr_bipush (v := 8) X dX12_valueOf_64 (by decide) ?_
    refine gM_ald_0 X hK 8 (by decide) (by decide) dX12_valueOf_66 ?_
    exact gr_iret X dX12_valueOf_67 (Option.some.inj hf) rfl
  replace hf := ot_f hf hs3
  by_cases hs4 : (x1 - (10000 : Int32)) = 4
  · replace hf := ot_t hf hs4
    refine gr_tin X (4) 68 dX12_valueOf_5 (by rw [hs4]; decide) (by decide) (by decide) rfl (by decide) ?_
    refine gr_iload_n X dX12_valueOf_68 rfl 2 rfl ?_
    exact gr_iret X dX12_valueOf_69 (Option.some.inj hf) rfl
  replace hf := ot_f hf hs4
  refine gr_tout X 70 dX12_valueOf_5 (by have := lv_neT hs0 (show (0 : Int32).toInt = 0 by decide); have := lv_neT hs1 (show (1 : Int32).toInt = 1 by decide); have := lv_neT hs2 (show (2 : Int32).toInt = 2 by decide); have := lv_neT hs3 (show (3 : Int32).toInt = 3 by decide); have := lv_neT hs4 (show (4 : Int32).toInt = 4 by decide); omega) (by decide) ?_
  refine gr_iload_n X dX12_valueOf_70 rfl 1 rfl ?_
  exact gr_iret X dX12_valueOf_71 (Option.some.inj hf) rfl
