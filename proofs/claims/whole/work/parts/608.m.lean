abbrev rm_seed : Room := { frames := 1, cells := 0, slots := 0, locals := 23 }
def fm_seed (x1 : Int32) (σ : SM) : Option (Int32 × SM) := (Option.bind (fm_becomes (4 : Int32) x1 σ) fun p_ => hl p_.1 fun q1 => hl p_.2 fun σ2 => (some (q1, σ2)))
set_option maxHeartbeats 4000000 in
set_option maxRecDepth 100000 in
theorem xm_seed {l : Launch} {D : va_G} {cA : ClassId} {h : Nat} {ad : Nat → Nat} {σ : SM} {x1 : Int32} {r : Int32} {τ : SM} (hf : fm_seed x1 σ = some (r, τ)) : ctI l (wM h ad cA) D vwCl (kM D cA) yX12_seed cX12_seed 2 .int rm_seed [.ref h, .int x1] σ r τ := by
  refine ct_I RX12 (by decide +kernel) rfl (Nat.le_of_ble_eq_true rfl) ?_
  intro p e s m args below meth c A X hK hA
  refine gr_eqL (L2 := [(0, .ref h), (1, .int x1)]) rfl ?_
  unfold fm_seed at hf
  refine gr_aload_n X dX12_seed_0 rfl 0 rfl ?_
  refine gr_iconst (v := 4) X dX12_seed_1 (by decide) ?_
  refine gr_iload_n X dX12_seed_2 rfl 1 rfl ?_
  obtain ⟨⟨q1, σ2⟩, hq_, hf⟩ := ot_b hf
  replace hf := ot_l (y := q1) hf rfl
  replace hf := ot_l (y := σ2) hf rfl
  refine gc_Vi (rest := []) X kM_ok hK hA cw12_becomes (rvM hK) (xm_becomes hq_) rfl ⟨rfl, rfl, Nat.le_of_ble_eq_true rfl, Nat.le_of_ble_eq_true rfl⟩ rfl (Nat.le_of_ble_eq_true rfl) dX12_seed_3 ?_
  exact gr_iret X dX12_seed_6 (Prod.mk.inj (Option.some.inj hf)).1 (Prod.mk.inj (Option.some.inj hf)).2
abbrev rm_goesByLot : Room := { frames := 8, cells := 0, slots := 0, locals := 182 }
def fm_goesByLot (σ : SM) : Option (Int32 × SM) := (hl (sf σ 0 (upd (σ 0) 4 (((σ 0 4) * (1103515245 : Int32)) + (12345 : Int32)))) fun σ1 => (oc (decide (¬ ((σ1 0 0) + (1 : Int32)) = 0)) (Option.bind (fm_goesWith (hrem (hushr (σ1 0 4) (16 : Int32)) ((σ1 0 0) + (1 : Int32))) σ1) fun p_ => hl p_.1 fun q2 => hl p_.2 fun σ3 => (some (q2, σ3)))))
set_option maxHeartbeats 4000000 in
set_option maxRecDepth 100000 in
theorem xm_goesByLot {l : Launch} {D : va_G} {cA : ClassId} {h : Nat} {ad : Nat → Nat} {σ : SM} {r : Int32} {τ : SM} (hf : fm_goesByLot σ = some (r, τ)) : ctI l (wM h ad cA) D vwCl (kM D cA) yX12_goesByLot cX12_goesByLot 1 .int rm_goesByLot [.ref h] σ r τ := by
  refine ct_I RX12 (by decide +kernel) rfl (Nat.le_of_ble_eq_true rfl) ?_
  intro p e s m args below meth c A X hK hA
  refine gr_eqL (L2 := [(0, .ref h)]) rfl ?_
  unfold fm_goesByLot at hf
  refine gr_aload_n X dX12_goesByLot_0 rfl 0 rfl ?_
  refine gM_get_0 X hK dX12_goesByLot_1 ?_
  refine gr_iconst (v := 4) X dX12_goesByLot_4 (by decide) ?_
  refine gr_aload_n X dX12_goesByLot_5 rfl 0 rfl ?_
  refine gM_get_0 X hK dX12_goesByLot_6 ?_
  refine gr_iconst (v := 4) X dX12_goesByLot_9 (by decide) ?_
  refine gM_ald_0 X hK 4 (by decide) (by decide) dX12_goesByLot_10 ?_
  refine gr_ldc_w X ck12_332 dX12_goesByLot_11 ?_
  refine gr_imul X dX12_goesByLot_14 ?_
  refine gr_sipush (v := 12345) X dX12_goesByLot_15 (by decide) ?_
  refine gr_iadd X dX12_goesByLot_18 ?_
  refine gM_ast_0 X hK 4 (by decide) (by decide) dX12_goesByLot_19 ?_
  refine gM_gen (fun σ1 e_σ1 => ?_)
  replace hf := ot_l hf e_σ1
  refine gr_aload_n X dX12_goesByLot_20 rfl 0 rfl ?_
  refine gr_aload_n X dX12_goesByLot_21 rfl 0 rfl ?_
  refine gM_get_0 X hK dX12_goesByLot_22 ?_
  refine gr_iconst (v := 4) X dX12_goesByLot_25 (by decide) ?_
  refine gM_ald_0 X hK 4 (by decide) (by decide) dX12_goesByLot_26 ?_
  refine gr_bipush (v := 16) X dX12_goesByLot_27 (by decide) ?_
  refine gr_iushr X dX12_goesByLot_29 ?_
  refine gr_aload_n X dX12_goesByLot_30 rfl 0 rfl ?_
  refine gM_get_0 X hK dX12_goesByLot_31 ?_
  refine gr_iconst (v := 0) X dX12_goesByLot_34 (by decide) ?_
  refine gM_ald_0 X hK 0 (by decide) (by decide) dX12_goesByLot_35 ?_
  refine gr_iconst (v := 1) X dX12_goesByLot_36 (by decide) ?_
  refine gr_iadd X dX12_goesByLot_37 ?_
  have hc_ := of_decide_eq_true (oc_1 hf)
  replace hf := oc_2 hf
  refine gr_irem X dX12_goesByLot_38 hc_ ?_
  obtain ⟨⟨q2, σ3⟩, hq_, hf⟩ := ot_b hf
  replace hf := ot_l (y := q2) hf rfl
  replace hf := ot_l (y := σ3) hf rfl
  refine gc_Vi (rest := []) X kM_ok hK hA cw12_goesWith (rvM hK) (xm_goesWith hq_) rfl ⟨rfl, rfl, Nat.le_of_ble_eq_true rfl, Nat.le_of_ble_eq_true rfl⟩ rfl (Nat.le_of_ble_eq_true rfl) dX12_goesByLot_39 ?_
  exact gr_iret X dX12_goesByLot_42 (Prod.mk.inj (Option.some.inj hf)).1 (Prod.mk.inj (Option.some.inj hf)).2
abbrev rm_lot : Room := { frames := 9, cells := 0, slots := 0, locals := 202 }
def fm_lot (σ : SM) : Option (Int32 × SM) := (Option.bind (fm_isOver σ) fun q1 => (if q1 = 0 then (Option.bind (fm_goesByLot σ) fun p_ => hl p_.1 fun q2 => hl p_.2 fun σ3 => (some (q2, σ3))) else (some ((-4 : Int32), σ))))
set_option maxHeartbeats 4000000 in
set_option maxRecDepth 100000 in
theorem xm_lot {l : Launch} {D : va_G} {cA : ClassId} {h : Nat} {ad : Nat → Nat} {σ : SM} {r : Int32} {τ : SM} (hf : fm_lot σ = some (r, τ)) : ctI l (wM h ad cA) D vwCl (kM D cA) yX12_lot cX12_lot 1 .int rm_lot [.ref h] σ r τ := by
  refine ct_I RX12 (by decide +kernel) rfl (Nat.le_of_ble_eq_true rfl) ?_
  intro p e s m args below meth c A X hK hA
  refine gr_eqL (L2 := [(0, .ref h)]) rfl ?_
  unfold fm_lot at hf
  refine gr_aload_n X dX12_lot_0 rfl 0 rfl ?_
  obtain ⟨q1, hq_, hf⟩ := ot_b hf
  refine gc_Vi (rest := []) X kM_ok hK hA cw12_isOver (rvM hK) (xm_isOver hq_) rfl ⟨rfl, rfl, Nat.le_of_ble_eq_true rfl, Nat.le_of_ble_eq_true rfl⟩ rfl (Nat.le_of_ble_eq_true rfl) dX12_lot_1 ?_
  refine gr_if_eq X 12 dX12_lot_4 (by decide) (fun hc_ => ?_) (fun hc_ => ?_)
  · replace hf := ot_t hf hc_
    refine gr_aload_n X dX12_lot_12 rfl 0 rfl ?_
    obtain ⟨⟨q2, σ3⟩, hq_, hf⟩ := ot_b hf
    replace hf := ot_l (y := q2) hf rfl
    replace hf := ot_l (y := σ3) hf rfl
    refine gc_Vi (rest := []) X kM_ok hK hA cw12_goesByLot (rvM hK) (xm_goesByLot hq_) rfl ⟨rfl, rfl, Nat.le_of_ble_eq_true rfl, Nat.le_of_ble_eq_true rfl⟩ rfl (Nat.le_of_ble_eq_true rfl) dX12_lot_13 ?_
    exact gr_iret X dX12_lot_16 (Prod.mk.inj (Option.some.inj hf)).1 (Prod.mk.inj (Option.some.inj hf)).2
  · replace hf := ot_f hf hc_
    refine gr_bipush (v := -4) X dX12_lot_7 (by decide) ?_
    refine gr_goto X 16 dX12_lot_9 (by decide) ?_
    exact gr_iret X dX12_lot_16 (Prod.mk.inj (Option.some.inj hf)).1 (Prod.mk.inj (Option.some.inj hf)).2
abbrev rm_times : Room := { frames := 9, cells := 0, slots := 0, locals := 202 }
def fm_times_l80 (K36 : Int32 → Int32 → Int32 → Int32 → SM → Option (Int32 × SM)) (K99 : Int32 → Int32 → Int32 → Int32 → Int32 → SM → Option (Int32 × SM)) : Nat → Int32 → Int32 → Int32 → Int32 → Int32 → SM → Option (Int32 × SM)
  | 0, _, _, _, _, _, _ => none
  | n + 1, x1, x2, x3, x4, x6, σ => (Option.bind (fm_isOver σ) fun q11 => (if ¬ q11 = 0 then (K99 x1 x2 x3 x4 x6 σ) else (Option.bind (fm_goesByLot σ) fun p_ => hl p_.1 fun q12 => hl p_.2 fun σ13 => (hl (x6 + q12) fun v14 => ((fm_times_l80 K36 K99 n) x1 x2 x3 x4 v14 σ13)))))
def fm_times_b111 (K36 : Int32 → Int32 → Int32 → Int32 → SM → Option (Int32 × SM)) (x1 : Int32) (x2 : Int32) (x4 : Int32) (y0 : Int32) (y1 : Int32) (σ : SM) : Option (Int32 × SM) := (hl (y1 + y0) fun v15 => (K36 x1 x2 v15 (x4 + (1 : Int32)) σ))
def fm_times_b76 (K36 : Int32 → Int32 → Int32 → Int32 → SM → Option (Int32 × SM)) (x1 : Int32) (x2 : Int32) (x3 : Int32) (x4 : Int32) (y0 : Int32) (y1 : Int32) (σ : SM) : Option (Int32 × SM) := (oc (hin y1 580) (hl (sf σ 0 (upd (σ 0) (Int32.toNatClampNeg y1) y0)) fun σ10 => (fm_times_l80 K36 (fun x1 x2 x3 x4 x6 σ => (if x6 < x2 then (fm_times_b111 K36 x1 x2 x4 (0 : Int32) x3 σ) else (fm_times_b111 K36 x1 x2 x4 (1 : Int32) x3 σ))) hFU x1 x2 x3 x4 (0 : Int32) σ10)))
def fm_times_l36 : Nat → Int32 → Int32 → Int32 → Int32 → SM → Option (Int32 × SM)
  | 0, _, _, _, _, _ => none
  | n + 1, x1, x2, x3, x4, σ => (if x1 ≤ x4 then (Option.bind (fm_laysBack (0 : Int32) σ) fun σ6 => (some (x3, σ6))) else (hl (σ 0 4) fun v7 => (Option.bind (fm_laysBack (0 : Int32) σ) fun σ9 => (if ¬ x4 = 0 then (fm_times_b76 (fm_times_l36 n) x1 x2 x3 x4 v7 (4 : Int32) σ9) else (fm_times_b76 (fm_times_l36 n) x1 x2 x3 x4 (σ9 0 4) (4 : Int32) σ9)))))
def fm_times (x1 : Int32) (x2 : Int32) (σ : SM) : Option (Int32 × SM) := (Option.bind (fm_isIn (Int32.toInt64 x1) (1 : Int64) (40 : Int64)) fun q1 => (if q1 = 0 then (some ((-1 : Int32), σ)) else (Option.bind (fm_isIn (Int32.toInt64 x2) (0 : Int64) (999 : Int64)) fun q2 => (if ¬ q2 = 0 then (Option.bind (fm_laysAside (0 : Int32) σ) fun σ4 => (fm_times_l36 hFU x1 x2 (0 : Int32) (0 : Int32) σ4)) else (some ((-1 : Int32), σ))))))
set_option maxHeartbeats 4000000 in
set_option maxRecDepth 100000 in
theorem wm_times_l80 {p : Program} {l : Launch} {e : Env} {s : State} {m : MethodId} {args : Array Value} {below : List Frame} {meth : Method} {c : Code} {A : Nat → Prop} {D : va_G} {cA : ClassId} {h : Nat} {ad : Nat → Nat} {r : Int32} {τ : SM} {K36 : Int32 → Int32 → Int32 → Int32 → SM → Option (Int32 × SM)} {K99 : Int32 → Int32 → Int32 → Int32 → Int32 → SM → Option (Int32 × SM)} (X : hc p s m args meth c RX12 cX12_times 7 (some .int)) (hK : kM D cA A s) (hA : ∀ q, s.heap.size ≤ q → A q) (hK36 : (∀ (x1 : Int32) (x2 : Int32) (x3 : Int32) (x4 : Int32) (σ : SM), K36 x1 x2 x3 x4 σ = some (r, τ) → gg p l e rm_times s m args below meth c (wM h ad cA) D vwCl A 7 (QI below args s (wM h ad cA) D vwCl A r τ) 36 [(0, .ref h), (1, .int x1), (2, .int x2), (3, .int x3), (4, .int x4)] [] σ)) (hK99 : (∀ (x1 : Int32) (x2 : Int32) (x3 : Int32) (x4 : Int32) (x6 : Int32) (σ : SM), K99 x1 x2 x3 x4 x6 σ = some (r, τ) → gg p l e rm_times s m args below meth c (wM h ad cA) D vwCl A 7 (QI below args s (wM h ad cA) D vwCl A r τ) 99 [(0, .ref h), (1, .int x1), (2, .int x2), (3, .int x3), (4, .int x4), (6, .int x6)] [] σ)) : ∀ (n : Nat) (x1 : Int32) (x2 : Int32) (x3 : Int32) (x4 : Int32) (x6 : Int32) (σ : SM), fm_times_l80 K36 K99 n x1 x2 x3 x4 x6 σ = some (r, τ) → gg p l e rm_times s m args below meth c (wM h ad cA) D vwCl A 7 (QI below args s (wM h ad cA) D vwCl A r τ) 80 [(0, .ref h), (1, .int x1), (2, .int x2), (3, .int x3), (4, .int x4), (6, .int x6)] [] σ := by
  intro n
  induction n with
  | zero =>
    intro x1 x2 x3 x4 x6 σ hf
    cases (show (none : Option (Int32 × SM)) = some (r, τ) from hf)
  | succ n ih =>
    intro x1 x2 x3 x4 x6 σ hf
    unfold fm_times_l80 at hf
    refine gr_aload_n X dX12_times_80 rfl 0 rfl ?_
    obtain ⟨q11, hq_, hf⟩ := ot_b hf
    refine gc_Vi (rest := []) X kM_ok hK hA cw12_isOver (rvM hK) (xm_isOver hq_) rfl ⟨rfl, rfl, Nat.le_of_ble_eq_true rfl, Nat.le_of_ble_eq_true rfl⟩ rfl (Nat.le_of_ble_eq_true rfl) dX12_times_81 ?_
    refine gr_if_ne X 99 dX12_times_84 (by decide) (fun hc_ => ?_) (fun hc_ => ?_)
    · replace hf := ot_t hf hc_
      refine gr_sub [0, 1, 2, 3, 4, 5] rfl ?_
      exact hK99 _ _ _ _ _ _ hf
    · replace hf := ot_f hf hc_
      refine gr_iload X dX12_times_87 5 rfl ?_
      refine gr_aload_n X dX12_times_89 rfl 0 rfl ?_
      obtain ⟨⟨q12, σ13⟩, hq_, hf⟩ := ot_b hf
      replace hf := ot_l (y := q12) hf rfl
      replace hf := ot_l (y := σ13) hf rfl
      refine gc_Vi (rest := [.int x6]) X kM_ok hK hA cw12_goesByLot (rvM hK) (xm_goesByLot hq_) rfl ⟨rfl, rfl, Nat.le_of_ble_eq_true rfl, Nat.le_of_ble_eq_true rfl⟩ rfl (Nat.le_of_ble_eq_true rfl) dX12_times_90 ?_
      refine gr_iadd X dX12_times_93 ?_
      refine gM_top (fun v14 e_v14 => ?_)
      replace hf := ot_l hf e_v14
      refine gr_istore (L2 := [(6, .int v14), (0, .ref h), (1, .int x1), (2, .int x2), (3, .int x3), (4, .int x4)]) X dX12_times_94 (by decide) rfl ?_
      refine gr_goto X 80 dX12_times_96 (by decide) ?_
      refine gr_sub [1, 2, 3, 4, 5, 0] rfl ?_
      exact ih _ _ _ _ _ _ hf
set_option maxHeartbeats 4000000 in
set_option maxRecDepth 100000 in
theorem wm_times_b111 {p : Program} {l : Launch} {e : Env} {s : State} {m : MethodId} {args : Array Value} {below : List Frame} {meth : Method} {c : Code} {A : Nat → Prop} {D : va_G} {cA : ClassId} {h : Nat} {ad : Nat → Nat} {r : Int32} {τ : SM} {K36 : Int32 → Int32 → Int32 → Int32 → SM → Option (Int32 × SM)} (X : hc p s m args meth c RX12 cX12_times 7 (some .int)) (hK : kM D cA A s) (hA : ∀ q, s.heap.size ≤ q → A q) (hK36 : (∀ (x1 : Int32) (x2 : Int32) (x3 : Int32) (x4 : Int32) (σ : SM), K36 x1 x2 x3 x4 σ = some (r, τ) → gg p l e rm_times s m args below meth c (wM h ad cA) D vwCl A 7 (QI below args s (wM h ad cA) D vwCl A r τ) 36 [(0, .ref h), (1, .int x1), (2, .int x2), (3, .int x3), (4, .int x4)] [] σ))  (x1 : Int32) (x2 : Int32) (x4 : Int32) (y0 : Int32) (y1 : Int32) (σ : SM) (hf : fm_times_b111 K36 x1 x2 x4 y0 y1 σ = some (r, τ)) : gg p l e rm_times s m args below meth c (wM h ad cA) D vwCl A 7 (QI below args s (wM h ad cA) D vwCl A r τ) 111 [(0, .ref h), (1, .int x1), (2, .int x2), (4, .int x4)] [.int y0, .int y1] σ := by
  unfold fm_times_b111 at hf
  refine gr_iadd X dX12_times_111 ?_
  refine gM_top (fun v15 e_v15 => ?_)
  replace hf := ot_l hf e_v15
  refine gr_istore_n (L2 := [(3, .int v15), (0, .ref h), (1, .int x1), (2, .int x2), (4, .int x4)]) X dX12_times_112 rfl (by decide) rfl ?_
  refine gr_iinc (k := 4) (v := 1) (L2 := [(4, .int (x4 + (1 : Int32))), (3, .int v15), (0, .ref h), (1, .int x1), (2, .int x2)]) X dX12_times_113 rfl (by decide) (by decide) rfl ?_
  refine gr_goto X 36 dX12_times_116 (by decide) ?_
  refine gr_sub [2, 3, 4, 1, 0] rfl ?_
  exact hK36 _ _ _ _ _ hf
set_option maxHeartbeats 4000000 in
set_option maxRecDepth 100000 in
theorem wm_times_b76 {p : Program} {l : Launch} {e : Env} {s : State} {m : MethodId} {args : Array Value} {below : List Frame} {meth : Method} {c : Code} {A : Nat → Prop} {D : va_G} {cA : ClassId} {h : Nat} {ad : Nat → Nat} {r : Int32} {τ : SM} {K36 : Int32 → Int32 → Int32 → Int32 → SM → Option (Int32 × SM)} (X : hc p s m args meth c RX12 cX12_times 7 (some .int)) (hK : kM D cA A s) (hA : ∀ q, s.heap.size ≤ q → A q) (hK36 : (∀ (x1 : Int32) (x2 : Int32) (x3 : Int32) (x4 : Int32) (σ : SM), K36 x1 x2 x3 x4 σ = some (r, τ) → gg p l e rm_times s m args below meth c (wM h ad cA) D vwCl A 7 (QI below args s (wM h ad cA) D vwCl A r τ) 36 [(0, .ref h), (1, .int x1), (2, .int x2), (3, .int x3), (4, .int x4)] [] σ))  (x1 : Int32) (x2 : Int32) (x3 : Int32) (x4 : Int32) (y0 : Int32) (y1 : Int32) (σ : SM) (hf : fm_times_b76 K36 x1 x2 x3 x4 y0 y1 σ = some (r, τ)) : gg p l e rm_times s m args below meth c (wM h ad cA) D vwCl A 7 (QI below args s (wM h ad cA) D vwCl A r τ) 76 [(0, .ref h), (1, .int x1), (2, .int x2), (3, .int x3), (4, .int x4)] [.int y0, .int y1, .ref (ad 0)] σ := by
  unfold fm_times_b76 at hf
  have hi_ := oc_1 hf
  replace hf := oc_2 hf
  refine gM_ast_0 X hK (Int32.toNatClampNeg y1) hi_ rfl dX12_times_76 ?_
  refine gM_gen (fun σ10 e_σ10 => ?_)
  replace hf := ot_l hf e_σ10
  refine gr_iconst (v := 0) X dX12_times_77 (by decide) ?_
  refine gr_istore (L2 := [(6, .int (0 : Int32)), (0, .ref h), (1, .int x1), (2, .int x2), (3, .int x3), (4, .int x4)]) X dX12_times_78 (by decide) rfl ?_
  refine gr_sub [1, 2, 3, 4, 5, 0] rfl ?_
  refine wm_times_l80 X hK hA hK36 (fun x1 x2 x3 x4 x6 σ hf => ?_) hFU _ _ _ _ _ _ hf
  refine gr_iload_n X dX12_times_99 rfl 3 rfl ?_
  refine gr_iload X dX12_times_100 5 rfl ?_
  refine gr_iload_n X dX12_times_102 rfl 2 rfl ?_
  refine gr_icmp_lt X 110 dX12_times_103 (by decide) (fun hc_ => ?_) (fun hc_ => ?_)
  · replace hf := ot_t hf hc_
    refine gr_iconst (v := 0) X dX12_times_110 (by decide) ?_
    refine gr_sub [0, 1, 2, 4] rfl ?_
    exact wm_times_b111 X hK hA hK36 _ _ _ _ _ _ hf
  · replace hf := ot_f hf hc_
    refine gr_iconst (v := 1) X dX12_times_106 (by decide) ?_
    refine gr_goto X 111 dX12_times_107 (by decide) ?_
    refine gr_sub [0, 1, 2, 4] rfl ?_
    exact wm_times_b111 X hK hA hK36 _ _ _ _ _ _ hf
set_option maxHeartbeats 4000000 in
set_option maxRecDepth 100000 in
theorem wm_times_l36 {p : Program} {l : Launch} {e : Env} {s : State} {m : MethodId} {args : Array Value} {below : List Frame} {meth : Method} {c : Code} {A : Nat → Prop} {D : va_G} {cA : ClassId} {h : Nat} {ad : Nat → Nat} {r : Int32} {τ : SM} (X : hc p s m args meth c RX12 cX12_times 7 (some .int)) (hK : kM D cA A s) (hA : ∀ q, s.heap.size ≤ q → A q)  : ∀ (n : Nat) (x1 : Int32) (x2 : Int32) (x3 : Int32) (x4 : Int32) (σ : SM), fm_times_l36 n x1 x2 x3 x4 σ = some (r, τ) → gg p l e rm_times s m args below meth c (wM h ad cA) D vwCl A 7 (QI below args s (wM h ad cA) D vwCl A r τ) 36 [(0, .ref h), (1, .int x1), (2, .int x2), (3, .int x3), (4, .int x4)] [] σ := by
  intro n
  induction n with
  | zero =>
    intro x1 x2 x3 x4 σ hf
    cases (show (none : Option (Int32 × SM)) = some (r, τ) from hf)
  | succ n ih =>
    intro x1 x2 x3 x4 σ hf
    unfold fm_times_l36 at hf
    refine gr_iload X dX12_times_36 4 rfl ?_
    refine gr_iload_n X dX12_times_38 rfl 1 rfl ?_
    refine gr_icmp_ge X 119 dX12_times_39 (by decide) (fun hc_ => ?_) (fun hc_ => ?_)
    · replace hf := ot_t hf hc_
      refine gr_aload_n X dX12_times_119 rfl 0 rfl ?_
      refine gr_iconst (v := 0) X dX12_times_120 (by decide) ?_
      obtain ⟨σ6, hq_, hf⟩ := ot_b hf
      refine gc_Vv (rest := []) X kM_ok hK hA cw12_laysBack (rvM hK) (xm_laysBack hq_) rfl ⟨rfl, rfl, Nat.le_of_ble_eq_true rfl, Nat.le_of_ble_eq_true rfl⟩ rfl (Nat.le_of_ble_eq_true rfl) dX12_times_121 ?_
      refine gr_iload_n X dX12_times_124 rfl 3 rfl ?_
      exact gr_iret X dX12_times_125 (Prod.mk.inj (Option.some.inj hf)).1 (Prod.mk.inj (Option.some.inj hf)).2
    · replace hf := ot_f hf hc_
      refine gr_aload_n X dX12_times_42 rfl 0 rfl ?_
      refine gM_get_0 X hK dX12_times_43 ?_
      refine gr_iconst (v := 4) X dX12_times_46 (by decide) ?_
      refine gM_ald_0 X hK 4 (by decide) (by decide) dX12_times_47 ?_
      refine gM_top (fun v7 e_v7 => ?_)
      replace hf := ot_l hf e_v7
      refine gr_istore (L2 := [(5, .int v7), (0, .ref h), (1, .int x1), (2, .int x2), (3, .int x3), (4, .int x4)]) X dX12_times_48 (by decide) rfl ?_
      refine gr_aload_n X dX12_times_50 rfl 1 rfl ?_
      refine gr_iconst (v := 0) X dX12_times_51 (by decide) ?_
      obtain ⟨σ9, hq_, hf⟩ := ot_b hf
      refine gc_Vv (rest := []) X kM_ok hK hA cw12_laysBack (rvM hK) (xm_laysBack hq_) rfl ⟨rfl, rfl, Nat.le_of_ble_eq_true rfl, Nat.le_of_ble_eq_true rfl⟩ rfl (Nat.le_of_ble_eq_true rfl) dX12_times_52 ?_
      refine gr_aload_n X dX12_times_55 rfl 1 rfl ?_
      refine gM_get_0 X hK dX12_times_56 ?_
      refine gr_iconst (v := 4) X dX12_times_59 (by decide) ?_
      refine gr_iload X dX12_times_60 5 rfl ?_
      refine gr_if_ne X 74 dX12_times_62 (by decide) (fun hc_ => ?_) (fun hc_ => ?_)
      · replace hf := ot_t hf hc_
        refine gr_iload X dX12_times_74 0 rfl ?_
        refine gr_sub [1, 2, 3, 4, 5] rfl ?_
        exact wm_times_b76 X hK hA ih _ _ _ _ _ _ _ hf
      · replace hf := ot_f hf hc_
        refine gr_aload_n X dX12_times_65 rfl 1 rfl ?_
        refine gM_get_0 X hK dX12_times_66 ?_
        refine gr_iconst (v := 4) X dX12_times_69 (by decide) ?_
        refine gM_ald_0 X hK 4 (by decide) (by decide) dX12_times_70 ?_
        refine gr_goto X 76 dX12_times_71 (by decide) ?_
        refine gr_sub [1, 2, 3, 4, 5] rfl ?_
        exact wm_times_b76 X hK hA ih _ _ _ _ _ _ _ hf
set_option maxHeartbeats 4000000 in
set_option maxRecDepth 100000 in
theorem xm_times {l : Launch} {D : va_G} {cA : ClassId} {h : Nat} {ad : Nat → Nat} {σ : SM} {x1 : Int32} {x2 : Int32} {r : Int32} {τ : SM} (hf : fm_times x1 x2 σ = some (r, τ)) : ctI l (wM h ad cA) D vwCl (kM D cA) yX12_times cX12_times 7 .int rm_times [.ref h, .int x1, .int x2] σ r τ := by
  refine ct_I RX12 (by decide +kernel) rfl (Nat.le_of_ble_eq_true rfl) ?_
  intro p e s m args below meth c A X hK hA
  refine gr_eqL (L2 := [(0, .ref h), (1, .int x1), (2, .int x2)]) rfl ?_
  unfold fm_times at hf
  refine gr_iload_n X dX12_times_0 rfl 1 rfl ?_
  refine gr_i2l X dX12_times_1 ?_
  refine gr_lconst (v := 1) X dX12_times_2 (by decide) ?_
  refine gr_ldc2_w X ck12_336 dX12_times_3 ?_
  obtain ⟨q1, hq_, hf⟩ := ot_b hf
  refine gc_Si (rest := []) X kM_ok hK hA cw12_isIn (xm_isIn hq_) rfl ⟨rfl, rfl, Nat.le_of_ble_eq_true rfl, Nat.le_of_ble_eq_true rfl⟩ rfl (Nat.le_of_ble_eq_true rfl) dX12_times_6 ?_
  refine gr_if_eq X 24 dX12_times_9 (by decide) (fun hc_ => ?_) (fun hc_ => ?_)
  · replace hf := ot_t hf hc_
    refine gr_iconst (v := -1) X dX12_times_24 (by decide) ?_
    exact gr_iret X dX12_times_25 (Prod.mk.inj (Option.some.inj hf)).1 (Prod.mk.inj (Option.some.inj hf)).2
  · replace hf := ot_f hf hc_
    refine gr_iload_n X dX12_times_12 rfl 2 rfl ?_
    refine gr_i2l X dX12_times_13 ?_
    refine gr_lconst (v := 0) X dX12_times_14 (by decide) ?_
    refine gr_ldc2_w X ck12_338 dX12_times_15 ?_
    obtain ⟨q2, hq_, hf⟩ := ot_b hf
    refine gc_Si (rest := []) X kM_ok hK hA cw12_isIn (xm_isIn hq_) rfl ⟨rfl, rfl, Nat.le_of_ble_eq_true rfl, Nat.le_of_ble_eq_true rfl⟩ rfl (Nat.le_of_ble_eq_true rfl) dX12_times_18 ?_
    refine gr_if_ne X 26 dX12_times_21 (by decide) (fun hc_ => ?_) (fun hc_ => ?_)
    · replace hf := ot_t hf hc_
      refine gr_aload_n X dX12_times_26 rfl 0 rfl ?_
      refine gr_iconst (v := 0) X dX12_times_27 (by decide) ?_
      obtain ⟨σ4, hq_, hf⟩ := ot_b hf
      refine gc_Vv (rest := []) X kM_ok hK hA cw12_laysAside (rvM hK) (xm_laysAside hq_) rfl ⟨rfl, rfl, Nat.le_of_ble_eq_true rfl, Nat.le_of_ble_eq_true rfl⟩ rfl (Nat.le_of_ble_eq_true rfl) dX12_times_28 ?_
      refine gr_iconst (v := 0) X dX12_times_31 (by decide) ?_
      refine gr_istore_n (L2 := [(3, .int (0 : Int32)), (0, .ref h), (1, .int x1), (2, .int x2)]) X dX12_times_32 rfl (by decide) rfl ?_
      refine gr_iconst (v := 0) X dX12_times_33 (by decide) ?_
      refine gr_istore (L2 := [(4, .int (0 : Int32)), (3, .int (0 : Int32)), (0, .ref h), (1, .int x1), (2, .int x2)]) X dX12_times_34 (by decide) rfl ?_
      refine gr_sub [2, 3, 4, 1, 0] rfl ?_
      refine wm_times_l36 X hK hA  hFU _ _ _ _ _ hf
    · replace hf := ot_f hf hc_
      refine gr_iconst (v := -1) X dX12_times_24 (by decide) ?_
      exact gr_iret X dX12_times_25 (Prod.mk.inj (Option.some.inj hf)).1 (Prod.mk.inj (Option.some.inj hf)).2
abbrev rm_prove : Room := { frames := 74, cells := 0, slots := 0, locals := 1712 }
def fm_prove_l22 (K84 : SM → Option (Int32 × SM)) : Nat → Int32 → SM → Option (Int32 × SM)
  | 0, _, _ => none
  | n + 1, x2, σ => (if (σ 17 0) ≤ x2 then (K84 σ) else (oc (hin x2 4) (oc (hin ((3 : Int32) * x2) 12) (hl (sf σ 26 (upd (σ 26) (Int32.toNatClampNeg ((3 : Int32) * x2)) (σ 14 (Int32.toNatClampNeg x2)))) fun σ6 => (oc (hin x2 4) (Option.bind (fm_goesWith (σ6 14 (Int32.toNatClampNeg x2)) σ6) fun p_ => hl p_.1 fun q7 => hl p_.2 fun σ8 => (oc (hin (((3 : Int32) * x2) + (1 : Int32)) 12) (hl (sf σ8 26 (upd (σ8 26) (Int32.toNatClampNeg (((3 : Int32) * x2) + (1 : Int32))) q7)) fun σ9 => (Option.bind (fm_doneOnes σ9) fun q10 => (oc (hin (((3 : Int32) * x2) + (2 : Int32)) 12) (hl (sf σ9 26 (upd (σ9 26) (Int32.toNatClampNeg (((3 : Int32) * x2) + (2 : Int32))) q10)) fun σ11 => ((fm_prove_l22 K84 n) (x2 + (1 : Int32)) σ11))))))))))))
def fm_prove (x1 : Int32) (σ : SM) : Option (Int32 × SM) := (Option.bind (fm_isLong x1) fun q1 => (if ¬ q1 = 0 then (Option.bind (fm_findsPlans x1 (0 : Int32) σ) fun σ3 => (Option.bind (fm_laysAside (0 : Int32) σ3) fun σ5 => (fm_prove_l22 (fun σ => (Option.bind (fm_laysBack (0 : Int32) σ) fun σ13 => (hl (sf σ13 27 (fun _ => (σ13 17 0))) fun σ14 => (some ((σ14 27 0), σ14))))) hFU (0 : Int32) σ5))) else (some ((-1 : Int32), σ))))
set_option maxHeartbeats 4000000 in
set_option maxRecDepth 100000 in
theorem wm_prove_l22 {p : Program} {l : Launch} {e : Env} {s : State} {m : MethodId} {args : Array Value} {below : List Frame} {meth : Method} {c : Code} {A : Nat → Prop} {D : va_G} {cA : ClassId} {h : Nat} {ad : Nat → Nat} {r : Int32} {τ : SM} {K84 : SM → Option (Int32 × SM)} (X : hc p s m args meth c RX12 cX12_prove 3 (some .int)) (hK : kM D cA A s) (hA : ∀ q, s.heap.size ≤ q → A q) (hK84 : (∀ (σ : SM), K84 σ = some (r, τ) → gg p l e rm_prove s m args below meth c (wM h ad cA) D vwCl A 3 (QI below args s (wM h ad cA) D vwCl A r τ) 84 [(0, .ref h)] [] σ)) : ∀ (n : Nat) (x2 : Int32) (σ : SM), fm_prove_l22 K84 n x2 σ = some (r, τ) → gg p l e rm_prove s m args below meth c (wM h ad cA) D vwCl A 3 (QI below args s (wM h ad cA) D vwCl A r τ) 22 [(0, .ref h), (2, .int x2)] [] σ := by
  intro n
  induction n with
  | zero =>
    intro x2 σ hf
    cases (show (none : Option (Int32 × SM)) = some (r, τ) from hf)
  | succ n ih =>
    intro x2 σ hf
    unfold fm_prove_l22 at hf
    refine gr_iload_n X dX12_prove_22 rfl 1 rfl ?_
    refine gr_aload_n X dX12_prove_23 rfl 0 rfl ?_
    refine gM_get_17 X hK dX12_prove_24 ?_
    refine gr_icmp_ge X 84 dX12_prove_27 (by decide) (fun hc_ => ?_) (fun hc_ => ?_)
    · replace hf := ot_t hf hc_
      refine gr_sub [0] rfl ?_
      exact hK84 _ hf
    · replace hf := ot_f hf hc_
      refine gr_aload_n X dX12_prove_30 rfl 0 rfl ?_
      refine gM_get_26 X hK dX12_prove_31 ?_
      refine gr_iconst (v := 3) X dX12_prove_34 (by decide) ?_
      refine gr_iload_n X dX12_prove_35 rfl 1 rfl ?_
      refine gr_imul X dX12_prove_36 ?_
      refine gr_aload_n X dX12_prove_37 rfl 0 rfl ?_
      refine gM_get_14 X hK dX12_prove_38 ?_
      refine gr_iload_n X dX12_prove_41 rfl 1 rfl ?_
      have hi_ := oc_1 hf
      replace hf := oc_2 hf
      refine gM_ald_14 X hK (Int32.toNatClampNeg x2) hi_ rfl dX12_prove_42 ?_
      have hi_ := oc_1 hf
      replace hf := oc_2 hf
      refine gM_ast_26 X hK (Int32.toNatClampNeg ((3 : Int32) * x2)) hi_ rfl dX12_prove_43 ?_
      refine gM_gen (fun σ6 e_σ6 => ?_)
      replace hf := ot_l hf e_σ6
      refine gr_aload_n X dX12_prove_44 rfl 0 rfl ?_
      refine gM_get_26 X hK dX12_prove_45 ?_
      refine gr_iconst (v := 3) X dX12_prove_48 (by decide) ?_
      refine gr_iload_n X dX12_prove_49 rfl 1 rfl ?_
      refine gr_imul X dX12_prove_50 ?_
      refine gr_iconst (v := 1) X dX12_prove_51 (by decide) ?_
      refine gr_iadd X dX12_prove_52 ?_
      refine gr_aload_n X dX12_prove_53 rfl 0 rfl ?_
      refine gr_aload_n X dX12_prove_54 rfl 0 rfl ?_
      refine gM_get_14 X hK dX12_prove_55 ?_
      refine gr_iload_n X dX12_prove_58 rfl 1 rfl ?_
      have hi_ := oc_1 hf
      replace hf := oc_2 hf
      refine gM_ald_14 X hK (Int32.toNatClampNeg x2) hi_ rfl dX12_prove_59 ?_
      obtain ⟨⟨q7, σ8⟩, hq_, hf⟩ := ot_b hf
      replace hf := ot_l (y := q7) hf rfl
      replace hf := ot_l (y := σ8) hf rfl
      refine gc_Vi (rest := [.int (((3 : Int32) * x2) + (1 : Int32)), .ref (ad 26)]) X kM_ok hK hA cw12_goesWith (rvM hK) (xm_goesWith hq_) rfl ⟨rfl, rfl, Nat.le_of_ble_eq_true rfl, Nat.le_of_ble_eq_true rfl⟩ rfl (Nat.le_of_ble_eq_true rfl) dX12_prove_60 ?_
      have hi_ := oc_1 hf
      replace hf := oc_2 hf
      refine gM_ast_26 X hK (Int32.toNatClampNeg (((3 : Int32) * x2) + (1 : Int32))) hi_ rfl dX12_prove_63 ?_
      refine gM_gen (fun σ9 e_σ9 => ?_)
      replace hf := ot_l hf e_σ9
      refine gr_aload_n X dX12_prove_64 rfl 0 rfl ?_
      refine gM_get_26 X hK dX12_prove_65 ?_
      refine gr_iconst (v := 3) X dX12_prove_68 (by decide) ?_
      refine gr_iload_n X dX12_prove_69 rfl 1 rfl ?_
      refine gr_imul X dX12_prove_70 ?_
      refine gr_iconst (v := 2) X dX12_prove_71 (by decide) ?_
      refine gr_iadd X dX12_prove_72 ?_
      refine gr_aload_n X dX12_prove_73 rfl 0 rfl ?_
      obtain ⟨q10, hq_, hf⟩ := ot_b hf
      refine gc_Vi (rest := [.int (((3 : Int32) * x2) + (2 : Int32)), .ref (ad 26)]) X kM_ok hK hA cw12_doneOnes (rvM hK) (xm_doneOnes hq_) rfl ⟨rfl, rfl, Nat.le_of_ble_eq_true rfl, Nat.le_of_ble_eq_true rfl⟩ rfl (Nat.le_of_ble_eq_true rfl) dX12_prove_74 ?_
      have hi_ := oc_1 hf
      replace hf := oc_2 hf
      refine gM_ast_26 X hK (Int32.toNatClampNeg (((3 : Int32) * x2) + (2 : Int32))) hi_ rfl dX12_prove_77 ?_
      refine gM_gen (fun σ11 e_σ11 => ?_)
      replace hf := ot_l hf e_σ11
      refine gr_iinc (k := 1) (v := 1) (L2 := [(2, .int (x2 + (1 : Int32))), (0, .ref h)]) X dX12_prove_78 rfl (by decide) (by decide) rfl ?_
      refine gr_goto X 22 dX12_prove_81 (by decide) ?_
      refine gr_sub [1, 0] rfl ?_
      exact ih _ _ hf
set_option maxHeartbeats 4000000 in
set_option maxRecDepth 100000 in
theorem xm_prove {l : Launch} {D : va_G} {cA : ClassId} {h : Nat} {ad : Nat → Nat} {σ : SM} {x1 : Int32} {r : Int32} {τ : SM} (hf : fm_prove x1 σ = some (r, τ)) : ctI l (wM h ad cA) D vwCl (kM D cA) yX12_prove cX12_prove 3 .int rm_prove [.ref h, .int x1] σ r τ := by
  refine ct_I RX12 (by decide +kernel) rfl (Nat.le_of_ble_eq_true rfl) ?_
  intro p e s m args below meth c A X hK hA
  refine gr_eqL (L2 := [(0, .ref h), (1, .int x1)]) rfl ?_
  unfold fm_prove at hf
  refine gr_iload_n X dX12_prove_0 rfl 1 rfl ?_
  obtain ⟨q1, hq_, hf⟩ := ot_b hf
  refine gc_Si (rest := []) X kM_ok hK hA cw12_isLong (xm_isLong hq_) rfl ⟨rfl, rfl, Nat.le_of_ble_eq_true rfl, Nat.le_of_ble_eq_true rfl⟩ rfl (Nat.le_of_ble_eq_true rfl) dX12_prove_1 ?_
  refine gr_if_ne X 9 dX12_prove_4 (by decide) (fun hc_ => ?_) (fun hc_ => ?_)
  · replace hf := ot_t hf hc_
    refine gr_aload_n X dX12_prove_9 rfl 0 rfl ?_
    refine gr_iload_n X dX12_prove_10 rfl 1 rfl ?_
    refine gr_iconst (v := 0) X dX12_prove_11 (by decide) ?_
    obtain ⟨σ3, hq_, hf⟩ := ot_b hf
    refine gc_Vv (rest := []) X kM_ok hK hA cw12_findsPlans (rvM hK) (xm_findsPlans hq_) rfl ⟨rfl, rfl, Nat.le_of_ble_eq_true rfl, Nat.le_of_ble_eq_true rfl⟩ rfl (Nat.le_of_ble_eq_true rfl) dX12_prove_12 ?_
    refine gr_aload_n X dX12_prove_15 rfl 0 rfl ?_
    refine gr_iconst (v := 0) X dX12_prove_16 (by decide) ?_
    obtain ⟨σ5, hq_, hf⟩ := ot_b hf
    refine gc_Vv (rest := []) X kM_ok hK hA cw12_laysAside (rvM hK) (xm_laysAside hq_) rfl ⟨rfl, rfl, Nat.le_of_ble_eq_true rfl, Nat.le_of_ble_eq_true rfl⟩ rfl (Nat.le_of_ble_eq_true rfl) dX12_prove_17 ?_
    refine gr_iconst (v := 0) X dX12_prove_20 (by decide) ?_
    refine gr_istore_n (L2 := [(2, .int (0 : Int32)), (0, .ref h), (1, .int x1)]) X dX12_prove_21 rfl (by decide) rfl ?_
    refine gr_sub [1, 0] rfl ?_
    refine wm_prove_l22 X hK hA (fun σ hf => ?_) hFU _ _ hf
    refine gr_aload_n X dX12_prove_84 rfl 0 rfl ?_
    refine gr_iconst (v := 0) X dX12_prove_85 (by decide) ?_
    obtain ⟨σ13, hq_, hf⟩ := ot_b hf
    refine gc_Vv (rest := []) X kM_ok hK hA cw12_laysBack (rvM hK) (xm_laysBack hq_) rfl ⟨rfl, rfl, Nat.le_of_ble_eq_true rfl, Nat.le_of_ble_eq_true rfl⟩ rfl (Nat.le_of_ble_eq_true rfl) dX12_prove_86 ?_
    refine gr_aload_n X dX12_prove_89 rfl 0 rfl ?_
    refine gr_aload_n X dX12_prove_90 rfl 0 rfl ?_
    refine gM_get_17 X hK dX12_prove_91 ?_
    refine gM_put_27 X hK dX12_prove_94 ?_
    refine gM_gen (fun σ14 e_σ14 => ?_)
    replace hf := ot_l hf e_σ14
    refine gr_aload_n X dX12_prove_97 rfl 0 rfl ?_
    refine gM_get_27 X hK dX12_prove_98 ?_
    exact gr_iret X dX12_prove_101 (Prod.mk.inj (Option.some.inj hf)).1 (Prod.mk.inj (Option.some.inj hf)).2
  · replace hf := ot_f hf hc_
    refine gr_iconst (v := -1) X dX12_prove_7 (by decide) ?_
    exact gr_iret X dX12_prove_8 (Prod.mk.inj (Option.some.inj hf)).1 (Prod.mk.inj (Option.some.inj hf)).2
abbrev rm_isRow : Room := { frames := 1, cells := 0, slots := 0, locals := 25 }
def fm_isRow (σ : SM) (x1 : Int32) (x2 : Int32) : Option Int32 := (Option.bind (fm_isIn (Int32.toInt64 x1) (0 : Int64) (Int32.toInt64 ((σ 27 0) - (1 : Int32)))) fun q1 => (if q1 = 0 then (some (0 : Int32)) else (Option.bind (fm_isIn (Int32.toInt64 x2) (0 : Int64) (2 : Int64)) fun q2 => (if q2 = 0 then (some (0 : Int32)) else (some (1 : Int32))))))
set_option maxHeartbeats 4000000 in
set_option maxRecDepth 100000 in
theorem xm_isRow {l : Launch} {D : va_G} {cA : ClassId} {h : Nat} {ad : Nat → Nat} {σ : SM} {x1 : Int32} {x2 : Int32} {r : Int32} (hf : fm_isRow σ x1 x2 = some r) : ctI l (wM h ad cA) D vwCl (kM D cA) yX12_isRow cX12_isRow 3 .boolean rm_isRow [.ref h, .int x1, .int x2] σ r σ := by
  refine ct_I RX12 (by decide +kernel) rfl (Nat.le_of_ble_eq_true rfl) ?_
  intro p e s m args below meth c A X hK hA
  refine gr_eqL (L2 := [(0, .ref h), (1, .int x1), (2, .int x2)]) rfl ?_
  unfold fm_isRow at hf
  refine gr_iload_n X dX12_isRow_0 rfl 1 rfl ?_
  refine gr_i2l X dX12_isRow_1 ?_
  refine gr_lconst (v := 0) X dX12_isRow_2 (by decide) ?_
  refine gr_aload_n X dX12_isRow_3 rfl 0 rfl ?_
  refine gM_get_27 X hK dX12_isRow_4 ?_
  refine gr_iconst (v := 1) X dX12_isRow_7 (by decide) ?_
  refine gr_isub X dX12_isRow_8 ?_
  refine gr_i2l X dX12_isRow_9 ?_
  obtain ⟨q1, hq_, hf⟩ := ot_b hf
  refine gc_Si (rest := []) X kM_ok hK hA cw12_isIn (xm_isIn hq_) rfl ⟨rfl, rfl, Nat.le_of_ble_eq_true rfl, Nat.le_of_ble_eq_true rfl⟩ rfl (Nat.le_of_ble_eq_true rfl) dX12_isRow_10 ?_
  refine gr_if_eq X 32 dX12_isRow_13 (by decide) (fun hc_ => ?_) (fun hc_ => ?_)
  · replace hf := ot_t hf hc_
    refine gr_iconst (v := 0) X dX12_isRow_32 (by decide) ?_
    exact gr_zret X dX12_isRow_33 (by decide) (Option.some.inj hf) rfl
  · replace hf := ot_f hf hc_
    refine gr_iload_n X dX12_isRow_16 rfl 2 rfl ?_
    refine gr_i2l X dX12_isRow_17 ?_
    refine gr_lconst (v := 0) X dX12_isRow_18 (by decide) ?_
    refine gr_ldc2_w X ck12_99 dX12_isRow_19 ?_
    obtain ⟨q2, hq_, hf⟩ := ot_b hf
    refine gc_Si (rest := []) X kM_ok hK hA cw12_isIn (xm_isIn hq_) rfl ⟨rfl, rfl, Nat.le_of_ble_eq_true rfl, Nat.le_of_ble_eq_true rfl⟩ rfl (Nat.le_of_ble_eq_true rfl) dX12_isRow_22 ?_
    refine gr_if_eq X 32 dX12_isRow_25 (by decide) (fun hc_ => ?_) (fun hc_ => ?_)
    · replace hf := ot_t hf hc_
      refine gr_iconst (v := 0) X dX12_isRow_32 (by decide) ?_
      exact gr_zret X dX12_isRow_33 (by decide) (Option.some.inj hf) rfl
    · replace hf := ot_f hf hc_
      refine gr_iconst (v := 1) X dX12_isRow_28 (by decide) ?_
      refine gr_goto X 33 dX12_isRow_29 (by decide) ?_
      exact gr_zret X dX12_isRow_33 (by decide) (Option.some.inj hf) rfl
abbrev rm_row : Room := { frames := 2, cells := 0, slots := 0, locals := 47 }
def fm_row (σ : SM) (x1 : Int32) (x2 : Int32) : Option Int32 := (Option.bind (fm_isRow σ x1 x2) fun q1 => (if q1 = 0 then (some (-9 : Int32)) else (oc (hin (((3 : Int32) * x1) + x2) 12) (some (σ 26 (Int32.toNatClampNeg (((3 : Int32) * x1) + x2)))))))
set_option maxHeartbeats 4000000 in
set_option maxRecDepth 100000 in
theorem xm_row {l : Launch} {D : va_G} {cA : ClassId} {h : Nat} {ad : Nat → Nat} {σ : SM} {x1 : Int32} {x2 : Int32} {r : Int32} (hf : fm_row σ x1 x2 = some r) : ctI l (wM h ad cA) D vwCl (kM D cA) yX12_row cX12_row 3 .int rm_row [.ref h, .int x1, .int x2] σ r σ := by
  refine ct_I RX12 (by decide +kernel) rfl (Nat.le_of_ble_eq_true rfl) ?_
  intro p e s m args below meth c A X hK hA
  refine gr_eqL (L2 := [(0, .ref h), (1, .int x1), (2, .int x2)]) rfl ?_
  unfold fm_row at hf
  refine gr_aload_n X dX12_row_0 rfl 0 rfl ?_
  refine gr_iload_n X dX12_row_1 rfl 1 rfl ?_
  refine gr_iload_n X dX12_row_2 rfl 2 rfl ?_
  obtain ⟨q1, hq_, hf⟩ := ot_b hf
  refine gc_Vi (rest := []) X kM_ok hK hA cw12_isRow (rvM hK) (xm_isRow hq_) rfl ⟨rfl, rfl, Nat.le_of_ble_eq_true rfl, Nat.le_of_ble_eq_true rfl⟩ rfl (Nat.le_of_ble_eq_true rfl) dX12_row_3 ?_
  refine gr_if_eq X 22 dX12_row_6 (by decide) (fun hc_ => ?_) (fun hc_ => ?_)
  · replace hf := ot_t hf hc_
    refine gr_bipush (v := -9) X dX12_row_22 (by decide) ?_
    exact gr_iret X dX12_row_24 (Option.some.inj hf) rfl
  · replace hf := ot_f hf hc_
    refine gr_aload_n X dX12_row_9 rfl 0 rfl ?_
    refine gM_get_26 X hK dX12_row_10 ?_
    refine gr_iconst (v := 3) X dX12_row_13 (by decide) ?_
    refine gr_iload_n X dX12_row_14 rfl 1 rfl ?_
    refine gr_imul X dX12_row_15 ?_
    refine gr_iload_n X dX12_row_16 rfl 2 rfl ?_
    refine gr_iadd X dX12_row_17 ?_
    have hi_ := oc_1 hf
    replace hf := oc_2 hf
    refine gM_ald_26 X hK (Int32.toNatClampNeg (((3 : Int32) * x1) + x2)) hi_ rfl dX12_row_18 ?_
    refine gr_goto X 24 dX12_row_19 (by decide) ?_
    exact gr_iret X dX12_row_24 (Option.some.inj hf) rfl
abbrev rm_alterRow : Room := { frames := 2, cells := 0, slots := 0, locals := 47 }
def fm_alterRow (x1 : Int32) (x2 : Int32) (x3 : Int32) (σ : SM) : Option (Int32 × SM) := (Option.bind (fm_isRow σ x1 x2) fun q1 => (if ¬ q1 = 0 then (oc (hin (((3 : Int32) * x1) + x2) 12) (hl (σ 26 (Int32.toNatClampNeg (((3 : Int32) * x1) + x2))) fun v2 => (oc (hin (((3 : Int32) * x1) + x2) 12) (hl (sf σ 26 (upd (σ 26) (Int32.toNatClampNeg (((3 : Int32) * x1) + x2)) x3)) fun σ3 => (some (v2, σ3)))))) else (some ((-9 : Int32), σ))))
set_option maxHeartbeats 4000000 in
set_option maxRecDepth 100000 in
theorem xm_alterRow {l : Launch} {D : va_G} {cA : ClassId} {h : Nat} {ad : Nat → Nat} {σ : SM} {x1 : Int32} {x2 : Int32} {x3 : Int32} {r : Int32} {τ : SM} (hf : fm_alterRow x1 x2 x3 σ = some (r, τ)) : ctI l (wM h ad cA) D vwCl (kM D cA) yX12_alterRow cX12_alterRow 5 .int rm_alterRow [.ref h, .int x1, .int x2, .int x3] σ r τ := by
  refine ct_I RX12 (by decide +kernel) rfl (Nat.le_of_ble_eq_true rfl) ?_
  intro p e s m args below meth c A X hK hA
  refine gr_eqL (L2 := [(0, .ref h), (1, .int x1), (2, .int x2), (3, .int x3)]) rfl ?_
  unfold fm_alterRow at hf
  refine gr_aload_n X dX12_alterRow_0 rfl 0 rfl ?_
  refine gr_iload_n X dX12_alterRow_1 rfl 1 rfl ?_
  refine gr_iload_n X dX12_alterRow_2 rfl 2 rfl ?_
  obtain ⟨q1, hq_, hf⟩ := ot_b hf
  refine gc_Vi (rest := []) X kM_ok hK hA cw12_isRow (rvM hK) (xm_isRow hq_) rfl ⟨rfl, rfl, Nat.le_of_ble_eq_true rfl, Nat.le_of_ble_eq_true rfl⟩ rfl (Nat.le_of_ble_eq_true rfl) dX12_alterRow_3 ?_
  refine gr_if_ne X 12 dX12_alterRow_6 (by decide) (fun hc_ => ?_) (fun hc_ => ?_)
  · replace hf := ot_t hf hc_
    refine gr_aload_n X dX12_alterRow_12 rfl 0 rfl ?_
    refine gM_get_26 X hK dX12_alterRow_13 ?_
    refine gr_iconst (v := 3) X dX12_alterRow_16 (by decide) ?_
    refine gr_iload_n X dX12_alterRow_17 rfl 1 rfl ?_
    refine gr_imul X dX12_alterRow_18 ?_
    refine gr_iload_n X dX12_alterRow_19 rfl 2 rfl ?_
    refine gr_iadd X dX12_alterRow_20 ?_
    have hi_ := oc_1 hf
    replace hf := oc_2 hf
    refine gM_ald_26 X hK (Int32.toNatClampNeg (((3 : Int32) * x1) + x2)) hi_ rfl dX12_alterRow_21 ?_
    refine gM_top (fun v2 e_v2 => ?_)
    replace hf := ot_l hf e_v2
    refine gr_istore (L2 := [(4, .int v2), (0, .ref h), (1, .int x1), (2, .int x2), (3, .int x3)]) X dX12_alterRow_22 (by decide) rfl ?_
    refine gr_aload_n X dX12_alterRow_24 rfl 1 rfl ?_
    refine gM_get_26 X hK dX12_alterRow_25 ?_
    refine gr_iconst (v := 3) X dX12_alterRow_28 (by decide) ?_
    refine gr_iload_n X dX12_alterRow_29 rfl 2 rfl ?_
    refine gr_imul X dX12_alterRow_30 ?_
    refine gr_iload_n X dX12_alterRow_31 rfl 3 rfl ?_
    refine gr_iadd X dX12_alterRow_32 ?_
    refine gr_iload_n X dX12_alterRow_33 rfl 4 rfl ?_
    have hi_ := oc_1 hf
    replace hf := oc_2 hf
    refine gM_ast_26 X hK (Int32.toNatClampNeg (((3 : Int32) * x1) + x2)) hi_ rfl dX12_alterRow_34 ?_
    refine gM_gen (fun σ3 e_σ3 => ?_)
    replace hf := ot_l hf e_σ3
    refine gr_iload X dX12_alterRow_35 0 rfl ?_
    exact gr_iret X dX12_alterRow_37 (Prod.mk.inj (Option.some.inj hf)).1 (Prod.mk.inj (Option.some.inj hf)).2
  · replace hf := ot_f hf hc_
    refine gr_bipush (v := -9) X dX12_alterRow_9 (by decide) ?_
    exact gr_iret X dX12_alterRow_11 (Prod.mk.inj (Option.some.inj hf)).1 (Prod.mk.inj (Option.some.inj hf)).2
abbrev rm_isAct : Room := { frames := 1, cells := 0, slots := 0, locals := 25 }
def fm_isAct (σ : SM) (x1 : Int32) : Option Int32 := (Option.bind (fm_isIn (Int32.toInt64 x1) (0 : Int64) (Int32.toInt64 (σ 0 0))) fun q1 => (oc (hz q1) (some q1)))
set_option maxHeartbeats 4000000 in
set_option maxRecDepth 100000 in
theorem xm_isAct {l : Launch} {D : va_G} {cA : ClassId} {h : Nat} {ad : Nat → Nat} {σ : SM} {x1 : Int32} {r : Int32} (hf : fm_isAct σ x1 = some r) : ctI l (wM h ad cA) D vwCl (kM D cA) yX12_isAct cX12_isAct 2 .boolean rm_isAct [.ref h, .int x1] σ r σ := by
  refine ct_I RX12 (by decide +kernel) rfl (Nat.le_of_ble_eq_true rfl) ?_
  intro p e s m args below meth c A X hK hA
  refine gr_eqL (L2 := [(0, .ref h), (1, .int x1)]) rfl ?_
  unfold fm_isAct at hf
  refine gr_iload_n X dX12_isAct_0 rfl 1 rfl ?_
  refine gr_i2l X dX12_isAct_1 ?_
  refine gr_lconst (v := 0) X dX12_isAct_2 (by decide) ?_
  refine gr_aload_n X dX12_isAct_3 rfl 0 rfl ?_
  refine gM_get_0 X hK dX12_isAct_4 ?_
  refine gr_iconst (v := 0) X dX12_isAct_7 (by decide) ?_
  refine gM_ald_0 X hK 0 (by decide) (by decide) dX12_isAct_8 ?_
  refine gr_i2l X dX12_isAct_9 ?_
  obtain ⟨q1, hq_, hf⟩ := ot_b hf
  refine gc_Si (rest := []) X kM_ok hK hA cw12_isIn (xm_isIn hq_) rfl ⟨rfl, rfl, Nat.le_of_ble_eq_true rfl, Nat.le_of_ble_eq_true rfl⟩ rfl (Nat.le_of_ble_eq_true rfl) dX12_isAct_10 ?_
  have hz_ := oc_1 hf
  replace hf := oc_2 hf
  exact gr_zret X dX12_isAct_13 hz_ (Option.some.inj hf) rfl
abbrev rm_judge : Room := { frames := 8, cells := 0, slots := 0, locals := 182 }
def fm_judge_b90 (K97 : Int32 → Int32 → SM → Option (Int32 × SM)) (K9 : Int32 → Int32 → SM → Option (Int32 × SM)) (x1 : Int32) (y0 : Int32) (σ : SM) : Option (Int32 × SM) := (K9 (x1 + (1 : Int32)) y0 σ)
def fm_judge_b89 (K97 : Int32 → Int32 → SM → Option (Int32 × SM)) (K9 : Int32 → Int32 → SM → Option (Int32 × SM)) (x1 : Int32) (σ : SM) : Option (Int32 × SM) := (fm_judge_b90 K97 K9 x1 (0 : Int32) σ)
def fm_judge_l9 (K97 : Int32 → Int32 → SM → Option (Int32 × SM)) : Nat → Int32 → Int32 → SM → Option (Int32 × SM)
  | 0, _, _, _ => none
  | n + 1, x1, x2, σ => (if (σ 27 0) ≤ x1 then (K97 x1 x2 σ) else (if x2 = 0 then (K97 x1 x2 σ) else (oc (hin ((3 : Int32) * x1) 12) (Option.bind (fm_isAct σ (σ 26 (Int32.toNatClampNeg ((3 : Int32) * x1)))) fun q3 => (if q3 = 0 then (fm_judge_b89 K97 (fm_judge_l9 K97 n) x1 σ) else (Option.bind (fm_isOver σ) fun q4 => (if ¬ q4 = 0 then (fm_judge_b89 K97 (fm_judge_l9 K97 n) x1 σ) else (oc (hin ((3 : Int32) * x1) 12) (Option.bind (fm_goesWith (σ 26 (Int32.toNatClampNeg ((3 : Int32) * x1))) σ) fun p_ => hl p_.1 fun q5 => hl p_.2 fun σ6 => (oc (hin (((3 : Int32) * x1) + (1 : Int32)) 12) (if ¬ q5 = (σ6 26 (Int32.toNatClampNeg (((3 : Int32) * x1) + (1 : Int32)))) then (fm_judge_b89 K97 (fm_judge_l9 K97 n) x1 σ6) else (Option.bind (fm_doneOnes σ6) fun q7 => (oc (hin (((3 : Int32) * x1) + (2 : Int32)) 12) (if ¬ q7 = (σ6 26 (Int32.toNatClampNeg (((3 : Int32) * x1) + (2 : Int32)))) then (fm_judge_b89 K97 (fm_judge_l9 K97 n) x1 σ6) else (fm_judge_b90 K97 (fm_judge_l9 K97 n) x1 (1 : Int32) σ6)))))))))))))))
def fm_judge_b97 (x1 : Int32) (x2 : Int32) (σ : SM) : Option (Int32 × SM) := (Option.bind (fm_laysBack (0 : Int32) σ) fun σ9 => (if x2 = 0 then (some (x1, σ9)) else (some ((0 : Int32), σ9))))
def fm_judge (σ : SM) : Option (Int32 × SM) := (Option.bind (fm_laysAside (0 : Int32) σ) fun σ2 => (fm_judge_l9 (fun x1 x2 σ => (fm_judge_b97 x1 x2 σ)) hFU (0 : Int32) (1 : Int32) σ2))
set_option maxHeartbeats 4000000 in
set_option maxRecDepth 100000 in
theorem wm_judge_b90 {p : Program} {l : Launch} {e : Env} {s : State} {m : MethodId} {args : Array Value} {below : List Frame} {meth : Method} {c : Code} {A : Nat → Prop} {D : va_G} {cA : ClassId} {h : Nat} {ad : Nat → Nat} {r : Int32} {τ : SM} {K97 : Int32 → Int32 → SM → Option (Int32 × SM)} {K9 : Int32 → Int32 → SM → Option (Int32 × SM)} (X : hc p s m args meth c RX12 cX12_judge 3 (some .int)) (hK : kM D cA A s) (hA : ∀ q, s.heap.size ≤ q → A q) (hK97 : (∀ (x1 : Int32) (x2 : Int32) (σ : SM), K97 x1 x2 σ = some (r, τ) → gg p l e rm_judge s m args below meth c (wM h ad cA) D vwCl A 3 (QI below args s (wM h ad cA) D vwCl A r τ) 97 [(0, .ref h), (1, .int x1), (2, .int x2)] [] σ)) (hK9 : (∀ (x1 : Int32) (x2 : Int32) (σ : SM), K9 x1 x2 σ = some (r, τ) → gg p l e rm_judge s m args below meth c (wM h ad cA) D vwCl A 3 (QI below args s (wM h ad cA) D vwCl A r τ) 9 [(0, .ref h), (1, .int x1), (2, .int x2)] [] σ))  (x1 : Int32) (y0 : Int32) (σ : SM) (hf : fm_judge_b90 K97 K9 x1 y0 σ = some (r, τ)) : gg p l e rm_judge s m args below meth c (wM h ad cA) D vwCl A 3 (QI below args s (wM h ad cA) D vwCl A r τ) 90 [(0, .ref h), (1, .int x1)] [.int y0] σ := by
  unfold fm_judge_b90 at hf
  refine gr_istore_n (L2 := [(2, .int y0), (0, .ref h), (1, .int x1)]) X dX12_judge_90 rfl (by decide) rfl ?_
  refine gr_iinc (k := 2) (v := 1) (L2 := [(1, .int (x1 + (1 : Int32))), (2, .int y0), (0, .ref h)]) X dX12_judge_91 rfl (by decide) (by decide) rfl ?_
  refine gr_goto X 9 dX12_judge_94 (by decide) ?_
  refine gr_sub [2, 0, 1] rfl ?_
  exact hK9 _ _ _ hf
set_option maxHeartbeats 4000000 in
set_option maxRecDepth 100000 in
theorem wm_judge_b89 {p : Program} {l : Launch} {e : Env} {s : State} {m : MethodId} {args : Array Value} {below : List Frame} {meth : Method} {c : Code} {A : Nat → Prop} {D : va_G} {cA : ClassId} {h : Nat} {ad : Nat → Nat} {r : Int32} {τ : SM} {K97 : Int32 → Int32 → SM → Option (Int32 × SM)} {K9 : Int32 → Int32 → SM → Option (Int32 × SM)} (X : hc p s m args meth c RX12 cX12_judge 3 (some .int)) (hK : kM D cA A s) (hA : ∀ q, s.heap.size ≤ q → A q) (hK97 : (∀ (x1 : Int32) (x2 : Int32) (σ : SM), K97 x1 x2 σ = some (r, τ) → gg p l e rm_judge s m args below meth c (wM h ad cA) D vwCl A 3 (QI below args s (wM h ad cA) D vwCl A r τ) 97 [(0, .ref h), (1, .int x1), (2, .int x2)] [] σ)) (hK9 : (∀ (x1 : Int32) (x2 : Int32) (σ : SM), K9 x1 x2 σ = some (r, τ) → gg p l e rm_judge s m args below meth c (wM h ad cA) D vwCl A 3 (QI below args s (wM h ad cA) D vwCl A r τ) 9 [(0, .ref h), (1, .int x1), (2, .int x2)] [] σ))  (x1 : Int32) (σ : SM) (hf : fm_judge_b89 K97 K9 x1 σ = some (r, τ)) : gg p l e rm_judge s m args below meth c (wM h ad cA) D vwCl A 3 (QI below args s (wM h ad cA) D vwCl A r τ) 89 [(0, .ref h), (1, .int x1)] [] σ := by
  unfold fm_judge_b89 at hf
  refine gr_iconst (v := 0) X dX12_judge_89 (by decide) ?_
  refine gr_sub [0, 1] rfl ?_
  exact wm_judge_b90 X hK hA hK97 hK9 _ _ _ hf
set_option maxHeartbeats 4000000 in
set_option maxRecDepth 100000 in
theorem wm_judge_l9 {p : Program} {l : Launch} {e : Env} {s : State} {m : MethodId} {args : Array Value} {below : List Frame} {meth : Method} {c : Code} {A : Nat → Prop} {D : va_G} {cA : ClassId} {h : Nat} {ad : Nat → Nat} {r : Int32} {τ : SM} {K97 : Int32 → Int32 → SM → Option (Int32 × SM)} (X : hc p s m args meth c RX12 cX12_judge 3 (some .int)) (hK : kM D cA A s) (hA : ∀ q, s.heap.size ≤ q → A q) (hK97 : (∀ (x1 : Int32) (x2 : Int32) (σ : SM), K97 x1 x2 σ = some (r, τ) → gg p l e rm_judge s m args below meth c (wM h ad cA) D vwCl A 3 (QI below args s (wM h ad cA) D vwCl A r τ) 97 [(0, .ref h), (1, .int x1), (2, .int x2)] [] σ)) : ∀ (n : Nat) (x1 : Int32) (x2 : Int32) (σ : SM), fm_judge_l9 K97 n x1 x2 σ = some (r, τ) → gg p l e rm_judge s m args below meth c (wM h ad cA) D vwCl A 3 (QI below args s (wM h ad cA) D vwCl A r τ) 9 [(0, .ref h), (1, .int x1), (2, .int x2)] [] σ := by
  intro n
  induction n with
  | zero =>
    intro x1 x2 σ hf
    cases (show (none : Option (Int32 × SM)) = some (r, τ) from hf)
  | succ n ih =>
    intro x1 x2 σ hf
    unfold fm_judge_l9 at hf
    refine gr_iload_n X dX12_judge_9 rfl 1 rfl ?_
    refine gr_aload_n X dX12_judge_10 rfl 0 rfl ?_
    refine gM_get_27 X hK dX12_judge_11 ?_
    refine gr_icmp_ge X 97 dX12_judge_14 (by decide) (fun hc_ => ?_) (fun hc_ => ?_)
    · replace hf := ot_t hf hc_
      refine gr_sub [0, 1, 2] rfl ?_
      exact hK97 _ _ _ hf
    · replace hf := ot_f hf hc_
      refine gr_iload_n X dX12_judge_17 rfl 2 rfl ?_
      refine gr_if_eq X 97 dX12_judge_18 (by decide) (fun hc_ => ?_) (fun hc_ => ?_)
      · replace hf := ot_t hf hc_
        refine gr_sub [0, 1, 2] rfl ?_
        exact hK97 _ _ _ hf
      · replace hf := ot_f hf hc_
        refine gr_aload_n X dX12_judge_21 rfl 0 rfl ?_
        refine gr_aload_n X dX12_judge_22 rfl 0 rfl ?_
        refine gM_get_26 X hK dX12_judge_23 ?_
        refine gr_iconst (v := 3) X dX12_judge_26 (by decide) ?_
        refine gr_iload_n X dX12_judge_27 rfl 1 rfl ?_
        refine gr_imul X dX12_judge_28 ?_
        have hi_ := oc_1 hf
        replace hf := oc_2 hf
        refine gM_ald_26 X hK (Int32.toNatClampNeg ((3 : Int32) * x1)) hi_ rfl dX12_judge_29 ?_
        obtain ⟨q3, hq_, hf⟩ := ot_b hf
        refine gc_Vi (rest := []) X kM_ok hK hA cw12_isAct (rvM hK) (xm_isAct hq_) rfl ⟨rfl, rfl, Nat.le_of_ble_eq_true rfl, Nat.le_of_ble_eq_true rfl⟩ rfl (Nat.le_of_ble_eq_true rfl) dX12_judge_30 ?_
        refine gr_if_eq X 89 dX12_judge_33 (by decide) (fun hc_ => ?_) (fun hc_ => ?_)
        · replace hf := ot_t hf hc_
          refine gr_sub [0, 1] rfl ?_
          exact wm_judge_b89 X hK hA hK97 ih _ _ hf
        · replace hf := ot_f hf hc_
          refine gr_aload_n X dX12_judge_36 rfl 0 rfl ?_
          obtain ⟨q4, hq_, hf⟩ := ot_b hf
          refine gc_Vi (rest := []) X kM_ok hK hA cw12_isOver (rvM hK) (xm_isOver hq_) rfl ⟨rfl, rfl, Nat.le_of_ble_eq_true rfl, Nat.le_of_ble_eq_true rfl⟩ rfl (Nat.le_of_ble_eq_true rfl) dX12_judge_37 ?_
          refine gr_if_ne X 89 dX12_judge_40 (by decide) (fun hc_ => ?_) (fun hc_ => ?_)
          · replace hf := ot_t hf hc_
            refine gr_sub [0, 1] rfl ?_
            exact wm_judge_b89 X hK hA hK97 ih _ _ hf
          · replace hf := ot_f hf hc_
            refine gr_aload_n X dX12_judge_43 rfl 0 rfl ?_
            refine gr_aload_n X dX12_judge_44 rfl 0 rfl ?_
            refine gM_get_26 X hK dX12_judge_45 ?_
            refine gr_iconst (v := 3) X dX12_judge_48 (by decide) ?_
            refine gr_iload_n X dX12_judge_49 rfl 1 rfl ?_
            refine gr_imul X dX12_judge_50 ?_
            have hi_ := oc_1 hf
            replace hf := oc_2 hf
            refine gM_ald_26 X hK (Int32.toNatClampNeg ((3 : Int32) * x1)) hi_ rfl dX12_judge_51 ?_
            obtain ⟨⟨q5, σ6⟩, hq_, hf⟩ := ot_b hf
            replace hf := ot_l (y := q5) hf rfl
            replace hf := ot_l (y := σ6) hf rfl
            refine gc_Vi (rest := []) X kM_ok hK hA cw12_goesWith (rvM hK) (xm_goesWith hq_) rfl ⟨rfl, rfl, Nat.le_of_ble_eq_true rfl, Nat.le_of_ble_eq_true rfl⟩ rfl (Nat.le_of_ble_eq_true rfl) dX12_judge_52 ?_
            refine gr_aload_n X dX12_judge_55 rfl 0 rfl ?_
            refine gM_get_26 X hK dX12_judge_56 ?_
            refine gr_iconst (v := 3) X dX12_judge_59 (by decide) ?_
            refine gr_iload_n X dX12_judge_60 rfl 1 rfl ?_
            refine gr_imul X dX12_judge_61 ?_
            refine gr_iconst (v := 1) X dX12_judge_62 (by decide) ?_
            refine gr_iadd X dX12_judge_63 ?_
            have hi_ := oc_1 hf
            replace hf := oc_2 hf
            refine gM_ald_26 X hK (Int32.toNatClampNeg (((3 : Int32) * x1) + (1 : Int32))) hi_ rfl dX12_judge_64 ?_
            refine gr_icmp_ne X 89 dX12_judge_65 (by decide) (fun hc_ => ?_) (fun hc_ => ?_)
            · replace hf := ot_t hf hc_
              refine gr_sub [0, 1] rfl ?_
              exact wm_judge_b89 X hK hA hK97 ih _ _ hf
            · replace hf := ot_f hf hc_
              refine gr_aload_n X dX12_judge_68 rfl 0 rfl ?_
              obtain ⟨q7, hq_, hf⟩ := ot_b hf
              refine gc_Vi (rest := []) X kM_ok hK hA cw12_doneOnes (rvM hK) (xm_doneOnes hq_) rfl ⟨rfl, rfl, Nat.le_of_ble_eq_true rfl, Nat.le_of_ble_eq_true rfl⟩ rfl (Nat.le_of_ble_eq_true rfl) dX12_judge_69 ?_
              refine gr_aload_n X dX12_judge_72 rfl 0 rfl ?_
              refine gM_get_26 X hK dX12_judge_73 ?_
              refine gr_iconst (v := 3) X dX12_judge_76 (by decide) ?_
              refine gr_iload_n X dX12_judge_77 rfl 1 rfl ?_
              refine gr_imul X dX12_judge_78 ?_
              refine gr_iconst (v := 2) X dX12_judge_79 (by decide) ?_
              refine gr_iadd X dX12_judge_80 ?_
              have hi_ := oc_1 hf
              replace hf := oc_2 hf
              refine gM_ald_26 X hK (Int32.toNatClampNeg (((3 : Int32) * x1) + (2 : Int32))) hi_ rfl dX12_judge_81 ?_
              refine gr_icmp_ne X 89 dX12_judge_82 (by decide) (fun hc_ => ?_) (fun hc_ => ?_)
              · replace hf := ot_t hf hc_
                refine gr_sub [0, 1] rfl ?_
                exact wm_judge_b89 X hK hA hK97 ih _ _ hf
              · replace hf := ot_f hf hc_
                refine gr_iconst (v := 1) X dX12_judge_85 (by decide) ?_
                refine gr_goto X 90 dX12_judge_86 (by decide) ?_
                refine gr_sub [0, 1] rfl ?_
                exact wm_judge_b90 X hK hA hK97 ih _ _ _ hf
set_option maxHeartbeats 4000000 in
set_option maxRecDepth 100000 in
theorem wm_judge_b97 {p : Program} {l : Launch} {e : Env} {s : State} {m : MethodId} {args : Array Value} {below : List Frame} {meth : Method} {c : Code} {A : Nat → Prop} {D : va_G} {cA : ClassId} {h : Nat} {ad : Nat → Nat} {r : Int32} {τ : SM} (X : hc p s m args meth c RX12 cX12_judge 3 (some .int)) (hK : kM D cA A s) (hA : ∀ q, s.heap.size ≤ q → A q)   (x1 : Int32) (x2 : Int32) (σ : SM) (hf : fm_judge_b97 x1 x2 σ = some (r, τ)) : gg p l e rm_judge s m args below meth c (wM h ad cA) D vwCl A 3 (QI below args s (wM h ad cA) D vwCl A r τ) 97 [(0, .ref h), (1, .int x1), (2, .int x2)] [] σ := by
  unfold fm_judge_b97 at hf
  refine gr_aload_n X dX12_judge_97 rfl 0 rfl ?_
  refine gr_iconst (v := 0) X dX12_judge_98 (by decide) ?_
  obtain ⟨σ9, hq_, hf⟩ := ot_b hf
  refine gc_Vv (rest := []) X kM_ok hK hA cw12_laysBack (rvM hK) (xm_laysBack hq_) rfl ⟨rfl, rfl, Nat.le_of_ble_eq_true rfl, Nat.le_of_ble_eq_true rfl⟩ rfl (Nat.le_of_ble_eq_true rfl) dX12_judge_99 ?_
  refine gr_iload_n X dX12_judge_102 rfl 2 rfl ?_
  refine gr_if_eq X 110 dX12_judge_103 (by decide) (fun hc_ => ?_) (fun hc_ => ?_)
  · replace hf := ot_t hf hc_
    refine gr_iload_n X dX12_judge_110 rfl 1 rfl ?_
    exact gr_iret X dX12_judge_111 (Prod.mk.inj (Option.some.inj hf)).1 (Prod.mk.inj (Option.some.inj hf)).2
  · replace hf := ot_f hf hc_
    refine gr_iconst (v := 0) X dX12_judge_106 (by decide) ?_
    refine gr_goto X 111 dX12_judge_107 (by decide) ?_
    exact gr_iret X dX12_judge_111 (Prod.mk.inj (Option.some.inj hf)).1 (Prod.mk.inj (Option.some.inj hf)).2
set_option maxHeartbeats 4000000 in
set_option maxRecDepth 100000 in
theorem xm_judge {l : Launch} {D : va_G} {cA : ClassId} {h : Nat} {ad : Nat → Nat} {σ : SM} {r : Int32} {τ : SM} (hf : fm_judge σ = some (r, τ)) : ctI l (wM h ad cA) D vwCl (kM D cA) yX12_judge cX12_judge 3 .int rm_judge [.ref h] σ r τ := by
  refine ct_I RX12 (by decide +kernel) rfl (Nat.le_of_ble_eq_true rfl) ?_
  intro p e s m args below meth c A X hK hA
  refine gr_eqL (L2 := [(0, .ref h)]) rfl ?_
  unfold fm_judge at hf
  refine gr_aload_n X dX12_judge_0 rfl 0 rfl ?_
  refine gr_iconst (v := 0) X dX12_judge_1 (by decide) ?_
  obtain ⟨σ2, hq_, hf⟩ := ot_b hf
  refine gc_Vv (rest := []) X kM_ok hK hA cw12_laysAside (rvM hK) (xm_laysAside hq_) rfl ⟨rfl, rfl, Nat.le_of_ble_eq_true rfl, Nat.le_of_ble_eq_true rfl⟩ rfl (Nat.le_of_ble_eq_true rfl) dX12_judge_2 ?_
  refine gr_iconst (v := 0) X dX12_judge_5 (by decide) ?_
  refine gr_istore_n (L2 := [(1, .int (0 : Int32)), (0, .ref h)]) X dX12_judge_6 rfl (by decide) rfl ?_
  refine gr_iconst (v := 1) X dX12_judge_7 (by decide) ?_
  refine gr_istore_n (L2 := [(2, .int (1 : Int32)), (1, .int (0 : Int32)), (0, .ref h)]) X dX12_judge_8 rfl (by decide) rfl ?_
  refine gr_sub [2, 1, 0] rfl ?_
  refine wm_judge_l9 X hK hA (fun x1 x2 σ hf => ?_) hFU _ _ _ hf
  refine gr_sub [0, 1, 2] rfl ?_
  exact wm_judge_b97 X hK hA _ _ _ hf
abbrev rm_isSheet : Room := { frames := 1, cells := 0, slots := 0, locals := 25 }
def fm_isSheet (x0 : Int32) : Option Int32 := (Option.bind (fm_isIn (Int32.toInt64 x0) (0 : Int64) (3 : Int64)) fun q1 => (oc (hz q1) (some q1)))
set_option maxHeartbeats 4000000 in
set_option maxRecDepth 100000 in
theorem xm_isSheet {l : Launch} {D : va_G} {cA : ClassId} {h : Nat} {ad : Nat → Nat} {σ : SM} {x0 : Int32} {r : Int32} (hf : fm_isSheet x0 = some r) : ctI l (wM h ad cA) D vwCl (kM D cA) yX12_isSheet cX12_isSheet 1 .boolean rm_isSheet [.int x0] σ r σ := by
  refine ct_I RX12 (by decide +kernel) rfl (Nat.le_of_ble_eq_true rfl) ?_
  intro p e s m args below meth c A X hK hA
  refine gr_eqL (L2 := [(0, .int x0)]) rfl ?_
  unfold fm_isSheet at hf
  refine gr_iload_n X dX12_isSheet_0 rfl 0 rfl ?_
  refine gr_i2l X dX12_isSheet_1 ?_
  refine gr_lconst (v := 0) X dX12_isSheet_2 (by decide) ?_
  refine gr_ldc2_w X ck12_306 dX12_isSheet_3 ?_
  obtain ⟨q1, hq_, hf⟩ := ot_b hf
  refine gc_Si (rest := []) X kM_ok hK hA cw12_isIn (xm_isIn hq_) rfl ⟨rfl, rfl, Nat.le_of_ble_eq_true rfl, Nat.le_of_ble_eq_true rfl⟩ rfl (Nat.le_of_ble_eq_true rfl) dX12_isSheet_6 ?_
  have hz_ := oc_1 hf
  replace hf := oc_2 hf
  exact gr_zret X dX12_isSheet_9 hz_ (Option.some.inj hf) rfl
abbrev rm_isShelf : Room := { frames := 1, cells := 0, slots := 0, locals := 25 }
def fm_isShelf (x0 : Int32) : Option Int32 := (Option.bind (fm_isIn (Int32.toInt64 x0) (0 : Int64) (3 : Int64)) fun q1 => (oc (hz q1) (some q1)))
set_option maxHeartbeats 4000000 in
set_option maxRecDepth 100000 in
theorem xm_isShelf {l : Launch} {D : va_G} {cA : ClassId} {h : Nat} {ad : Nat → Nat} {σ : SM} {x0 : Int32} {r : Int32} (hf : fm_isShelf x0 = some r) : ctI l (wM h ad cA) D vwCl (kM D cA) yX12_isShelf cX12_isShelf 1 .boolean rm_isShelf [.int x0] σ r σ := by
  refine ct_I RX12 (by decide +kernel) rfl (Nat.le_of_ble_eq_true rfl) ?_
  intro p e s m args below meth c A X hK hA
  refine gr_eqL (L2 := [(0, .int x0)]) rfl ?_
  unfold fm_isShelf at hf
  refine gr_iload_n X dX12_isShelf_0 rfl 0 rfl ?_
  refine gr_i2l X dX12_isShelf_1 ?_
  refine gr_lconst (v := 0) X dX12_isShelf_2 (by decide) ?_
  refine gr_ldc2_w X ck12_306 dX12_isShelf_3 ?_
  obtain ⟨q1, hq_, hf⟩ := ot_b hf
  refine gc_Si (rest := []) X kM_ok hK hA cw12_isIn (xm_isIn hq_) rfl ⟨rfl, rfl, Nat.le_of_ble_eq_true rfl, Nat.le_of_ble_eq_true rfl⟩ rfl (Nat.le_of_ble_eq_true rfl) dX12_isShelf_6 ?_
  have hz_ := oc_1 hf
  replace hf := oc_2 hf
  exact gr_zret X dX12_isShelf_9 hz_ (Option.some.inj hf) rfl
abbrev rm_sheet : Room := { frames := 2, cells := 0, slots := 0, locals := 45 }
def fm_sheet_l69 : Nat → Int32 → Int32 → SM → Option (Int32 × SM)
  | 0, _, _, _ => none
  | n + 1, x1, x4, σ => (if (40 : Int32) ≤ x4 then (some ((1 : Int32), σ)) else (oc (hin (((40 : Int32) * x1) + x4) 160) (hl (sf σ 30 (upd (σ 30) (Int32.toNatClampNeg (((40 : Int32) * x1) + x4)) (0 : Int32))) fun σ5 => ((fm_sheet_l69 n) x1 (x4 + (1 : Int32)) σ5))))
def fm_sheet_b65 (x1 : Int32) (y0 : Int32) (y1 : Int32) (σ : SM) : Option (Int32 × SM) := (oc (hin y1 4) (hl (sf σ 29 (upd (σ 29) (Int32.toNatClampNeg y1) y0)) fun σ4 => (fm_sheet_l69 hFU x1 (0 : Int32) σ4)))
def fm_sheet_b44 (x1 : Int32) (x2 : Int32) (x3 : Int32) (σ : SM) : Option (Int32 × SM) := (oc (hin x1 4) (hl (sf σ 28 (upd (σ 28) (Int32.toNatClampNeg x1) x2)) fun σ3 => (if 0 ≤ x2 then (fm_sheet_b65 x1 x3 x1 σ3) else (fm_sheet_b65 x1 (0 : Int32) x1 σ3))))
def fm_sheet_b33 (x1 : Int32) (x2 : Int32) (x3 : Int32) (σ : SM) : Option (Int32 × SM) := (if x2 < 0 then (fm_sheet_b44 x1 x2 x3 σ) else (if 0 ≤ x3 then (fm_sheet_b44 x1 x2 x3 σ) else (some ((-14 : Int32), σ))))
def fm_sheet (x1 : Int32) (x2 : Int32) (x3 : Int32) (σ : SM) : Option (Int32 × SM) := (Option.bind (fm_isSheet x1) fun q1 => (if q1 = 0 then (some ((-1 : Int32), σ)) else (Option.bind (fm_isIn (Int32.toInt64 x2) (-1 : Int64) (4 : Int64)) fun q2 => (if q2 = 0 then (some ((-1 : Int32), σ)) else (if x2 < 0 then (fm_sheet_b33 x1 x2 x3 σ) else (if x3 ≤ (40 : Int32) then (fm_sheet_b33 x1 x2 x3 σ) else (some ((-1 : Int32), σ))))))))
set_option maxHeartbeats 4000000 in
set_option maxRecDepth 100000 in
theorem wm_sheet_l69 {p : Program} {l : Launch} {e : Env} {s : State} {m : MethodId} {args : Array Value} {below : List Frame} {meth : Method} {c : Code} {A : Nat → Prop} {D : va_G} {cA : ClassId} {h : Nat} {ad : Nat → Nat} {r : Int32} {τ : SM} (X : hc p s m args meth c RX12 cX12_sheet 5 (some .int)) (hK : kM D cA A s) (hA : ∀ q, s.heap.size ≤ q → A q)  : ∀ (n : Nat) (x1 : Int32) (x4 : Int32) (σ : SM), fm_sheet_l69 n x1 x4 σ = some (r, τ) → gg p l e rm_sheet s m args below meth c (wM h ad cA) D vwCl A 5 (QI below args s (wM h ad cA) D vwCl A r τ) 69 [(0, .ref h), (1, .int x1), (4, .int x4)] [] σ := by
  intro n
  induction n with
  | zero =>
    intro x1 x4 σ hf
    cases (show (none : Option (Int32 × SM)) = some (r, τ) from hf)
  | succ n ih =>
    intro x1 x4 σ hf
    unfold fm_sheet_l69 at hf
    refine gr_iload X dX12_sheet_69 2 rfl ?_
    refine gr_bipush (v := 40) X dX12_sheet_71 (by decide) ?_
    refine gr_icmp_ge X 95 dX12_sheet_73 (by decide) (fun hc_ => ?_) (fun hc_ => ?_)
    · replace hf := ot_t hf hc_
      refine gr_iconst (v := 1) X dX12_sheet_95 (by decide) ?_
      exact gr_iret X dX12_sheet_96 (Prod.mk.inj (Option.some.inj hf)).1 (Prod.mk.inj (Option.some.inj hf)).2
    · replace hf := ot_f hf hc_
      refine gr_aload_n X dX12_sheet_76 rfl 0 rfl ?_
      refine gM_get_30 X hK dX12_sheet_77 ?_
      refine gr_bipush (v := 40) X dX12_sheet_80 (by decide) ?_
      refine gr_iload_n X dX12_sheet_82 rfl 1 rfl ?_
      refine gr_imul X dX12_sheet_83 ?_
      refine gr_iload X dX12_sheet_84 2 rfl ?_
      refine gr_iadd X dX12_sheet_86 ?_
      refine gr_iconst (v := 0) X dX12_sheet_87 (by decide) ?_
      have hi_ := oc_1 hf
      replace hf := oc_2 hf
      refine gM_ast_30 X hK (Int32.toNatClampNeg (((40 : Int32) * x1) + x4)) hi_ rfl dX12_sheet_88 ?_
      refine gM_gen (fun σ5 e_σ5 => ?_)
      replace hf := ot_l hf e_σ5
      refine gr_iinc (k := 2) (v := 1) (L2 := [(4, .int (x4 + (1 : Int32))), (0, .ref h), (1, .int x1)]) X dX12_sheet_89 rfl (by decide) (by decide) rfl ?_
      refine gr_goto X 69 dX12_sheet_92 (by decide) ?_
      refine gr_sub [1, 2, 0] rfl ?_
      exact ih _ _ _ hf
set_option maxHeartbeats 4000000 in
set_option maxRecDepth 100000 in
theorem wm_sheet_b65 {p : Program} {l : Launch} {e : Env} {s : State} {m : MethodId} {args : Array Value} {below : List Frame} {meth : Method} {c : Code} {A : Nat → Prop} {D : va_G} {cA : ClassId} {h : Nat} {ad : Nat → Nat} {r : Int32} {τ : SM} (X : hc p s m args meth c RX12 cX12_sheet 5 (some .int)) (hK : kM D cA A s) (hA : ∀ q, s.heap.size ≤ q → A q)   (x1 : Int32) (y0 : Int32) (y1 : Int32) (σ : SM) (hf : fm_sheet_b65 x1 y0 y1 σ = some (r, τ)) : gg p l e rm_sheet s m args below meth c (wM h ad cA) D vwCl A 5 (QI below args s (wM h ad cA) D vwCl A r τ) 65 [(0, .ref h), (1, .int x1)] [.int y0, .int y1, .ref (ad 29)] σ := by
  unfold fm_sheet_b65 at hf
  have hi_ := oc_1 hf
  replace hf := oc_2 hf
  refine gM_ast_29 X hK (Int32.toNatClampNeg y1) hi_ rfl dX12_sheet_65 ?_
  refine gM_gen (fun σ4 e_σ4 => ?_)
  replace hf := ot_l hf e_σ4
  refine gr_iconst (v := 0) X dX12_sheet_66 (by decide) ?_
  refine gr_istore (L2 := [(4, .int (0 : Int32)), (0, .ref h), (1, .int x1)]) X dX12_sheet_67 (by decide) rfl ?_
  refine gr_sub [1, 2, 0] rfl ?_
  refine wm_sheet_l69 X hK hA  hFU _ _ _ hf
set_option maxHeartbeats 4000000 in
set_option maxRecDepth 100000 in
theorem wm_sheet_b44 {p : Program} {l : Launch} {e : Env} {s : State} {m : MethodId} {args : Array Value} {below : List Frame} {meth : Method} {c : Code} {A : Nat → Prop} {D : va_G} {cA : ClassId} {h : Nat} {ad : Nat → Nat} {r : Int32} {τ : SM} (X : hc p s m args meth c RX12 cX12_sheet 5 (some .int)) (hK : kM D cA A s) (hA : ∀ q, s.heap.size ≤ q → A q)   (x1 : Int32) (x2 : Int32) (x3 : Int32) (σ : SM) (hf : fm_sheet_b44 x1 x2 x3 σ = some (r, τ)) : gg p l e rm_sheet s m args below meth c (wM h ad cA) D vwCl A 5 (QI below args s (wM h ad cA) D vwCl A r τ) 44 [(0, .ref h), (1, .int x1), (2, .int x2), (3, .int x3)] [] σ := by
  unfold fm_sheet_b44 at hf
  refine gr_aload_n X dX12_sheet_44 rfl 0 rfl ?_
  refine gM_get_28 X hK dX12_sheet_45 ?_
  refine gr_iload_n X dX12_sheet_48 rfl 1 rfl ?_
  refine gr_iload_n X dX12_sheet_49 rfl 2 rfl ?_
  have hi_ := oc_1 hf
  replace hf := oc_2 hf
  refine gM_ast_28 X hK (Int32.toNatClampNeg x1) hi_ rfl dX12_sheet_50 ?_
  refine gM_gen (fun σ3 e_σ3 => ?_)
  replace hf := ot_l hf e_σ3
  refine gr_aload_n X dX12_sheet_51 rfl 0 rfl ?_
  refine gM_get_29 X hK dX12_sheet_52 ?_
  refine gr_iload_n X dX12_sheet_55 rfl 1 rfl ?_
  refine gr_iload_n X dX12_sheet_56 rfl 2 rfl ?_
  refine gr_if_ge X 64 dX12_sheet_57 (by decide) (fun hc_ => ?_) (fun hc_ => ?_)
  · replace hf := ot_t hf hc_
    refine gr_iload_n X dX12_sheet_64 rfl 3 rfl ?_
    refine gr_sub [0, 1] rfl ?_
    exact wm_sheet_b65 X hK hA _ _ _ _ hf
  · replace hf := ot_f hf hc_
    refine gr_iconst (v := 0) X dX12_sheet_60 (by decide) ?_
    refine gr_goto X 65 dX12_sheet_61 (by decide) ?_
    refine gr_sub [0, 1] rfl ?_
    exact wm_sheet_b65 X hK hA _ _ _ _ hf
set_option maxHeartbeats 4000000 in
set_option maxRecDepth 100000 in
theorem wm_sheet_b33 {p : Program} {l : Launch} {e : Env} {s : State} {m : MethodId} {args : Array Value} {below : List Frame} {meth : Method} {c : Code} {A : Nat → Prop} {D : va_G} {cA : ClassId} {h : Nat} {ad : Nat → Nat} {r : Int32} {τ : SM} (X : hc p s m args meth c RX12 cX12_sheet 5 (some .int)) (hK : kM D cA A s) (hA : ∀ q, s.heap.size ≤ q → A q)   (x1 : Int32) (x2 : Int32) (x3 : Int32) (σ : SM) (hf : fm_sheet_b33 x1 x2 x3 σ = some (r, τ)) : gg p l e rm_sheet s m args below meth c (wM h ad cA) D vwCl A 5 (QI below args s (wM h ad cA) D vwCl A r τ) 33 [(0, .ref h), (1, .int x1), (2, .int x2), (3, .int x3)] [] σ := by
  unfold fm_sheet_b33 at hf
  refine gr_iload_n X dX12_sheet_33 rfl 2 rfl ?_
  refine gr_if_lt X 44 dX12_sheet_34 (by decide) (fun hc_ => ?_) (fun hc_ => ?_)
  · replace hf := ot_t hf hc_
    refine gr_sub [0, 1, 2, 3] rfl ?_
    exact wm_sheet_b44 X hK hA _ _ _ _ hf
  · replace hf := ot_f hf hc_
    refine gr_iload_n X dX12_sheet_37 rfl 3 rfl ?_
    refine gr_if_ge X 44 dX12_sheet_38 (by decide) (fun hc_ => ?_) (fun hc_ => ?_)
    · replace hf := ot_t hf hc_
      refine gr_sub [0, 1, 2, 3] rfl ?_
      exact wm_sheet_b44 X hK hA _ _ _ _ hf
    · replace hf := ot_f hf hc_
      refine gr_bipush (v := -14) X dX12_sheet_41 (by decide) ?_
      exact gr_iret X dX12_sheet_43 (Prod.mk.inj (Option.some.inj hf)).1 (Prod.mk.inj (Option.some.inj hf)).2
set_option maxHeartbeats 4000000 in
set_option maxRecDepth 100000 in
theorem xm_sheet {l : Launch} {D : va_G} {cA : ClassId} {h : Nat} {ad : Nat → Nat} {σ : SM} {x1 : Int32} {x2 : Int32} {x3 : Int32} {r : Int32} {τ : SM} (hf : fm_sheet x1 x2 x3 σ = some (r, τ)) : ctI l (wM h ad cA) D vwCl (kM D cA) yX12_sheet cX12_sheet 5 .int rm_sheet [.ref h, .int x1, .int x2, .int x3] σ r τ := by
  refine ct_I RX12 (by decide +kernel) rfl (Nat.le_of_ble_eq_true rfl) ?_
  intro p e s m args below meth c A X hK hA
  refine gr_eqL (L2 := [(0, .ref h), (1, .int x1), (2, .int x2), (3, .int x3)]) rfl ?_
  unfold fm_sheet at hf
  refine gr_iload_n X dX12_sheet_0 rfl 1 rfl ?_
  obtain ⟨q1, hq_, hf⟩ := ot_b hf
  refine gc_Si (rest := []) X kM_ok hK hA cw12_isSheet (xm_isSheet hq_) rfl ⟨rfl, rfl, Nat.le_of_ble_eq_true rfl, Nat.le_of_ble_eq_true rfl⟩ rfl (Nat.le_of_ble_eq_true rfl) dX12_sheet_1 ?_
  refine gr_if_eq X 31 dX12_sheet_4 (by decide) (fun hc_ => ?_) (fun hc_ => ?_)
  · replace hf := ot_t hf hc_
    refine gr_iconst (v := -1) X dX12_sheet_31 (by decide) ?_
    exact gr_iret X dX12_sheet_32 (Prod.mk.inj (Option.some.inj hf)).1 (Prod.mk.inj (Option.some.inj hf)).2
  · replace hf := ot_f hf hc_
    refine gr_iload_n X dX12_sheet_7 rfl 2 rfl ?_
    refine gr_i2l X dX12_sheet_8 ?_
    refine gr_ldc2_w X ck12_352 dX12_sheet_9 ?_
    refine gr_ldc2_w X ck12_297 dX12_sheet_12 ?_
    obtain ⟨q2, hq_, hf⟩ := ot_b hf
    refine gc_Si (rest := []) X kM_ok hK hA cw12_isIn (xm_isIn hq_) rfl ⟨rfl, rfl, Nat.le_of_ble_eq_true rfl, Nat.le_of_ble_eq_true rfl⟩ rfl (Nat.le_of_ble_eq_true rfl) dX12_sheet_15 ?_
    refine gr_if_eq X 31 dX12_sheet_18 (by decide) (fun hc_ => ?_) (fun hc_ => ?_)
    · replace hf := ot_t hf hc_
      refine gr_iconst (v := -1) X dX12_sheet_31 (by decide) ?_
      exact gr_iret X dX12_sheet_32 (Prod.mk.inj (Option.some.inj hf)).1 (Prod.mk.inj (Option.some.inj hf)).2
    · replace hf := ot_f hf hc_
      refine gr_iload_n X dX12_sheet_21 rfl 2 rfl ?_
      refine gr_if_lt X 33 dX12_sheet_22 (by decide) (fun hc_ => ?_) (fun hc_ => ?_)
      · replace hf := ot_t hf hc_
        refine gr_sub [0, 1, 2, 3] rfl ?_
        exact wm_sheet_b33 X hK hA _ _ _ _ hf
      · replace hf := ot_f hf hc_
        refine gr_iload_n X dX12_sheet_25 rfl 3 rfl ?_
        refine gr_bipush (v := 40) X dX12_sheet_26 (by decide) ?_
        refine gr_icmp_le X 33 dX12_sheet_28 (by decide) (fun hc_ => ?_) (fun hc_ => ?_)
        · replace hf := ot_t hf hc_
          refine gr_sub [0, 1, 2, 3] rfl ?_
          exact wm_sheet_b33 X hK hA _ _ _ _ hf
        · replace hf := ot_f hf hc_
          refine gr_iconst (v := -1) X dX12_sheet_31 (by decide) ?_
          exact gr_iret X dX12_sheet_32 (Prod.mk.inj (Option.some.inj hf)).1 (Prod.mk.inj (Option.some.inj hf)).2
abbrev rm_write : Room := { frames := 2, cells := 0, slots := 0, locals := 45 }
def fm_write (x1 : Int32) (x2 : Int32) (x3 : Int32) (σ : SM) : Option (Int32 × SM) := (Option.bind (fm_isSheet x1) fun q1 => (if ¬ q1 = 0 then (oc (hin x1 4) (if 0 ≤ (σ 28 (Int32.toNatClampNeg x1)) then (oc (hin x1 4) (Option.bind (fm_isIn (Int32.toInt64 x2) (0 : Int64) (Int32.toInt64 ((σ 29 (Int32.toNatClampNeg x1)) - (1 : Int32)))) fun q2 => (if ¬ q2 = 0 then (oc (hin x1 4) (if ¬ (σ 28 (Int32.toNatClampNeg x1)) = 0 then (oc (hin x1 4) (if ¬ (σ 28 (Int32.toNatClampNeg x1)) = (1 : Int32) then (oc (hin x1 4) (if ¬ (σ 28 (Int32.toNatClampNeg x1)) = (4 : Int32) then (oc (hin (((40 : Int32) * x1) + x2) 160) (hl (sf σ 30 (upd (σ 30) (Int32.toNatClampNeg (((40 : Int32) * x1) + x2)) x3)) fun σ3 => (some ((1 : Int32), σ3)))) else (if ¬ x3 = 0 then (oc (hin (((40 : Int32) * x1) + x2) 160) (hl (sf σ 30 (upd (σ 30) (Int32.toNatClampNeg (((40 : Int32) * x1) + x2)) (1 : Int32))) fun σ4 => (some ((1 : Int32), σ4)))) else (oc (hin (((40 : Int32) * x1) + x2) 160) (hl (sf σ 30 (upd (σ 30) (Int32.toNatClampNeg (((40 : Int32) * x1) + x2)) (0 : Int32))) fun σ5 => (some ((1 : Int32), σ5))))))) else (oc (hin (((40 : Int32) * x1) + x2) 160) (hl (sf σ 30 (upd (σ 30) (Int32.toNatClampNeg (((40 : Int32) * x1) + x2)) (Int16.toInt32 (Int32.toInt16 x3)))) fun σ6 => (some ((1 : Int32), σ6)))))) else (oc (hin (((40 : Int32) * x1) + x2) 160) (hl (sf σ 30 (upd (σ 30) (Int32.toNatClampNeg (((40 : Int32) * x1) + x2)) (Int8.toInt32 (Int32.toInt8 x3)))) fun σ7 => (some ((1 : Int32), σ7)))))) else (some ((-12 : Int32), σ))))) else (some ((-11 : Int32), σ)))) else (some ((-1 : Int32), σ))))
set_option maxHeartbeats 4000000 in
set_option maxRecDepth 100000 in
theorem xm_write {l : Launch} {D : va_G} {cA : ClassId} {h : Nat} {ad : Nat → Nat} {σ : SM} {x1 : Int32} {x2 : Int32} {x3 : Int32} {r : Int32} {τ : SM} (hf : fm_write x1 x2 x3 σ = some (r, τ)) : ctI l (wM h ad cA) D vwCl (kM D cA) yX12_write cX12_write 4 .int rm_write [.ref h, .int x1, .int x2, .int x3] σ r τ := by
  refine ct_I RX12 (by decide +kernel) rfl (Nat.le_of_ble_eq_true rfl) ?_
  intro p e s m args below meth c A X hK hA
  refine gr_eqL (L2 := [(0, .ref h), (1, .int x1), (2, .int x2), (3, .int x3)]) rfl ?_
  unfold fm_write at hf
  refine gr_iload_n X dX12_write_0 rfl 1 rfl ?_
  obtain ⟨q1, hq_, hf⟩ := ot_b hf
  refine gc_Si (rest := []) X kM_ok hK hA cw12_isSheet (xm_isSheet hq_) rfl ⟨rfl, rfl, Nat.le_of_ble_eq_true rfl, Nat.le_of_ble_eq_true rfl⟩ rfl (Nat.le_of_ble_eq_true rfl) dX12_write_1 ?_
  refine gr_if_ne X 9 dX12_write_4 (by decide) (fun hc_ => ?_) (fun hc_ => ?_)
  · replace hf := ot_t hf hc_
    refine gr_aload_n X dX12_write_9 rfl 0 rfl ?_
    refine gM_get_28 X hK dX12_write_10 ?_
    refine gr_iload_n X dX12_write_13 rfl 1 rfl ?_
    have hi_ := oc_1 hf
    replace hf := oc_2 hf
    refine gM_ald_28 X hK (Int32.toNatClampNeg x1) hi_ rfl dX12_write_14 ?_
    refine gr_if_ge X 21 dX12_write_15 (by decide) (fun hc_ => ?_) (fun hc_ => ?_)
    · replace hf := ot_t hf hc_
      refine gr_iload_n X dX12_write_21 rfl 2 rfl ?_
      refine gr_i2l X dX12_write_22 ?_
      refine gr_lconst (v := 0) X dX12_write_23 (by decide) ?_
      refine gr_aload_n X dX12_write_24 rfl 0 rfl ?_
      refine gM_get_29 X hK dX12_write_25 ?_
      refine gr_iload_n X dX12_write_28 rfl 1 rfl ?_
      have hi_ := oc_1 hf
      replace hf := oc_2 hf
      refine gM_ald_29 X hK (Int32.toNatClampNeg x1) hi_ rfl dX12_write_29 ?_
      refine gr_iconst (v := 1) X dX12_write_30 (by decide) ?_
      refine gr_isub X dX12_write_31 ?_
      refine gr_i2l X dX12_write_32 ?_
      obtain ⟨q2, hq_, hf⟩ := ot_b hf
      refine gc_Si (rest := []) X kM_ok hK hA cw12_isIn (xm_isIn hq_) rfl ⟨rfl, rfl, Nat.le_of_ble_eq_true rfl, Nat.le_of_ble_eq_true rfl⟩ rfl (Nat.le_of_ble_eq_true rfl) dX12_write_33 ?_
      refine gr_if_ne X 42 dX12_write_36 (by decide) (fun hc_ => ?_) (fun hc_ => ?_)
      · replace hf := ot_t hf hc_
        refine gr_aload_n X dX12_write_42 rfl 0 rfl ?_
        refine gM_get_30 X hK dX12_write_43 ?_
        refine gr_bipush (v := 40) X dX12_write_46 (by decide) ?_
        refine gr_iload_n X dX12_write_48 rfl 1 rfl ?_
        refine gr_imul X dX12_write_49 ?_
        refine gr_iload_n X dX12_write_50 rfl 2 rfl ?_
        refine gr_iadd X dX12_write_51 ?_
        refine gr_aload_n X dX12_write_52 rfl 0 rfl ?_
        refine gM_get_28 X hK dX12_write_53 ?_
        refine gr_iload_n X dX12_write_56 rfl 1 rfl ?_
        have hi_ := oc_1 hf
        replace hf := oc_2 hf
        refine gM_ald_28 X hK (Int32.toNatClampNeg x1) hi_ rfl dX12_write_57 ?_
        refine gr_if_ne X 66 dX12_write_58 (by decide) (fun hc_ => ?_) (fun hc_ => ?_)
        · replace hf := ot_t hf hc_
          refine gr_aload_n X dX12_write_66 rfl 0 rfl ?_
          refine gM_get_28 X hK dX12_write_67 ?_
          refine gr_iload_n X dX12_write_70 rfl 1 rfl ?_
          have hi_ := oc_1 hf
          replace hf := oc_2 hf
          refine gM_ald_28 X hK (Int32.toNatClampNeg x1) hi_ rfl dX12_write_71 ?_
          refine gr_iconst (v := 1) X dX12_write_72 (by decide) ?_
          refine gr_icmp_ne X 81 dX12_write_73 (by decide) (fun hc_ => ?_) (fun hc_ => ?_)
          · replace hf := ot_t hf hc_
            refine gr_aload_n X dX12_write_81 rfl 0 rfl ?_
            refine gM_get_28 X hK dX12_write_82 ?_
            refine gr_iload_n X dX12_write_85 rfl 1 rfl ?_
            have hi_ := oc_1 hf
            replace hf := oc_2 hf
            refine gM_ald_28 X hK (Int32.toNatClampNeg x1) hi_ rfl dX12_write_86 ?_
            refine gr_iconst (v := 4) X dX12_write_87 (by decide) ?_
            refine gr_icmp_ne X 103 dX12_write_88 (by decide) (fun hc_ => ?_) (fun hc_ => ?_)
            · replace hf := ot_t hf hc_
              refine gr_iload_n X dX12_write_103 rfl 3 rfl ?_
              have hi_ := oc_1 hf
              replace hf := oc_2 hf
              refine gM_ast_30 X hK (Int32.toNatClampNeg (((40 : Int32) * x1) + x2)) hi_ rfl dX12_write_104 ?_
              refine gM_gen (fun σ3 e_σ3 => ?_)
              replace hf := ot_l hf e_σ3
              refine gr_iconst (v := 1) X dX12_write_105 (by decide) ?_
              exact gr_iret X dX12_write_106 (Prod.mk.inj (Option.some.inj hf)).1 (Prod.mk.inj (Option.some.inj hf)).2
            · replace hf := ot_f hf hc_
              refine gr_iload_n X dX12_write_91 rfl 3 rfl ?_
              refine gr_if_ne X 99 dX12_write_92 (by decide) (fun hc_ => ?_) (fun hc_ => ?_)
              · replace hf := ot_t hf hc_
                refine gr_iconst (v := 1) X dX12_write_99 (by decide) ?_
                refine gr_goto X 104 dX12_write_100 (by decide) ?_
                have hi_ := oc_1 hf
                replace hf := oc_2 hf
                refine gM_ast_30 X hK (Int32.toNatClampNeg (((40 : Int32) * x1) + x2)) hi_ rfl dX12_write_104 ?_
                refine gM_gen (fun σ4 e_σ4 => ?_)
                replace hf := ot_l hf e_σ4
                refine gr_iconst (v := 1) X dX12_write_105 (by decide) ?_
                exact gr_iret X dX12_write_106 (Prod.mk.inj (Option.some.inj hf)).1 (Prod.mk.inj (Option.some.inj hf)).2
              · replace hf := ot_f hf hc_
                refine gr_iconst (v := 0) X dX12_write_95 (by decide) ?_
                refine gr_goto X 104 dX12_write_96 (by decide) ?_
                have hi_ := oc_1 hf
                replace hf := oc_2 hf
                refine gM_ast_30 X hK (Int32.toNatClampNeg (((40 : Int32) * x1) + x2)) hi_ rfl dX12_write_104 ?_
                refine gM_gen (fun σ5 e_σ5 => ?_)
                replace hf := ot_l hf e_σ5
                refine gr_iconst (v := 1) X dX12_write_105 (by decide) ?_
                exact gr_iret X dX12_write_106 (Prod.mk.inj (Option.some.inj hf)).1 (Prod.mk.inj (Option.some.inj hf)).2
          · replace hf := ot_f hf hc_
            refine gr_iload_n X dX12_write_76 rfl 3 rfl ?_
            refine gr_i2s X dX12_write_77 ?_
            refine gr_goto X 104 dX12_write_78 (by decide) ?_
            have hi_ := oc_1 hf
            replace hf := oc_2 hf
            refine gM_ast_30 X hK (Int32.toNatClampNeg (((40 : Int32) * x1) + x2)) hi_ rfl dX12_write_104 ?_
            refine gM_gen (fun σ6 e_σ6 => ?_)
            replace hf := ot_l hf e_σ6
            refine gr_iconst (v := 1) X dX12_write_105 (by decide) ?_
            exact gr_iret X dX12_write_106 (Prod.mk.inj (Option.some.inj hf)).1 (Prod.mk.inj (Option.some.inj hf)).2
        · replace hf := ot_f hf hc_
          refine gr_iload_n X dX12_write_61 rfl 3 rfl ?_
          refine gr_i2b X dX12_write_62 ?_
          refine gr_goto X 104 dX12_write_63 (by decide) ?_
          have hi_ := oc_1 hf
          replace hf := oc_2 hf
          refine gM_ast_30 X hK (Int32.toNatClampNeg (((40 : Int32) * x1) + x2)) hi_ rfl dX12_write_104 ?_
          refine gM_gen (fun σ7 e_σ7 => ?_)
          replace hf := ot_l hf e_σ7
          refine gr_iconst (v := 1) X dX12_write_105 (by decide) ?_
          exact gr_iret X dX12_write_106 (Prod.mk.inj (Option.some.inj hf)).1 (Prod.mk.inj (Option.some.inj hf)).2
      · replace hf := ot_f hf hc_
        refine gr_bipush (v := -12) X dX12_write_39 (by decide) ?_
        exact gr_iret X dX12_write_41 (Prod.mk.inj (Option.some.inj hf)).1 (Prod.mk.inj (Option.some.inj hf)).2
    · replace hf := ot_f hf hc_
      refine gr_bipush (v := -11) X dX12_write_18 (by decide) ?_
      exact gr_iret X dX12_write_20 (Prod.mk.inj (Option.some.inj hf)).1 (Prod.mk.inj (Option.some.inj hf)).2
  · replace hf := ot_f hf hc_
    refine gr_iconst (v := -1) X dX12_write_7 (by decide) ?_
    exact gr_iret X dX12_write_8 (Prod.mk.inj (Option.some.inj hf)).1 (Prod.mk.inj (Option.some.inj hf)).2
