abbrev rm_knocksPlain : Room := { frames := 1, cells := 0, slots := 0, locals := 21 }
def fm_knocksPlain (x1 : Int32) (σ : SM) : Option (Int32 × SM) := (Option.bind (fm_runs (10 : Int32) σ) fun σ2 => (some (((x1 * (3 : Int32)) - (σ2 37 0)), σ2)))
set_option maxHeartbeats 4000000 in
set_option maxRecDepth 100000 in
theorem xm_knocksPlain {l : Launch} {D : va_G} {cA : ClassId} {h : Nat} {ad : Nat → Nat} {σ : SM} {x1 : Int32} {r : Int32} {τ : SM} (hf : fm_knocksPlain x1 σ = some (r, τ)) : ctI l (wM h ad cA) D vwCl (kM D cA) yX12_knocksPlain cX12_knocksPlain 2 .int rm_knocksPlain [.ref h, .int x1] σ r τ := by
  refine ct_I RX12 (by decide +kernel) rfl (Nat.le_of_ble_eq_true rfl) ?_
  intro p e s m args below meth c A X hK hA
  refine gr_eqL (L2 := [(0, .ref h), (1, .int x1)]) rfl ?_
  unfold fm_knocksPlain at hf
  refine gr_aload_n X dX12_knocksPlain_0 rfl 0 rfl ?_
  refine gr_bipush (v := 10) X dX12_knocksPlain_1 (by decide) ?_
  obtain ⟨σ2, hq_, hf⟩ := ot_b hf
  refine gc_Vv (rest := []) X kM_ok hK hA cw12_runs (rvM hK) (xm_runs hq_) rfl ⟨rfl, rfl, Nat.le_of_ble_eq_true rfl, Nat.le_of_ble_eq_true rfl⟩ rfl (Nat.le_of_ble_eq_true rfl) dX12_knocksPlain_3 ?_
  refine gr_iload_n X dX12_knocksPlain_6 rfl 1 rfl ?_
  refine gr_iconst (v := 3) X dX12_knocksPlain_7 (by decide) ?_
  refine gr_imul X dX12_knocksPlain_8 ?_
  refine gr_aload_n X dX12_knocksPlain_9 rfl 0 rfl ?_
  refine gM_get_37 X hK dX12_knocksPlain_10 ?_
  refine gr_isub X dX12_knocksPlain_13 ?_
  exact gr_iret X dX12_knocksPlain_14 (Prod.mk.inj (Option.some.inj hf)).1 (Prod.mk.inj (Option.some.inj hf)).2
abbrev rm_knocks : Room := { frames := 2, cells := 0, slots := 0, locals := 42 }
def fm_knocks (x1 : Int32) (σ : SM) : Option (Int32 × SM) := (if ¬ (σ 36 0) = (1 : Int32) then (if ¬ (σ 36 0) = (3 : Int32) then (Option.bind (fm_knocksPlain x1 σ) fun p_ => hl p_.1 fun q1 => hl p_.2 fun σ2 => (some (q1, σ2))) else (Option.bind (fm_runs (50 : Int32) σ) fun σ4 => (Option.bind (fm_knocksPlain x1 σ4) fun p_ => hl p_.1 fun q5 => hl p_.2 fun σ6 => (some ((q5 ^^^ (9 : Int32)), σ6))))) else (Option.bind (fm_runs (20 : Int32) σ) fun σ8 => (Option.bind (fm_knocksPlain x1 σ8) fun p_ => hl p_.1 fun q9 => hl p_.2 fun σ10 => (some ((q9 - (3 : Int32)), σ10)))))
set_option maxHeartbeats 4000000 in
set_option maxRecDepth 100000 in
theorem xm_knocks {l : Launch} {D : va_G} {cA : ClassId} {h : Nat} {ad : Nat → Nat} {σ : SM} {x1 : Int32} {r : Int32} {τ : SM} (hf : fm_knocks x1 σ = some (r, τ)) : ctI l (wM h ad cA) D vwCl (kM D cA) yX12_knocks cX12_knocks 2 .int rm_knocks [.ref h, .int x1] σ r τ := by
  refine ct_I RX12 (by decide +kernel) rfl (Nat.le_of_ble_eq_true rfl) ?_
  intro p e s m args below meth c A X hK hA
  refine gr_eqL (L2 := [(0, .ref h), (1, .int x1)]) rfl ?_
  unfold fm_knocks at hf
  refine gr_aload_n X dX12_knocks_0 rfl 0 rfl ?_
  refine gM_get_36 X hK dX12_knocks_1 ?_
  refine gr_iconst (v := 1) X dX12_knocks_4 (by decide) ?_
  refine gr_icmp_ne X 22 dX12_knocks_5 (by decide) (fun hc_ => ?_) (fun hc_ => ?_)
  · replace hf := ot_t hf hc_
    refine gr_aload_n X dX12_knocks_22 rfl 0 rfl ?_
    refine gM_get_36 X hK dX12_knocks_23 ?_
    refine gr_iconst (v := 3) X dX12_knocks_26 (by decide) ?_
    refine gr_icmp_ne X 45 dX12_knocks_27 (by decide) (fun hc_ => ?_) (fun hc_ => ?_)
    · replace hf := ot_t hf hc_
      refine gr_aload_n X dX12_knocks_45 rfl 0 rfl ?_
      refine gr_iload_n X dX12_knocks_46 rfl 1 rfl ?_
      obtain ⟨⟨q1, σ2⟩, hq_, hf⟩ := ot_b hf
      replace hf := ot_l (y := q1) hf rfl
      replace hf := ot_l (y := σ2) hf rfl
      refine gc_Vi (rest := []) X kM_ok hK hA cw12_knocksPlain (rvM hK) (xm_knocksPlain hq_) rfl ⟨rfl, rfl, Nat.le_of_ble_eq_true rfl, Nat.le_of_ble_eq_true rfl⟩ rfl (Nat.le_of_ble_eq_true rfl) dX12_knocks_47 ?_
      exact gr_iret X dX12_knocks_50 (Prod.mk.inj (Option.some.inj hf)).1 (Prod.mk.inj (Option.some.inj hf)).2
    · replace hf := ot_f hf hc_
      refine gr_aload_n X dX12_knocks_30 rfl 0 rfl ?_
      refine gr_bipush (v := 50) X dX12_knocks_31 (by decide) ?_
      obtain ⟨σ4, hq_, hf⟩ := ot_b hf
      refine gc_Vv (rest := []) X kM_ok hK hA cw12_runs (rvM hK) (xm_runs hq_) rfl ⟨rfl, rfl, Nat.le_of_ble_eq_true rfl, Nat.le_of_ble_eq_true rfl⟩ rfl (Nat.le_of_ble_eq_true rfl) dX12_knocks_33 ?_
      refine gr_aload_n X dX12_knocks_36 rfl 0 rfl ?_
      refine gr_iload_n X dX12_knocks_37 rfl 1 rfl ?_
      obtain ⟨⟨q5, σ6⟩, hq_, hf⟩ := ot_b hf
      replace hf := ot_l (y := q5) hf rfl
      replace hf := ot_l (y := σ6) hf rfl
      refine gc_Vi (rest := []) X kM_ok hK hA cw12_knocksPlain (rvM hK) (xm_knocksPlain hq_) rfl ⟨rfl, rfl, Nat.le_of_ble_eq_true rfl, Nat.le_of_ble_eq_true rfl⟩ rfl (Nat.le_of_ble_eq_true rfl) dX12_knocks_38 ?_
      refine gr_bipush (v := 9) X dX12_knocks_41 (by decide) ?_
      refine gr_ixor X dX12_knocks_43 ?_
      exact gr_iret X dX12_knocks_44 (Prod.mk.inj (Option.some.inj hf)).1 (Prod.mk.inj (Option.some.inj hf)).2
  · replace hf := ot_f hf hc_
    refine gr_aload_n X dX12_knocks_8 rfl 0 rfl ?_
    refine gr_bipush (v := 20) X dX12_knocks_9 (by decide) ?_
    obtain ⟨σ8, hq_, hf⟩ := ot_b hf
    refine gc_Vv (rest := []) X kM_ok hK hA cw12_runs (rvM hK) (xm_runs hq_) rfl ⟨rfl, rfl, Nat.le_of_ble_eq_true rfl, Nat.le_of_ble_eq_true rfl⟩ rfl (Nat.le_of_ble_eq_true rfl) dX12_knocks_11 ?_
    refine gr_aload_n X dX12_knocks_14 rfl 0 rfl ?_
    refine gr_iload_n X dX12_knocks_15 rfl 1 rfl ?_
    obtain ⟨⟨q9, σ10⟩, hq_, hf⟩ := ot_b hf
    replace hf := ot_l (y := q9) hf rfl
    replace hf := ot_l (y := σ10) hf rfl
    refine gc_Vi (rest := []) X kM_ok hK hA cw12_knocksPlain (rvM hK) (xm_knocksPlain hq_) rfl ⟨rfl, rfl, Nat.le_of_ble_eq_true rfl, Nat.le_of_ble_eq_true rfl⟩ rfl (Nat.le_of_ble_eq_true rfl) dX12_knocks_16 ?_
    refine gr_iconst (v := 3) X dX12_knocks_19 (by decide) ?_
    refine gr_isub X dX12_knocks_20 ?_
    exact gr_iret X dX12_knocks_21 (Prod.mk.inj (Option.some.inj hf)).1 (Prod.mk.inj (Option.some.inj hf)).2
abbrev rm_tellsPlain : Room := { frames := 3, cells := 0, slots := 0, locals := 63 }
def fm_tellsPlain (x1 : Int32) (σ : SM) : Option (Int32 × SM) := (Option.bind (fm_runs (11 : Int32) σ) fun σ2 => (Option.bind (fm_knocks x1 σ2) fun p_ => hl p_.1 fun q3 => hl p_.2 fun σ4 => (some ((q3 + ((2 : Int32) * (σ4 38 0))), σ4))))
set_option maxHeartbeats 4000000 in
set_option maxRecDepth 100000 in
theorem xm_tellsPlain {l : Launch} {D : va_G} {cA : ClassId} {h : Nat} {ad : Nat → Nat} {σ : SM} {x1 : Int32} {r : Int32} {τ : SM} (hf : fm_tellsPlain x1 σ = some (r, τ)) : ctI l (wM h ad cA) D vwCl (kM D cA) yX12_tellsPlain cX12_tellsPlain 2 .int rm_tellsPlain [.ref h, .int x1] σ r τ := by
  refine ct_I RX12 (by decide +kernel) rfl (Nat.le_of_ble_eq_true rfl) ?_
  intro p e s m args below meth c A X hK hA
  refine gr_eqL (L2 := [(0, .ref h), (1, .int x1)]) rfl ?_
  unfold fm_tellsPlain at hf
  refine gr_aload_n X dX12_tellsPlain_0 rfl 0 rfl ?_
  refine gr_bipush (v := 11) X dX12_tellsPlain_1 (by decide) ?_
  obtain ⟨σ2, hq_, hf⟩ := ot_b hf
  refine gc_Vv (rest := []) X kM_ok hK hA cw12_runs (rvM hK) (xm_runs hq_) rfl ⟨rfl, rfl, Nat.le_of_ble_eq_true rfl, Nat.le_of_ble_eq_true rfl⟩ rfl (Nat.le_of_ble_eq_true rfl) dX12_tellsPlain_3 ?_
  refine gr_aload_n X dX12_tellsPlain_6 rfl 0 rfl ?_
  refine gr_iload_n X dX12_tellsPlain_7 rfl 1 rfl ?_
  obtain ⟨⟨q3, σ4⟩, hq_, hf⟩ := ot_b hf
  replace hf := ot_l (y := q3) hf rfl
  replace hf := ot_l (y := σ4) hf rfl
  refine gc_Vi (rest := []) X kM_ok hK hA cw12_knocks (rvM hK) (xm_knocks hq_) rfl ⟨rfl, rfl, Nat.le_of_ble_eq_true rfl, Nat.le_of_ble_eq_true rfl⟩ rfl (Nat.le_of_ble_eq_true rfl) dX12_tellsPlain_8 ?_
  refine gr_iconst (v := 2) X dX12_tellsPlain_11 (by decide) ?_
  refine gr_aload_n X dX12_tellsPlain_12 rfl 0 rfl ?_
  refine gM_get_38 X hK dX12_tellsPlain_13 ?_
  refine gr_imul X dX12_tellsPlain_16 ?_
  refine gr_iadd X dX12_tellsPlain_17 ?_
  exact gr_iret X dX12_tellsPlain_18 (Prod.mk.inj (Option.some.inj hf)).1 (Prod.mk.inj (Option.some.inj hf)).2
abbrev rm_tells : Room := { frames := 4, cells := 0, slots := 0, locals := 84 }
def fm_tells_b16 (x1 : Int32) (σ : SM) : Option (Int32 × SM) := (Option.bind (fm_runs (30 : Int32) σ) fun σ2 => (Option.bind (fm_tellsPlain (x1 - (σ2 37 0)) σ2) fun p_ => hl p_.1 fun q3 => hl p_.2 fun σ4 => (some (q3, σ4))))
def fm_tells (x1 : Int32) (σ : SM) : Option (Int32 × SM) := (if (σ 36 0) = (2 : Int32) then (fm_tells_b16 x1 σ) else (if ¬ (σ 36 0) = (3 : Int32) then (if ¬ (σ 36 0) = (5 : Int32) then (Option.bind (fm_tellsPlain x1 σ) fun p_ => hl p_.1 fun q5 => hl p_.2 fun σ6 => (some (q5, σ6))) else (Option.bind (fm_runs (60 : Int32) σ) fun σ8 => (Option.bind (fm_tellsPlain x1 σ8) fun p_ => hl p_.1 fun q9 => hl p_.2 fun σ10 => (some ((q9 * (σ10 37 0)), σ10))))) else (fm_tells_b16 x1 σ)))
set_option maxHeartbeats 4000000 in
set_option maxRecDepth 100000 in
theorem wm_tells_b16 {p : Program} {l : Launch} {e : Env} {s : State} {m : MethodId} {args : Array Value} {below : List Frame} {meth : Method} {c : Code} {A : Nat → Prop} {D : va_G} {cA : ClassId} {h : Nat} {ad : Nat → Nat} {r : Int32} {τ : SM} (X : hc p s m args meth c RX12 cX12_tells 2 (some .int)) (hK : kM D cA A s) (hA : ∀ q, s.heap.size ≤ q → A q)   (x1 : Int32) (σ : SM) (hf : fm_tells_b16 x1 σ = some (r, τ)) : gg p l e rm_tells s m args below meth c (wM h ad cA) D vwCl A 2 (QI below args s (wM h ad cA) D vwCl A r τ) 16 [(0, .ref h), (1, .int x1)] [] σ := by
  unfold fm_tells_b16 at hf
  refine gr_aload_n X dX12_tells_16 rfl 0 rfl ?_
  refine gr_bipush (v := 30) X dX12_tells_17 (by decide) ?_
  obtain ⟨σ2, hq_, hf⟩ := ot_b hf
  refine gc_Vv (rest := []) X kM_ok hK hA cw12_runs (rvM hK) (xm_runs hq_) rfl ⟨rfl, rfl, Nat.le_of_ble_eq_true rfl, Nat.le_of_ble_eq_true rfl⟩ rfl (Nat.le_of_ble_eq_true rfl) dX12_tells_19 ?_
  refine gr_aload_n X dX12_tells_22 rfl 0 rfl ?_
  refine gr_iload_n X dX12_tells_23 rfl 1 rfl ?_
  refine gr_aload_n X dX12_tells_24 rfl 0 rfl ?_
  refine gM_get_37 X hK dX12_tells_25 ?_
  refine gr_isub X dX12_tells_28 ?_
  obtain ⟨⟨q3, σ4⟩, hq_, hf⟩ := ot_b hf
  replace hf := ot_l (y := q3) hf rfl
  replace hf := ot_l (y := σ4) hf rfl
  refine gc_Vi (rest := []) X kM_ok hK hA cw12_tellsPlain (rvM hK) (xm_tellsPlain hq_) rfl ⟨rfl, rfl, Nat.le_of_ble_eq_true rfl, Nat.le_of_ble_eq_true rfl⟩ rfl (Nat.le_of_ble_eq_true rfl) dX12_tells_29 ?_
  exact gr_iret X dX12_tells_32 (Prod.mk.inj (Option.some.inj hf)).1 (Prod.mk.inj (Option.some.inj hf)).2
set_option maxHeartbeats 4000000 in
set_option maxRecDepth 100000 in
theorem xm_tells {l : Launch} {D : va_G} {cA : ClassId} {h : Nat} {ad : Nat → Nat} {σ : SM} {x1 : Int32} {r : Int32} {τ : SM} (hf : fm_tells x1 σ = some (r, τ)) : ctI l (wM h ad cA) D vwCl (kM D cA) yX12_tells cX12_tells 2 .int rm_tells [.ref h, .int x1] σ r τ := by
  refine ct_I RX12 (by decide +kernel) rfl (Nat.le_of_ble_eq_true rfl) ?_
  intro p e s m args below meth c A X hK hA
  refine gr_eqL (L2 := [(0, .ref h), (1, .int x1)]) rfl ?_
  unfold fm_tells at hf
  refine gr_aload_n X dX12_tells_0 rfl 0 rfl ?_
  refine gM_get_36 X hK dX12_tells_1 ?_
  refine gr_iconst (v := 2) X dX12_tells_4 (by decide) ?_
  refine gr_icmp_eq X 16 dX12_tells_5 (by decide) (fun hc_ => ?_) (fun hc_ => ?_)
  · replace hf := ot_t hf hc_
    refine gr_sub [0, 1] rfl ?_
    exact wm_tells_b16 X hK hA _ _ hf
  · replace hf := ot_f hf hc_
    refine gr_aload_n X dX12_tells_8 rfl 0 rfl ?_
    refine gM_get_36 X hK dX12_tells_9 ?_
    refine gr_iconst (v := 3) X dX12_tells_12 (by decide) ?_
    refine gr_icmp_ne X 33 dX12_tells_13 (by decide) (fun hc_ => ?_) (fun hc_ => ?_)
    · replace hf := ot_t hf hc_
      refine gr_aload_n X dX12_tells_33 rfl 0 rfl ?_
      refine gM_get_36 X hK dX12_tells_34 ?_
      refine gr_iconst (v := 5) X dX12_tells_37 (by decide) ?_
      refine gr_icmp_ne X 58 dX12_tells_38 (by decide) (fun hc_ => ?_) (fun hc_ => ?_)
      · replace hf := ot_t hf hc_
        refine gr_aload_n X dX12_tells_58 rfl 0 rfl ?_
        refine gr_iload_n X dX12_tells_59 rfl 1 rfl ?_
        obtain ⟨⟨q5, σ6⟩, hq_, hf⟩ := ot_b hf
        replace hf := ot_l (y := q5) hf rfl
        replace hf := ot_l (y := σ6) hf rfl
        refine gc_Vi (rest := []) X kM_ok hK hA cw12_tellsPlain (rvM hK) (xm_tellsPlain hq_) rfl ⟨rfl, rfl, Nat.le_of_ble_eq_true rfl, Nat.le_of_ble_eq_true rfl⟩ rfl (Nat.le_of_ble_eq_true rfl) dX12_tells_60 ?_
        exact gr_iret X dX12_tells_63 (Prod.mk.inj (Option.some.inj hf)).1 (Prod.mk.inj (Option.some.inj hf)).2
      · replace hf := ot_f hf hc_
        refine gr_aload_n X dX12_tells_41 rfl 0 rfl ?_
        refine gr_bipush (v := 60) X dX12_tells_42 (by decide) ?_
        obtain ⟨σ8, hq_, hf⟩ := ot_b hf
        refine gc_Vv (rest := []) X kM_ok hK hA cw12_runs (rvM hK) (xm_runs hq_) rfl ⟨rfl, rfl, Nat.le_of_ble_eq_true rfl, Nat.le_of_ble_eq_true rfl⟩ rfl (Nat.le_of_ble_eq_true rfl) dX12_tells_44 ?_
        refine gr_aload_n X dX12_tells_47 rfl 0 rfl ?_
        refine gr_iload_n X dX12_tells_48 rfl 1 rfl ?_
        obtain ⟨⟨q9, σ10⟩, hq_, hf⟩ := ot_b hf
        replace hf := ot_l (y := q9) hf rfl
        replace hf := ot_l (y := σ10) hf rfl
        refine gc_Vi (rest := []) X kM_ok hK hA cw12_tellsPlain (rvM hK) (xm_tellsPlain hq_) rfl ⟨rfl, rfl, Nat.le_of_ble_eq_true rfl, Nat.le_of_ble_eq_true rfl⟩ rfl (Nat.le_of_ble_eq_true rfl) dX12_tells_49 ?_
        refine gr_aload_n X dX12_tells_52 rfl 0 rfl ?_
        refine gM_get_37 X hK dX12_tells_53 ?_
        refine gr_imul X dX12_tells_56 ?_
        exact gr_iret X dX12_tells_57 (Prod.mk.inj (Option.some.inj hf)).1 (Prod.mk.inj (Option.some.inj hf)).2
    · replace hf := ot_f hf hc_
      refine gr_sub [0, 1] rfl ?_
      exact wm_tells_b16 X hK hA _ _ hf
abbrev rm_thanksPlain : Room := { frames := 1, cells := 0, slots := 0, locals := 21 }
def fm_thanksPlain_b30 (x1 : Int32) (y0 : Int32) (σ : SM) : Option (Int32 × SM) := (oc (hz y0) (hl (sf σ 39 (fun _ => y0)) fun σ3 => (if (σ3 39 0) = 0 then (oc (decide (¬ ((σ3 38 0) - (σ3 37 0)) = 0)) (some ((hrem x1 ((σ3 38 0) - (σ3 37 0))), σ3))) else (some ((0 : Int32), σ3)))))
def fm_thanksPlain_b25 (x1 : Int32) (σ : SM) : Option (Int32 × SM) := (fm_thanksPlain_b30 x1 (1 : Int32) σ)
def fm_thanksPlain (x1 : Int32) (σ : SM) : Option (Int32 × SM) := (Option.bind (fm_runs (12 : Int32) σ) fun σ2 => (if ¬ (σ2 39 0) = 0 then (fm_thanksPlain_b25 x1 σ2) else (if ¬ (σ2 37 0) = (σ2 38 0) then (fm_thanksPlain_b30 x1 (0 : Int32) σ2) else (fm_thanksPlain_b25 x1 σ2))))
set_option maxHeartbeats 4000000 in
set_option maxRecDepth 100000 in
theorem wm_thanksPlain_b30 {p : Program} {l : Launch} {e : Env} {s : State} {m : MethodId} {args : Array Value} {below : List Frame} {meth : Method} {c : Code} {A : Nat → Prop} {D : va_G} {cA : ClassId} {h : Nat} {ad : Nat → Nat} {r : Int32} {τ : SM} (X : hc p s m args meth c RX12 cX12_thanksPlain 2 (some .int)) (hK : kM D cA A s) (hA : ∀ q, s.heap.size ≤ q → A q)   (x1 : Int32) (y0 : Int32) (σ : SM) (hf : fm_thanksPlain_b30 x1 y0 σ = some (r, τ)) : gg p l e rm_thanksPlain s m args below meth c (wM h ad cA) D vwCl A 2 (QI below args s (wM h ad cA) D vwCl A r τ) 30 [(0, .ref h), (1, .int x1)] [.int y0, .ref h] σ := by
  unfold fm_thanksPlain_b30 at hf
  have hz_ := oc_1 hf
  replace hf := oc_2 hf
  refine gM_put_39 X hK hz_ dX12_thanksPlain_30 ?_
  refine gM_gen (fun σ3 e_σ3 => ?_)
  replace hf := ot_l hf e_σ3
  refine gr_aload_n X dX12_thanksPlain_33 rfl 0 rfl ?_
  refine gM_get_39 X hK dX12_thanksPlain_34 ?_
  refine gr_if_eq X 44 dX12_thanksPlain_37 (by decide) (fun hc_ => ?_) (fun hc_ => ?_)
  · replace hf := ot_t hf hc_
    refine gr_iload_n X dX12_thanksPlain_44 rfl 1 rfl ?_
    refine gr_aload_n X dX12_thanksPlain_45 rfl 0 rfl ?_
    refine gM_get_38 X hK dX12_thanksPlain_46 ?_
    refine gr_aload_n X dX12_thanksPlain_49 rfl 0 rfl ?_
    refine gM_get_37 X hK dX12_thanksPlain_50 ?_
    refine gr_isub X dX12_thanksPlain_53 ?_
    have hc_ := of_decide_eq_true (oc_1 hf)
    replace hf := oc_2 hf
    refine gr_irem X dX12_thanksPlain_54 hc_ ?_
    exact gr_iret X dX12_thanksPlain_55 (Prod.mk.inj (Option.some.inj hf)).1 (Prod.mk.inj (Option.some.inj hf)).2
  · replace hf := ot_f hf hc_
    refine gr_iconst (v := 0) X dX12_thanksPlain_40 (by decide) ?_
    refine gr_goto X 55 dX12_thanksPlain_41 (by decide) ?_
    exact gr_iret X dX12_thanksPlain_55 (Prod.mk.inj (Option.some.inj hf)).1 (Prod.mk.inj (Option.some.inj hf)).2
set_option maxHeartbeats 4000000 in
set_option maxRecDepth 100000 in
theorem wm_thanksPlain_b25 {p : Program} {l : Launch} {e : Env} {s : State} {m : MethodId} {args : Array Value} {below : List Frame} {meth : Method} {c : Code} {A : Nat → Prop} {D : va_G} {cA : ClassId} {h : Nat} {ad : Nat → Nat} {r : Int32} {τ : SM} (X : hc p s m args meth c RX12 cX12_thanksPlain 2 (some .int)) (hK : kM D cA A s) (hA : ∀ q, s.heap.size ≤ q → A q)   (x1 : Int32) (σ : SM) (hf : fm_thanksPlain_b25 x1 σ = some (r, τ)) : gg p l e rm_thanksPlain s m args below meth c (wM h ad cA) D vwCl A 2 (QI below args s (wM h ad cA) D vwCl A r τ) 25 [(0, .ref h), (1, .int x1)] [.ref h] σ := by
  unfold fm_thanksPlain_b25 at hf
  refine gr_iconst (v := 1) X dX12_thanksPlain_25 (by decide) ?_
  refine gr_goto X 30 dX12_thanksPlain_26 (by decide) ?_
  refine gr_sub [0, 1] rfl ?_
  exact wm_thanksPlain_b30 X hK hA _ _ _ hf
set_option maxHeartbeats 4000000 in
set_option maxRecDepth 100000 in
theorem xm_thanksPlain {l : Launch} {D : va_G} {cA : ClassId} {h : Nat} {ad : Nat → Nat} {σ : SM} {x1 : Int32} {r : Int32} {τ : SM} (hf : fm_thanksPlain x1 σ = some (r, τ)) : ctI l (wM h ad cA) D vwCl (kM D cA) yX12_thanksPlain cX12_thanksPlain 2 .int rm_thanksPlain [.ref h, .int x1] σ r τ := by
  refine ct_I RX12 (by decide +kernel) rfl (Nat.le_of_ble_eq_true rfl) ?_
  intro p e s m args below meth c A X hK hA
  refine gr_eqL (L2 := [(0, .ref h), (1, .int x1)]) rfl ?_
  unfold fm_thanksPlain at hf
  refine gr_aload_n X dX12_thanksPlain_0 rfl 0 rfl ?_
  refine gr_bipush (v := 12) X dX12_thanksPlain_1 (by decide) ?_
  obtain ⟨σ2, hq_, hf⟩ := ot_b hf
  refine gc_Vv (rest := []) X kM_ok hK hA cw12_runs (rvM hK) (xm_runs hq_) rfl ⟨rfl, rfl, Nat.le_of_ble_eq_true rfl, Nat.le_of_ble_eq_true rfl⟩ rfl (Nat.le_of_ble_eq_true rfl) dX12_thanksPlain_3 ?_
  refine gr_aload_n X dX12_thanksPlain_6 rfl 0 rfl ?_
  refine gr_aload_n X dX12_thanksPlain_7 rfl 0 rfl ?_
  refine gM_get_39 X hK dX12_thanksPlain_8 ?_
  refine gr_if_ne X 25 dX12_thanksPlain_11 (by decide) (fun hc_ => ?_) (fun hc_ => ?_)
  · replace hf := ot_t hf hc_
    refine gr_sub [0, 1] rfl ?_
    exact wm_thanksPlain_b25 X hK hA _ _ hf
  · replace hf := ot_f hf hc_
    refine gr_aload_n X dX12_thanksPlain_14 rfl 0 rfl ?_
    refine gM_get_37 X hK dX12_thanksPlain_15 ?_
    refine gr_aload_n X dX12_thanksPlain_18 rfl 0 rfl ?_
    refine gM_get_38 X hK dX12_thanksPlain_19 ?_
    refine gr_icmp_ne X 29 dX12_thanksPlain_22 (by decide) (fun hc_ => ?_) (fun hc_ => ?_)
    · replace hf := ot_t hf hc_
      refine gr_iconst (v := 0) X dX12_thanksPlain_29 (by decide) ?_
      refine gr_sub [0, 1] rfl ?_
      exact wm_thanksPlain_b30 X hK hA _ _ _ hf
    · replace hf := ot_f hf hc_
      refine gr_sub [0, 1] rfl ?_
      exact wm_thanksPlain_b25 X hK hA _ _ hf
abbrev rm_thanksOfBook : Room := { frames := 2, cells := 0, slots := 0, locals := 42 }
def fm_thanksOfBook (x1 : Int32) (σ : SM) : Option (Int32 × SM) := (Option.bind (fm_runs (40 : Int32) σ) fun σ2 => (Option.bind (fm_thanksPlain x1 σ2) fun p_ => hl p_.1 fun q3 => hl p_.2 fun σ4 => (some (((1 : Int32) - q3), σ4))))
set_option maxHeartbeats 4000000 in
set_option maxRecDepth 100000 in
theorem xm_thanksOfBook {l : Launch} {D : va_G} {cA : ClassId} {h : Nat} {ad : Nat → Nat} {σ : SM} {x1 : Int32} {r : Int32} {τ : SM} (hf : fm_thanksOfBook x1 σ = some (r, τ)) : ctI l (wM h ad cA) D vwCl (kM D cA) yX12_thanksOfBook cX12_thanksOfBook 2 .int rm_thanksOfBook [.ref h, .int x1] σ r τ := by
  refine ct_I RX12 (by decide +kernel) rfl (Nat.le_of_ble_eq_true rfl) ?_
  intro p e s m args below meth c A X hK hA
  refine gr_eqL (L2 := [(0, .ref h), (1, .int x1)]) rfl ?_
  unfold fm_thanksOfBook at hf
  refine gr_aload_n X dX12_thanksOfBook_0 rfl 0 rfl ?_
  refine gr_bipush (v := 40) X dX12_thanksOfBook_1 (by decide) ?_
  obtain ⟨σ2, hq_, hf⟩ := ot_b hf
  refine gc_Vv (rest := []) X kM_ok hK hA cw12_runs (rvM hK) (xm_runs hq_) rfl ⟨rfl, rfl, Nat.le_of_ble_eq_true rfl, Nat.le_of_ble_eq_true rfl⟩ rfl (Nat.le_of_ble_eq_true rfl) dX12_thanksOfBook_3 ?_
  refine gr_iconst (v := 1) X dX12_thanksOfBook_6 (by decide) ?_
  refine gr_aload_n X dX12_thanksOfBook_7 rfl 0 rfl ?_
  refine gr_iload_n X dX12_thanksOfBook_8 rfl 1 rfl ?_
  obtain ⟨⟨q3, σ4⟩, hq_, hf⟩ := ot_b hf
  replace hf := ot_l (y := q3) hf rfl
  replace hf := ot_l (y := σ4) hf rfl
  refine gc_Vi (rest := [.int (1 : Int32)]) X kM_ok hK hA cw12_thanksPlain (rvM hK) (xm_thanksPlain hq_) rfl ⟨rfl, rfl, Nat.le_of_ble_eq_true rfl, Nat.le_of_ble_eq_true rfl⟩ rfl (Nat.le_of_ble_eq_true rfl) dX12_thanksOfBook_9 ?_
  refine gr_isub X dX12_thanksOfBook_12 ?_
  exact gr_iret X dX12_thanksOfBook_13 (Prod.mk.inj (Option.some.inj hf)).1 (Prod.mk.inj (Option.some.inj hf)).2
abbrev rm_thanks : Room := { frames := 3, cells := 0, slots := 0, locals := 63 }
def fm_thanks (x1 : Int32) (σ : SM) : Option (Int32 × SM) := (if ¬ (σ 36 0) = (4 : Int32) then (if (σ 36 0) = (5 : Int32) then (Option.bind (fm_runs (61 : Int32) σ) fun σ2 => (Option.bind (fm_thanksOfBook x1 σ2) fun p_ => hl p_.1 fun q3 => hl p_.2 fun σ4 => (if (σ4 39 0) = 0 then (Option.bind (fm_knocks (σ4 38 0) σ4) fun p_ => hl p_.1 fun q5 => hl p_.2 fun σ6 => (some ((q3 + q5), σ6))) else (some ((0 : Int32), σ4))))) else (Option.bind (fm_thanksPlain x1 σ) fun p_ => hl p_.1 fun q7 => hl p_.2 fun σ8 => (some (q7, σ8)))) else (Option.bind (fm_thanksOfBook x1 σ) fun p_ => hl p_.1 fun q9 => hl p_.2 fun σ10 => (some (q9, σ10))))
set_option maxHeartbeats 4000000 in
set_option maxRecDepth 100000 in
theorem xm_thanks {l : Launch} {D : va_G} {cA : ClassId} {h : Nat} {ad : Nat → Nat} {σ : SM} {x1 : Int32} {r : Int32} {τ : SM} (hf : fm_thanks x1 σ = some (r, τ)) : ctI l (wM h ad cA) D vwCl (kM D cA) yX12_thanks cX12_thanks 3 .int rm_thanks [.ref h, .int x1] σ r τ := by
  refine ct_I RX12 (by decide +kernel) rfl (Nat.le_of_ble_eq_true rfl) ?_
  intro p e s m args below meth c A X hK hA
  refine gr_eqL (L2 := [(0, .ref h), (1, .int x1)]) rfl ?_
  unfold fm_thanks at hf
  refine gr_aload_n X dX12_thanks_0 rfl 0 rfl ?_
  refine gM_get_36 X hK dX12_thanks_1 ?_
  refine gr_iconst (v := 4) X dX12_thanks_4 (by decide) ?_
  refine gr_icmp_ne X 14 dX12_thanks_5 (by decide) (fun hc_ => ?_) (fun hc_ => ?_)
  · replace hf := ot_t hf hc_
    refine gr_aload_n X dX12_thanks_14 rfl 0 rfl ?_
    refine gM_get_36 X hK dX12_thanks_15 ?_
    refine gr_iconst (v := 5) X dX12_thanks_18 (by decide) ?_
    refine gr_icmp_eq X 28 dX12_thanks_19 (by decide) (fun hc_ => ?_) (fun hc_ => ?_)
    · replace hf := ot_t hf hc_
      refine gr_aload_n X dX12_thanks_28 rfl 0 rfl ?_
      refine gr_bipush (v := 61) X dX12_thanks_29 (by decide) ?_
      obtain ⟨σ2, hq_, hf⟩ := ot_b hf
      refine gc_Vv (rest := []) X kM_ok hK hA cw12_runs (rvM hK) (xm_runs hq_) rfl ⟨rfl, rfl, Nat.le_of_ble_eq_true rfl, Nat.le_of_ble_eq_true rfl⟩ rfl (Nat.le_of_ble_eq_true rfl) dX12_thanks_31 ?_
      refine gr_aload_n X dX12_thanks_34 rfl 0 rfl ?_
      refine gr_iload_n X dX12_thanks_35 rfl 1 rfl ?_
      obtain ⟨⟨q3, σ4⟩, hq_, hf⟩ := ot_b hf
      replace hf := ot_l (y := q3) hf rfl
      replace hf := ot_l (y := σ4) hf rfl
      refine gc_Vi (rest := []) X kM_ok hK hA cw12_thanksOfBook (rvM hK) (xm_thanksOfBook hq_) rfl ⟨rfl, rfl, Nat.le_of_ble_eq_true rfl, Nat.le_of_ble_eq_true rfl⟩ rfl (Nat.le_of_ble_eq_true rfl) dX12_thanks_36 ?_
      refine gr_istore_n (L2 := [(2, .int q3), (0, .ref h), (1, .int x1)]) X dX12_thanks_39 rfl (by decide) rfl ?_
      refine gr_aload_n X dX12_thanks_40 rfl 1 rfl ?_
      refine gM_get_39 X hK dX12_thanks_41 ?_
      refine gr_if_eq X 51 dX12_thanks_44 (by decide) (fun hc_ => ?_) (fun hc_ => ?_)
      · replace hf := ot_t hf hc_
        refine gr_iload_n X dX12_thanks_51 rfl 0 rfl ?_
        refine gr_aload_n X dX12_thanks_52 rfl 1 rfl ?_
        refine gr_aload_n X dX12_thanks_53 rfl 1 rfl ?_
        refine gM_get_38 X hK dX12_thanks_54 ?_
        obtain ⟨⟨q5, σ6⟩, hq_, hf⟩ := ot_b hf
        replace hf := ot_l (y := q5) hf rfl
        replace hf := ot_l (y := σ6) hf rfl
        refine gc_Vi (rest := [.int q3]) X kM_ok hK hA cw12_knocks (rvM hK) (xm_knocks hq_) rfl ⟨rfl, rfl, Nat.le_of_ble_eq_true rfl, Nat.le_of_ble_eq_true rfl⟩ rfl (Nat.le_of_ble_eq_true rfl) dX12_thanks_57 ?_
        refine gr_iadd X dX12_thanks_60 ?_
        exact gr_iret X dX12_thanks_61 (Prod.mk.inj (Option.some.inj hf)).1 (Prod.mk.inj (Option.some.inj hf)).2
      · replace hf := ot_f hf hc_
        refine gr_iconst (v := 0) X dX12_thanks_47 (by decide) ?_
        refine gr_goto X 61 dX12_thanks_48 (by decide) ?_
        exact gr_iret X dX12_thanks_61 (Prod.mk.inj (Option.some.inj hf)).1 (Prod.mk.inj (Option.some.inj hf)).2
    · replace hf := ot_f hf hc_
      refine gr_aload_n X dX12_thanks_22 rfl 0 rfl ?_
      refine gr_iload_n X dX12_thanks_23 rfl 1 rfl ?_
      obtain ⟨⟨q7, σ8⟩, hq_, hf⟩ := ot_b hf
      replace hf := ot_l (y := q7) hf rfl
      replace hf := ot_l (y := σ8) hf rfl
      refine gc_Vi (rest := []) X kM_ok hK hA cw12_thanksPlain (rvM hK) (xm_thanksPlain hq_) rfl ⟨rfl, rfl, Nat.le_of_ble_eq_true rfl, Nat.le_of_ble_eq_true rfl⟩ rfl (Nat.le_of_ble_eq_true rfl) dX12_thanks_24 ?_
      exact gr_iret X dX12_thanks_27 (Prod.mk.inj (Option.some.inj hf)).1 (Prod.mk.inj (Option.some.inj hf)).2
  · replace hf := ot_f hf hc_
    refine gr_aload_n X dX12_thanks_8 rfl 0 rfl ?_
    refine gr_iload_n X dX12_thanks_9 rfl 1 rfl ?_
    obtain ⟨⟨q9, σ10⟩, hq_, hf⟩ := ot_b hf
    replace hf := ot_l (y := q9) hf rfl
    replace hf := ot_l (y := σ10) hf rfl
    refine gc_Vi (rest := []) X kM_ok hK hA cw12_thanksOfBook (rvM hK) (xm_thanksOfBook hq_) rfl ⟨rfl, rfl, Nat.le_of_ble_eq_true rfl, Nat.le_of_ble_eq_true rfl⟩ rfl (Nat.le_of_ble_eq_true rfl) dX12_thanks_10 ?_
    exact gr_iret X dX12_thanks_13 (Prod.mk.inj (Option.some.inj hf)).1 (Prod.mk.inj (Option.some.inj hf)).2
abbrev rm_dealsPlain : Room := { frames := 5, cells := 0, slots := 0, locals := 105 }
def fm_dealsPlain (x1 : Int32) (σ : SM) : Option (Int32 × SM) := (Option.bind (fm_runs (13 : Int32) σ) fun σ2 => (Option.bind (fm_tells x1 σ2) fun p_ => hl p_.1 fun q3 => hl p_.2 fun σ4 => (Option.bind (fm_thanks x1 σ4) fun p_ => hl p_.1 fun q5 => hl p_.2 fun σ6 => (some ((q3 ^^^ q5), σ6)))))
set_option maxHeartbeats 4000000 in
set_option maxRecDepth 100000 in
theorem xm_dealsPlain {l : Launch} {D : va_G} {cA : ClassId} {h : Nat} {ad : Nat → Nat} {σ : SM} {x1 : Int32} {r : Int32} {τ : SM} (hf : fm_dealsPlain x1 σ = some (r, τ)) : ctI l (wM h ad cA) D vwCl (kM D cA) yX12_dealsPlain cX12_dealsPlain 3 .int rm_dealsPlain [.ref h, .int x1] σ r τ := by
  refine ct_I RX12 (by decide +kernel) rfl (Nat.le_of_ble_eq_true rfl) ?_
  intro p e s m args below meth c A X hK hA
  refine gr_eqL (L2 := [(0, .ref h), (1, .int x1)]) rfl ?_
  unfold fm_dealsPlain at hf
  refine gr_aload_n X dX12_dealsPlain_0 rfl 0 rfl ?_
  refine gr_bipush (v := 13) X dX12_dealsPlain_1 (by decide) ?_
  obtain ⟨σ2, hq_, hf⟩ := ot_b hf
  refine gc_Vv (rest := []) X kM_ok hK hA cw12_runs (rvM hK) (xm_runs hq_) rfl ⟨rfl, rfl, Nat.le_of_ble_eq_true rfl, Nat.le_of_ble_eq_true rfl⟩ rfl (Nat.le_of_ble_eq_true rfl) dX12_dealsPlain_3 ?_
  refine gr_aload_n X dX12_dealsPlain_6 rfl 0 rfl ?_
  refine gr_iload_n X dX12_dealsPlain_7 rfl 1 rfl ?_
  obtain ⟨⟨q3, σ4⟩, hq_, hf⟩ := ot_b hf
  replace hf := ot_l (y := q3) hf rfl
  replace hf := ot_l (y := σ4) hf rfl
  refine gc_Vi (rest := []) X kM_ok hK hA cw12_tells (rvM hK) (xm_tells hq_) rfl ⟨rfl, rfl, Nat.le_of_ble_eq_true rfl, Nat.le_of_ble_eq_true rfl⟩ rfl (Nat.le_of_ble_eq_true rfl) dX12_dealsPlain_8 ?_
  refine gr_istore_n (L2 := [(2, .int q3), (0, .ref h), (1, .int x1)]) X dX12_dealsPlain_11 rfl (by decide) rfl ?_
  refine gr_iload_n X dX12_dealsPlain_12 rfl 0 rfl ?_
  refine gr_aload_n X dX12_dealsPlain_13 rfl 1 rfl ?_
  refine gr_iload_n X dX12_dealsPlain_14 rfl 2 rfl ?_
  obtain ⟨⟨q5, σ6⟩, hq_, hf⟩ := ot_b hf
  replace hf := ot_l (y := q5) hf rfl
  replace hf := ot_l (y := σ6) hf rfl
  refine gc_Vi (rest := [.int q3]) X kM_ok hK hA cw12_thanks (rvM hK) (xm_thanks hq_) rfl ⟨rfl, rfl, Nat.le_of_ble_eq_true rfl, Nat.le_of_ble_eq_true rfl⟩ rfl (Nat.le_of_ble_eq_true rfl) dX12_dealsPlain_15 ?_
  refine gr_ixor X dX12_dealsPlain_18 ?_
  exact gr_iret X dX12_dealsPlain_19 (Prod.mk.inj (Option.some.inj hf)).1 (Prod.mk.inj (Option.some.inj hf)).2
abbrev rm_deals : Room := { frames := 6, cells := 0, slots := 0, locals := 127 }
def fm_deals (x1 : Int32) (σ : SM) : Option (Int32 × SM) := (if (σ 36 0) = (3 : Int32) then (Option.bind (fm_runs (51 : Int32) σ) fun σ2 => (Option.bind (fm_dealsPlain x1 σ2) fun p_ => hl p_.1 fun q3 => hl p_.2 fun σ4 => (if (σ4 39 0) = 0 then (Option.bind (fm_tells (σ4 38 0) σ4) fun p_ => hl p_.1 fun q5 => hl p_.2 fun σ6 => (some ((q3 - q5), σ6))) else (some ((0 : Int32), σ4))))) else (Option.bind (fm_dealsPlain x1 σ) fun p_ => hl p_.1 fun q7 => hl p_.2 fun σ8 => (some (q7, σ8))))
set_option maxHeartbeats 4000000 in
set_option maxRecDepth 100000 in
theorem xm_deals {l : Launch} {D : va_G} {cA : ClassId} {h : Nat} {ad : Nat → Nat} {σ : SM} {x1 : Int32} {r : Int32} {τ : SM} (hf : fm_deals x1 σ = some (r, τ)) : ctI l (wM h ad cA) D vwCl (kM D cA) yX12_deals cX12_deals 3 .int rm_deals [.ref h, .int x1] σ r τ := by
  refine ct_I RX12 (by decide +kernel) rfl (Nat.le_of_ble_eq_true rfl) ?_
  intro p e s m args below meth c A X hK hA
  refine gr_eqL (L2 := [(0, .ref h), (1, .int x1)]) rfl ?_
  unfold fm_deals at hf
  refine gr_aload_n X dX12_deals_0 rfl 0 rfl ?_
  refine gM_get_36 X hK dX12_deals_1 ?_
  refine gr_iconst (v := 3) X dX12_deals_4 (by decide) ?_
  refine gr_icmp_eq X 14 dX12_deals_5 (by decide) (fun hc_ => ?_) (fun hc_ => ?_)
  · replace hf := ot_t hf hc_
    refine gr_aload_n X dX12_deals_14 rfl 0 rfl ?_
    refine gr_bipush (v := 51) X dX12_deals_15 (by decide) ?_
    obtain ⟨σ2, hq_, hf⟩ := ot_b hf
    refine gc_Vv (rest := []) X kM_ok hK hA cw12_runs (rvM hK) (xm_runs hq_) rfl ⟨rfl, rfl, Nat.le_of_ble_eq_true rfl, Nat.le_of_ble_eq_true rfl⟩ rfl (Nat.le_of_ble_eq_true rfl) dX12_deals_17 ?_
    refine gr_aload_n X dX12_deals_20 rfl 0 rfl ?_
    refine gr_iload_n X dX12_deals_21 rfl 1 rfl ?_
    obtain ⟨⟨q3, σ4⟩, hq_, hf⟩ := ot_b hf
    replace hf := ot_l (y := q3) hf rfl
    replace hf := ot_l (y := σ4) hf rfl
    refine gc_Vi (rest := []) X kM_ok hK hA cw12_dealsPlain (rvM hK) (xm_dealsPlain hq_) rfl ⟨rfl, rfl, Nat.le_of_ble_eq_true rfl, Nat.le_of_ble_eq_true rfl⟩ rfl (Nat.le_of_ble_eq_true rfl) dX12_deals_22 ?_
    refine gr_istore_n (L2 := [(2, .int q3), (0, .ref h), (1, .int x1)]) X dX12_deals_25 rfl (by decide) rfl ?_
    refine gr_aload_n X dX12_deals_26 rfl 1 rfl ?_
    refine gM_get_39 X hK dX12_deals_27 ?_
    refine gr_if_eq X 37 dX12_deals_30 (by decide) (fun hc_ => ?_) (fun hc_ => ?_)
    · replace hf := ot_t hf hc_
      refine gr_iload_n X dX12_deals_37 rfl 0 rfl ?_
      refine gr_aload_n X dX12_deals_38 rfl 1 rfl ?_
      refine gr_aload_n X dX12_deals_39 rfl 1 rfl ?_
      refine gM_get_38 X hK dX12_deals_40 ?_
      obtain ⟨⟨q5, σ6⟩, hq_, hf⟩ := ot_b hf
      replace hf := ot_l (y := q5) hf rfl
      replace hf := ot_l (y := σ6) hf rfl
      refine gc_Vi (rest := [.int q3]) X kM_ok hK hA cw12_tells (rvM hK) (xm_tells hq_) rfl ⟨rfl, rfl, Nat.le_of_ble_eq_true rfl, Nat.le_of_ble_eq_true rfl⟩ rfl (Nat.le_of_ble_eq_true rfl) dX12_deals_43 ?_
      refine gr_isub X dX12_deals_46 ?_
      exact gr_iret X dX12_deals_47 (Prod.mk.inj (Option.some.inj hf)).1 (Prod.mk.inj (Option.some.inj hf)).2
    · replace hf := ot_f hf hc_
      refine gr_iconst (v := 0) X dX12_deals_33 (by decide) ?_
      refine gr_goto X 47 dX12_deals_34 (by decide) ?_
      exact gr_iret X dX12_deals_47 (Prod.mk.inj (Option.some.inj hf)).1 (Prod.mk.inj (Option.some.inj hf)).2
  · replace hf := ot_f hf hc_
    refine gr_aload_n X dX12_deals_8 rfl 0 rfl ?_
    refine gr_iload_n X dX12_deals_9 rfl 1 rfl ?_
    obtain ⟨⟨q7, σ8⟩, hq_, hf⟩ := ot_b hf
    replace hf := ot_l (y := q7) hf rfl
    replace hf := ot_l (y := σ8) hf rfl
    refine gc_Vi (rest := []) X kM_ok hK hA cw12_dealsPlain (rvM hK) (xm_dealsPlain hq_) rfl ⟨rfl, rfl, Nat.le_of_ble_eq_true rfl, Nat.le_of_ble_eq_true rfl⟩ rfl (Nat.le_of_ble_eq_true rfl) dX12_deals_10 ?_
    exact gr_iret X dX12_deals_13 (Prod.mk.inj (Option.some.inj hf)).1 (Prod.mk.inj (Option.some.inj hf)).2
abbrev rm_act : Room := { frames := 7, cells := 0, slots := 0, locals := 149 }
def fm_act_b123 (y0 : Int32) (σ : SM) : Option (Int32 × SM) := (if (σ 39 0) = 0 then (some (y0, σ)) else (some ((-15 : Int32), σ)))
def fm_act (x1 : Int32) (x2 : Int32) (x3 : Int32) (σ : SM) : Option (Int32 × SM) := (hl (sf σ 35 (fun _ => (0 : Int32))) fun σ1 => (Option.bind (fm_isShelf x1) fun q2 => (if q2 = 0 then (some ((0 : Int32), σ1)) else (Option.bind (fm_isIn (Int32.toInt64 x2) (0 : Int64) (3 : Int64)) fun q3 => (if q3 = 0 then (some ((0 : Int32), σ1)) else (Option.bind (fm_heldOn σ1 x1) fun q4 => (if q4 = (1 : Int32) then (hl (sf σ1 39 (fun _ => (0 : Int32))) fun σ5 => (oc (hin x1 4) (Option.bind (fm_its σ5 (σ5 32 (Int32.toNatClampNeg x1)) (0 : Int32)) fun q6 => (hl (sf σ5 36 (fun _ => q6)) fun σ7 => (oc (hin x1 4) (hl (sf σ7 37 (fun _ => (σ7 32 (Int32.toNatClampNeg x1)))) fun σ8 => (oc (hin x1 4) (Option.bind (fm_its σ8 (σ8 32 (Int32.toNatClampNeg x1)) (3 : Int32)) fun q9 => (hl (sf σ8 38 (fun _ => q9)) fun σ10 => (if ¬ x2 = 0 then (if ¬ x2 = (1 : Int32) then (if ¬ x2 = (2 : Int32) then (Option.bind (fm_deals x3 σ10) fun p_ => hl p_.1 fun q11 => hl p_.2 fun σ12 => (fm_act_b123 q11 σ12)) else (Option.bind (fm_thanks x3 σ10) fun p_ => hl p_.1 fun q13 => hl p_.2 fun σ14 => (fm_act_b123 q13 σ14))) else (Option.bind (fm_tells x3 σ10) fun p_ => hl p_.1 fun q15 => hl p_.2 fun σ16 => (fm_act_b123 q15 σ16))) else (Option.bind (fm_knocks x3 σ10) fun p_ => hl p_.1 fun q17 => hl p_.2 fun σ18 => (fm_act_b123 q17 σ18)))))))))))) else (some ((0 : Int32), σ1)))))))))
set_option maxHeartbeats 4000000 in
set_option maxRecDepth 100000 in
theorem wm_act_b123 {p : Program} {l : Launch} {e : Env} {s : State} {m : MethodId} {args : Array Value} {below : List Frame} {meth : Method} {c : Code} {A : Nat → Prop} {D : va_G} {cA : ClassId} {h : Nat} {ad : Nat → Nat} {r : Int32} {τ : SM} (X : hc p s m args meth c RX12 cX12_act 5 (some .int)) (hK : kM D cA A s) (hA : ∀ q, s.heap.size ≤ q → A q)   (y0 : Int32) (σ : SM) (hf : fm_act_b123 y0 σ = some (r, τ)) : gg p l e rm_act s m args below meth c (wM h ad cA) D vwCl A 5 (QI below args s (wM h ad cA) D vwCl A r τ) 123 [(0, .ref h)] [.int y0] σ := by
  unfold fm_act_b123 at hf
  refine gr_istore (L2 := [(4, .int y0), (0, .ref h)]) X dX12_act_123 (by decide) rfl ?_
  refine gr_aload_n X dX12_act_125 rfl 1 rfl ?_
  refine gM_get_39 X hK dX12_act_126 ?_
  refine gr_if_eq X 137 dX12_act_129 (by decide) (fun hc_ => ?_) (fun hc_ => ?_)
  · replace hf := ot_t hf hc_
    refine gr_iload X dX12_act_137 0 rfl ?_
    exact gr_iret X dX12_act_139 (Prod.mk.inj (Option.some.inj hf)).1 (Prod.mk.inj (Option.some.inj hf)).2
  · replace hf := ot_f hf hc_
    refine gr_bipush (v := -15) X dX12_act_132 (by decide) ?_
    refine gr_goto X 139 dX12_act_134 (by decide) ?_
    exact gr_iret X dX12_act_139 (Prod.mk.inj (Option.some.inj hf)).1 (Prod.mk.inj (Option.some.inj hf)).2
set_option maxHeartbeats 4000000 in
set_option maxRecDepth 100000 in
theorem xm_act {l : Launch} {D : va_G} {cA : ClassId} {h : Nat} {ad : Nat → Nat} {σ : SM} {x1 : Int32} {x2 : Int32} {x3 : Int32} {r : Int32} {τ : SM} (hf : fm_act x1 x2 x3 σ = some (r, τ)) : ctI l (wM h ad cA) D vwCl (kM D cA) yX12_act cX12_act 5 .int rm_act [.ref h, .int x1, .int x2, .int x3] σ r τ := by
  refine ct_I RX12 (by decide +kernel) rfl (Nat.le_of_ble_eq_true rfl) ?_
  intro p e s m args below meth c A X hK hA
  refine gr_eqL (L2 := [(0, .ref h), (1, .int x1), (2, .int x2), (3, .int x3)]) rfl ?_
  unfold fm_act at hf
  refine gr_aload_n X dX12_act_0 rfl 0 rfl ?_
  refine gr_iconst (v := 0) X dX12_act_1 (by decide) ?_
  refine gM_put_35 X hK dX12_act_2 ?_
  refine gM_gen (fun σ1 e_σ1 => ?_)
  replace hf := ot_l hf e_σ1
  refine gr_iload_n X dX12_act_5 rfl 1 rfl ?_
  obtain ⟨q2, hq_, hf⟩ := ot_b hf
  refine gc_Si (rest := []) X kM_ok hK hA cw12_isShelf (xm_isShelf hq_) rfl ⟨rfl, rfl, Nat.le_of_ble_eq_true rfl, Nat.le_of_ble_eq_true rfl⟩ rfl (Nat.le_of_ble_eq_true rfl) dX12_act_6 ?_
  refine gr_if_eq X 33 dX12_act_9 (by decide) (fun hc_ => ?_) (fun hc_ => ?_)
  · replace hf := ot_t hf hc_
    refine gr_iconst (v := 0) X dX12_act_33 (by decide) ?_
    exact gr_iret X dX12_act_34 (Prod.mk.inj (Option.some.inj hf)).1 (Prod.mk.inj (Option.some.inj hf)).2
  · replace hf := ot_f hf hc_
    refine gr_iload_n X dX12_act_12 rfl 2 rfl ?_
    refine gr_i2l X dX12_act_13 ?_
    refine gr_lconst (v := 0) X dX12_act_14 (by decide) ?_
    refine gr_ldc2_w X ck12_306 dX12_act_15 ?_
    obtain ⟨q3, hq_, hf⟩ := ot_b hf
    refine gc_Si (rest := []) X kM_ok hK hA cw12_isIn (xm_isIn hq_) rfl ⟨rfl, rfl, Nat.le_of_ble_eq_true rfl, Nat.le_of_ble_eq_true rfl⟩ rfl (Nat.le_of_ble_eq_true rfl) dX12_act_18 ?_
    refine gr_if_eq X 33 dX12_act_21 (by decide) (fun hc_ => ?_) (fun hc_ => ?_)
    · replace hf := ot_t hf hc_
      refine gr_iconst (v := 0) X dX12_act_33 (by decide) ?_
      exact gr_iret X dX12_act_34 (Prod.mk.inj (Option.some.inj hf)).1 (Prod.mk.inj (Option.some.inj hf)).2
    · replace hf := ot_f hf hc_
      refine gr_aload_n X dX12_act_24 rfl 0 rfl ?_
      refine gr_iload_n X dX12_act_25 rfl 1 rfl ?_
      obtain ⟨q4, hq_, hf⟩ := ot_b hf
      refine gc_Vi (rest := []) X kM_ok hK hA cw12_heldOn (rvM hK) (xm_heldOn hq_) rfl ⟨rfl, rfl, Nat.le_of_ble_eq_true rfl, Nat.le_of_ble_eq_true rfl⟩ rfl (Nat.le_of_ble_eq_true rfl) dX12_act_26 ?_
      refine gr_iconst (v := 1) X dX12_act_29 (by decide) ?_
      refine gr_icmp_eq X 35 dX12_act_30 (by decide) (fun hc_ => ?_) (fun hc_ => ?_)
      · replace hf := ot_t hf hc_
        refine gr_aload_n X dX12_act_35 rfl 0 rfl ?_
        refine gr_iconst (v := 0) X dX12_act_36 (by decide) ?_
        refine gM_put_39 X hK (by decide) dX12_act_37 ?_
        refine gM_gen (fun σ5 e_σ5 => ?_)
        replace hf := ot_l hf e_σ5
        refine gr_aload_n X dX12_act_40 rfl 0 rfl ?_
        refine gr_aload_n X dX12_act_41 rfl 0 rfl ?_
        refine gr_aload_n X dX12_act_42 rfl 0 rfl ?_
        refine gM_get_32 X hK dX12_act_43 ?_
        refine gr_iload_n X dX12_act_46 rfl 1 rfl ?_
        have hi_ := oc_1 hf
        replace hf := oc_2 hf
        refine gM_ald_32 X hK (Int32.toNatClampNeg x1) hi_ rfl dX12_act_47 ?_
        refine gr_iconst (v := 0) X dX12_act_48 (by decide) ?_
        obtain ⟨q6, hq_, hf⟩ := ot_b hf
        refine gc_Vi (rest := [.ref h]) X kM_ok hK hA cw12_its (rvM hK) (xm_its hq_) rfl ⟨rfl, rfl, Nat.le_of_ble_eq_true rfl, Nat.le_of_ble_eq_true rfl⟩ rfl (Nat.le_of_ble_eq_true rfl) dX12_act_49 ?_
        refine gM_put_36 X hK dX12_act_52 ?_
        refine gM_gen (fun σ7 e_σ7 => ?_)
        replace hf := ot_l hf e_σ7
        refine gr_aload_n X dX12_act_55 rfl 0 rfl ?_
        refine gr_aload_n X dX12_act_56 rfl 0 rfl ?_
        refine gM_get_32 X hK dX12_act_57 ?_
        refine gr_iload_n X dX12_act_60 rfl 1 rfl ?_
        have hi_ := oc_1 hf
        replace hf := oc_2 hf
        refine gM_ald_32 X hK (Int32.toNatClampNeg x1) hi_ rfl dX12_act_61 ?_
        refine gM_put_37 X hK dX12_act_62 ?_
        refine gM_gen (fun σ8 e_σ8 => ?_)
        replace hf := ot_l hf e_σ8
        refine gr_aload_n X dX12_act_65 rfl 0 rfl ?_
        refine gr_aload_n X dX12_act_66 rfl 0 rfl ?_
        refine gr_aload_n X dX12_act_67 rfl 0 rfl ?_
        refine gM_get_32 X hK dX12_act_68 ?_
        refine gr_iload_n X dX12_act_71 rfl 1 rfl ?_
        have hi_ := oc_1 hf
        replace hf := oc_2 hf
        refine gM_ald_32 X hK (Int32.toNatClampNeg x1) hi_ rfl dX12_act_72 ?_
        refine gr_iconst (v := 3) X dX12_act_73 (by decide) ?_
        obtain ⟨q9, hq_, hf⟩ := ot_b hf
        refine gc_Vi (rest := [.ref h]) X kM_ok hK hA cw12_its (rvM hK) (xm_its hq_) rfl ⟨rfl, rfl, Nat.le_of_ble_eq_true rfl, Nat.le_of_ble_eq_true rfl⟩ rfl (Nat.le_of_ble_eq_true rfl) dX12_act_74 ?_
        refine gM_put_38 X hK dX12_act_77 ?_
        refine gM_gen (fun σ10 e_σ10 => ?_)
        replace hf := ot_l hf e_σ10
        refine gr_iload_n X dX12_act_80 rfl 2 rfl ?_
        refine gr_if_ne X 92 dX12_act_81 (by decide) (fun hc_ => ?_) (fun hc_ => ?_)
        · replace hf := ot_t hf hc_
          refine gr_iload_n X dX12_act_92 rfl 2 rfl ?_
          refine gr_iconst (v := 1) X dX12_act_93 (by decide) ?_
          refine gr_icmp_ne X 105 dX12_act_94 (by decide) (fun hc_ => ?_) (fun hc_ => ?_)
          · replace hf := ot_t hf hc_
            refine gr_iload_n X dX12_act_105 rfl 2 rfl ?_
            refine gr_iconst (v := 2) X dX12_act_106 (by decide) ?_
            refine gr_icmp_ne X 118 dX12_act_107 (by decide) (fun hc_ => ?_) (fun hc_ => ?_)
            · replace hf := ot_t hf hc_
              refine gr_aload_n X dX12_act_118 rfl 0 rfl ?_
              refine gr_iload_n X dX12_act_119 rfl 3 rfl ?_
              obtain ⟨⟨q11, σ12⟩, hq_, hf⟩ := ot_b hf
              replace hf := ot_l (y := q11) hf rfl
              replace hf := ot_l (y := σ12) hf rfl
              refine gc_Vi (rest := []) X kM_ok hK hA cw12_deals (rvM hK) (xm_deals hq_) rfl ⟨rfl, rfl, Nat.le_of_ble_eq_true rfl, Nat.le_of_ble_eq_true rfl⟩ rfl (Nat.le_of_ble_eq_true rfl) dX12_act_120 ?_
              refine gr_sub [0] rfl ?_
              exact wm_act_b123 X hK hA _ _ hf
            · replace hf := ot_f hf hc_
              refine gr_aload_n X dX12_act_110 rfl 0 rfl ?_
              refine gr_iload_n X dX12_act_111 rfl 3 rfl ?_
              obtain ⟨⟨q13, σ14⟩, hq_, hf⟩ := ot_b hf
              replace hf := ot_l (y := q13) hf rfl
              replace hf := ot_l (y := σ14) hf rfl
              refine gc_Vi (rest := []) X kM_ok hK hA cw12_thanks (rvM hK) (xm_thanks hq_) rfl ⟨rfl, rfl, Nat.le_of_ble_eq_true rfl, Nat.le_of_ble_eq_true rfl⟩ rfl (Nat.le_of_ble_eq_true rfl) dX12_act_112 ?_
              refine gr_goto X 123 dX12_act_115 (by decide) ?_
              refine gr_sub [0] rfl ?_
              exact wm_act_b123 X hK hA _ _ hf
          · replace hf := ot_f hf hc_
            refine gr_aload_n X dX12_act_97 rfl 0 rfl ?_
            refine gr_iload_n X dX12_act_98 rfl 3 rfl ?_
            obtain ⟨⟨q15, σ16⟩, hq_, hf⟩ := ot_b hf
            replace hf := ot_l (y := q15) hf rfl
            replace hf := ot_l (y := σ16) hf rfl
            refine gc_Vi (rest := []) X kM_ok hK hA cw12_tells (rvM hK) (xm_tells hq_) rfl ⟨rfl, rfl, Nat.le_of_ble_eq_true rfl, Nat.le_of_ble_eq_true rfl⟩ rfl (Nat.le_of_ble_eq_true rfl) dX12_act_99 ?_
            refine gr_goto X 123 dX12_act_102 (by decide) ?_
            refine gr_sub [0] rfl ?_
            exact wm_act_b123 X hK hA _ _ hf
        · replace hf := ot_f hf hc_
          refine gr_aload_n X dX12_act_84 rfl 0 rfl ?_
          refine gr_iload_n X dX12_act_85 rfl 3 rfl ?_
          obtain ⟨⟨q17, σ18⟩, hq_, hf⟩ := ot_b hf
          replace hf := ot_l (y := q17) hf rfl
          replace hf := ot_l (y := σ18) hf rfl
          refine gc_Vi (rest := []) X kM_ok hK hA cw12_knocks (rvM hK) (xm_knocks hq_) rfl ⟨rfl, rfl, Nat.le_of_ble_eq_true rfl, Nat.le_of_ble_eq_true rfl⟩ rfl (Nat.le_of_ble_eq_true rfl) dX12_act_86 ?_
          refine gr_goto X 123 dX12_act_89 (by decide) ?_
          refine gr_sub [0] rfl ?_
          exact wm_act_b123 X hK hA _ _ hf
      · replace hf := ot_f hf hc_
        refine gr_iconst (v := 0) X dX12_act_33 (by decide) ?_
        exact gr_iret X dX12_act_34 (Prod.mk.inj (Option.some.inj hf)).1 (Prod.mk.inj (Option.some.inj hf)).2
abbrev rm_trace : Room := { frames := 1, cells := 0, slots := 0, locals := 25 }
def fm_trace (σ : SM) (x1 : Int32) : Option Int32 := (Option.bind (fm_isIn (Int32.toInt64 x1) (0 : Int64) (Int32.toInt64 ((σ 35 0) - (1 : Int32)))) fun q1 => (if q1 = 0 then (some (-3 : Int32)) else (oc (hin x1 30) (some (σ 34 (Int32.toNatClampNeg x1))))))
set_option maxHeartbeats 4000000 in
set_option maxRecDepth 100000 in
theorem xm_trace {l : Launch} {D : va_G} {cA : ClassId} {h : Nat} {ad : Nat → Nat} {σ : SM} {x1 : Int32} {r : Int32} (hf : fm_trace σ x1 = some r) : ctI l (wM h ad cA) D vwCl (kM D cA) yX12_trace cX12_trace 2 .int rm_trace [.ref h, .int x1] σ r σ := by
  refine ct_I RX12 (by decide +kernel) rfl (Nat.le_of_ble_eq_true rfl) ?_
  intro p e s m args below meth c A X hK hA
  refine gr_eqL (L2 := [(0, .ref h), (1, .int x1)]) rfl ?_
  unfold fm_trace at hf
  refine gr_iload_n X dX12_trace_0 rfl 1 rfl ?_
  refine gr_i2l X dX12_trace_1 ?_
  refine gr_lconst (v := 0) X dX12_trace_2 (by decide) ?_
  refine gr_aload_n X dX12_trace_3 rfl 0 rfl ?_
  refine gM_get_35 X hK dX12_trace_4 ?_
  refine gr_iconst (v := 1) X dX12_trace_7 (by decide) ?_
  refine gr_isub X dX12_trace_8 ?_
  refine gr_i2l X dX12_trace_9 ?_
  obtain ⟨q1, hq_, hf⟩ := ot_b hf
  refine gc_Si (rest := []) X kM_ok hK hA cw12_isIn (xm_isIn hq_) rfl ⟨rfl, rfl, Nat.le_of_ble_eq_true rfl, Nat.le_of_ble_eq_true rfl⟩ rfl (Nat.le_of_ble_eq_true rfl) dX12_trace_10 ?_
  refine gr_if_eq X 25 dX12_trace_13 (by decide) (fun hc_ => ?_) (fun hc_ => ?_)
  · replace hf := ot_t hf hc_
    refine gr_bipush (v := -3) X dX12_trace_25 (by decide) ?_
    exact gr_iret X dX12_trace_27 (Option.some.inj hf) rfl
  · replace hf := ot_f hf hc_
    refine gr_aload_n X dX12_trace_16 rfl 0 rfl ?_
    refine gM_get_34 X hK dX12_trace_17 ?_
    refine gr_iload_n X dX12_trace_20 rfl 1 rfl ?_
    have hi_ := oc_1 hf
    replace hf := oc_2 hf
    refine gM_ald_34 X hK (Int32.toNatClampNeg x1) hi_ rfl dX12_trace_21 ?_
    refine gr_goto X 27 dX12_trace_22 (by decide) ?_
    exact gr_iret X dX12_trace_27 (Option.some.inj hf) rfl
abbrev rm_many : Room := { frames := 3, cells := 0, slots := 0, locals := 65 }
def fm_many (σ : SM) (x1 : Int32) : Option Int32 := (if x1 = 0 then (some (σ 0 0)) else (if x1 = 1 then (some (σ 0 5)) else (if x1 = 2 then (Option.bind (fm_doneOnes σ) fun q1 => (Option.bind (fm_size q1) fun q2 => (some q2))) else (if x1 = 3 then (some (σ 0 6)) else (if x1 = 4 then (some (σ 27 0)) else (if x1 = 5 then (some (σ 5 0)) else (if x1 = 6 then (some (σ 35 0)) else (some (-1 : Int32)))))))))
set_option maxHeartbeats 4000000 in
set_option maxRecDepth 100000 in
theorem xm_many {l : Launch} {D : va_G} {cA : ClassId} {h : Nat} {ad : Nat → Nat} {σ : SM} {x1 : Int32} {r : Int32} (hf : fm_many σ x1 = some r) : ctI l (wM h ad cA) D vwCl (kM D cA) yX12_many cX12_many 2 .int rm_many [.ref h, .int x1] σ r σ := by
  refine ct_I RX12 (by decide +kernel) rfl (Nat.le_of_ble_eq_true rfl) ?_
  intro p e s m args below meth c A X hK hA
  refine gr_eqL (L2 := [(0, .ref h), (1, .int x1)]) rfl ?_
  unfold fm_many at hf
  refine gr_iload_n X dX12_many_0 rfl 1 rfl ?_
  by_cases hs0 : x1 = 0
  · replace hf := ot_t hf hs0
    refine gr_tin X (0) 44 dX12_many_1 (by rw [hs0]; decide) (by decide) (by decide) rfl (by decide) ?_
    refine gr_aload_n X dX12_many_44 rfl 0 rfl ?_
    refine gM_get_0 X hK dX12_many_45 ?_
    refine gr_iconst (v := 0) X dX12_many_48 (by decide) ?_
    refine gM_ald_0 X hK 0 (by decide) (by decide) dX12_many_49 ?_
    exact gr_iret X dX12_many_50 (Option.some.inj hf) rfl
  replace hf := ot_f hf hs0
  by_cases hs1 : x1 = 1
  · replace hf := ot_t hf hs1
    refine gr_tin X (1) 51 dX12_many_1 (by rw [hs1]; decide) (by decide) (by decide) rfl (by decide) ?_
    refine gr_aload_n X dX12_many_51 rfl 0 rfl ?_
    refine gM_get_0 X hK dX12_many_52 ?_
    refine gr_iconst (v := 5) X dX12_many_55 (by decide) ?_
    refine gM_ald_0 X hK 5 (by decide) (by decide) dX12_many_56 ?_
    exact gr_iret X dX12_many_57 (Option.some.inj hf) rfl
  replace hf := ot_f hf hs1
  by_cases hs2 : x1 = 2
  · replace hf := ot_t hf hs2
    refine gr_tin X (2) 58 dX12_many_1 (by rw [hs2]; decide) (by decide) (by decide) rfl (by decide) ?_
    refine gr_aload_n X dX12_many_58 rfl 0 rfl ?_
    obtain ⟨q1, hq_, hf⟩ := ot_b hf
    refine gc_Vi (rest := []) X kM_ok hK hA cw12_doneOnes (rvM hK) (xm_doneOnes hq_) rfl ⟨rfl, rfl, Nat.le_of_ble_eq_true rfl, Nat.le_of_ble_eq_true rfl⟩ rfl (Nat.le_of_ble_eq_true rfl) dX12_many_59 ?_
    obtain ⟨q2, hq_, hf⟩ := ot_b hf
    refine gc_Si (rest := []) X kM_ok hK hA cw12_size (xm_size hq_) rfl ⟨rfl, rfl, Nat.le_of_ble_eq_true rfl, Nat.le_of_ble_eq_true rfl⟩ rfl (Nat.le_of_ble_eq_true rfl) dX12_many_62 ?_
    exact gr_iret X dX12_many_65 (Option.some.inj hf) rfl
  replace hf := ot_f hf hs2
  by_cases hs3 : x1 = 3
  · replace hf := ot_t hf hs3
    refine gr_tin X (3) 66 dX12_many_1 (by rw [hs3]; decide) (by decide) (by decide) rfl (by decide) ?_
    refine gr_aload_n X dX12_many_66 rfl 0 rfl ?_
    refine gM_get_0 X hK dX12_many_67 ?_
    refine gr_bipush (v := 6) X dX12_many_70 (by decide) ?_
    refine gM_ald_0 X hK 6 (by decide) (by decide) dX12_many_72 ?_
    exact gr_iret X dX12_many_73 (Option.some.inj hf) rfl
  replace hf := ot_f hf hs3
  by_cases hs4 : x1 = 4
  · replace hf := ot_t hf hs4
    refine gr_tin X (4) 74 dX12_many_1 (by rw [hs4]; decide) (by decide) (by decide) rfl (by decide) ?_
    refine gr_aload_n X dX12_many_74 rfl 0 rfl ?_
    refine gM_get_27 X hK dX12_many_75 ?_
    exact gr_iret X dX12_many_78 (Option.some.inj hf) rfl
  replace hf := ot_f hf hs4
  by_cases hs5 : x1 = 5
  · replace hf := ot_t hf hs5
    refine gr_tin X (5) 79 dX12_many_1 (by rw [hs5]; decide) (by decide) (by decide) rfl (by decide) ?_
    refine gr_aload_n X dX12_many_79 rfl 0 rfl ?_
    refine gM_get_5 X hK dX12_many_80 ?_
    exact gr_iret X dX12_many_83 (Option.some.inj hf) rfl
  replace hf := ot_f hf hs5
  by_cases hs6 : x1 = 6
  · replace hf := ot_t hf hs6
    refine gr_tin X (6) 84 dX12_many_1 (by rw [hs6]; decide) (by decide) (by decide) rfl (by decide) ?_
    refine gr_aload_n X dX12_many_84 rfl 0 rfl ?_
    refine gM_get_35 X hK dX12_many_85 ?_
    exact gr_iret X dX12_many_88 (Option.some.inj hf) rfl
  replace hf := ot_f hf hs6
  refine gr_tout X 89 dX12_many_1 (by have := lv_neT hs0 (show (0 : Int32).toInt = 0 by decide); have := lv_neT hs1 (show (1 : Int32).toInt = 1 by decide); have := lv_neT hs2 (show (2 : Int32).toInt = 2 by decide); have := lv_neT hs3 (show (3 : Int32).toInt = 3 by decide); have := lv_neT hs4 (show (4 : Int32).toInt = 4 by decide); have := lv_neT hs5 (show (5 : Int32).toInt = 5 by decide); have := lv_neT hs6 (show (6 : Int32).toInt = 6 by decide); omega) (by decide) ?_
  refine gr_iconst (v := -1) X dX12_many_89 (by decide) ?_
  exact gr_iret X dX12_many_90 (Option.some.inj hf) rfl
abbrev rm_keep : Room := { frames := 0, cells := 0, slots := 0, locals := 0 }
def fm_keep_l2 : Nat → Int32 → SM → Option (Int32 × SM)
  | 0, _, _ => none
  | n + 1, x1, σ => (if (580 : Int32) ≤ x1 then (hl (sf σ 2 (fun _ => (1 : Int32))) fun σ1 => (some ((1 : Int32), σ1))) else (oc (hin x1 580) (oc (hin x1 580) (hl (sf σ 1 (upd (σ 1) (Int32.toNatClampNeg x1) (σ 0 (Int32.toNatClampNeg x1)))) fun σ2 => ((fm_keep_l2 n) (x1 + (1 : Int32)) σ2)))))
def fm_keep (σ : SM) : Option (Int32 × SM) := (fm_keep_l2 hFU (0 : Int32) σ)
set_option maxHeartbeats 4000000 in
set_option maxRecDepth 100000 in
theorem wm_keep_l2 {p : Program} {l : Launch} {e : Env} {s : State} {m : MethodId} {args : Array Value} {below : List Frame} {meth : Method} {c : Code} {A : Nat → Prop} {D : va_G} {cA : ClassId} {h : Nat} {ad : Nat → Nat} {r : Int32} {τ : SM} (X : hc p s m args meth c RX12 cX12_keep 2 (some .int)) (hK : kM D cA A s) (hA : ∀ q, s.heap.size ≤ q → A q)  : ∀ (n : Nat) (x1 : Int32) (σ : SM), fm_keep_l2 n x1 σ = some (r, τ) → gg p l e rm_keep s m args below meth c (wM h ad cA) D vwCl A 2 (QI below args s (wM h ad cA) D vwCl A r τ) 2 [(0, .ref h), (1, .int x1)] [] σ := by
  intro n
  induction n with
  | zero =>
    intro x1 σ hf
    cases (show (none : Option (Int32 × SM)) = some (r, τ) from hf)
  | succ n ih =>
    intro x1 σ hf
    unfold fm_keep_l2 at hf
    refine gr_iload_n X dX12_keep_2 rfl 1 rfl ?_
    refine gr_sipush (v := 580) X dX12_keep_3 (by decide) ?_
    refine gr_icmp_ge X 27 dX12_keep_6 (by decide) (fun hc_ => ?_) (fun hc_ => ?_)
    · replace hf := ot_t hf hc_
      refine gr_aload_n X dX12_keep_27 rfl 0 rfl ?_
      refine gr_iconst (v := 1) X dX12_keep_28 (by decide) ?_
      refine gM_put_2 X hK (by decide) dX12_keep_29 ?_
      refine gM_gen (fun σ1 e_σ1 => ?_)
      replace hf := ot_l hf e_σ1
      refine gr_iconst (v := 1) X dX12_keep_32 (by decide) ?_
      exact gr_iret X dX12_keep_33 (Prod.mk.inj (Option.some.inj hf)).1 (Prod.mk.inj (Option.some.inj hf)).2
    · replace hf := ot_f hf hc_
      refine gr_aload_n X dX12_keep_9 rfl 0 rfl ?_
      refine gM_get_1 X hK dX12_keep_10 ?_
      refine gr_iload_n X dX12_keep_13 rfl 1 rfl ?_
      refine gr_aload_n X dX12_keep_14 rfl 0 rfl ?_
      refine gM_get_0 X hK dX12_keep_15 ?_
      refine gr_iload_n X dX12_keep_18 rfl 1 rfl ?_
      have hi_ := oc_1 hf
      replace hf := oc_2 hf
      refine gM_ald_0 X hK (Int32.toNatClampNeg x1) hi_ rfl dX12_keep_19 ?_
      have hi_ := oc_1 hf
      replace hf := oc_2 hf
      refine gM_ast_1 X hK (Int32.toNatClampNeg x1) hi_ rfl dX12_keep_20 ?_
      refine gM_gen (fun σ2 e_σ2 => ?_)
      replace hf := ot_l hf e_σ2
      refine gr_iinc (k := 1) (v := 1) (L2 := [(1, .int (x1 + (1 : Int32))), (0, .ref h)]) X dX12_keep_21 rfl (by decide) (by decide) rfl ?_
      refine gr_goto X 2 dX12_keep_24 (by decide) ?_
      refine gr_sub [1, 0] rfl ?_
      exact ih _ _ hf
set_option maxHeartbeats 4000000 in
set_option maxRecDepth 100000 in
theorem xm_keep {l : Launch} {D : va_G} {cA : ClassId} {h : Nat} {ad : Nat → Nat} {σ : SM} {r : Int32} {τ : SM} (hf : fm_keep σ = some (r, τ)) : ctI l (wM h ad cA) D vwCl (kM D cA) yX12_keep cX12_keep 2 .int rm_keep [.ref h] σ r τ := by
  refine ct_I RX12 (by decide +kernel) rfl (Nat.le_of_ble_eq_true rfl) ?_
  intro p e s m args below meth c A X hK hA
  refine gr_eqL (L2 := [(0, .ref h)]) rfl ?_
  unfold fm_keep at hf
  refine gr_iconst (v := 0) X dX12_keep_0 (by decide) ?_
  refine gr_istore_n (L2 := [(1, .int (0 : Int32)), (0, .ref h)]) X dX12_keep_1 rfl (by decide) rfl ?_
  refine gr_sub [1, 0] rfl ?_
  refine wm_keep_l2 X hK hA  hFU _ _ hf
abbrev rm_again : Room := { frames := 0, cells := 0, slots := 0, locals := 0 }
def fm_again_l12 : Nat → Int32 → SM → Option (Int32 × SM)
  | 0, _, _ => none
  | n + 1, x1, σ => (if (580 : Int32) ≤ x1 then (some ((σ 0 0), σ)) else (oc (hin x1 580) (oc (hin x1 580) (hl (sf σ 0 (upd (σ 0) (Int32.toNatClampNeg x1) (σ 1 (Int32.toNatClampNeg x1)))) fun σ1 => ((fm_again_l12 n) (x1 + (1 : Int32)) σ1)))))
def fm_again (σ : SM) : Option (Int32 × SM) := (if ¬ (σ 2 0) = 0 then (fm_again_l12 hFU (0 : Int32) σ) else (some ((-3 : Int32), σ)))
set_option maxHeartbeats 4000000 in
set_option maxRecDepth 100000 in
theorem wm_again_l12 {p : Program} {l : Launch} {e : Env} {s : State} {m : MethodId} {args : Array Value} {below : List Frame} {meth : Method} {c : Code} {A : Nat → Prop} {D : va_G} {cA : ClassId} {h : Nat} {ad : Nat → Nat} {r : Int32} {τ : SM} (X : hc p s m args meth c RX12 cX12_again 2 (some .int)) (hK : kM D cA A s) (hA : ∀ q, s.heap.size ≤ q → A q)  : ∀ (n : Nat) (x1 : Int32) (σ : SM), fm_again_l12 n x1 σ = some (r, τ) → gg p l e rm_again s m args below meth c (wM h ad cA) D vwCl A 2 (QI below args s (wM h ad cA) D vwCl A r τ) 12 [(0, .ref h), (1, .int x1)] [] σ := by
  intro n
  induction n with
  | zero =>
    intro x1 σ hf
    cases (show (none : Option (Int32 × SM)) = some (r, τ) from hf)
  | succ n ih =>
    intro x1 σ hf
    unfold fm_again_l12 at hf
    refine gr_iload_n X dX12_again_12 rfl 1 rfl ?_
    refine gr_sipush (v := 580) X dX12_again_13 (by decide) ?_
    refine gr_icmp_ge X 37 dX12_again_16 (by decide) (fun hc_ => ?_) (fun hc_ => ?_)
    · replace hf := ot_t hf hc_
      refine gr_aload_n X dX12_again_37 rfl 0 rfl ?_
      refine gM_get_0 X hK dX12_again_38 ?_
      refine gr_iconst (v := 0) X dX12_again_41 (by decide) ?_
      refine gM_ald_0 X hK 0 (by decide) (by decide) dX12_again_42 ?_
      exact gr_iret X dX12_again_43 (Prod.mk.inj (Option.some.inj hf)).1 (Prod.mk.inj (Option.some.inj hf)).2
    · replace hf := ot_f hf hc_
      refine gr_aload_n X dX12_again_19 rfl 0 rfl ?_
      refine gM_get_0 X hK dX12_again_20 ?_
      refine gr_iload_n X dX12_again_23 rfl 1 rfl ?_
      refine gr_aload_n X dX12_again_24 rfl 0 rfl ?_
      refine gM_get_1 X hK dX12_again_25 ?_
      refine gr_iload_n X dX12_again_28 rfl 1 rfl ?_
      have hi_ := oc_1 hf
      replace hf := oc_2 hf
      refine gM_ald_1 X hK (Int32.toNatClampNeg x1) hi_ rfl dX12_again_29 ?_
      have hi_ := oc_1 hf
      replace hf := oc_2 hf
      refine gM_ast_0 X hK (Int32.toNatClampNeg x1) hi_ rfl dX12_again_30 ?_
      refine gM_gen (fun σ1 e_σ1 => ?_)
      replace hf := ot_l hf e_σ1
      refine gr_iinc (k := 1) (v := 1) (L2 := [(1, .int (x1 + (1 : Int32))), (0, .ref h)]) X dX12_again_31 rfl (by decide) (by decide) rfl ?_
      refine gr_goto X 12 dX12_again_34 (by decide) ?_
      refine gr_sub [1, 0] rfl ?_
      exact ih _ _ hf
set_option maxHeartbeats 4000000 in
set_option maxRecDepth 100000 in
theorem xm_again {l : Launch} {D : va_G} {cA : ClassId} {h : Nat} {ad : Nat → Nat} {σ : SM} {r : Int32} {τ : SM} (hf : fm_again σ = some (r, τ)) : ctI l (wM h ad cA) D vwCl (kM D cA) yX12_again cX12_again 2 .int rm_again [.ref h] σ r τ := by
  refine ct_I RX12 (by decide +kernel) rfl (Nat.le_of_ble_eq_true rfl) ?_
  intro p e s m args below meth c A X hK hA
  refine gr_eqL (L2 := [(0, .ref h)]) rfl ?_
  unfold fm_again at hf
  refine gr_aload_n X dX12_again_0 rfl 0 rfl ?_
  refine gM_get_2 X hK dX12_again_1 ?_
  refine gr_if_ne X 10 dX12_again_4 (by decide) (fun hc_ => ?_) (fun hc_ => ?_)
  · replace hf := ot_t hf hc_
    refine gr_iconst (v := 0) X dX12_again_10 (by decide) ?_
    refine gr_istore_n (L2 := [(1, .int (0 : Int32)), (0, .ref h)]) X dX12_again_11 rfl (by decide) rfl ?_
    refine gr_sub [1, 0] rfl ?_
    refine wm_again_l12 X hK hA  hFU _ _ hf
  · replace hf := ot_f hf hc_
    refine gr_bipush (v := -3) X dX12_again_7 (by decide) ?_
    exact gr_iret X dX12_again_9 (Prod.mk.inj (Option.some.inj hf)).1 (Prod.mk.inj (Option.some.inj hf)).2
