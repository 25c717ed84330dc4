def rm_allHere (rq : Room) : Room := { frames := rq.frames + 8, cells := 0, slots := 0, locals := rq.locals + 173 }
def fm_allHere_l4 (Rc : SM → Option SM) : Nat → SM → Option SM
  | 0, _ => none
  | n + 1, σ => (if ¬ (σ 10 0) = 0 then (some σ) else (Option.bind (fm_isName σ (3 : Int32) (97 : Int32) (110 : Int32) (100 : Int32) (100 : Int32)) fun q3 => (if q3 = 0 then (some σ) else (Option.bind (fm_nextToken σ) fun σ5 => (Option.bind (fm_oneHere Rc σ5) fun σ7 => (Option.bind (fm_steps (4 : Int32) (0 : Int32) (0 : Int32) σ7) fun σ9 => ((fm_allHere_l4 Rc n) σ9)))))))
def fm_allHere (Rc : SM → Option SM) (σ : SM) : Option SM := (Option.bind (fm_oneHere Rc σ) fun σ2 => (fm_allHere_l4 Rc hFU σ2))
set_option maxHeartbeats 4000000 in
set_option maxRecDepth 100000 in
theorem wm_allHere_l4 {p : Program} {l : Launch} {e : Env} {s : State} {m : MethodId} {args : Array Value} {below : List Frame} {meth : Method} {c : Code} {A : Nat → Prop} {D : va_G} {cA : ClassId} {h : Nat} {ad : Nat → Nat} {τ : SM} {rq : Room} {Rc : SM → Option SM} (X : hc p s m args meth c RX12 cX12_allHere 1 none) (hK : kM D cA A s) (hA : ∀ q, s.heap.size ≤ q → A q) (hq0 : rq.cells = 0 ∧ rq.slots = 0) (hRc : ∀ (σ : SM) (τ : SM), Rc  σ = some τ → ctV l (wM h ad cA) D vwCl (kM D cA) yX12_condHere cX12_condHere 1 rq [.ref h] σ τ)  : ∀ (n : Nat) (σ : SM), fm_allHere_l4 Rc n σ = some τ → gg p l e (rm_allHere rq) s m args below meth c (wM h ad cA) D vwCl A 1 (QV below args s (wM h ad cA) D vwCl A τ) 4 [(0, .ref h)] [] σ := by
  intro n
  induction n with
  | zero =>
    intro σ hf
    cases (show (none : Option SM) = some τ from hf)
  | succ n ih =>
    intro σ hf
    unfold fm_allHere_l4 at hf
    refine gr_aload_n X dX12_allHere_4 rfl 0 rfl ?_
    refine gM_get_10 X hK dX12_allHere_5 ?_
    refine gr_if_ne X 45 dX12_allHere_8 (by decide) (fun hc_ => ?_) (fun hc_ => ?_)
    · replace hf := ot_t hf hc_
      exact gr_vret X dX12_allHere_45 (Option.some.inj hf)
    · replace hf := ot_f hf hc_
      refine gr_aload_n X dX12_allHere_11 rfl 0 rfl ?_
      refine gr_iconst (v := 3) X dX12_allHere_12 (by decide) ?_
      refine gr_bipush (v := 97) X dX12_allHere_13 (by decide) ?_
      refine gr_bipush (v := 110) X dX12_allHere_15 (by decide) ?_
      refine gr_bipush (v := 100) X dX12_allHere_17 (by decide) ?_
      refine gr_bipush (v := 100) X dX12_allHere_19 (by decide) ?_
      obtain ⟨q3, hq_, hf⟩ := ot_b hf
      refine gc_Vi (rest := []) X kM_ok hK hA cw12_isName (rvM hK) (xm_isName hq_) rfl ⟨rfl, rfl, by simp only [rm_allHere, rm_isName]; omega, by simp only [rm_allHere, rm_isName]; omega⟩ rfl (Nat.le_of_ble_eq_true rfl) dX12_allHere_21 ?_
      refine gr_if_eq X 45 dX12_allHere_24 (by decide) (fun hc_ => ?_) (fun hc_ => ?_)
      · replace hf := ot_t hf hc_
        exact gr_vret X dX12_allHere_45 (Option.some.inj hf)
      · replace hf := ot_f hf hc_
        refine gr_aload_n X dX12_allHere_27 rfl 0 rfl ?_
        obtain ⟨σ5, hq_, hf⟩ := ot_b hf
        refine gc_Vv (rest := []) X kM_ok hK hA cw12_nextToken (rvM hK) (xm_nextToken hq_) rfl ⟨rfl, rfl, by simp only [rm_allHere, rm_nextToken]; omega, by simp only [rm_allHere, rm_nextToken]; omega⟩ rfl (Nat.le_of_ble_eq_true rfl) dX12_allHere_28 ?_
        refine gr_aload_n X dX12_allHere_31 rfl 0 rfl ?_
        obtain ⟨σ7, hq_, hf⟩ := ot_b hf
        refine gc_Vv (rest := []) X kM_ok hK hA cw12_oneHere (rvM hK) (xm_oneHere hq0 hRc hq_) rfl ⟨rfl, rfl, by simp only [rm_allHere, rm_oneHere]; omega, by simp only [rm_allHere, rm_oneHere]; omega⟩ rfl (Nat.le_of_ble_eq_true rfl) dX12_allHere_32 ?_
        refine gr_aload_n X dX12_allHere_35 rfl 0 rfl ?_
        refine gr_iconst (v := 4) X dX12_allHere_36 (by decide) ?_
        refine gr_iconst (v := 0) X dX12_allHere_37 (by decide) ?_
        refine gr_iconst (v := 0) X dX12_allHere_38 (by decide) ?_
        obtain ⟨σ9, hq_, hf⟩ := ot_b hf
        refine gc_Vv (rest := []) X kM_ok hK hA cw12_steps (rvM hK) (xm_steps hq_) rfl ⟨rfl, rfl, by simp only [rm_allHere, rm_steps]; omega, by simp only [rm_allHere, rm_steps]; omega⟩ rfl (Nat.le_of_ble_eq_true rfl) dX12_allHere_39 ?_
        refine gr_goto X 4 dX12_allHere_42 (by decide) ?_
        refine gr_sub [0] rfl ?_
        exact ih _ hf
set_option maxHeartbeats 4000000 in
set_option maxRecDepth 100000 in
theorem xm_allHere {l : Launch} {D : va_G} {cA : ClassId} {h : Nat} {ad : Nat → Nat} {σ : SM} {τ : SM} {rq : Room} {Rc : SM → Option SM} (hq0 : rq.cells = 0 ∧ rq.slots = 0) (hRc : ∀ (σ : SM) (τ : SM), Rc  σ = some τ → ctV l (wM h ad cA) D vwCl (kM D cA) yX12_condHere cX12_condHere 1 rq [.ref h] σ τ) (hf : fm_allHere Rc σ = some τ) : ctV l (wM h ad cA) D vwCl (kM D cA) yX12_allHere cX12_allHere 1 (rm_allHere rq) [.ref h] σ τ := by
  refine ct_V RX12 (by decide +kernel) rfl (Nat.le_of_ble_eq_true rfl) ?_
  intro p e s m args below meth c A X hK hA
  refine gr_eqL (L2 := [(0, .ref h)]) rfl ?_
  unfold fm_allHere at hf
  refine gr_aload_n X dX12_allHere_0 rfl 0 rfl ?_
  obtain ⟨σ2, hq_, hf⟩ := ot_b hf
  refine gc_Vv (rest := []) X kM_ok hK hA cw12_oneHere (rvM hK) (xm_oneHere hq0 hRc hq_) rfl ⟨rfl, rfl, by simp only [rm_allHere, rm_oneHere]; omega, by simp only [rm_allHere, rm_oneHere]; omega⟩ rfl (Nat.le_of_ble_eq_true rfl) dX12_allHere_1 ?_
  refine gr_sub [0] rfl ?_
  refine wm_allHere_l4 X hK hA hq0 hRc  hFU _ hf
def rm_condHere (rq : Room) : Room := { frames := rq.frames + 10, cells := 0, slots := 0, locals := rq.locals + 213 }
def fm_condHere_l4 (Rc : SM → Option SM) : Nat → SM → Option SM
  | 0, _ => none
  | n + 1, σ => (if ¬ (σ 10 0) = 0 then (some σ) else (Option.bind (fm_isTwo σ (111 : Int32) (114 : Int32)) fun q3 => (if q3 = 0 then (some σ) else (Option.bind (fm_nextToken σ) fun σ5 => (Option.bind (fm_allHere Rc σ5) fun σ7 => (Option.bind (fm_steps (5 : Int32) (0 : Int32) (0 : Int32) σ7) fun σ9 => ((fm_condHere_l4 Rc n) σ9)))))))
def fm_condHere (Rc : SM → Option SM) (σ : SM) : Option SM := (Option.bind (fm_allHere Rc σ) fun σ2 => (fm_condHere_l4 Rc hFU σ2))
set_option maxHeartbeats 4000000 in
set_option maxRecDepth 100000 in
theorem wm_condHere_l4 {p : Program} {l : Launch} {e : Env} {s : State} {m : MethodId} {args : Array Value} {below : List Frame} {meth : Method} {c : Code} {A : Nat → Prop} {D : va_G} {cA : ClassId} {h : Nat} {ad : Nat → Nat} {τ : SM} {rq : Room} {Rc : SM → Option SM} (X : hc p s m args meth c RX12 cX12_condHere 1 none) (hK : kM D cA A s) (hA : ∀ q, s.heap.size ≤ q → A q) (hq0 : rq.cells = 0 ∧ rq.slots = 0) (hRc : ∀ (σ : SM) (τ : SM), Rc  σ = some τ → ctV l (wM h ad cA) D vwCl (kM D cA) yX12_condHere cX12_condHere 1 rq [.ref h] σ τ)  : ∀ (n : Nat) (σ : SM), fm_condHere_l4 Rc n σ = some τ → gg p l e (rm_condHere rq) s m args below meth c (wM h ad cA) D vwCl A 1 (QV below args s (wM h ad cA) D vwCl A τ) 4 [(0, .ref h)] [] σ := by
  intro n
  induction n with
  | zero =>
    intro σ hf
    cases (show (none : Option SM) = some τ from hf)
  | succ n ih =>
    intro σ hf
    unfold fm_condHere_l4 at hf
    refine gr_aload_n X dX12_condHere_4 rfl 0 rfl ?_
    refine gM_get_10 X hK dX12_condHere_5 ?_
    refine gr_if_ne X 40 dX12_condHere_8 (by decide) (fun hc_ => ?_) (fun hc_ => ?_)
    · replace hf := ot_t hf hc_
      exact gr_vret X dX12_condHere_40 (Option.some.inj hf)
    · replace hf := ot_f hf hc_
      refine gr_aload_n X dX12_condHere_11 rfl 0 rfl ?_
      refine gr_bipush (v := 111) X dX12_condHere_12 (by decide) ?_
      refine gr_bipush (v := 114) X dX12_condHere_14 (by decide) ?_
      obtain ⟨q3, hq_, hf⟩ := ot_b hf
      refine gc_Vi (rest := []) X kM_ok hK hA cw12_isTwo (rvM hK) (xm_isTwo hq_) rfl ⟨rfl, rfl, by simp only [rm_condHere, rm_isTwo]; omega, by simp only [rm_condHere, rm_isTwo]; omega⟩ rfl (Nat.le_of_ble_eq_true rfl) dX12_condHere_16 ?_
      refine gr_if_eq X 40 dX12_condHere_19 (by decide) (fun hc_ => ?_) (fun hc_ => ?_)
      · replace hf := ot_t hf hc_
        exact gr_vret X dX12_condHere_40 (Option.some.inj hf)
      · replace hf := ot_f hf hc_
        refine gr_aload_n X dX12_condHere_22 rfl 0 rfl ?_
        obtain ⟨σ5, hq_, hf⟩ := ot_b hf
        refine gc_Vv (rest := []) X kM_ok hK hA cw12_nextToken (rvM hK) (xm_nextToken hq_) rfl ⟨rfl, rfl, by simp only [rm_condHere, rm_nextToken]; omega, by simp only [rm_condHere, rm_nextToken]; omega⟩ rfl (Nat.le_of_ble_eq_true rfl) dX12_condHere_23 ?_
        refine gr_aload_n X dX12_condHere_26 rfl 0 rfl ?_
        obtain ⟨σ7, hq_, hf⟩ := ot_b hf
        refine gc_Vv (rest := []) X kM_ok hK hA cw12_allHere (rvM hK) (xm_allHere hq0 hRc hq_) rfl ⟨rfl, rfl, by simp only [rm_condHere, rm_allHere]; omega, by simp only [rm_condHere, rm_allHere]; omega⟩ rfl (Nat.le_of_ble_eq_true rfl) dX12_condHere_27 ?_
        refine gr_aload_n X dX12_condHere_30 rfl 0 rfl ?_
        refine gr_iconst (v := 5) X dX12_condHere_31 (by decide) ?_
        refine gr_iconst (v := 0) X dX12_condHere_32 (by decide) ?_
        refine gr_iconst (v := 0) X dX12_condHere_33 (by decide) ?_
        obtain ⟨σ9, hq_, hf⟩ := ot_b hf
        refine gc_Vv (rest := []) X kM_ok hK hA cw12_steps (rvM hK) (xm_steps hq_) rfl ⟨rfl, rfl, by simp only [rm_condHere, rm_steps]; omega, by simp only [rm_condHere, rm_steps]; omega⟩ rfl (Nat.le_of_ble_eq_true rfl) dX12_condHere_34 ?_
        refine gr_goto X 4 dX12_condHere_37 (by decide) ?_
        refine gr_sub [0] rfl ?_
        exact ih _ hf
set_option maxHeartbeats 4000000 in
set_option maxRecDepth 100000 in
theorem xm_condHere {l : Launch} {D : va_G} {cA : ClassId} {h : Nat} {ad : Nat → Nat} {σ : SM} {τ : SM} {rq : Room} {Rc : SM → Option SM} (hq0 : rq.cells = 0 ∧ rq.slots = 0) (hRc : ∀ (σ : SM) (τ : SM), Rc  σ = some τ → ctV l (wM h ad cA) D vwCl (kM D cA) yX12_condHere cX12_condHere 1 rq [.ref h] σ τ) (hf : fm_condHere Rc σ = some τ) : ctV l (wM h ad cA) D vwCl (kM D cA) yX12_condHere cX12_condHere 1 (rm_condHere rq) [.ref h] σ τ := by
  refine ct_V RX12 (by decide +kernel) rfl (Nat.le_of_ble_eq_true rfl) ?_
  intro p e s m args below meth c A X hK hA
  refine gr_eqL (L2 := [(0, .ref h)]) rfl ?_
  unfold fm_condHere at hf
  refine gr_aload_n X dX12_condHere_0 rfl 0 rfl ?_
  obtain ⟨σ2, hq_, hf⟩ := ot_b hf
  refine gc_Vv (rest := []) X kM_ok hK hA cw12_allHere (rvM hK) (xm_allHere hq0 hRc hq_) rfl ⟨rfl, rfl, by simp only [rm_condHere, rm_allHere]; omega, by simp only [rm_condHere, rm_allHere]; omega⟩ rfl (Nat.le_of_ble_eq_true rfl) dX12_condHere_1 ?_
  refine gr_sub [0] rfl ?_
  refine wm_condHere_l4 X hK hA hq0 hRc  hFU _ hf
def fm_condHereD : Nat → SM → Option SM
  | 0 => fun _ => none
  | d + 1 => fm_condHere (fm_condHereD d)
def rm_condHereD : Nat → Room
  | 0 => { frames := 0, cells := 0, slots := 0, locals := 0 }
  | d + 1 => rm_condHere (rm_condHereD d)
theorem rm_condHereD_0 : ∀ d, (rm_condHereD d).cells = 0 ∧ (rm_condHereD d).slots = 0
  | 0 => ⟨rfl, rfl⟩
  | _ + 1 => ⟨rfl, rfl⟩
theorem xm_condHereA {l : Launch} {D : va_G} {cA : ClassId} {h : Nat} {ad : Nat → Nat} : ∀ (d : Nat) (σ : SM) (τ : SM), fm_condHereD d  σ = some τ → ctV l (wM h ad cA) D vwCl (kM D cA) yX12_condHere cX12_condHere 1 (rm_condHereD d) [.ref h] σ τ := by
  intro d
  induction d with
  | zero =>
    intro σ  τ hf
    cases (show (none : Option SM) = some τ from hf)
  | succ d ih =>
    intro σ  τ hf
    exact xm_condHere (rm_condHereD_0 d) ih hf
abbrev rm_ruleHere : Room := { frames := 81, cells := 0, slots := 0, locals := 1724 }
def fm_ruleHere_b97 (x1 : Int32) (x2 : Int32) (x3 : Int32) (x4 : Int32) (y0 : Int32) (σ : SM) : Option SM := (Option.bind (fm_needs y0 σ) fun σ8 => (Option.bind (fm_isByte σ8 (59 : Int32)) fun q9 => (Option.bind (fm_needs q9 σ8) fun σ11 => (if ¬ (σ11 10 0) = 0 then (some σ11) else (oc (hin x1 580) (hl (sf σ11 0 (upd (σ11 0) (Int32.toNatClampNeg x1) x2)) fun σ12 => (oc (hin (x1 + (1 : Int32)) 580) (hl (sf σ12 0 (upd (σ12 0) (Int32.toNatClampNeg (x1 + (1 : Int32))) x4)) fun σ13 => (oc (hin (x1 + (2 : Int32)) 580) (hl (sf σ13 0 (upd (σ13 0) (Int32.toNatClampNeg (x1 + (2 : Int32))) x3)) fun σ14 => (oc (hin (x1 + (3 : Int32)) 580) (hl (sf σ14 0 (upd (σ14 0) (Int32.toNatClampNeg (x1 + (3 : Int32))) (σ14 0 7))) fun σ15 => (hl (sf σ15 0 (upd (σ15 0) 5 ((σ15 0 5) + (1 : Int32)))) fun σ16 => (some σ16))))))))))))))
def fm_ruleHere_b80 (x1 : Int32) (x2 : Int32) (x3 : Int32) (σ : SM) : Option SM := (Option.bind (fm_doHere σ) fun q6 => (if q6 < 0 then (fm_ruleHere_b97 x1 x2 x3 q6 (0 : Int32) σ) else (fm_ruleHere_b97 x1 x2 x3 q6 (1 : Int32) σ)))
def fm_ruleHere_b38 (x1 : Int32) (x2 : Int32) (y0 : Int32) (σ : SM) : Option SM := (Option.bind (fm_needs y0 σ) fun σ4 => (hl (σ4 0 7) fun v5 => (if ¬ (σ4 10 0) = 0 then (fm_ruleHere_b80 x1 x2 v5 σ4) else (Option.bind (fm_isTwo σ4 (105 : Int32) (102 : Int32)) fun q17 => (if q17 = 0 then (fm_ruleHere_b80 x1 x2 v5 σ4) else (Option.bind (fm_nextToken σ4) fun σ19 => (hl (sf σ19 11 (fun _ => (0 : Int32))) fun σ20 => (Option.bind (fm_condHereD 8 σ20) fun σ22 => (fm_ruleHere_b80 x1 x2 v5 σ22)))))))))
def fm_ruleHere_b37 (x1 : Int32) (x2 : Int32) (σ : SM) : Option SM := (fm_ruleHere_b38 x1 x2 (0 : Int32) σ)
def fm_ruleHere (σ : SM) : Option SM := (hl ((74 : Int32) + ((4 : Int32) * (σ 0 5))) fun v1 => (Option.bind (fm_kindHere σ) fun q2 => (if q2 < 0 then (fm_ruleHere_b37 v1 q2 σ) else (if (8 : Int32) ≤ (σ 0 5) then (fm_ruleHere_b37 v1 q2 σ) else (fm_ruleHere_b38 v1 q2 (1 : Int32) σ)))))
set_option maxHeartbeats 4000000 in
set_option maxRecDepth 100000 in
theorem wm_ruleHere_b97 {p : Program} {l : Launch} {e : Env} {s : State} {m : MethodId} {args : Array Value} {below : List Frame} {meth : Method} {c : Code} {A : Nat → Prop} {D : va_G} {cA : ClassId} {h : Nat} {ad : Nat → Nat} {τ : SM} (X : hc p s m args meth c RX12 cX12_ruleHere 5 none) (hK : kM D cA A s) (hA : ∀ q, s.heap.size ≤ q → A q)   (x1 : Int32) (x2 : Int32) (x3 : Int32) (x4 : Int32) (y0 : Int32) (σ : SM) (hf : fm_ruleHere_b97 x1 x2 x3 x4 y0 σ = some τ) : gg p l e rm_ruleHere s m args below meth c (wM h ad cA) D vwCl A 5 (QV below args s (wM h ad cA) D vwCl A τ) 97 [(0, .ref h), (1, .int x1), (2, .int x2), (3, .int x3), (4, .int x4)] [.int y0, .ref h] σ := by
  unfold fm_ruleHere_b97 at hf
  obtain ⟨σ8, hq_, hf⟩ := ot_b hf
  refine gc_Vv (rest := []) X kM_ok hK hA cw12_needs (rvM hK) (xm_needs hq_) rfl ⟨rfl, rfl, Nat.le_of_ble_eq_true rfl, Nat.le_of_ble_eq_true rfl⟩ rfl (Nat.le_of_ble_eq_true rfl) dX12_ruleHere_97 ?_
  refine gr_aload_n X dX12_ruleHere_100 rfl 0 rfl ?_
  refine gr_aload_n X dX12_ruleHere_101 rfl 0 rfl ?_
  refine gr_bipush (v := 59) X dX12_ruleHere_102 (by decide) ?_
  obtain ⟨q9, hq_, hf⟩ := ot_b hf
  refine gc_Vi (rest := [.ref h]) X kM_ok hK hA cw12_isByte (rvM hK) (xm_isByte hq_) rfl ⟨rfl, rfl, Nat.le_of_ble_eq_true rfl, Nat.le_of_ble_eq_true rfl⟩ rfl (Nat.le_of_ble_eq_true rfl) dX12_ruleHere_104 ?_
  obtain ⟨σ11, hq_, hf⟩ := ot_b hf
  refine gc_Vv (rest := []) X kM_ok hK hA cw12_needs (rvM hK) (xm_needs hq_) rfl ⟨rfl, rfl, Nat.le_of_ble_eq_true rfl, Nat.le_of_ble_eq_true rfl⟩ rfl (Nat.le_of_ble_eq_true rfl) dX12_ruleHere_107 ?_
  refine gr_aload_n X dX12_ruleHere_110 rfl 0 rfl ?_
  refine gM_get_10 X hK dX12_ruleHere_111 ?_
  refine gr_if_ne X 168 dX12_ruleHere_114 (by decide) (fun hc_ => ?_) (fun hc_ => ?_)
  · replace hf := ot_t hf hc_
    exact gr_vret X dX12_ruleHere_168 (Option.some.inj hf)
  · replace hf := ot_f hf hc_
    refine gr_aload_n X dX12_ruleHere_117 rfl 0 rfl ?_
    refine gM_get_0 X hK dX12_ruleHere_118 ?_
    refine gr_iload_n X dX12_ruleHere_121 rfl 1 rfl ?_
    refine gr_iload_n X dX12_ruleHere_122 rfl 2 rfl ?_
    have hi_ := oc_1 hf
    replace hf := oc_2 hf
    refine gM_ast_0 X hK (Int32.toNatClampNeg x1) hi_ rfl dX12_ruleHere_123 ?_
    refine gM_gen (fun σ12 e_σ12 => ?_)
    replace hf := ot_l hf e_σ12
    refine gr_aload_n X dX12_ruleHere_124 rfl 0 rfl ?_
    refine gM_get_0 X hK dX12_ruleHere_125 ?_
    refine gr_iload_n X dX12_ruleHere_128 rfl 1 rfl ?_
    refine gr_iconst (v := 1) X dX12_ruleHere_129 (by decide) ?_
    refine gr_iadd X dX12_ruleHere_130 ?_
    refine gr_iload X dX12_ruleHere_131 4 rfl ?_
    have hi_ := oc_1 hf
    replace hf := oc_2 hf
    refine gM_ast_0 X hK (Int32.toNatClampNeg (x1 + (1 : Int32))) hi_ rfl dX12_ruleHere_133 ?_
    refine gM_gen (fun σ13 e_σ13 => ?_)
    replace hf := ot_l hf e_σ13
    refine gr_aload_n X dX12_ruleHere_134 rfl 0 rfl ?_
    refine gM_get_0 X hK dX12_ruleHere_135 ?_
    refine gr_iload_n X dX12_ruleHere_138 rfl 1 rfl ?_
    refine gr_iconst (v := 2) X dX12_ruleHere_139 (by decide) ?_
    refine gr_iadd X dX12_ruleHere_140 ?_
    refine gr_iload_n X dX12_ruleHere_141 rfl 3 rfl ?_
    have hi_ := oc_1 hf
    replace hf := oc_2 hf
    refine gM_ast_0 X hK (Int32.toNatClampNeg (x1 + (2 : Int32))) hi_ rfl dX12_ruleHere_142 ?_
    refine gM_gen (fun σ14 e_σ14 => ?_)
    replace hf := ot_l hf e_σ14
    refine gr_aload_n X dX12_ruleHere_143 rfl 0 rfl ?_
    refine gM_get_0 X hK dX12_ruleHere_144 ?_
    refine gr_iload_n X dX12_ruleHere_147 rfl 1 rfl ?_
    refine gr_iconst (v := 3) X dX12_ruleHere_148 (by decide) ?_
    refine gr_iadd X dX12_ruleHere_149 ?_
    refine gr_aload_n X dX12_ruleHere_150 rfl 0 rfl ?_
    refine gM_get_0 X hK dX12_ruleHere_151 ?_
    refine gr_bipush (v := 7) X dX12_ruleHere_154 (by decide) ?_
    refine gM_ald_0 X hK 7 (by decide) (by decide) dX12_ruleHere_156 ?_
    have hi_ := oc_1 hf
    replace hf := oc_2 hf
    refine gM_ast_0 X hK (Int32.toNatClampNeg (x1 + (3 : Int32))) hi_ rfl dX12_ruleHere_157 ?_
    refine gM_gen (fun σ15 e_σ15 => ?_)
    replace hf := ot_l hf e_σ15
    refine gr_aload_n X dX12_ruleHere_158 rfl 0 rfl ?_
    refine gM_get_0 X hK dX12_ruleHere_159 ?_
    refine gr_iconst (v := 5) X dX12_ruleHere_162 (by decide) ?_
    refine gr_dup2 X dX12_ruleHere_163 rfl rfl ?_
    refine gM_ald_0 X hK 5 (by decide) (by decide) dX12_ruleHere_164 ?_
    refine gr_iconst (v := 1) X dX12_ruleHere_165 (by decide) ?_
    refine gr_iadd X dX12_ruleHere_166 ?_
    refine gM_ast_0 X hK 5 (by decide) (by decide) dX12_ruleHere_167 ?_
    refine gM_gen (fun σ16 e_σ16 => ?_)
    replace hf := ot_l hf e_σ16
    exact gr_vret X dX12_ruleHere_168 (Option.some.inj hf)
set_option maxHeartbeats 4000000 in
set_option maxRecDepth 100000 in
theorem wm_ruleHere_b80 {p : Program} {l : Launch} {e : Env} {s : State} {m : MethodId} {args : Array Value} {below : List Frame} {meth : Method} {c : Code} {A : Nat → Prop} {D : va_G} {cA : ClassId} {h : Nat} {ad : Nat → Nat} {τ : SM} (X : hc p s m args meth c RX12 cX12_ruleHere 5 none) (hK : kM D cA A s) (hA : ∀ q, s.heap.size ≤ q → A q)   (x1 : Int32) (x2 : Int32) (x3 : Int32) (σ : SM) (hf : fm_ruleHere_b80 x1 x2 x3 σ = some τ) : gg p l e rm_ruleHere s m args below meth c (wM h ad cA) D vwCl A 5 (QV below args s (wM h ad cA) D vwCl A τ) 80 [(0, .ref h), (1, .int x1), (2, .int x2), (3, .int x3)] [] σ := by
  unfold fm_ruleHere_b80 at hf
  refine gr_aload_n X dX12_ruleHere_80 rfl 0 rfl ?_
  obtain ⟨q6, hq_, hf⟩ := ot_b hf
  refine gc_Vi (rest := []) X kM_ok hK hA cw12_doHere (rvM hK) (xm_doHere hq_) rfl ⟨rfl, rfl, Nat.le_of_ble_eq_true rfl, Nat.le_of_ble_eq_true rfl⟩ rfl (Nat.le_of_ble_eq_true rfl) dX12_ruleHere_81 ?_
  refine gr_istore (L2 := [(4, .int q6), (0, .ref h), (1, .int x1), (2, .int x2), (3, .int x3)]) X dX12_ruleHere_84 (by decide) rfl ?_
  refine gr_aload_n X dX12_ruleHere_86 rfl 1 rfl ?_
  refine gr_iload X dX12_ruleHere_87 0 rfl ?_
  refine gr_if_lt X 96 dX12_ruleHere_89 (by decide) (fun hc_ => ?_) (fun hc_ => ?_)
  · replace hf := ot_t hf hc_
    refine gr_iconst (v := 0) X dX12_ruleHere_96 (by decide) ?_
    refine gr_sub [1, 2, 3, 4, 0] rfl ?_
    exact wm_ruleHere_b97 X hK hA _ _ _ _ _ _ hf
  · replace hf := ot_f hf hc_
    refine gr_iconst (v := 1) X dX12_ruleHere_92 (by decide) ?_
    refine gr_goto X 97 dX12_ruleHere_93 (by decide) ?_
    refine gr_sub [1, 2, 3, 4, 0] rfl ?_
    exact wm_ruleHere_b97 X hK hA _ _ _ _ _ _ hf
set_option maxHeartbeats 4000000 in
set_option maxRecDepth 100000 in
theorem wm_ruleHere_b38 {p : Program} {l : Launch} {e : Env} {s : State} {m : MethodId} {args : Array Value} {below : List Frame} {meth : Method} {c : Code} {A : Nat → Prop} {D : va_G} {cA : ClassId} {h : Nat} {ad : Nat → Nat} {τ : SM} (X : hc p s m args meth c RX12 cX12_ruleHere 5 none) (hK : kM D cA A s) (hA : ∀ q, s.heap.size ≤ q → A q)   (x1 : Int32) (x2 : Int32) (y0 : Int32) (σ : SM) (hf : fm_ruleHere_b38 x1 x2 y0 σ = some τ) : gg p l e rm_ruleHere s m args below meth c (wM h ad cA) D vwCl A 5 (QV below args s (wM h ad cA) D vwCl A τ) 38 [(0, .ref h), (1, .int x1), (2, .int x2)] [.int y0, .ref h] σ := by
  unfold fm_ruleHere_b38 at hf
  obtain ⟨σ4, hq_, hf⟩ := ot_b hf
  refine gc_Vv (rest := []) X kM_ok hK hA cw12_needs (rvM hK) (xm_needs hq_) rfl ⟨rfl, rfl, Nat.le_of_ble_eq_true rfl, Nat.le_of_ble_eq_true rfl⟩ rfl (Nat.le_of_ble_eq_true rfl) dX12_ruleHere_38 ?_
  refine gr_aload_n X dX12_ruleHere_41 rfl 0 rfl ?_
  refine gM_get_0 X hK dX12_ruleHere_42 ?_
  refine gr_bipush (v := 7) X dX12_ruleHere_45 (by decide) ?_
  refine gM_ald_0 X hK 7 (by decide) (by decide) dX12_ruleHere_47 ?_
  refine gM_top (fun v5 e_v5 => ?_)
  replace hf := ot_l hf e_v5
  refine gr_istore_n (L2 := [(3, .int v5), (0, .ref h), (1, .int x1), (2, .int x2)]) X dX12_ruleHere_48 rfl (by decide) rfl ?_
  refine gr_aload_n X dX12_ruleHere_49 rfl 1 rfl ?_
  refine gM_get_10 X hK dX12_ruleHere_50 ?_
  refine gr_if_ne X 80 dX12_ruleHere_53 (by decide) (fun hc_ => ?_) (fun hc_ => ?_)
  · replace hf := ot_t hf hc_
    refine gr_sub [1, 2, 3, 0] rfl ?_
    exact wm_ruleHere_b80 X hK hA _ _ _ _ hf
  · replace hf := ot_f hf hc_
    refine gr_aload_n X dX12_ruleHere_56 rfl 1 rfl ?_
    refine gr_bipush (v := 105) X dX12_ruleHere_57 (by decide) ?_
    refine gr_bipush (v := 102) X dX12_ruleHere_59 (by decide) ?_
    obtain ⟨q17, hq_, hf⟩ := ot_b hf
    refine gc_Vi (rest := []) X kM_ok hK hA cw12_isTwo (rvM hK) (xm_isTwo hq_) rfl ⟨rfl, rfl, Nat.le_of_ble_eq_true rfl, Nat.le_of_ble_eq_true rfl⟩ rfl (Nat.le_of_ble_eq_true rfl) dX12_ruleHere_61 ?_
    refine gr_if_eq X 80 dX12_ruleHere_64 (by decide) (fun hc_ => ?_) (fun hc_ => ?_)
    · replace hf := ot_t hf hc_
      refine gr_sub [1, 2, 3, 0] rfl ?_
      exact wm_ruleHere_b80 X hK hA _ _ _ _ hf
    · replace hf := ot_f hf hc_
      refine gr_aload_n X dX12_ruleHere_67 rfl 1 rfl ?_
      obtain ⟨σ19, hq_, hf⟩ := ot_b hf
      refine gc_Vv (rest := []) X kM_ok hK hA cw12_nextToken (rvM hK) (xm_nextToken hq_) rfl ⟨rfl, rfl, Nat.le_of_ble_eq_true rfl, Nat.le_of_ble_eq_true rfl⟩ rfl (Nat.le_of_ble_eq_true rfl) dX12_ruleHere_68 ?_
      refine gr_aload_n X dX12_ruleHere_71 rfl 1 rfl ?_
      refine gr_iconst (v := 0) X dX12_ruleHere_72 (by decide) ?_
      refine gM_put_11 X hK dX12_ruleHere_73 ?_
      refine gM_gen (fun σ20 e_σ20 => ?_)
      replace hf := ot_l hf e_σ20
      refine gr_aload_n X dX12_ruleHere_76 rfl 1 rfl ?_
      obtain ⟨σ22, hq_, hf⟩ := ot_b hf
      refine gc_Vv (rest := []) X kM_ok hK hA cw12_condHere (rvM hK) (xm_condHereA 8 _ _ hq_) rfl ⟨rfl, rfl, Nat.le_of_ble_eq_true rfl, Nat.le_of_ble_eq_true rfl⟩ rfl (Nat.le_of_ble_eq_true rfl) dX12_ruleHere_77 ?_
      refine gr_sub [1, 2, 3, 0] rfl ?_
      exact wm_ruleHere_b80 X hK hA _ _ _ _ hf
set_option maxHeartbeats 4000000 in
set_option maxRecDepth 100000 in
theorem wm_ruleHere_b37 {p : Program} {l : Launch} {e : Env} {s : State} {m : MethodId} {args : Array Value} {below : List Frame} {meth : Method} {c : Code} {A : Nat → Prop} {D : va_G} {cA : ClassId} {h : Nat} {ad : Nat → Nat} {τ : SM} (X : hc p s m args meth c RX12 cX12_ruleHere 5 none) (hK : kM D cA A s) (hA : ∀ q, s.heap.size ≤ q → A q)   (x1 : Int32) (x2 : Int32) (σ : SM) (hf : fm_ruleHere_b37 x1 x2 σ = some τ) : gg p l e rm_ruleHere s m args below meth c (wM h ad cA) D vwCl A 5 (QV below args s (wM h ad cA) D vwCl A τ) 37 [(0, .ref h), (1, .int x1), (2, .int x2)] [.ref h] σ := by
  unfold fm_ruleHere_b37 at hf
  refine gr_iconst (v := 0) X dX12_ruleHere_37 (by decide) ?_
  refine gr_sub [0, 1, 2] rfl ?_
  exact wm_ruleHere_b38 X hK hA _ _ _ _ hf
set_option maxHeartbeats 4000000 in
set_option maxRecDepth 100000 in
theorem xm_ruleHere {l : Launch} {D : va_G} {cA : ClassId} {h : Nat} {ad : Nat → Nat} {σ : SM} {τ : SM} (hf : fm_ruleHere σ = some τ) : ctV l (wM h ad cA) D vwCl (kM D cA) yX12_ruleHere cX12_ruleHere 5 rm_ruleHere [.ref h] σ τ := by
  refine ct_V RX12 (by decide +kernel) rfl (Nat.le_of_ble_eq_true rfl) ?_
  intro p e s m args below meth c A X hK hA
  refine gr_eqL (L2 := [(0, .ref h)]) rfl ?_
  unfold fm_ruleHere at hf
  refine gr_bipush (v := 74) X dX12_ruleHere_0 (by decide) ?_
  refine gr_iconst (v := 4) X dX12_ruleHere_2 (by decide) ?_
  refine gr_aload_n X dX12_ruleHere_3 rfl 0 rfl ?_
  refine gM_get_0 X hK dX12_ruleHere_4 ?_
  refine gr_iconst (v := 5) X dX12_ruleHere_7 (by decide) ?_
  refine gM_ald_0 X hK 5 (by decide) (by decide) dX12_ruleHere_8 ?_
  refine gr_imul X dX12_ruleHere_9 ?_
  refine gr_iadd X dX12_ruleHere_10 ?_
  refine gM_top (fun v1 e_v1 => ?_)
  replace hf := ot_l hf e_v1
  refine gr_istore_n (L2 := [(1, .int v1), (0, .ref h)]) X dX12_ruleHere_11 rfl (by decide) rfl ?_
  refine gr_aload_n X dX12_ruleHere_12 rfl 1 rfl ?_
  obtain ⟨q2, hq_, hf⟩ := ot_b hf
  refine gc_Vi (rest := []) X kM_ok hK hA cw12_kindHere (rvM hK) (xm_kindHere hq_) rfl ⟨rfl, rfl, Nat.le_of_ble_eq_true rfl, Nat.le_of_ble_eq_true rfl⟩ rfl (Nat.le_of_ble_eq_true rfl) dX12_ruleHere_13 ?_
  refine gr_istore_n (L2 := [(2, .int q2), (1, .int v1), (0, .ref h)]) X dX12_ruleHere_16 rfl (by decide) rfl ?_
  refine gr_aload_n X dX12_ruleHere_17 rfl 2 rfl ?_
  refine gr_iload_n X dX12_ruleHere_18 rfl 0 rfl ?_
  refine gr_if_lt X 37 dX12_ruleHere_19 (by decide) (fun hc_ => ?_) (fun hc_ => ?_)
  · replace hf := ot_t hf hc_
    refine gr_sub [2, 1, 0] rfl ?_
    exact wm_ruleHere_b37 X hK hA _ _ _ hf
  · replace hf := ot_f hf hc_
    refine gr_aload_n X dX12_ruleHere_22 rfl 2 rfl ?_
    refine gM_get_0 X hK dX12_ruleHere_23 ?_
    refine gr_iconst (v := 5) X dX12_ruleHere_26 (by decide) ?_
    refine gM_ald_0 X hK 5 (by decide) (by decide) dX12_ruleHere_27 ?_
    refine gr_bipush (v := 8) X dX12_ruleHere_28 (by decide) ?_
    refine gr_icmp_ge X 37 dX12_ruleHere_30 (by decide) (fun hc_ => ?_) (fun hc_ => ?_)
    · replace hf := ot_t hf hc_
      refine gr_sub [2, 1, 0] rfl ?_
      exact wm_ruleHere_b37 X hK hA _ _ _ hf
    · replace hf := ot_f hf hc_
      refine gr_iconst (v := 1) X dX12_ruleHere_33 (by decide) ?_
      refine gr_goto X 38 dX12_ruleHere_34 (by decide) ?_
      refine gr_sub [2, 1, 0] rfl ?_
      exact wm_ruleHere_b38 X hK hA _ _ _ _ hf
abbrev rm_rules : Room := { frames := 82, cells := 0, slots := 0, locals := 1748 }
def fm_rules_l2 (K27 : SM → Option (Int32 × SM)) : Nat → Int32 → SM → Option (Int32 × SM)
  | 0, _, _ => none
  | n + 1, x1, σ => (if (580 : Int32) ≤ x1 then (K27 σ) else (oc (hin x1 580) (oc (hin x1 580) (hl (sf σ 12 (upd (σ 12) (Int32.toNatClampNeg x1) (σ 0 (Int32.toNatClampNeg x1)))) fun σ1 => ((fm_rules_l2 K27 n) (x1 + (1 : Int32)) σ1)))))
def fm_rules_l56 (K77 : SM → Option (Int32 × SM)) : Nat → SM → Option (Int32 × SM)
  | 0, _ => none
  | n + 1, σ => (if ¬ (σ 10 0) = 0 then (K77 σ) else (if (σ 6 0) = 0 then (K77 σ) else (Option.bind (fm_ruleHere σ) fun σ9 => ((fm_rules_l56 K77 n) σ9))))
def fm_rules_l84 (K116 : SM → Option (Int32 × SM)) : Nat → Int32 → SM → Option (Int32 × SM)
  | 0, _, _ => none
  | n + 1, x1, σ => (if (580 : Int32) ≤ x1 then (K116 σ) else (if (σ 10 0) = 0 then (K116 σ) else (oc (hin x1 580) (oc (hin x1 580) (hl (sf σ 0 (upd (σ 0) (Int32.toNatClampNeg x1) (σ 12 (Int32.toNatClampNeg x1)))) fun σ11 => ((fm_rules_l84 K116 n) (x1 + (1 : Int32)) σ11))))))
def fm_rules_b116 (σ : SM) : Option (Int32 × SM) := (if (σ 10 0) = 0 then (some ((σ 0 5), σ)) else (some (((-100 : Int32) - (σ 7 0)), σ)))
def fm_rules_b77 (σ : SM) : Option (Int32 × SM) := (hl (sf σ 5 (fun _ => (0 : Int32))) fun σ10 => (fm_rules_l84 (fun σ => (fm_rules_b116 σ)) hFU (0 : Int32) σ10))
def fm_rules (σ : SM) : Option (Int32 × SM) := (fm_rules_l2 (fun σ => (hl (sf σ 0 (upd (σ 0) 5 (0 : Int32))) fun σ2 => (hl (sf σ2 0 (upd (σ2 0) 7 (0 : Int32))) fun σ3 => (hl (sf σ3 8 (fun _ => (0 : Int32))) fun σ4 => (hl (sf σ4 10 (fun _ => (0 : Int32))) fun σ5 => (Option.bind (fm_nextToken σ5) fun σ7 => (fm_rules_l56 (fun σ => (fm_rules_b77 σ)) hFU σ7))))))) hFU (0 : Int32) σ)
set_option maxHeartbeats 4000000 in
set_option maxRecDepth 100000 in
theorem wm_rules_l2 {p : Program} {l : Launch} {e : Env} {s : State} {m : MethodId} {args : Array Value} {below : List Frame} {meth : Method} {c : Code} {A : Nat → Prop} {D : va_G} {cA : ClassId} {h : Nat} {ad : Nat → Nat} {r : Int32} {τ : SM} {K27 : SM → Option (Int32 × SM)} (X : hc p s m args meth c RX12 cX12_rules 2 (some .int)) (hK : kM D cA A s) (hA : ∀ q, s.heap.size ≤ q → A q) (hK27 : (∀ (σ : SM), K27 σ = some (r, τ) → gg p l e rm_rules s m args below meth c (wM h ad cA) D vwCl A 2 (QI below args s (wM h ad cA) D vwCl A r τ) 27 [(0, .ref h)] [] σ)) : ∀ (n : Nat) (x1 : Int32) (σ : SM), fm_rules_l2 K27 n x1 σ = some (r, τ) → gg p l e rm_rules s m args below meth c (wM h ad cA) D vwCl A 2 (QI below args s (wM h ad cA) D vwCl A r τ) 2 [(0, .ref h), (1, .int x1)] [] σ := by
  intro n
  induction n with
  | zero =>
    intro x1 σ hf
    cases (show (none : Option (Int32 × SM)) = some (r, τ) from hf)
  | succ n ih =>
    intro x1 σ hf
    unfold fm_rules_l2 at hf
    refine gr_iload_n X dX12_rules_2 rfl 1 rfl ?_
    refine gr_sipush (v := 580) X dX12_rules_3 (by decide) ?_
    refine gr_icmp_ge X 27 dX12_rules_6 (by decide) (fun hc_ => ?_) (fun hc_ => ?_)
    · replace hf := ot_t hf hc_
      refine gr_sub [0] rfl ?_
      exact hK27 _ hf
    · replace hf := ot_f hf hc_
      refine gr_aload_n X dX12_rules_9 rfl 0 rfl ?_
      refine gM_get_12 X hK dX12_rules_10 ?_
      refine gr_iload_n X dX12_rules_13 rfl 1 rfl ?_
      refine gr_aload_n X dX12_rules_14 rfl 0 rfl ?_
      refine gM_get_0 X hK dX12_rules_15 ?_
      refine gr_iload_n X dX12_rules_18 rfl 1 rfl ?_
      have hi_ := oc_1 hf
      replace hf := oc_2 hf
      refine gM_ald_0 X hK (Int32.toNatClampNeg x1) hi_ rfl dX12_rules_19 ?_
      have hi_ := oc_1 hf
      replace hf := oc_2 hf
      refine gM_ast_12 X hK (Int32.toNatClampNeg x1) hi_ rfl dX12_rules_20 ?_
      refine gM_gen (fun σ1 e_σ1 => ?_)
      replace hf := ot_l hf e_σ1
      refine gr_iinc (k := 1) (v := 1) (L2 := [(1, .int (x1 + (1 : Int32))), (0, .ref h)]) X dX12_rules_21 rfl (by decide) (by decide) rfl ?_
      refine gr_goto X 2 dX12_rules_24 (by decide) ?_
      refine gr_sub [1, 0] rfl ?_
      exact ih _ _ hf
set_option maxHeartbeats 4000000 in
set_option maxRecDepth 100000 in
theorem wm_rules_l56 {p : Program} {l : Launch} {e : Env} {s : State} {m : MethodId} {args : Array Value} {below : List Frame} {meth : Method} {c : Code} {A : Nat → Prop} {D : va_G} {cA : ClassId} {h : Nat} {ad : Nat → Nat} {r : Int32} {τ : SM} {K77 : SM → Option (Int32 × SM)} (X : hc p s m args meth c RX12 cX12_rules 2 (some .int)) (hK : kM D cA A s) (hA : ∀ q, s.heap.size ≤ q → A q) (hK77 : (∀ (σ : SM), K77 σ = some (r, τ) → gg p l e rm_rules s m args below meth c (wM h ad cA) D vwCl A 2 (QI below args s (wM h ad cA) D vwCl A r τ) 77 [(0, .ref h)] [] σ)) : ∀ (n : Nat) (σ : SM), fm_rules_l56 K77 n σ = some (r, τ) → gg p l e rm_rules s m args below meth c (wM h ad cA) D vwCl A 2 (QI below args s (wM h ad cA) D vwCl A r τ) 56 [(0, .ref h)] [] σ := by
  intro n
  induction n with
  | zero =>
    intro σ hf
    cases (show (none : Option (Int32 × SM)) = some (r, τ) from hf)
  | succ n ih =>
    intro σ hf
    unfold fm_rules_l56 at hf
    refine gr_aload_n X dX12_rules_56 rfl 0 rfl ?_
    refine gM_get_10 X hK dX12_rules_57 ?_
    refine gr_if_ne X 77 dX12_rules_60 (by decide) (fun hc_ => ?_) (fun hc_ => ?_)
    · replace hf := ot_t hf hc_
      refine gr_sub [0] rfl ?_
      exact hK77 _ hf
    · replace hf := ot_f hf hc_
      refine gr_aload_n X dX12_rules_63 rfl 0 rfl ?_
      refine gM_get_6 X hK dX12_rules_64 ?_
      refine gr_if_eq X 77 dX12_rules_67 (by decide) (fun hc_ => ?_) (fun hc_ => ?_)
      · replace hf := ot_t hf hc_
        refine gr_sub [0] rfl ?_
        exact hK77 _ hf
      · replace hf := ot_f hf hc_
        refine gr_aload_n X dX12_rules_70 rfl 0 rfl ?_
        obtain ⟨σ9, hq_, hf⟩ := ot_b hf
        refine gc_Vv (rest := []) X kM_ok hK hA cw12_ruleHere (rvM hK) (xm_ruleHere hq_) rfl ⟨rfl, rfl, Nat.le_of_ble_eq_true rfl, Nat.le_of_ble_eq_true rfl⟩ rfl (Nat.le_of_ble_eq_true rfl) dX12_rules_71 ?_
        refine gr_goto X 56 dX12_rules_74 (by decide) ?_
        refine gr_sub [0] rfl ?_
        exact ih _ hf
set_option maxHeartbeats 4000000 in
set_option maxRecDepth 100000 in
theorem wm_rules_l84 {p : Program} {l : Launch} {e : Env} {s : State} {m : MethodId} {args : Array Value} {below : List Frame} {meth : Method} {c : Code} {A : Nat → Prop} {D : va_G} {cA : ClassId} {h : Nat} {ad : Nat → Nat} {r : Int32} {τ : SM} {K116 : SM → Option (Int32 × SM)} (X : hc p s m args meth c RX12 cX12_rules 2 (some .int)) (hK : kM D cA A s) (hA : ∀ q, s.heap.size ≤ q → A q) (hK116 : (∀ (σ : SM), K116 σ = some (r, τ) → gg p l e rm_rules s m args below meth c (wM h ad cA) D vwCl A 2 (QI below args s (wM h ad cA) D vwCl A r τ) 116 [(0, .ref h)] [] σ)) : ∀ (n : Nat) (x1 : Int32) (σ : SM), fm_rules_l84 K116 n x1 σ = some (r, τ) → gg p l e rm_rules s m args below meth c (wM h ad cA) D vwCl A 2 (QI below args s (wM h ad cA) D vwCl A r τ) 84 [(0, .ref h), (1, .int x1)] [] σ := by
  intro n
  induction n with
  | zero =>
    intro x1 σ hf
    cases (show (none : Option (Int32 × SM)) = some (r, τ) from hf)
  | succ n ih =>
    intro x1 σ hf
    unfold fm_rules_l84 at hf
    refine gr_iload_n X dX12_rules_84 rfl 1 rfl ?_
    refine gr_sipush (v := 580) X dX12_rules_85 (by decide) ?_
    refine gr_icmp_ge X 116 dX12_rules_88 (by decide) (fun hc_ => ?_) (fun hc_ => ?_)
    · replace hf := ot_t hf hc_
      refine gr_sub [0] rfl ?_
      exact hK116 _ hf
    · replace hf := ot_f hf hc_
      refine gr_aload_n X dX12_rules_91 rfl 0 rfl ?_
      refine gM_get_10 X hK dX12_rules_92 ?_
      refine gr_if_eq X 116 dX12_rules_95 (by decide) (fun hc_ => ?_) (fun hc_ => ?_)
      · replace hf := ot_t hf hc_
        refine gr_sub [0] rfl ?_
        exact hK116 _ hf
      · replace hf := ot_f hf hc_
        refine gr_aload_n X dX12_rules_98 rfl 0 rfl ?_
        refine gM_get_0 X hK dX12_rules_99 ?_
        refine gr_iload_n X dX12_rules_102 rfl 1 rfl ?_
        refine gr_aload_n X dX12_rules_103 rfl 0 rfl ?_
        refine gM_get_12 X hK dX12_rules_104 ?_
        refine gr_iload_n X dX12_rules_107 rfl 1 rfl ?_
        have hi_ := oc_1 hf
        replace hf := oc_2 hf
        refine gM_ald_12 X hK (Int32.toNatClampNeg x1) hi_ rfl dX12_rules_108 ?_
        have hi_ := oc_1 hf
        replace hf := oc_2 hf
        refine gM_ast_0 X hK (Int32.toNatClampNeg x1) hi_ rfl dX12_rules_109 ?_
        refine gM_gen (fun σ11 e_σ11 => ?_)
        replace hf := ot_l hf e_σ11
        refine gr_iinc (k := 1) (v := 1) (L2 := [(1, .int (x1 + (1 : Int32))), (0, .ref h)]) X dX12_rules_110 rfl (by decide) (by decide) rfl ?_
        refine gr_goto X 84 dX12_rules_113 (by decide) ?_
        refine gr_sub [1, 0] rfl ?_
        exact ih _ _ hf
set_option maxHeartbeats 4000000 in
set_option maxRecDepth 100000 in
theorem wm_rules_b116 {p : Program} {l : Launch} {e : Env} {s : State} {m : MethodId} {args : Array Value} {below : List Frame} {meth : Method} {c : Code} {A : Nat → Prop} {D : va_G} {cA : ClassId} {h : Nat} {ad : Nat → Nat} {r : Int32} {τ : SM} (X : hc p s m args meth c RX12 cX12_rules 2 (some .int)) (hK : kM D cA A s) (hA : ∀ q, s.heap.size ≤ q → A q)   (σ : SM) (hf : fm_rules_b116 σ = some (r, τ)) : gg p l e rm_rules s m args below meth c (wM h ad cA) D vwCl A 2 (QI below args s (wM h ad cA) D vwCl A r τ) 116 [(0, .ref h)] [] σ := by
  unfold fm_rules_b116 at hf
  refine gr_aload_n X dX12_rules_116 rfl 0 rfl ?_
  refine gM_get_10 X hK dX12_rules_117 ?_
  refine gr_if_eq X 133 dX12_rules_120 (by decide) (fun hc_ => ?_) (fun hc_ => ?_)
  · replace hf := ot_t hf hc_
    refine gr_aload_n X dX12_rules_133 rfl 0 rfl ?_
    refine gM_get_0 X hK dX12_rules_134 ?_
    refine gr_iconst (v := 5) X dX12_rules_137 (by decide) ?_
    refine gM_ald_0 X hK 5 (by decide) (by decide) dX12_rules_138 ?_
    exact gr_iret X dX12_rules_139 (Prod.mk.inj (Option.some.inj hf)).1 (Prod.mk.inj (Option.some.inj hf)).2
  · replace hf := ot_f hf hc_
    refine gr_bipush (v := -100) X dX12_rules_123 (by decide) ?_
    refine gr_aload_n X dX12_rules_125 rfl 0 rfl ?_
    refine gM_get_7 X hK dX12_rules_126 ?_
    refine gr_isub X dX12_rules_129 ?_
    refine gr_goto X 139 dX12_rules_130 (by decide) ?_
    exact gr_iret X dX12_rules_139 (Prod.mk.inj (Option.some.inj hf)).1 (Prod.mk.inj (Option.some.inj hf)).2
set_option maxHeartbeats 4000000 in
set_option maxRecDepth 100000 in
theorem wm_rules_b77 {p : Program} {l : Launch} {e : Env} {s : State} {m : MethodId} {args : Array Value} {below : List Frame} {meth : Method} {c : Code} {A : Nat → Prop} {D : va_G} {cA : ClassId} {h : Nat} {ad : Nat → Nat} {r : Int32} {τ : SM} (X : hc p s m args meth c RX12 cX12_rules 2 (some .int)) (hK : kM D cA A s) (hA : ∀ q, s.heap.size ≤ q → A q)   (σ : SM) (hf : fm_rules_b77 σ = some (r, τ)) : gg p l e rm_rules s m args below meth c (wM h ad cA) D vwCl A 2 (QI below args s (wM h ad cA) D vwCl A r τ) 77 [(0, .ref h)] [] σ := by
  unfold fm_rules_b77 at hf
  refine gr_aload_n X dX12_rules_77 rfl 0 rfl ?_
  refine gr_iconst (v := 0) X dX12_rules_78 (by decide) ?_
  refine gM_put_5 X hK dX12_rules_79 ?_
  refine gM_gen (fun σ10 e_σ10 => ?_)
  replace hf := ot_l hf e_σ10
  refine gr_iconst (v := 0) X dX12_rules_82 (by decide) ?_
  refine gr_istore_n (L2 := [(1, .int (0 : Int32)), (0, .ref h)]) X dX12_rules_83 rfl (by decide) rfl ?_
  refine gr_sub [1, 0] rfl ?_
  refine wm_rules_l84 X hK hA (fun σ hf => ?_) hFU _ _ hf
  refine gr_sub [0] rfl ?_
  exact wm_rules_b116 X hK hA _ hf
set_option maxHeartbeats 4000000 in
set_option maxRecDepth 100000 in
theorem xm_rules {l : Launch} {D : va_G} {cA : ClassId} {h : Nat} {ad : Nat → Nat} {σ : SM} {r : Int32} {τ : SM} (hf : fm_rules σ = some (r, τ)) : ctI l (wM h ad cA) D vwCl (kM D cA) yX12_rules cX12_rules 2 .int rm_rules [.ref h] σ r τ := by
  refine ct_I RX12 (by decide +kernel) rfl (Nat.le_of_ble_eq_true rfl) ?_
  intro p e s m args below meth c A X hK hA
  refine gr_eqL (L2 := [(0, .ref h)]) rfl ?_
  unfold fm_rules at hf
  refine gr_iconst (v := 0) X dX12_rules_0 (by decide) ?_
  refine gr_istore_n (L2 := [(1, .int (0 : Int32)), (0, .ref h)]) X dX12_rules_1 rfl (by decide) rfl ?_
  refine gr_sub [1, 0] rfl ?_
  refine wm_rules_l2 X hK hA (fun σ hf => ?_) hFU _ _ hf
  refine gr_aload_n X dX12_rules_27 rfl 0 rfl ?_
  refine gM_get_0 X hK dX12_rules_28 ?_
  refine gr_iconst (v := 5) X dX12_rules_31 (by decide) ?_
  refine gr_iconst (v := 0) X dX12_rules_32 (by decide) ?_
  refine gM_ast_0 X hK 5 (by decide) (by decide) dX12_rules_33 ?_
  refine gM_gen (fun σ2 e_σ2 => ?_)
  replace hf := ot_l hf e_σ2
  refine gr_aload_n X dX12_rules_34 rfl 0 rfl ?_
  refine gM_get_0 X hK dX12_rules_35 ?_
  refine gr_bipush (v := 7) X dX12_rules_38 (by decide) ?_
  refine gr_iconst (v := 0) X dX12_rules_40 (by decide) ?_
  refine gM_ast_0 X hK 7 (by decide) (by decide) dX12_rules_41 ?_
  refine gM_gen (fun σ3 e_σ3 => ?_)
  replace hf := ot_l hf e_σ3
  refine gr_aload_n X dX12_rules_42 rfl 0 rfl ?_
  refine gr_iconst (v := 0) X dX12_rules_43 (by decide) ?_
  refine gM_put_8 X hK dX12_rules_44 ?_
  refine gM_gen (fun σ4 e_σ4 => ?_)
  replace hf := ot_l hf e_σ4
  refine gr_aload_n X dX12_rules_47 rfl 0 rfl ?_
  refine gr_iconst (v := 0) X dX12_rules_48 (by decide) ?_
  refine gM_put_10 X hK (by decide) dX12_rules_49 ?_
  refine gM_gen (fun σ5 e_σ5 => ?_)
  replace hf := ot_l hf e_σ5
  refine gr_aload_n X dX12_rules_52 rfl 0 rfl ?_
  obtain ⟨σ7, hq_, hf⟩ := ot_b hf
  refine gc_Vv (rest := []) X kM_ok hK hA cw12_nextToken (rvM hK) (xm_nextToken hq_) rfl ⟨rfl, rfl, Nat.le_of_ble_eq_true rfl, Nat.le_of_ble_eq_true rfl⟩ rfl (Nat.le_of_ble_eq_true rfl) dX12_rules_53 ?_
  refine gr_sub [0] rfl ?_
  refine wm_rules_l56 X hK hA (fun σ hf => ?_) hFU _ hf
  refine gr_sub [0] rfl ?_
  exact wm_rules_b77 X hK hA _ hf
abbrev rm_told : Room := { frames := 1, cells := 0, slots := 0, locals := 21 }
def fm_told (x0 : Int32) (x1 : Int32) : Option Int32 := (hl (x1 / (4 : Int32)) fun v1 => (if (hrem x1 (4 : Int32)) = 0 then (Option.bind (fm_within (x0 + v1)) fun q2 => (some q2)) else (if (hrem x1 (4 : Int32)) = 1 then (Option.bind (fm_within (x0 - v1)) fun q3 => (some q3)) else (if (hrem x1 (4 : Int32)) = 2 then (if x0 ≤ (5 : Int32) then (Option.bind (fm_least (5 : Int32) (x0 + v1)) fun q4 => (some q4)) else (Option.bind (fm_greatest (5 : Int32) (x0 - v1)) fun q5 => (some q5))) else (some x0)))))
set_option maxHeartbeats 4000000 in
set_option maxRecDepth 100000 in
theorem xm_told {l : Launch} {D : va_G} {cA : ClassId} {h : Nat} {ad : Nat → Nat} {σ : SM} {x0 : Int32} {x1 : Int32} {r : Int32} (hf : fm_told x0 x1 = some r) : ctI l (wM h ad cA) D vwCl (kM D cA) yX12_told cX12_told 3 .int rm_told [.int x0, .int x1] σ r σ := by
  refine ct_I RX12 (by decide +kernel) rfl (Nat.le_of_ble_eq_true rfl) ?_
  intro p e s m args below meth c A X hK hA
  refine gr_eqL (L2 := [(0, .int x0), (1, .int x1)]) rfl ?_
  unfold fm_told at hf
  refine gr_iload_n X dX12_told_0 rfl 1 rfl ?_
  refine gr_iconst (v := 4) X dX12_told_1 (by decide) ?_
  refine gr_idiv X dX12_told_2 (by decide) ?_
  refine gM_top (fun v1 e_v1 => ?_)
  replace hf := ot_l hf e_v1
  refine gr_istore_n (L2 := [(2, .int v1), (0, .int x0), (1, .int x1)]) X dX12_told_3 rfl (by decide) rfl ?_
  refine gr_iload_n X dX12_told_4 rfl 2 rfl ?_
  refine gr_iconst (v := 4) X dX12_told_5 (by decide) ?_
  refine gr_irem X dX12_told_6 (by decide) ?_
  by_cases hs0 : (hrem x1 (4 : Int32)) = 0
  · replace hf := ot_t hf hs0
    refine gr_tin X (0) 32 dX12_told_7 (by rw [hs0]; decide) (by decide) (by decide) rfl (by decide) ?_
    refine gr_iload_n X dX12_told_32 rfl 1 rfl ?_
    refine gr_iload_n X dX12_told_33 rfl 0 rfl ?_
    refine gr_iadd X dX12_told_34 ?_
    obtain ⟨q2, hq_, hf⟩ := ot_b hf
    refine gc_Si (rest := []) X kM_ok hK hA cw12_within (xm_within hq_) rfl ⟨rfl, rfl, Nat.le_of_ble_eq_true rfl, Nat.le_of_ble_eq_true rfl⟩ rfl (Nat.le_of_ble_eq_true rfl) dX12_told_35 ?_
    exact gr_iret X dX12_told_38 (Option.some.inj hf) rfl
  replace hf := ot_f hf hs0
  by_cases hs1 : (hrem x1 (4 : Int32)) = 1
  · replace hf := ot_t hf hs1
    refine gr_tin X (1) 39 dX12_told_7 (by rw [hs1]; decide) (by decide) (by decide) rfl (by decide) ?_
    refine gr_iload_n X dX12_told_39 rfl 1 rfl ?_
    refine gr_iload_n X dX12_told_40 rfl 0 rfl ?_
    refine gr_isub X dX12_told_41 ?_
    obtain ⟨q3, hq_, hf⟩ := ot_b hf
    refine gc_Si (rest := []) X kM_ok hK hA cw12_within (xm_within hq_) rfl ⟨rfl, rfl, Nat.le_of_ble_eq_true rfl, Nat.le_of_ble_eq_true rfl⟩ rfl (Nat.le_of_ble_eq_true rfl) dX12_told_42 ?_
    exact gr_iret X dX12_told_45 (Option.some.inj hf) rfl
  replace hf := ot_f hf hs1
  by_cases hs2 : (hrem x1 (4 : Int32)) = 2
  · replace hf := ot_t hf hs2
    refine gr_tin X (2) 46 dX12_told_7 (by rw [hs2]; decide) (by decide) (by decide) rfl (by decide) ?_
    refine gr_iload_n X dX12_told_46 rfl 1 rfl ?_
    refine gr_iconst (v := 5) X dX12_told_47 (by decide) ?_
    refine gr_icmp_le X 61 dX12_told_48 (by decide) (fun hc_ => ?_) (fun hc_ => ?_)
    · replace hf := ot_t hf hc_
      refine gr_iconst (v := 5) X dX12_told_61 (by decide) ?_
      refine gr_iload_n X dX12_told_62 rfl 1 rfl ?_
      refine gr_iload_n X dX12_told_63 rfl 0 rfl ?_
      refine gr_iadd X dX12_told_64 ?_
      obtain ⟨q4, hq_, hf⟩ := ot_b hf
      refine gc_Si (rest := []) X kM_ok hK hA cw12_least (xm_least hq_) rfl ⟨rfl, rfl, Nat.le_of_ble_eq_true rfl, Nat.le_of_ble_eq_true rfl⟩ rfl (Nat.le_of_ble_eq_true rfl) dX12_told_65 ?_
      exact gr_iret X dX12_told_68 (Option.some.inj hf) rfl
    · replace hf := ot_f hf hc_
      refine gr_iconst (v := 5) X dX12_told_51 (by decide) ?_
      refine gr_iload_n X dX12_told_52 rfl 1 rfl ?_
      refine gr_iload_n X dX12_told_53 rfl 0 rfl ?_
      refine gr_isub X dX12_told_54 ?_
      obtain ⟨q5, hq_, hf⟩ := ot_b hf
      refine gc_Si (rest := []) X kM_ok hK hA cw12_greatest (xm_greatest hq_) rfl ⟨rfl, rfl, Nat.le_of_ble_eq_true rfl, Nat.le_of_ble_eq_true rfl⟩ rfl (Nat.le_of_ble_eq_true rfl) dX12_told_55 ?_
      refine gr_goto X 68 dX12_told_58 (by decide) ?_
      exact gr_iret X dX12_told_68 (Option.some.inj hf) rfl
  replace hf := ot_f hf hs2
  refine gr_tout X 69 dX12_told_7 (by have := lv_neT hs0 (show (0 : Int32).toInt = 0 by decide); have := lv_neT hs1 (show (1 : Int32).toInt = 1 by decide); have := lv_neT hs2 (show (2 : Int32).toInt = 2 by decide); omega) (by decide) ?_
  refine gr_iload_n X dX12_told_69 rfl 1 rfl ?_
  exact gr_iret X dX12_told_70 (Option.some.inj hf) rfl
abbrev rm_calls : Room := { frames := 6, cells := 0, slots := 0, locals := 137 }
def fm_calls (x1 : Int32) (σ : SM) : Option (Int32 × SM) := (Option.bind (fm_will σ x1) fun q1 => (if ¬ q1 = (1 : Int32) then (oc (hin (((10 : Int32) + ((6 : Int32) * x1)) + (4 : Int32)) 580) (hl (sf σ 0 (upd (σ 0) (Int32.toNatClampNeg (((10 : Int32) + ((6 : Int32) * x1)) + (4 : Int32))) (0 : Int32))) fun σ2 => (if ¬ q1 = (2 : Int32) then (Option.bind (fm_cheers σ2 x1) fun q3 => (Option.bind (fm_within ((σ2 0 8) + q3)) fun q4 => (hl (sf σ2 0 (upd (σ2 0) 8 q4)) fun σ5 => (Option.bind (fm_isInTime σ5 x1) fun q6 => (if ¬ q6 = 0 then (oc (hin (((10 : Int32) + ((6 : Int32) * x1)) + (5 : Int32)) 580) (hl (sf σ5 0 (upd (σ5 0) (Int32.toNatClampNeg (((10 : Int32) + ((6 : Int32) * x1)) + (5 : Int32))) (1 : Int32))) fun σ7 => (Option.bind (fm_pays σ7 x1) fun q8 => (Option.bind (fm_late σ7 x1) fun q9 => (Option.bind (fm_greatest (0 : Int32) ((9 : Int32) - q9)) fun q10 => (some ((q8 + q10), σ7))))))) else (some ((0 : Int32), σ5))))))) else (some ((1 : Int32), σ2))))) else (some ((0 : Int32), σ))))
set_option maxHeartbeats 4000000 in
set_option maxRecDepth 100000 in
theorem xm_calls {l : Launch} {D : va_G} {cA : ClassId} {h : Nat} {ad : Nat → Nat} {σ : SM} {x1 : Int32} {r : Int32} {τ : SM} (hf : fm_calls x1 σ = some (r, τ)) : ctI l (wM h ad cA) D vwCl (kM D cA) yX12_calls cX12_calls 3 .int rm_calls [.ref h, .int x1] σ r τ := by
  refine ct_I RX12 (by decide +kernel) rfl (Nat.le_of_ble_eq_true rfl) ?_
  intro p e s m args below meth c A X hK hA
  refine gr_eqL (L2 := [(0, .ref h), (1, .int x1)]) rfl ?_
  unfold fm_calls at hf
  refine gr_aload_n X dX12_calls_0 rfl 0 rfl ?_
  refine gr_iload_n X dX12_calls_1 rfl 1 rfl ?_
  obtain ⟨q1, hq_, hf⟩ := ot_b hf
  refine gc_Vi (rest := []) X kM_ok hK hA cw12_will (rvM hK) (xm_will hq_) rfl ⟨rfl, rfl, Nat.le_of_ble_eq_true rfl, Nat.le_of_ble_eq_true rfl⟩ rfl (Nat.le_of_ble_eq_true rfl) dX12_calls_2 ?_
  refine gr_istore_n (L2 := [(2, .int q1), (0, .ref h), (1, .int x1)]) X dX12_calls_5 rfl (by decide) rfl ?_
  refine gr_iload_n X dX12_calls_6 rfl 0 rfl ?_
  refine gr_iconst (v := 1) X dX12_calls_7 (by decide) ?_
  refine gr_icmp_ne X 13 dX12_calls_8 (by decide) (fun hc_ => ?_) (fun hc_ => ?_)
  · replace hf := ot_t hf hc_
    refine gr_aload_n X dX12_calls_13 rfl 1 rfl ?_
    refine gM_get_0 X hK dX12_calls_14 ?_
    refine gr_bipush (v := 10) X dX12_calls_17 (by decide) ?_
    refine gr_bipush (v := 6) X dX12_calls_19 (by decide) ?_
    refine gr_iload_n X dX12_calls_21 rfl 2 rfl ?_
    refine gr_imul X dX12_calls_22 ?_
    refine gr_iadd X dX12_calls_23 ?_
    refine gr_iconst (v := 4) X dX12_calls_24 (by decide) ?_
    refine gr_iadd X dX12_calls_25 ?_
    refine gr_iconst (v := 0) X dX12_calls_26 (by decide) ?_
    have hi_ := oc_1 hf
    replace hf := oc_2 hf
    refine gM_ast_0 X hK (Int32.toNatClampNeg (((10 : Int32) + ((6 : Int32) * x1)) + (4 : Int32))) hi_ rfl dX12_calls_27 ?_
    refine gM_gen (fun σ2 e_σ2 => ?_)
    replace hf := ot_l hf e_σ2
    refine gr_iload_n X dX12_calls_28 rfl 0 rfl ?_
    refine gr_iconst (v := 2) X dX12_calls_29 (by decide) ?_
    refine gr_icmp_ne X 35 dX12_calls_30 (by decide) (fun hc_ => ?_) (fun hc_ => ?_)
    · replace hf := ot_t hf hc_
      refine gr_aload_n X dX12_calls_35 rfl 1 rfl ?_
      refine gM_get_0 X hK dX12_calls_36 ?_
      refine gr_bipush (v := 8) X dX12_calls_39 (by decide) ?_
      refine gr_aload_n X dX12_calls_41 rfl 1 rfl ?_
      refine gM_get_0 X hK dX12_calls_42 ?_
      refine gr_bipush (v := 8) X dX12_calls_45 (by decide) ?_
      refine gM_ald_0 X hK 8 (by decide) (by decide) dX12_calls_47 ?_
      refine gr_aload_n X dX12_calls_48 rfl 1 rfl ?_
      refine gr_iload_n X dX12_calls_49 rfl 2 rfl ?_
      obtain ⟨q3, hq_, hf⟩ := ot_b hf
      refine gc_Vi (rest := [.int (σ2 0 8), .int (8 : Int32), .ref (ad 0)]) X kM_ok hK hA cw12_cheers (rvM hK) (xm_cheers hq_) rfl ⟨rfl, rfl, Nat.le_of_ble_eq_true rfl, Nat.le_of_ble_eq_true rfl⟩ rfl (Nat.le_of_ble_eq_true rfl) dX12_calls_50 ?_
      refine gr_iadd X dX12_calls_53 ?_
      obtain ⟨q4, hq_, hf⟩ := ot_b hf
      refine gc_Si (rest := [.int (8 : Int32), .ref (ad 0)]) X kM_ok hK hA cw12_within (xm_within hq_) rfl ⟨rfl, rfl, Nat.le_of_ble_eq_true rfl, Nat.le_of_ble_eq_true rfl⟩ rfl (Nat.le_of_ble_eq_true rfl) dX12_calls_54 ?_
      refine gM_ast_0 X hK 8 (by decide) (by decide) dX12_calls_57 ?_
      refine gM_gen (fun σ5 e_σ5 => ?_)
      replace hf := ot_l hf e_σ5
      refine gr_aload_n X dX12_calls_58 rfl 1 rfl ?_
      refine gr_iload_n X dX12_calls_59 rfl 2 rfl ?_
      obtain ⟨q6, hq_, hf⟩ := ot_b hf
      refine gc_Vi (rest := []) X kM_ok hK hA cw12_isInTime (rvM hK) (xm_isInTime hq_) rfl ⟨rfl, rfl, Nat.le_of_ble_eq_true rfl, Nat.le_of_ble_eq_true rfl⟩ rfl (Nat.le_of_ble_eq_true rfl) dX12_calls_60 ?_
      refine gr_if_ne X 68 dX12_calls_63 (by decide) (fun hc_ => ?_) (fun hc_ => ?_)
      · replace hf := ot_t hf hc_
        refine gr_aload_n X dX12_calls_68 rfl 1 rfl ?_
        refine gM_get_0 X hK dX12_calls_69 ?_
        refine gr_bipush (v := 10) X dX12_calls_72 (by decide) ?_
        refine gr_bipush (v := 6) X dX12_calls_74 (by decide) ?_
        refine gr_iload_n X dX12_calls_76 rfl 2 rfl ?_
        refine gr_imul X dX12_calls_77 ?_
        refine gr_iadd X dX12_calls_78 ?_
        refine gr_iconst (v := 5) X dX12_calls_79 (by decide) ?_
        refine gr_iadd X dX12_calls_80 ?_
        refine gr_iconst (v := 1) X dX12_calls_81 (by decide) ?_
        have hi_ := oc_1 hf
        replace hf := oc_2 hf
        refine gM_ast_0 X hK (Int32.toNatClampNeg (((10 : Int32) + ((6 : Int32) * x1)) + (5 : Int32))) hi_ rfl dX12_calls_82 ?_
        refine gM_gen (fun σ7 e_σ7 => ?_)
        replace hf := ot_l hf e_σ7
        refine gr_aload_n X dX12_calls_83 rfl 1 rfl ?_
        refine gr_iload_n X dX12_calls_84 rfl 2 rfl ?_
        obtain ⟨q8, hq_, hf⟩ := ot_b hf
        refine gc_Vi (rest := []) X kM_ok hK hA cw12_pays (rvM hK) (xm_pays hq_) rfl ⟨rfl, rfl, Nat.le_of_ble_eq_true rfl, Nat.le_of_ble_eq_true rfl⟩ rfl (Nat.le_of_ble_eq_true rfl) dX12_calls_85 ?_
        refine gr_iconst (v := 0) X dX12_calls_88 (by decide) ?_
        refine gr_bipush (v := 9) X dX12_calls_89 (by decide) ?_
        refine gr_aload_n X dX12_calls_91 rfl 1 rfl ?_
        refine gr_iload_n X dX12_calls_92 rfl 2 rfl ?_
        obtain ⟨q9, hq_, hf⟩ := ot_b hf
        refine gc_Vi (rest := [.int (9 : Int32), .int (0 : Int32), .int q8]) X kM_ok hK hA cw12_late (rvM hK) (xm_late hq_) rfl ⟨rfl, rfl, Nat.le_of_ble_eq_true rfl, Nat.le_of_ble_eq_true rfl⟩ rfl (Nat.le_of_ble_eq_true rfl) dX12_calls_93 ?_
        refine gr_isub X dX12_calls_96 ?_
        obtain ⟨q10, hq_, hf⟩ := ot_b hf
        refine gc_Si (rest := [.int q8]) X kM_ok hK hA cw12_greatest (xm_greatest hq_) rfl ⟨rfl, rfl, Nat.le_of_ble_eq_true rfl, Nat.le_of_ble_eq_true rfl⟩ rfl (Nat.le_of_ble_eq_true rfl) dX12_calls_97 ?_
        refine gr_iadd X dX12_calls_100 ?_
        exact gr_iret X dX12_calls_101 (Prod.mk.inj (Option.some.inj hf)).1 (Prod.mk.inj (Option.some.inj hf)).2
      · replace hf := ot_f hf hc_
        refine gr_iconst (v := 0) X dX12_calls_66 (by decide) ?_
        exact gr_iret X dX12_calls_67 (Prod.mk.inj (Option.some.inj hf)).1 (Prod.mk.inj (Option.some.inj hf)).2
    · replace hf := ot_f hf hc_
      refine gr_iconst (v := 1) X dX12_calls_33 (by decide) ?_
      exact gr_iret X dX12_calls_34 (Prod.mk.inj (Option.some.inj hf)).1 (Prod.mk.inj (Option.some.inj hf)).2
  · replace hf := ot_f hf hc_
    refine gr_iconst (v := 0) X dX12_calls_11 (by decide) ?_
    exact gr_iret X dX12_calls_12 (Prod.mk.inj (Option.some.inj hf)).1 (Prod.mk.inj (Option.some.inj hf)).2
abbrev rm_goesWith : Room := { frames := 7, cells := 0, slots := 0, locals := 159 }
def fm_goesWith_b58 (y0 : Int32) (σ : SM) : Option (Int32 × SM) := (Option.bind (fm_least (99 : Int32) (((σ 0 9) + (6 : Int32)) - ((σ 0 8) / (2 : Int32)))) fun q4 => (hl (sf σ 0 (upd (σ 0) 9 q4)) fun σ5 => (hl (sf σ5 0 (upd (σ5 0) 1 ((σ5 0 1) + (1 : Int32)))) fun σ6 => (hl (sf σ6 0 (upd (σ6 0) 3 ((σ6 0 3) + y0))) fun σ7 => (some (y0, σ7))))))
def fm_goesWith_b57 (σ : SM) : Option (Int32 × SM) := (fm_goesWith_b58 (0 : Int32) σ)
def fm_goesWith (x1 : Int32) (σ : SM) : Option (Int32 × SM) := (hl (x1 - (1 : Int32)) fun v1 => (oc (hin ((58 : Int32) + (σ 0 1)) 580) (Option.bind (fm_told (σ 0 8) (σ 0 (Int32.toNatClampNeg ((58 : Int32) + (σ 0 1))))) fun q2 => (hl (sf σ 0 (upd (σ 0) 8 q2)) fun σ3 => (if v1 < 0 then (fm_goesWith_b57 σ3) else (Option.bind (fm_its σ3 v1 (4 : Int32)) fun q8 => (if ¬ q8 = (1 : Int32) then (fm_goesWith_b57 σ3) else (Option.bind (fm_calls v1 σ3) fun p_ => hl p_.1 fun q9 => hl p_.2 fun σ10 => (fm_goesWith_b58 q9 σ10)))))))))
set_option maxHeartbeats 4000000 in
set_option maxRecDepth 100000 in
theorem wm_goesWith_b58 {p : Program} {l : Launch} {e : Env} {s : State} {m : MethodId} {args : Array Value} {below : List Frame} {meth : Method} {c : Code} {A : Nat → Prop} {D : va_G} {cA : ClassId} {h : Nat} {ad : Nat → Nat} {r : Int32} {τ : SM} (X : hc p s m args meth c RX12 cX12_goesWith 4 (some .int)) (hK : kM D cA A s) (hA : ∀ q, s.heap.size ≤ q → A q)   (y0 : Int32) (σ : SM) (hf : fm_goesWith_b58 y0 σ = some (r, τ)) : gg p l e rm_goesWith s m args below meth c (wM h ad cA) D vwCl A 4 (QI below args s (wM h ad cA) D vwCl A r τ) 58 [(0, .ref h)] [.int y0] σ := by
  unfold fm_goesWith_b58 at hf
  refine gr_istore_n (L2 := [(3, .int y0), (0, .ref h)]) X dX12_goesWith_58 rfl (by decide) rfl ?_
  refine gr_aload_n X dX12_goesWith_59 rfl 1 rfl ?_
  refine gM_get_0 X hK dX12_goesWith_60 ?_
  refine gr_bipush (v := 9) X dX12_goesWith_63 (by decide) ?_
  refine gr_bipush (v := 99) X dX12_goesWith_65 (by decide) ?_
  refine gr_aload_n X dX12_goesWith_67 rfl 1 rfl ?_
  refine gM_get_0 X hK dX12_goesWith_68 ?_
  refine gr_bipush (v := 9) X dX12_goesWith_71 (by decide) ?_
  refine gM_ald_0 X hK 9 (by decide) (by decide) dX12_goesWith_73 ?_
  refine gr_bipush (v := 6) X dX12_goesWith_74 (by decide) ?_
  refine gr_iadd X dX12_goesWith_76 ?_
  refine gr_aload_n X dX12_goesWith_77 rfl 1 rfl ?_
  refine gM_get_0 X hK dX12_goesWith_78 ?_
  refine gr_bipush (v := 8) X dX12_goesWith_81 (by decide) ?_
  refine gM_ald_0 X hK 8 (by decide) (by decide) dX12_goesWith_83 ?_
  refine gr_iconst (v := 2) X dX12_goesWith_84 (by decide) ?_
  refine gr_idiv X dX12_goesWith_85 (by decide) ?_
  refine gr_isub X dX12_goesWith_86 ?_
  obtain ⟨q4, hq_, hf⟩ := ot_b hf
  refine gc_Si (rest := [.int (9 : Int32), .ref (ad 0)]) X kM_ok hK hA cw12_least (xm_least hq_) rfl ⟨rfl, rfl, Nat.le_of_ble_eq_true rfl, Nat.le_of_ble_eq_true rfl⟩ rfl (Nat.le_of_ble_eq_true rfl) dX12_goesWith_87 ?_
  refine gM_ast_0 X hK 9 (by decide) (by decide) dX12_goesWith_90 ?_
  refine gM_gen (fun σ5 e_σ5 => ?_)
  replace hf := ot_l hf e_σ5
  refine gr_aload_n X dX12_goesWith_91 rfl 1 rfl ?_
  refine gM_get_0 X hK dX12_goesWith_92 ?_
  refine gr_iconst (v := 1) X dX12_goesWith_95 (by decide) ?_
  refine gr_dup2 X dX12_goesWith_96 rfl rfl ?_
  refine gM_ald_0 X hK 1 (by decide) (by decide) dX12_goesWith_97 ?_
  refine gr_iconst (v := 1) X dX12_goesWith_98 (by decide) ?_
  refine gr_iadd X dX12_goesWith_99 ?_
  refine gM_ast_0 X hK 1 (by decide) (by decide) dX12_goesWith_100 ?_
  refine gM_gen (fun σ6 e_σ6 => ?_)
  replace hf := ot_l hf e_σ6
  refine gr_aload_n X dX12_goesWith_101 rfl 1 rfl ?_
  refine gM_get_0 X hK dX12_goesWith_102 ?_
  refine gr_iconst (v := 3) X dX12_goesWith_105 (by decide) ?_
  refine gr_dup2 X dX12_goesWith_106 rfl rfl ?_
  refine gM_ald_0 X hK 3 (by decide) (by decide) dX12_goesWith_107 ?_
  refine gr_iload_n X dX12_goesWith_108 rfl 0 rfl ?_
  refine gr_iadd X dX12_goesWith_109 ?_
  refine gM_ast_0 X hK 3 (by decide) (by decide) dX12_goesWith_110 ?_
  refine gM_gen (fun σ7 e_σ7 => ?_)
  replace hf := ot_l hf e_σ7
  refine gr_iload_n X dX12_goesWith_111 rfl 0 rfl ?_
  exact gr_iret X dX12_goesWith_112 (Prod.mk.inj (Option.some.inj hf)).1 (Prod.mk.inj (Option.some.inj hf)).2
set_option maxHeartbeats 4000000 in
set_option maxRecDepth 100000 in
theorem wm_goesWith_b57 {p : Program} {l : Launch} {e : Env} {s : State} {m : MethodId} {args : Array Value} {below : List Frame} {meth : Method} {c : Code} {A : Nat → Prop} {D : va_G} {cA : ClassId} {h : Nat} {ad : Nat → Nat} {r : Int32} {τ : SM} (X : hc p s m args meth c RX12 cX12_goesWith 4 (some .int)) (hK : kM D cA A s) (hA : ∀ q, s.heap.size ≤ q → A q)   (σ : SM) (hf : fm_goesWith_b57 σ = some (r, τ)) : gg p l e rm_goesWith s m args below meth c (wM h ad cA) D vwCl A 4 (QI below args s (wM h ad cA) D vwCl A r τ) 57 [(0, .ref h)] [] σ := by
  unfold fm_goesWith_b57 at hf
  refine gr_iconst (v := 0) X dX12_goesWith_57 (by decide) ?_
  refine gr_sub [0] rfl ?_
  exact wm_goesWith_b58 X hK hA _ _ hf
set_option maxHeartbeats 4000000 in
set_option maxRecDepth 100000 in
theorem xm_goesWith {l : Launch} {D : va_G} {cA : ClassId} {h : Nat} {ad : Nat → Nat} {σ : SM} {x1 : Int32} {r : Int32} {τ : SM} (hf : fm_goesWith x1 σ = some (r, τ)) : ctI l (wM h ad cA) D vwCl (kM D cA) yX12_goesWith cX12_goesWith 4 .int rm_goesWith [.ref h, .int x1] σ r τ := by
  refine ct_I RX12 (by decide +kernel) rfl (Nat.le_of_ble_eq_true rfl) ?_
  intro p e s m args below meth c A X hK hA
  refine gr_eqL (L2 := [(0, .ref h), (1, .int x1)]) rfl ?_
  unfold fm_goesWith at hf
  refine gr_iload_n X dX12_goesWith_0 rfl 1 rfl ?_
  refine gr_iconst (v := 1) X dX12_goesWith_1 (by decide) ?_
  refine gr_isub X dX12_goesWith_2 ?_
  refine gM_top (fun v1 e_v1 => ?_)
  replace hf := ot_l hf e_v1
  refine gr_istore_n (L2 := [(2, .int v1), (0, .ref h), (1, .int x1)]) X dX12_goesWith_3 rfl (by decide) rfl ?_
  refine gr_aload_n X dX12_goesWith_4 rfl 1 rfl ?_
  refine gM_get_0 X hK dX12_goesWith_5 ?_
  refine gr_bipush (v := 8) X dX12_goesWith_8 (by decide) ?_
  refine gr_aload_n X dX12_goesWith_10 rfl 1 rfl ?_
  refine gM_get_0 X hK dX12_goesWith_11 ?_
  refine gr_bipush (v := 8) X dX12_goesWith_14 (by decide) ?_
  refine gM_ald_0 X hK 8 (by decide) (by decide) dX12_goesWith_16 ?_
  refine gr_aload_n X dX12_goesWith_17 rfl 1 rfl ?_
  refine gM_get_0 X hK dX12_goesWith_18 ?_
  refine gr_bipush (v := 58) X dX12_goesWith_21 (by decide) ?_
  refine gr_aload_n X dX12_goesWith_23 rfl 1 rfl ?_
  refine gM_get_0 X hK dX12_goesWith_24 ?_
  refine gr_iconst (v := 1) X dX12_goesWith_27 (by decide) ?_
  refine gM_ald_0 X hK 1 (by decide) (by decide) dX12_goesWith_28 ?_
  refine gr_iadd X dX12_goesWith_29 ?_
  have hi_ := oc_1 hf
  replace hf := oc_2 hf
  refine gM_ald_0 X hK (Int32.toNatClampNeg ((58 : Int32) + (σ 0 1))) hi_ rfl dX12_goesWith_30 ?_
  obtain ⟨q2, hq_, hf⟩ := ot_b hf
  refine gc_Si (rest := [.int (8 : Int32), .ref (ad 0)]) X kM_ok hK hA cw12_told (xm_told hq_) rfl ⟨rfl, rfl, Nat.le_of_ble_eq_true rfl, Nat.le_of_ble_eq_true rfl⟩ rfl (Nat.le_of_ble_eq_true rfl) dX12_goesWith_31 ?_
  refine gM_ast_0 X hK 8 (by decide) (by decide) dX12_goesWith_34 ?_
  refine gM_gen (fun σ3 e_σ3 => ?_)
  replace hf := ot_l hf e_σ3
  refine gr_iload_n X dX12_goesWith_35 rfl 0 rfl ?_
  refine gr_if_lt X 57 dX12_goesWith_36 (by decide) (fun hc_ => ?_) (fun hc_ => ?_)
  · replace hf := ot_t hf hc_
    refine gr_sub [1] rfl ?_
    exact wm_goesWith_b57 X hK hA _ hf
  · replace hf := ot_f hf hc_
    refine gr_aload_n X dX12_goesWith_39 rfl 1 rfl ?_
    refine gr_iload_n X dX12_goesWith_40 rfl 0 rfl ?_
    refine gr_iconst (v := 4) X dX12_goesWith_41 (by decide) ?_
    obtain ⟨q8, hq_, hf⟩ := ot_b hf
    refine gc_Vi (rest := []) X kM_ok hK hA cw12_its (rvM hK) (xm_its hq_) rfl ⟨rfl, rfl, Nat.le_of_ble_eq_true rfl, Nat.le_of_ble_eq_true rfl⟩ rfl (Nat.le_of_ble_eq_true rfl) dX12_goesWith_42 ?_
    refine gr_iconst (v := 1) X dX12_goesWith_45 (by decide) ?_
    refine gr_icmp_ne X 57 dX12_goesWith_46 (by decide) (fun hc_ => ?_) (fun hc_ => ?_)
    · replace hf := ot_t hf hc_
      refine gr_sub [1] rfl ?_
      exact wm_goesWith_b57 X hK hA _ hf
    · replace hf := ot_f hf hc_
      refine gr_aload_n X dX12_goesWith_49 rfl 1 rfl ?_
      refine gr_iload_n X dX12_goesWith_50 rfl 0 rfl ?_
      obtain ⟨⟨q9, σ10⟩, hq_, hf⟩ := ot_b hf
      replace hf := ot_l (y := q9) hf rfl
      replace hf := ot_l (y := σ10) hf rfl
      refine gc_Vi (rest := []) X kM_ok hK hA cw12_calls (rvM hK) (xm_calls hq_) rfl ⟨rfl, rfl, Nat.le_of_ble_eq_true rfl, Nat.le_of_ble_eq_true rfl⟩ rfl (Nat.le_of_ble_eq_true rfl) dX12_goesWith_51 ?_
      refine gr_goto X 58 dX12_goesWith_54 (by decide) ?_
      refine gr_sub [1] rfl ?_
      exact wm_goesWith_b58 X hK hA _ _ hf
abbrev rm_restAct : Room := { frames := 4, cells := 0, slots := 0, locals := 85 }
def fm_restAct_b34 (σ : SM) (K2 : Int32 → Option Int32) (x1 : Int32) : Option Int32 := (K2 (x1 + (1 : Int32)))
def fm_restAct_l2 (σ : SM) : Nat → Int32 → Option Int32
  | 0, _ => none
  | n + 1, x1 => (if (σ 0 0) ≤ x1 then (some (0 : Int32)) else (Option.bind (fm_its σ x1 (4 : Int32)) fun q1 => (if ¬ q1 = (1 : Int32) then (fm_restAct_b34 σ (fm_restAct_l2 σ n) x1) else (Option.bind (fm_isInTime σ x1) fun q2 => (if q2 = 0 then (fm_restAct_b34 σ (fm_restAct_l2 σ n) x1) else (some (x1 + (1 : Int32))))))))
def fm_restAct (σ : SM) : Option Int32 := (fm_restAct_l2 σ hFU (0 : Int32))
set_option maxHeartbeats 4000000 in
set_option maxRecDepth 100000 in
theorem wm_restAct_b34 {p : Program} {l : Launch} {e : Env} {s : State} {m : MethodId} {args : Array Value} {below : List Frame} {meth : Method} {c : Code} {A : Nat → Prop} {D : va_G} {cA : ClassId} {h : Nat} {ad : Nat → Nat} {r : Int32} {σ : SM} {K2 : Int32 → Option Int32} (X : hc p s m args meth c RX12 cX12_restAct 2 (some .int)) (hK : kM D cA A s) (hA : ∀ q, s.heap.size ≤ q → A q) (hK2 : (∀ (x1 : Int32), K2 x1 = some r → gg p l e rm_restAct s m args below meth c (wM h ad cA) D vwCl A 2 (QI below args s (wM h ad cA) D vwCl A r σ) 2 [(0, .ref h), (1, .int x1)] [] σ))  (x1 : Int32) (hf : fm_restAct_b34 σ K2 x1 = some r) : gg p l e rm_restAct s m args below meth c (wM h ad cA) D vwCl A 2 (QI below args s (wM h ad cA) D vwCl A r σ) 34 [(0, .ref h), (1, .int x1)] [] σ := by
  unfold fm_restAct_b34 at hf
  refine gr_iinc (k := 1) (v := 1) (L2 := [(1, .int (x1 + (1 : Int32))), (0, .ref h)]) X dX12_restAct_34 rfl (by decide) (by decide) rfl ?_
  refine gr_goto X 2 dX12_restAct_37 (by decide) ?_
  refine gr_sub [1, 0] rfl ?_
  exact hK2 _ hf
set_option maxHeartbeats 4000000 in
set_option maxRecDepth 100000 in
theorem wm_restAct_l2 {p : Program} {l : Launch} {e : Env} {s : State} {m : MethodId} {args : Array Value} {below : List Frame} {meth : Method} {c : Code} {A : Nat → Prop} {D : va_G} {cA : ClassId} {h : Nat} {ad : Nat → Nat} {r : Int32} {σ : SM} (X : hc p s m args meth c RX12 cX12_restAct 2 (some .int)) (hK : kM D cA A s) (hA : ∀ q, s.heap.size ≤ q → A q)  : ∀ (n : Nat) (x1 : Int32), fm_restAct_l2 σ n x1 = some r → gg p l e rm_restAct s m args below meth c (wM h ad cA) D vwCl A 2 (QI below args s (wM h ad cA) D vwCl A r σ) 2 [(0, .ref h), (1, .int x1)] [] σ := by
  intro n
  induction n with
  | zero =>
    intro x1 hf
    cases (show (none : Option Int32) = some r from hf)
  | succ n ih =>
    intro x1 hf
    unfold fm_restAct_l2 at hf
    refine gr_iload_n X dX12_restAct_2 rfl 1 rfl ?_
    refine gr_aload_n X dX12_restAct_3 rfl 0 rfl ?_
    refine gM_get_0 X hK dX12_restAct_4 ?_
    refine gr_iconst (v := 0) X dX12_restAct_7 (by decide) ?_
    refine gM_ald_0 X hK 0 (by decide) (by decide) dX12_restAct_8 ?_
    refine gr_icmp_ge X 40 dX12_restAct_9 (by decide) (fun hc_ => ?_) (fun hc_ => ?_)
    · replace hf := ot_t hf hc_
      refine gr_iconst (v := 0) X dX12_restAct_40 (by decide) ?_
      exact gr_iret X dX12_restAct_41 (Option.some.inj hf) rfl
    · replace hf := ot_f hf hc_
      refine gr_aload_n X dX12_restAct_12 rfl 0 rfl ?_
      refine gr_iload_n X dX12_restAct_13 rfl 1 rfl ?_
      refine gr_iconst (v := 4) X dX12_restAct_14 (by decide) ?_
      obtain ⟨q1, hq_, hf⟩ := ot_b hf
      refine gc_Vi (rest := []) X kM_ok hK hA cw12_its (rvM hK) (xm_its hq_) rfl ⟨rfl, rfl, Nat.le_of_ble_eq_true rfl, Nat.le_of_ble_eq_true rfl⟩ rfl (Nat.le_of_ble_eq_true rfl) dX12_restAct_15 ?_
      refine gr_iconst (v := 1) X dX12_restAct_18 (by decide) ?_
      refine gr_icmp_ne X 34 dX12_restAct_19 (by decide) (fun hc_ => ?_) (fun hc_ => ?_)
      · replace hf := ot_t hf hc_
        refine gr_sub [0, 1] rfl ?_
        exact wm_restAct_b34 X hK hA ih _ hf
      · replace hf := ot_f hf hc_
        refine gr_aload_n X dX12_restAct_22 rfl 0 rfl ?_
        refine gr_iload_n X dX12_restAct_23 rfl 1 rfl ?_
        obtain ⟨q2, hq_, hf⟩ := ot_b hf
        refine gc_Vi (rest := []) X kM_ok hK hA cw12_isInTime (rvM hK) (xm_isInTime hq_) rfl ⟨rfl, rfl, Nat.le_of_ble_eq_true rfl, Nat.le_of_ble_eq_true rfl⟩ rfl (Nat.le_of_ble_eq_true rfl) dX12_restAct_24 ?_
        refine gr_if_eq X 34 dX12_restAct_27 (by decide) (fun hc_ => ?_) (fun hc_ => ?_)
        · replace hf := ot_t hf hc_
          refine gr_sub [0, 1] rfl ?_
          exact wm_restAct_b34 X hK hA ih _ hf
        · replace hf := ot_f hf hc_
          refine gr_iload_n X dX12_restAct_30 rfl 1 rfl ?_
          refine gr_iconst (v := 1) X dX12_restAct_31 (by decide) ?_
          refine gr_iadd X dX12_restAct_32 ?_
          exact gr_iret X dX12_restAct_33 (Option.some.inj hf) rfl
set_option maxHeartbeats 4000000 in
set_option maxRecDepth 100000 in
theorem xm_restAct {l : Launch} {D : va_G} {cA : ClassId} {h : Nat} {ad : Nat → Nat} {σ : SM} {r : Int32} (hf : fm_restAct σ = some r) : ctI l (wM h ad cA) D vwCl (kM D cA) yX12_restAct cX12_restAct 2 .int rm_restAct [.ref h] σ r σ := by
  refine ct_I RX12 (by decide +kernel) rfl (Nat.le_of_ble_eq_true rfl) ?_
  intro p e s m args below meth c A X hK hA
  refine gr_eqL (L2 := [(0, .ref h)]) rfl ?_
  unfold fm_restAct at hf
  refine gr_iconst (v := 0) X dX12_restAct_0 (by decide) ?_
  refine gr_istore_n (L2 := [(1, .int (0 : Int32)), (0, .ref h)]) X dX12_restAct_1 rfl (by decide) rfl ?_
  refine gr_sub [1, 0] rfl ?_
  refine wm_restAct_l2 X hK hA  hFU _ hf
