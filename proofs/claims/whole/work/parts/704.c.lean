def ro_rd_readInner (rq : Room) : Room := { frames := rq.frames + 2, cells := 0, slots := 0, locals := rq.locals + 44 }
def fc_rd_readInner (Rc : Int32 → SC → Option (Int32 × SC)) (x1 : Int32) (τ : SC) : Option (Int32 × SC) := (if x1 < (3 : Int32) then (Option.bind (fc_rd_advance τ) fun τ2 => (Option.bind (Rc (x1 + (1 : Int32)) τ2) fun p_ => hl p_.1 fun q3 => hl p_.2 fun τ4 => (if q3 = 0 then (some ((0 : Int32), τ4)) else (if (τ4.1 307 0) = (141 : Int32) then (Option.bind (fc_rd_advance τ4) fun τ6 => (some ((1 : Int32), τ6))) else (some ((0 : Int32), τ4)))))) else (some ((0 : Int32), τ)))
set_option maxHeartbeats 4000000 in
set_option maxRecDepth 100000 in
theorem xc_rd_readInner {l : Launch} {D : va_G} {cs : Nat → ClassId} {sK sV : Nat → Nat} {tA : Nat} {ad : Nat → Nat} {τ : SC} {x1 : Int32} {r : Int32} {υ : SC} {rq : Room} {Rc : Int32 → SC → Option (Int32 × SC)} (hq0 : rq.cells = 0 ∧ rq.slots = 0) (hRc : ∀ (τ : SC) (x1 : Int32) (r : Int32) (υ : SC), Rc x1 τ = some (r, υ) → ctI l (wC ad cs) D vwCl (kC D cs sK sV tA) yX7_readCondition cX7_readCondition 4 .boolean rq [.ref (ad 330), .int x1] τ r υ) (hf : fc_rd_readInner Rc x1 τ = some (r, υ)) : ctI l (wC ad cs) D vwCl (kC D cs sK sV tA) yX7_readInner cX7_readInner 2 .boolean (ro_rd_readInner rq) [.ref (ad 330), .int x1] τ r υ := by
  refine ct_I RX7 (by decide +kernel) rfl (Nat.le_of_ble_eq_true rfl) ?_
  intro p e s m args below meth c A X hK hA
  refine gr_eqL (L2 := [(0, .ref (ad 330)), (1, .int x1)]) rfl ?_
  unfold fc_rd_readInner at hf
  refine gr_iload_n X dX7_readInner_0 rfl 1 rfl ?_
  refine gr_iconst (v := 3) X dX7_readInner_1 (by decide) ?_
  refine gr_icmp_lt X 7 dX7_readInner_2 (by decide) (fun hc_ => ?_) (fun hc_ => ?_)
  · replace hf := ot_t hf hc_
    refine gr_aload_n X dX7_readInner_7 rfl 0 rfl ?_
    obtain ⟨τ2, hq_, hf⟩ := ot_b hf
    refine gc_Vv (rest := []) X kC_ok hK hA cw7_113 (rvC_RD hK) (xc_rd_advance hq_) rfl ⟨rfl, rfl, by simp only [ro_rd_readInner, ro_rd_advance]; omega, by simp only [ro_rd_readInner, ro_rd_advance]; omega⟩ rfl (Nat.le_of_ble_eq_true rfl) dX7_readInner_8 ?_
    refine gr_aload_n X dX7_readInner_11 rfl 0 rfl ?_
    refine gr_iload_n X dX7_readInner_12 rfl 1 rfl ?_
    refine gr_iconst (v := 1) X dX7_readInner_13 (by decide) ?_
    refine gr_iadd X dX7_readInner_14 ?_
    obtain ⟨⟨q3, τ4⟩, hq_, hf⟩ := ot_b hf
    replace hf := ot_l (y := q3) hf rfl
    replace hf := ot_l (y := τ4) hf rfl
    refine gc_Vi (rest := []) X kC_ok hK hA cw7_126 (rvC_RD hK) (hRc _ _ _ _ hq_) rfl ⟨hq0.1, hq0.2, by simp only [ro_rd_readInner]; omega, by simp only [ro_rd_readInner]; omega⟩ rfl (Nat.le_of_ble_eq_true rfl) dX7_readInner_15 ?_
    refine gr_if_eq X 31 dX7_readInner_18 (by decide) (fun hc_ => ?_) (fun hc_ => ?_)
    · replace hf := ot_t hf hc_
      refine gr_iconst (v := 0) X dX7_readInner_31 (by decide) ?_
      exact gr_zret X dX7_readInner_32 (by decide) (Prod.mk.inj (Option.some.inj hf)).1 (Prod.mk.inj (Option.some.inj hf)).2
    · replace hf := ot_f hf hc_
      refine gr_aload_n X dX7_readInner_21 rfl 0 rfl ?_
      refine gC_get_RD_7 X hK fk7_116 dX7_readInner_22 ?_
      refine gr_sipush (v := 141) X dX7_readInner_25 (by decide) ?_
      refine gr_icmp_eq X 33 dX7_readInner_28 (by decide) (fun hc_ => ?_) (fun hc_ => ?_)
      · replace hf := ot_t hf hc_
        refine gr_aload_n X dX7_readInner_33 rfl 0 rfl ?_
        obtain ⟨τ6, hq_, hf⟩ := ot_b hf
        refine gc_Vv (rest := []) X kC_ok hK hA cw7_113 (rvC_RD hK) (xc_rd_advance hq_) rfl ⟨rfl, rfl, by simp only [ro_rd_readInner, ro_rd_advance]; omega, by simp only [ro_rd_readInner, ro_rd_advance]; omega⟩ rfl (Nat.le_of_ble_eq_true rfl) dX7_readInner_34 ?_
        refine gr_iconst (v := 1) X dX7_readInner_37 (by decide) ?_
        exact gr_zret X dX7_readInner_38 (by decide) (Prod.mk.inj (Option.some.inj hf)).1 (Prod.mk.inj (Option.some.inj hf)).2
      · replace hf := ot_f hf hc_
        refine gr_iconst (v := 0) X dX7_readInner_31 (by decide) ?_
        exact gr_zret X dX7_readInner_32 (by decide) (Prod.mk.inj (Option.some.inj hf)).1 (Prod.mk.inj (Option.some.inj hf)).2
  · replace hf := ot_f hf hc_
    refine gr_iconst (v := 0) X dX7_readInner_5 (by decide) ?_
    exact gr_zret X dX7_readInner_6 (by decide) (Prod.mk.inj (Option.some.inj hf)).1 (Prod.mk.inj (Option.some.inj hf)).2
def ro_rd_readOne (rq : Room) : Room := { frames := rq.frames + 4, cells := 0, slots := 0, locals := rq.locals + 87 }
def fc_rd_readOne_b29 (Rc : Int32 → SC → Option (Int32 × SC)) (K40 : Int32 → Int32 → SC → Option (Int32 × SC)) (K4 : Int32 → Int32 → Int32 → SC → Option (Int32 × SC)) (x1 : Int32) (x3 : Int32) (y0 : Int32) (τ : SC) : Option (Int32 × SC) := (Option.bind (fc_rd_advance τ) fun τ2 => (K4 x1 y0 (x3 + (1 : Int32)) τ2))
def fc_rd_readOne_l4 (Rc : Int32 → SC → Option (Int32 × SC)) (K40 : Int32 → Int32 → SC → Option (Int32 × SC)) : Nat → Int32 → Int32 → Int32 → SC → Option (Int32 × SC)
  | 0, _, _, _, _ => none
  | n + 1, x1, x2, x3, τ => (if (200 : Int32) ≤ x3 then (K40 x1 x2 τ) else (if ¬ (τ.1 307 0) = (12 : Int32) then (K40 x1 x2 τ) else (if ¬ x2 = 0 then (fc_rd_readOne_b29 Rc K40 (fc_rd_readOne_l4 Rc K40 n) x1 x3 (0 : Int32) τ) else (fc_rd_readOne_b29 Rc K40 (fc_rd_readOne_l4 Rc K40 n) x1 x3 (1 : Int32) τ))))
def fc_rd_readOne_b62 (Rc : Int32 → SC → Option (Int32 × SC)) (x2 : Int32) (y0 : Int32) (τ : SC) : Option (Int32 × SC) := (if y0 = 0 then (oc (hz y0) (some (y0, τ))) else (if x2 = 0 then (oc (hz y0) (some (y0, τ))) else (Option.bind (fc_ru_emit_R2 (0 : Int32) τ) fun τ6 => (oc (hz y0) (some (y0, τ6))))))
def fc_rd_readOne_b40 (Rc : Int32 → SC → Option (Int32 × SC)) (x1 : Int32) (x2 : Int32) (τ : SC) : Option (Int32 × SC) := (if ¬ (τ.1 307 0) = (140 : Int32) then (Option.bind (fc_rd_readComparison τ) fun p_ => hl p_.1 fun q3 => hl p_.2 fun τ4 => (fc_rd_readOne_b62 Rc x2 q3 τ4)) else (Option.bind (fc_rd_readInner Rc x1 τ) fun p_ => hl p_.1 fun q7 => hl p_.2 fun τ8 => (fc_rd_readOne_b62 Rc x2 q7 τ8)))
def fc_rd_readOne (Rc : Int32 → SC → Option (Int32 × SC)) (x1 : Int32) (τ : SC) : Option (Int32 × SC) := (fc_rd_readOne_l4 Rc (fun x1 x2 τ => (fc_rd_readOne_b40 Rc x1 x2 τ)) hFU x1 (0 : Int32) (0 : Int32) τ)
set_option maxHeartbeats 4000000 in
set_option maxRecDepth 100000 in
theorem wc_rd_readOne_b29 {p : Program} {l : Launch} {e : Env} {s : State} {m : MethodId} {args : Array Value} {below : List Frame} {meth : Method} {c : Code} {A : Nat → Prop} {D : va_G} {cs : Nat → ClassId} {sK sV : Nat → Nat} {tA : Nat} {ad : Nat → Nat} {r : Int32} {υ : SC} {rq : Room} {Rc : Int32 → SC → Option (Int32 × SC)} {K40 : Int32 → Int32 → SC → Option (Int32 × SC)} {K4 : Int32 → Int32 → Int32 → SC → Option (Int32 × SC)} (X : hc p s m args meth c RX7 cX7_readOne 4 (some .boolean)) (hK : kC D cs sK sV tA A s) (hA : ∀ q, s.heap.size ≤ q → A q) (hq0 : rq.cells = 0 ∧ rq.slots = 0) (hRc : ∀ (τ : SC) (x1 : Int32) (r : Int32) (υ : SC), Rc x1 τ = some (r, υ) → ctI l (wC ad cs) D vwCl (kC D cs sK sV tA) yX7_readCondition cX7_readCondition 4 .boolean rq [.ref (ad 330), .int x1] τ r υ) (hK40 : (∀ (x1 : Int32) (x2 : Int32) (τ : SC), K40 x1 x2 τ = some (r, υ) → gg p l e (ro_rd_readOne rq) s m args below meth c (wC ad cs) D vwCl A 4 (QI below args s (wC ad cs) D vwCl A r υ) 40 [(0, .ref (ad 330)), (1, .int x1), (2, .int x2)] [] τ)) (hK4 : (∀ (x1 : Int32) (x2 : Int32) (x3 : Int32) (τ : SC), K4 x1 x2 x3 τ = some (r, υ) → gg p l e (ro_rd_readOne rq) s m args below meth c (wC ad cs) D vwCl A 4 (QI below args s (wC ad cs) D vwCl A r υ) 4 [(0, .ref (ad 330)), (1, .int x1), (2, .int x2), (3, .int x3)] [] τ))  (x1 : Int32) (x3 : Int32) (y0 : Int32) (τ : SC) (hf : fc_rd_readOne_b29 Rc K40 K4 x1 x3 y0 τ = some (r, υ)) : gg p l e (ro_rd_readOne rq) s m args below meth c (wC ad cs) D vwCl A 4 (QI below args s (wC ad cs) D vwCl A r υ) 29 [(0, .ref (ad 330)), (1, .int x1), (3, .int x3)] [.int y0] τ := by
  unfold fc_rd_readOne_b29 at hf
  refine gr_istore_n (L2 := [(2, .int y0), (0, .ref (ad 330)), (1, .int x1), (3, .int x3)]) X dX7_readOne_29 rfl (by decide) rfl ?_
  refine gr_aload_n X dX7_readOne_30 rfl 1 rfl ?_
  obtain ⟨τ2, hq_, hf⟩ := ot_b hf
  refine gc_Vv (rest := []) X kC_ok hK hA cw7_113 (rvC_RD hK) (xc_rd_advance hq_) rfl ⟨rfl, rfl, by simp only [ro_rd_readOne, ro_rd_advance]; omega, by simp only [ro_rd_readOne, ro_rd_advance]; omega⟩ rfl (Nat.le_of_ble_eq_true rfl) dX7_readOne_31 ?_
  refine gr_iinc (k := 3) (v := 1) (L2 := [(3, .int (x3 + (1 : Int32))), (2, .int y0), (0, .ref (ad 330)), (1, .int x1)]) X dX7_readOne_34 rfl (by decide) (by decide) rfl ?_
  refine gr_goto X 4 dX7_readOne_37 (by decide) ?_
  refine gr_sub [2, 3, 1, 0] rfl ?_
  exact hK4 _ _ _ _ hf
set_option maxHeartbeats 4000000 in
set_option maxRecDepth 100000 in
theorem wc_rd_readOne_l4 {p : Program} {l : Launch} {e : Env} {s : State} {m : MethodId} {args : Array Value} {below : List Frame} {meth : Method} {c : Code} {A : Nat → Prop} {D : va_G} {cs : Nat → ClassId} {sK sV : Nat → Nat} {tA : Nat} {ad : Nat → Nat} {r : Int32} {υ : SC} {rq : Room} {Rc : Int32 → SC → Option (Int32 × SC)} {K40 : Int32 → Int32 → SC → Option (Int32 × SC)} (X : hc p s m args meth c RX7 cX7_readOne 4 (some .boolean)) (hK : kC D cs sK sV tA A s) (hA : ∀ q, s.heap.size ≤ q → A q) (hq0 : rq.cells = 0 ∧ rq.slots = 0) (hRc : ∀ (τ : SC) (x1 : Int32) (r : Int32) (υ : SC), Rc x1 τ = some (r, υ) → ctI l (wC ad cs) D vwCl (kC D cs sK sV tA) yX7_readCondition cX7_readCondition 4 .boolean rq [.ref (ad 330), .int x1] τ r υ) (hK40 : (∀ (x1 : Int32) (x2 : Int32) (τ : SC), K40 x1 x2 τ = some (r, υ) → gg p l e (ro_rd_readOne rq) s m args below meth c (wC ad cs) D vwCl A 4 (QI below args s (wC ad cs) D vwCl A r υ) 40 [(0, .ref (ad 330)), (1, .int x1), (2, .int x2)] [] τ)) : ∀ (n : Nat) (x1 : Int32) (x2 : Int32) (x3 : Int32) (τ : SC), fc_rd_readOne_l4 Rc K40 n x1 x2 x3 τ = some (r, υ) → gg p l e (ro_rd_readOne rq) s m args below meth c (wC ad cs) D vwCl A 4 (QI below args s (wC ad cs) D vwCl A r υ) 4 [(0, .ref (ad 330)), (1, .int x1), (2, .int x2), (3, .int x3)] [] τ := by
  intro n
  induction n with
  | zero =>
    intro x1 x2 x3 τ hf
    cases (show (none : Option (Int32 × SC)) = some (r, υ) from hf)
  | succ n ih =>
    intro x1 x2 x3 τ hf
    unfold fc_rd_readOne_l4 at hf
    refine gr_iload_n X dX7_readOne_4 rfl 3 rfl ?_
    refine gr_sipush (v := 200) X dX7_readOne_5 (by decide) ?_
    refine gr_icmp_ge X 40 dX7_readOne_8 (by decide) (fun hc_ => ?_) (fun hc_ => ?_)
    · replace hf := ot_t hf hc_
      refine gr_sub [0, 1, 2] rfl ?_
      exact hK40 _ _ _ hf
    · replace hf := ot_f hf hc_
      refine gr_aload_n X dX7_readOne_11 rfl 0 rfl ?_
      refine gC_get_RD_7 X hK fk7_116 dX7_readOne_12 ?_
      refine gr_bipush (v := 12) X dX7_readOne_15 (by decide) ?_
      refine gr_icmp_ne X 40 dX7_readOne_17 (by decide) (fun hc_ => ?_) (fun hc_ => ?_)
      · replace hf := ot_t hf hc_
        refine gr_sub [0, 1, 2] rfl ?_
        exact hK40 _ _ _ hf
      · replace hf := ot_f hf hc_
        refine gr_iload_n X dX7_readOne_20 rfl 2 rfl ?_
        refine gr_if_ne X 28 dX7_readOne_21 (by decide) (fun hc_ => ?_) (fun hc_ => ?_)
        · replace hf := ot_t hf hc_
          refine gr_iconst (v := 0) X dX7_readOne_28 (by decide) ?_
          refine gr_sub [0, 1, 3] rfl ?_
          exact wc_rd_readOne_b29 X hK hA hq0 hRc hK40 ih _ _ _ _ hf
        · replace hf := ot_f hf hc_
          refine gr_iconst (v := 1) X dX7_readOne_24 (by decide) ?_
          refine gr_goto X 29 dX7_readOne_25 (by decide) ?_
          refine gr_sub [0, 1, 3] rfl ?_
          exact wc_rd_readOne_b29 X hK hA hq0 hRc hK40 ih _ _ _ _ hf
set_option maxHeartbeats 4000000 in
set_option maxRecDepth 100000 in
theorem wc_rd_readOne_b62 {p : Program} {l : Launch} {e : Env} {s : State} {m : MethodId} {args : Array Value} {below : List Frame} {meth : Method} {c : Code} {A : Nat → Prop} {D : va_G} {cs : Nat → ClassId} {sK sV : Nat → Nat} {tA : Nat} {ad : Nat → Nat} {r : Int32} {υ : SC} {rq : Room} {Rc : Int32 → SC → Option (Int32 × SC)} (X : hc p s m args meth c RX7 cX7_readOne 4 (some .boolean)) (hK : kC D cs sK sV tA A s) (hA : ∀ q, s.heap.size ≤ q → A q) (hq0 : rq.cells = 0 ∧ rq.slots = 0) (hRc : ∀ (τ : SC) (x1 : Int32) (r : Int32) (υ : SC), Rc x1 τ = some (r, υ) → ctI l (wC ad cs) D vwCl (kC D cs sK sV tA) yX7_readCondition cX7_readCondition 4 .boolean rq [.ref (ad 330), .int x1] τ r υ)   (x2 : Int32) (y0 : Int32) (τ : SC) (hf : fc_rd_readOne_b62 Rc x2 y0 τ = some (r, υ)) : gg p l e (ro_rd_readOne rq) s m args below meth c (wC ad cs) D vwCl A 4 (QI below args s (wC ad cs) D vwCl A r υ) 62 [(0, .ref (ad 330)), (2, .int x2)] [.int y0] τ := by
  unfold fc_rd_readOne_b62 at hf
  refine gr_istore_n (L2 := [(3, .int y0), (0, .ref (ad 330)), (2, .int x2)]) X dX7_readOne_62 rfl (by decide) rfl ?_
  refine gr_iload_n X dX7_readOne_63 rfl 0 rfl ?_
  refine gr_if_eq X 79 dX7_readOne_64 (by decide) (fun hc_ => ?_) (fun hc_ => ?_)
  · replace hf := ot_t hf hc_
    refine gr_iload_n X dX7_readOne_79 rfl 0 rfl ?_
    have hz_ := oc_1 hf
    replace hf := oc_2 hf
    exact gr_zret X dX7_readOne_80 hz_ (Prod.mk.inj (Option.some.inj hf)).1 (Prod.mk.inj (Option.some.inj hf)).2
  · replace hf := ot_f hf hc_
    refine gr_iload_n X dX7_readOne_67 rfl 2 rfl ?_
    refine gr_if_eq X 79 dX7_readOne_68 (by decide) (fun hc_ => ?_) (fun hc_ => ?_)
    · replace hf := ot_t hf hc_
      refine gr_iload_n X dX7_readOne_79 rfl 0 rfl ?_
      have hz_ := oc_1 hf
      replace hf := oc_2 hf
      exact gr_zret X dX7_readOne_80 hz_ (Prod.mk.inj (Option.some.inj hf)).1 (Prod.mk.inj (Option.some.inj hf)).2
    · replace hf := ot_f hf hc_
      refine gr_aload_n X dX7_readOne_71 rfl 1 rfl ?_
      refine gC_get_RD_0 X hK fk7_12 dX7_readOne_72 ?_
      refine gr_iconst (v := 0) X dX7_readOne_75 (by decide) ?_
      obtain ⟨τ6, hq_, hf⟩ := ot_b hf
      refine gc_Vv (rest := []) X kC_ok hK hA cw7_137 (rvC_R2 hK) (xc_ru_emit_R2 hq_) rfl ⟨rfl, rfl, by simp only [ro_rd_readOne, ro_ru_emit_R2]; omega, by simp only [ro_rd_readOne, ro_ru_emit_R2]; omega⟩ rfl (Nat.le_of_ble_eq_true rfl) dX7_readOne_76 ?_
      refine gr_iload_n X dX7_readOne_79 rfl 0 rfl ?_
      have hz_ := oc_1 hf
      replace hf := oc_2 hf
      exact gr_zret X dX7_readOne_80 hz_ (Prod.mk.inj (Option.some.inj hf)).1 (Prod.mk.inj (Option.some.inj hf)).2
set_option maxHeartbeats 4000000 in
set_option maxRecDepth 100000 in
theorem wc_rd_readOne_b40 {p : Program} {l : Launch} {e : Env} {s : State} {m : MethodId} {args : Array Value} {below : List Frame} {meth : Method} {c : Code} {A : Nat → Prop} {D : va_G} {cs : Nat → ClassId} {sK sV : Nat → Nat} {tA : Nat} {ad : Nat → Nat} {r : Int32} {υ : SC} {rq : Room} {Rc : Int32 → SC → Option (Int32 × SC)} (X : hc p s m args meth c RX7 cX7_readOne 4 (some .boolean)) (hK : kC D cs sK sV tA A s) (hA : ∀ q, s.heap.size ≤ q → A q) (hq0 : rq.cells = 0 ∧ rq.slots = 0) (hRc : ∀ (τ : SC) (x1 : Int32) (r : Int32) (υ : SC), Rc x1 τ = some (r, υ) → ctI l (wC ad cs) D vwCl (kC D cs sK sV tA) yX7_readCondition cX7_readCondition 4 .boolean rq [.ref (ad 330), .int x1] τ r υ)   (x1 : Int32) (x2 : Int32) (τ : SC) (hf : fc_rd_readOne_b40 Rc x1 x2 τ = some (r, υ)) : gg p l e (ro_rd_readOne rq) s m args below meth c (wC ad cs) D vwCl A 4 (QI below args s (wC ad cs) D vwCl A r υ) 40 [(0, .ref (ad 330)), (1, .int x1), (2, .int x2)] [] τ := by
  unfold fc_rd_readOne_b40 at hf
  refine gr_aload_n X dX7_readOne_40 rfl 0 rfl ?_
  refine gC_get_RD_7 X hK fk7_116 dX7_readOne_41 ?_
  refine gr_sipush (v := 140) X dX7_readOne_44 (by decide) ?_
  refine gr_icmp_ne X 58 dX7_readOne_47 (by decide) (fun hc_ => ?_) (fun hc_ => ?_)
  · replace hf := ot_t hf hc_
    refine gr_aload_n X dX7_readOne_58 rfl 0 rfl ?_
    obtain ⟨⟨q3, τ4⟩, hq_, hf⟩ := ot_b hf
    replace hf := ot_l (y := q3) hf rfl
    replace hf := ot_l (y := τ4) hf rfl
    refine gc_Vi (rest := []) X kC_ok hK hA cw7_147 (rvC_RD hK) (xc_rd_readComparison hq_) rfl ⟨rfl, rfl, by simp only [ro_rd_readOne, ro_rd_readComparison]; omega, by simp only [ro_rd_readOne, ro_rd_readComparison]; omega⟩ rfl (Nat.le_of_ble_eq_true rfl) dX7_readOne_59 ?_
    refine gr_sub [0, 2] rfl ?_
    exact wc_rd_readOne_b62 X hK hA hq0 hRc _ _ _ hf
  · replace hf := ot_f hf hc_
    refine gr_aload_n X dX7_readOne_50 rfl 0 rfl ?_
    refine gr_iload_n X dX7_readOne_51 rfl 1 rfl ?_
    obtain ⟨⟨q7, τ8⟩, hq_, hf⟩ := ot_b hf
    replace hf := ot_l (y := q7) hf rfl
    replace hf := ot_l (y := τ8) hf rfl
    refine gc_Vi (rest := []) X kC_ok hK hA cw7_144 (rvC_RD hK) (xc_rd_readInner hq0 hRc hq_) rfl ⟨rfl, rfl, by simp only [ro_rd_readOne, ro_rd_readInner]; omega, by simp only [ro_rd_readOne, ro_rd_readInner]; omega⟩ rfl (Nat.le_of_ble_eq_true rfl) dX7_readOne_52 ?_
    refine gr_goto X 62 dX7_readOne_55 (by decide) ?_
    refine gr_sub [0, 2] rfl ?_
    exact wc_rd_readOne_b62 X hK hA hq0 hRc _ _ _ hf
set_option maxHeartbeats 4000000 in
set_option maxRecDepth 100000 in
theorem xc_rd_readOne {l : Launch} {D : va_G} {cs : Nat → ClassId} {sK sV : Nat → Nat} {tA : Nat} {ad : Nat → Nat} {τ : SC} {x1 : Int32} {r : Int32} {υ : SC} {rq : Room} {Rc : Int32 → SC → Option (Int32 × SC)} (hq0 : rq.cells = 0 ∧ rq.slots = 0) (hRc : ∀ (τ : SC) (x1 : Int32) (r : Int32) (υ : SC), Rc x1 τ = some (r, υ) → ctI l (wC ad cs) D vwCl (kC D cs sK sV tA) yX7_readCondition cX7_readCondition 4 .boolean rq [.ref (ad 330), .int x1] τ r υ) (hf : fc_rd_readOne Rc x1 τ = some (r, υ)) : ctI l (wC ad cs) D vwCl (kC D cs sK sV tA) yX7_readOne cX7_readOne 4 .boolean (ro_rd_readOne rq) [.ref (ad 330), .int x1] τ r υ := by
  refine ct_I RX7 (by decide +kernel) rfl (Nat.le_of_ble_eq_true rfl) ?_
  intro p e s m args below meth c A X hK hA
  refine gr_eqL (L2 := [(0, .ref (ad 330)), (1, .int x1)]) rfl ?_
  unfold fc_rd_readOne at hf
  refine gr_iconst (v := 0) X dX7_readOne_0 (by decide) ?_
  refine gr_istore_n (L2 := [(2, .int (0 : Int32)), (0, .ref (ad 330)), (1, .int x1)]) X dX7_readOne_1 rfl (by decide) rfl ?_
  refine gr_iconst (v := 0) X dX7_readOne_2 (by decide) ?_
  refine gr_istore_n (L2 := [(3, .int (0 : Int32)), (2, .int (0 : Int32)), (0, .ref (ad 330)), (1, .int x1)]) X dX7_readOne_3 rfl (by decide) rfl ?_
  refine gr_sub [2, 3, 1, 0] rfl ?_
  refine wc_rd_readOne_l4 X hK hA hq0 hRc (fun x1 x2 τ hf => ?_) hFU _ _ _ _ hf
  refine gr_sub [0, 1, 2] rfl ?_
  exact wc_rd_readOne_b40 X hK hA hq0 hRc _ _ _ hf
def ro_rd_readAlls (rq : Room) : Room := { frames := rq.frames + 6, cells := 0, slots := 0, locals := rq.locals + 133 }
def fc_rd_readAlls_b60 (Rc : Int32 → SC → Option (Int32 × SC)) (K4 : Int32 → Int32 → Int32 → SC → Option (Int32 × SC)) (x1 : Int32) (x2 : Int32) (x3 : Int32) (τ : SC) : Option (Int32 × SC) := (K4 x1 x2 (x3 + (1 : Int32)) τ)
def fc_rd_readAlls_b51 (Rc : Int32 → SC → Option (Int32 × SC)) (K4 : Int32 → Int32 → Int32 → SC → Option (Int32 × SC)) (x1 : Int32) (x3 : Int32) (y0 : Int32) (τ : SC) : Option (Int32 × SC) := (if y0 = 0 then (fc_rd_readAlls_b60 Rc K4 x1 y0 x3 τ) else (Option.bind (fc_rd_advance τ) fun τ4 => (fc_rd_readAlls_b60 Rc K4 x1 y0 x3 τ4)))
def fc_rd_readAlls_b37 (Rc : Int32 → SC → Option (Int32 × SC)) (K4 : Int32 → Int32 → Int32 → SC → Option (Int32 × SC)) (x1 : Int32) (x3 : Int32) (τ : SC) : Option (Int32 × SC) := (if ¬ (τ.1 307 0) = (11 : Int32) then (fc_rd_readAlls_b51 Rc K4 x1 x3 (0 : Int32) τ) else (fc_rd_readAlls_b51 Rc K4 x1 x3 (1 : Int32) τ))
def fc_rd_readAlls_l4 (Rc : Int32 → SC → Option (Int32 × SC)) : Nat → Int32 → Int32 → Int32 → SC → Option (Int32 × SC)
  | 0, _, _, _, _ => none
  | n + 1, x1, x2, x3, τ => (if (200 : Int32) ≤ x3 then (some ((1 : Int32), τ)) else (if x2 = 0 then (some ((1 : Int32), τ)) else (Option.bind (fc_rd_readOne Rc x1 τ) fun p_ => hl p_.1 fun q1 => hl p_.2 fun τ2 => (if ¬ q1 = 0 then (if x3 ≤ 0 then (fc_rd_readAlls_b37 Rc (fc_rd_readAlls_l4 Rc n) x1 x3 τ2) else (Option.bind (fc_ru_emit_R2 (1 : Int32) τ2) fun τ6 => (fc_rd_readAlls_b37 Rc (fc_rd_readAlls_l4 Rc n) x1 x3 τ6))) else (some ((0 : Int32), τ2))))))
def fc_rd_readAlls (Rc : Int32 → SC → Option (Int32 × SC)) (x1 : Int32) (τ : SC) : Option (Int32 × SC) := (fc_rd_readAlls_l4 Rc hFU x1 (1 : Int32) (0 : Int32) τ)
set_option maxHeartbeats 4000000 in
set_option maxRecDepth 100000 in
theorem wc_rd_readAlls_b60 {p : Program} {l : Launch} {e : Env} {s : State} {m : MethodId} {args : Array Value} {below : List Frame} {meth : Method} {c : Code} {A : Nat → Prop} {D : va_G} {cs : Nat → ClassId} {sK sV : Nat → Nat} {tA : Nat} {ad : Nat → Nat} {r : Int32} {υ : SC} {rq : Room} {Rc : Int32 → SC → Option (Int32 × SC)} {K4 : Int32 → Int32 → Int32 → SC → Option (Int32 × SC)} (X : hc p s m args meth c RX7 cX7_readAlls 4 (some .boolean)) (hK : kC D cs sK sV tA A s) (hA : ∀ q, s.heap.size ≤ q → A q) (hq0 : rq.cells = 0 ∧ rq.slots = 0) (hRc : ∀ (τ : SC) (x1 : Int32) (r : Int32) (υ : SC), Rc x1 τ = some (r, υ) → ctI l (wC ad cs) D vwCl (kC D cs sK sV tA) yX7_readCondition cX7_readCondition 4 .boolean rq [.ref (ad 330), .int x1] τ r υ) (hK4 : (∀ (x1 : Int32) (x2 : Int32) (x3 : Int32) (τ : SC), K4 x1 x2 x3 τ = some (r, υ) → gg p l e (ro_rd_readAlls rq) s m args below meth c (wC ad cs) D vwCl A 4 (QI below args s (wC ad cs) D vwCl A r υ) 4 [(0, .ref (ad 330)), (1, .int x1), (2, .int x2), (3, .int x3)] [] τ))  (x1 : Int32) (x2 : Int32) (x3 : Int32) (τ : SC) (hf : fc_rd_readAlls_b60 Rc K4 x1 x2 x3 τ = some (r, υ)) : gg p l e (ro_rd_readAlls rq) s m args below meth c (wC ad cs) D vwCl A 4 (QI below args s (wC ad cs) D vwCl A r υ) 60 [(0, .ref (ad 330)), (1, .int x1), (2, .int x2), (3, .int x3)] [] τ := by
  unfold fc_rd_readAlls_b60 at hf
  refine gr_iinc (k := 3) (v := 1) (L2 := [(3, .int (x3 + (1 : Int32))), (0, .ref (ad 330)), (1, .int x1), (2, .int x2)]) X dX7_readAlls_60 rfl (by decide) (by decide) rfl ?_
  refine gr_goto X 4 dX7_readAlls_63 (by decide) ?_
  refine gr_sub [1, 2, 3, 0] rfl ?_
  exact hK4 _ _ _ _ hf
set_option maxHeartbeats 4000000 in
set_option maxRecDepth 100000 in
theorem wc_rd_readAlls_b51 {p : Program} {l : Launch} {e : Env} {s : State} {m : MethodId} {args : Array Value} {below : List Frame} {meth : Method} {c : Code} {A : Nat → Prop} {D : va_G} {cs : Nat → ClassId} {sK sV : Nat → Nat} {tA : Nat} {ad : Nat → Nat} {r : Int32} {υ : SC} {rq : Room} {Rc : Int32 → SC → Option (Int32 × SC)} {K4 : Int32 → Int32 → Int32 → SC → Option (Int32 × SC)} (X : hc p s m args meth c RX7 cX7_readAlls 4 (some .boolean)) (hK : kC D cs sK sV tA A s) (hA : ∀ q, s.heap.size ≤ q → A q) (hq0 : rq.cells = 0 ∧ rq.slots = 0) (hRc : ∀ (τ : SC) (x1 : Int32) (r : Int32) (υ : SC), Rc x1 τ = some (r, υ) → ctI l (wC ad cs) D vwCl (kC D cs sK sV tA) yX7_readCondition cX7_readCondition 4 .boolean rq [.ref (ad 330), .int x1] τ r υ) (hK4 : (∀ (x1 : Int32) (x2 : Int32) (x3 : Int32) (τ : SC), K4 x1 x2 x3 τ = some (r, υ) → gg p l e (ro_rd_readAlls rq) s m args below meth c (wC ad cs) D vwCl A 4 (QI below args s (wC ad cs) D vwCl A r υ) 4 [(0, .ref (ad 330)), (1, .int x1), (2, .int x2), (3, .int x3)] [] τ))  (x1 : Int32) (x3 : Int32) (y0 : Int32) (τ : SC) (hf : fc_rd_readAlls_b51 Rc K4 x1 x3 y0 τ = some (r, υ)) : gg p l e (ro_rd_readAlls rq) s m args below meth c (wC ad cs) D vwCl A 4 (QI below args s (wC ad cs) D vwCl A r υ) 51 [(0, .ref (ad 330)), (1, .int x1), (3, .int x3)] [.int y0] τ := by
  unfold fc_rd_readAlls_b51 at hf
  refine gr_istore_n (L2 := [(2, .int y0), (0, .ref (ad 330)), (1, .int x1), (3, .int x3)]) X dX7_readAlls_51 rfl (by decide) rfl ?_
  refine gr_iload_n X dX7_readAlls_52 rfl 0 rfl ?_
  refine gr_if_eq X 60 dX7_readAlls_53 (by decide) (fun hc_ => ?_) (fun hc_ => ?_)
  · replace hf := ot_t hf hc_
    refine gr_sub [1, 2, 0, 3] rfl ?_
    exact wc_rd_readAlls_b60 X hK hA hq0 hRc hK4 _ _ _ _ hf
  · replace hf := ot_f hf hc_
    refine gr_aload_n X dX7_readAlls_56 rfl 1 rfl ?_
    obtain ⟨τ4, hq_, hf⟩ := ot_b hf
    refine gc_Vv (rest := []) X kC_ok hK hA cw7_113 (rvC_RD hK) (xc_rd_advance hq_) rfl ⟨rfl, rfl, by simp only [ro_rd_readAlls, ro_rd_advance]; omega, by simp only [ro_rd_readAlls, ro_rd_advance]; omega⟩ rfl (Nat.le_of_ble_eq_true rfl) dX7_readAlls_57 ?_
    refine gr_sub [1, 2, 0, 3] rfl ?_
    exact wc_rd_readAlls_b60 X hK hA hq0 hRc hK4 _ _ _ _ hf
set_option maxHeartbeats 4000000 in
set_option maxRecDepth 100000 in
theorem wc_rd_readAlls_b37 {p : Program} {l : Launch} {e : Env} {s : State} {m : MethodId} {args : Array Value} {below : List Frame} {meth : Method} {c : Code} {A : Nat → Prop} {D : va_G} {cs : Nat → ClassId} {sK sV : Nat → Nat} {tA : Nat} {ad : Nat → Nat} {r : Int32} {υ : SC} {rq : Room} {Rc : Int32 → SC → Option (Int32 × SC)} {K4 : Int32 → Int32 → Int32 → SC → Option (Int32 × SC)} (X : hc p s m args meth c RX7 cX7_readAlls 4 (some .boolean)) (hK : kC D cs sK sV tA A s) (hA : ∀ q, s.heap.size ≤ q → A q) (hq0 : rq.cells = 0 ∧ rq.slots = 0) (hRc : ∀ (τ : SC) (x1 : Int32) (r : Int32) (υ : SC), Rc x1 τ = some (r, υ) → ctI l (wC ad cs) D vwCl (kC D cs sK sV tA) yX7_readCondition cX7_readCondition 4 .boolean rq [.ref (ad 330), .int x1] τ r υ) (hK4 : (∀ (x1 : Int32) (x2 : Int32) (x3 : Int32) (τ : SC), K4 x1 x2 x3 τ = some (r, υ) → gg p l e (ro_rd_readAlls rq) s m args below meth c (wC ad cs) D vwCl A 4 (QI below args s (wC ad cs) D vwCl A r υ) 4 [(0, .ref (ad 330)), (1, .int x1), (2, .int x2), (3, .int x3)] [] τ))  (x1 : Int32) (x3 : Int32) (τ : SC) (hf : fc_rd_readAlls_b37 Rc K4 x1 x3 τ = some (r, υ)) : gg p l e (ro_rd_readAlls rq) s m args below meth c (wC ad cs) D vwCl A 4 (QI below args s (wC ad cs) D vwCl A r υ) 37 [(0, .ref (ad 330)), (1, .int x1), (3, .int x3)] [] τ := by
  unfold fc_rd_readAlls_b37 at hf
  refine gr_aload_n X dX7_readAlls_37 rfl 0 rfl ?_
  refine gC_get_RD_7 X hK fk7_116 dX7_readAlls_38 ?_
  refine gr_bipush (v := 11) X dX7_readAlls_41 (by decide) ?_
  refine gr_icmp_ne X 50 dX7_readAlls_43 (by decide) (fun hc_ => ?_) (fun hc_ => ?_)
  · replace hf := ot_t hf hc_
    refine gr_iconst (v := 0) X dX7_readAlls_50 (by decide) ?_
    refine gr_sub [0, 1, 2] rfl ?_
    exact wc_rd_readAlls_b51 X hK hA hq0 hRc hK4 _ _ _ _ hf
  · replace hf := ot_f hf hc_
    refine gr_iconst (v := 1) X dX7_readAlls_46 (by decide) ?_
    refine gr_goto X 51 dX7_readAlls_47 (by decide) ?_
    refine gr_sub [0, 1, 2] rfl ?_
    exact wc_rd_readAlls_b51 X hK hA hq0 hRc hK4 _ _ _ _ hf
set_option maxHeartbeats 4000000 in
set_option maxRecDepth 100000 in
theorem wc_rd_readAlls_l4 {p : Program} {l : Launch} {e : Env} {s : State} {m : MethodId} {args : Array Value} {below : List Frame} {meth : Method} {c : Code} {A : Nat → Prop} {D : va_G} {cs : Nat → ClassId} {sK sV : Nat → Nat} {tA : Nat} {ad : Nat → Nat} {r : Int32} {υ : SC} {rq : Room} {Rc : Int32 → SC → Option (Int32 × SC)} (X : hc p s m args meth c RX7 cX7_readAlls 4 (some .boolean)) (hK : kC D cs sK sV tA A s) (hA : ∀ q, s.heap.size ≤ q → A q) (hq0 : rq.cells = 0 ∧ rq.slots = 0) (hRc : ∀ (τ : SC) (x1 : Int32) (r : Int32) (υ : SC), Rc x1 τ = some (r, υ) → ctI l (wC ad cs) D vwCl (kC D cs sK sV tA) yX7_readCondition cX7_readCondition 4 .boolean rq [.ref (ad 330), .int x1] τ r υ)  : ∀ (n : Nat) (x1 : Int32) (x2 : Int32) (x3 : Int32) (τ : SC), fc_rd_readAlls_l4 Rc n x1 x2 x3 τ = some (r, υ) → gg p l e (ro_rd_readAlls rq) s m args below meth c (wC ad cs) D vwCl A 4 (QI below args s (wC ad cs) D vwCl A r υ) 4 [(0, .ref (ad 330)), (1, .int x1), (2, .int x2), (3, .int x3)] [] τ := by
  intro n
  induction n with
  | zero =>
    intro x1 x2 x3 τ hf
    cases (show (none : Option (Int32 × SC)) = some (r, υ) from hf)
  | succ n ih =>
    intro x1 x2 x3 τ hf
    unfold fc_rd_readAlls_l4 at hf
    refine gr_iload_n X dX7_readAlls_4 rfl 3 rfl ?_
    refine gr_sipush (v := 200) X dX7_readAlls_5 (by decide) ?_
    refine gr_icmp_ge X 66 dX7_readAlls_8 (by decide) (fun hc_ => ?_) (fun hc_ => ?_)
    · replace hf := ot_t hf hc_
      refine gr_iconst (v := 1) X dX7_readAlls_66 (by decide) ?_
      exact gr_zret X dX7_readAlls_67 (by decide) (Prod.mk.inj (Option.some.inj hf)).1 (Prod.mk.inj (Option.some.inj hf)).2
    · replace hf := ot_f hf hc_
      refine gr_iload_n X dX7_readAlls_11 rfl 2 rfl ?_
      refine gr_if_eq X 66 dX7_readAlls_12 (by decide) (fun hc_ => ?_) (fun hc_ => ?_)
      · replace hf := ot_t hf hc_
        refine gr_iconst (v := 1) X dX7_readAlls_66 (by decide) ?_
        exact gr_zret X dX7_readAlls_67 (by decide) (Prod.mk.inj (Option.some.inj hf)).1 (Prod.mk.inj (Option.some.inj hf)).2
      · replace hf := ot_f hf hc_
        refine gr_aload_n X dX7_readAlls_15 rfl 0 rfl ?_
        refine gr_iload_n X dX7_readAlls_16 rfl 1 rfl ?_
        obtain ⟨⟨q1, τ2⟩, hq_, hf⟩ := ot_b hf
        replace hf := ot_l (y := q1) hf rfl
        replace hf := ot_l (y := τ2) hf rfl
        refine gc_Vi (rest := []) X kC_ok hK hA cw7_141 (rvC_RD hK) (xc_rd_readOne hq0 hRc hq_) rfl ⟨rfl, rfl, by simp only [ro_rd_readAlls, ro_rd_readOne]; omega, by simp only [ro_rd_readAlls, ro_rd_readOne]; omega⟩ rfl (Nat.le_of_ble_eq_true rfl) dX7_readAlls_17 ?_
        refine gr_if_ne X 25 dX7_readAlls_20 (by decide) (fun hc_ => ?_) (fun hc_ => ?_)
        · replace hf := ot_t hf hc_
          refine gr_iload_n X dX7_readAlls_25 rfl 3 rfl ?_
          refine gr_if_le X 37 dX7_readAlls_26 (by decide) (fun hc_ => ?_) (fun hc_ => ?_)
          · replace hf := ot_t hf hc_
            refine gr_sub [0, 1, 3] rfl ?_
            exact wc_rd_readAlls_b37 X hK hA hq0 hRc ih _ _ _ hf
          · replace hf := ot_f hf hc_
            refine gr_aload_n X dX7_readAlls_29 rfl 0 rfl ?_
            refine gC_get_RD_0 X hK fk7_12 dX7_readAlls_30 ?_
            refine gr_iconst (v := 1) X dX7_readAlls_33 (by decide) ?_
            obtain ⟨τ6, hq_, hf⟩ := ot_b hf
            refine gc_Vv (rest := []) X kC_ok hK hA cw7_137 (rvC_R2 hK) (xc_ru_emit_R2 hq_) rfl ⟨rfl, rfl, by simp only [ro_rd_readAlls, ro_ru_emit_R2]; omega, by simp only [ro_rd_readAlls, ro_ru_emit_R2]; omega⟩ rfl (Nat.le_of_ble_eq_true rfl) dX7_readAlls_34 ?_
            refine gr_sub [0, 1, 3] rfl ?_
            exact wc_rd_readAlls_b37 X hK hA hq0 hRc ih _ _ _ hf
        · replace hf := ot_f hf hc_
          refine gr_iconst (v := 0) X dX7_readAlls_23 (by decide) ?_
          exact gr_zret X dX7_readAlls_24 (by decide) (Prod.mk.inj (Option.some.inj hf)).1 (Prod.mk.inj (Option.some.inj hf)).2
set_option maxHeartbeats 4000000 in
set_option maxRecDepth 100000 in
theorem xc_rd_readAlls {l : Launch} {D : va_G} {cs : Nat → ClassId} {sK sV : Nat → Nat} {tA : Nat} {ad : Nat → Nat} {τ : SC} {x1 : Int32} {r : Int32} {υ : SC} {rq : Room} {Rc : Int32 → SC → Option (Int32 × SC)} (hq0 : rq.cells = 0 ∧ rq.slots = 0) (hRc : ∀ (τ : SC) (x1 : Int32) (r : Int32) (υ : SC), Rc x1 τ = some (r, υ) → ctI l (wC ad cs) D vwCl (kC D cs sK sV tA) yX7_readCondition cX7_readCondition 4 .boolean rq [.ref (ad 330), .int x1] τ r υ) (hf : fc_rd_readAlls Rc x1 τ = some (r, υ)) : ctI l (wC ad cs) D vwCl (kC D cs sK sV tA) yX7_readAlls cX7_readAlls 4 .boolean (ro_rd_readAlls rq) [.ref (ad 330), .int x1] τ r υ := by
  refine ct_I RX7 (by decide +kernel) rfl (Nat.le_of_ble_eq_true rfl) ?_
  intro p e s m args below meth c A X hK hA
  refine gr_eqL (L2 := [(0, .ref (ad 330)), (1, .int x1)]) rfl ?_
  unfold fc_rd_readAlls at hf
  refine gr_iconst (v := 1) X dX7_readAlls_0 (by decide) ?_
  refine gr_istore_n (L2 := [(2, .int (1 : Int32)), (0, .ref (ad 330)), (1, .int x1)]) X dX7_readAlls_1 rfl (by decide) rfl ?_
  refine gr_iconst (v := 0) X dX7_readAlls_2 (by decide) ?_
  refine gr_istore_n (L2 := [(3, .int (0 : Int32)), (2, .int (1 : Int32)), (0, .ref (ad 330)), (1, .int x1)]) X dX7_readAlls_3 rfl (by decide) rfl ?_
  refine gr_sub [2, 3, 1, 0] rfl ?_
  refine wc_rd_readAlls_l4 X hK hA hq0 hRc  hFU _ _ _ _ hf
def ro_rd_readCondition (rq : Room) : Room := { frames := rq.frames + 8, cells := 0, slots := 0, locals := rq.locals + 179 }
def fc_rd_readCondition_b60 (Rc : Int32 → SC → Option (Int32 × SC)) (K4 : Int32 → Int32 → Int32 → SC → Option (Int32 × SC)) (x1 : Int32) (x2 : Int32) (x3 : Int32) (τ : SC) : Option (Int32 × SC) := (K4 x1 x2 (x3 + (1 : Int32)) τ)
def fc_rd_readCondition_b51 (Rc : Int32 → SC → Option (Int32 × SC)) (K4 : Int32 → Int32 → Int32 → SC → Option (Int32 × SC)) (x1 : Int32) (x3 : Int32) (y0 : Int32) (τ : SC) : Option (Int32 × SC) := (if y0 = 0 then (fc_rd_readCondition_b60 Rc K4 x1 y0 x3 τ) else (Option.bind (fc_rd_advance τ) fun τ4 => (fc_rd_readCondition_b60 Rc K4 x1 y0 x3 τ4)))
def fc_rd_readCondition_b37 (Rc : Int32 → SC → Option (Int32 × SC)) (K4 : Int32 → Int32 → Int32 → SC → Option (Int32 × SC)) (x1 : Int32) (x3 : Int32) (τ : SC) : Option (Int32 × SC) := (if ¬ (τ.1 307 0) = (10 : Int32) then (fc_rd_readCondition_b51 Rc K4 x1 x3 (0 : Int32) τ) else (fc_rd_readCondition_b51 Rc K4 x1 x3 (1 : Int32) τ))
def fc_rd_readCondition_l4 (Rc : Int32 → SC → Option (Int32 × SC)) : Nat → Int32 → Int32 → Int32 → SC → Option (Int32 × SC)
  | 0, _, _, _, _ => none
  | n + 1, x1, x2, x3, τ => (if (200 : Int32) ≤ x3 then (some ((1 : Int32), τ)) else (if x2 = 0 then (some ((1 : Int32), τ)) else (Option.bind (fc_rd_readAlls Rc x1 τ) fun p_ => hl p_.1 fun q1 => hl p_.2 fun τ2 => (if ¬ q1 = 0 then (if x3 ≤ 0 then (fc_rd_readCondition_b37 Rc (fc_rd_readCondition_l4 Rc n) x1 x3 τ2) else (Option.bind (fc_ru_emit_R2 (2 : Int32) τ2) fun τ6 => (fc_rd_readCondition_b37 Rc (fc_rd_readCondition_l4 Rc n) x1 x3 τ6))) else (some ((0 : Int32), τ2))))))
def fc_rd_readCondition (Rc : Int32 → SC → Option (Int32 × SC)) (x1 : Int32) (τ : SC) : Option (Int32 × SC) := (fc_rd_readCondition_l4 Rc hFU x1 (1 : Int32) (0 : Int32) τ)
set_option maxHeartbeats 4000000 in
set_option maxRecDepth 100000 in
theorem wc_rd_readCondition_b60 {p : Program} {l : Launch} {e : Env} {s : State} {m : MethodId} {args : Array Value} {below : List Frame} {meth : Method} {c : Code} {A : Nat → Prop} {D : va_G} {cs : Nat → ClassId} {sK sV : Nat → Nat} {tA : Nat} {ad : Nat → Nat} {r : Int32} {υ : SC} {rq : Room} {Rc : Int32 → SC → Option (Int32 × SC)} {K4 : Int32 → Int32 → Int32 → SC → Option (Int32 × SC)} (X : hc p s m args meth c RX7 cX7_readCondition 4 (some .boolean)) (hK : kC D cs sK sV tA A s) (hA : ∀ q, s.heap.size ≤ q → A q) (hq0 : rq.cells = 0 ∧ rq.slots = 0) (hRc : ∀ (τ : SC) (x1 : Int32) (r : Int32) (υ : SC), Rc x1 τ = some (r, υ) → ctI l (wC ad cs) D vwCl (kC D cs sK sV tA) yX7_readCondition cX7_readCondition 4 .boolean rq [.ref (ad 330), .int x1] τ r υ) (hK4 : (∀ (x1 : Int32) (x2 : Int32) (x3 : Int32) (τ : SC), K4 x1 x2 x3 τ = some (r, υ) → gg p l e (ro_rd_readCondition rq) s m args below meth c (wC ad cs) D vwCl A 4 (QI below args s (wC ad cs) D vwCl A r υ) 4 [(0, .ref (ad 330)), (1, .int x1), (2, .int x2), (3, .int x3)] [] τ))  (x1 : Int32) (x2 : Int32) (x3 : Int32) (τ : SC) (hf : fc_rd_readCondition_b60 Rc K4 x1 x2 x3 τ = some (r, υ)) : gg p l e (ro_rd_readCondition rq) s m args below meth c (wC ad cs) D vwCl A 4 (QI below args s (wC ad cs) D vwCl A r υ) 60 [(0, .ref (ad 330)), (1, .int x1), (2, .int x2), (3, .int x3)] [] τ := by
  unfold fc_rd_readCondition_b60 at hf
  refine gr_iinc (k := 3) (v := 1) (L2 := [(3, .int (x3 + (1 : Int32))), (0, .ref (ad 330)), (1, .int x1), (2, .int x2)]) X dX7_readCondition_60 rfl (by decide) (by decide) rfl ?_
  refine gr_goto X 4 dX7_readCondition_63 (by decide) ?_
  refine gr_sub [1, 2, 3, 0] rfl ?_
  exact hK4 _ _ _ _ hf
set_option maxHeartbeats 4000000 in
set_option maxRecDepth 100000 in
theorem wc_rd_readCondition_b51 {p : Program} {l : Launch} {e : Env} {s : State} {m : MethodId} {args : Array Value} {below : List Frame} {meth : Method} {c : Code} {A : Nat → Prop} {D : va_G} {cs : Nat → ClassId} {sK sV : Nat → Nat} {tA : Nat} {ad : Nat → Nat} {r : Int32} {υ : SC} {rq : Room} {Rc : Int32 → SC → Option (Int32 × SC)} {K4 : Int32 → Int32 → Int32 → SC → Option (Int32 × SC)} (X : hc p s m args meth c RX7 cX7_readCondition 4 (some .boolean)) (hK : kC D cs sK sV tA A s) (hA : ∀ q, s.heap.size ≤ q → A q) (hq0 : rq.cells = 0 ∧ rq.slots = 0) (hRc : ∀ (τ : SC) (x1 : Int32) (r : Int32) (υ : SC), Rc x1 τ = some (r, υ) → ctI l (wC ad cs) D vwCl (kC D cs sK sV tA) yX7_readCondition cX7_readCondition 4 .boolean rq [.ref (ad 330), .int x1] τ r υ) (hK4 : (∀ (x1 : Int32) (x2 : Int32) (x3 : Int32) (τ : SC), K4 x1 x2 x3 τ = some (r, υ) → gg p l e (ro_rd_readCondition rq) s m args below meth c (wC ad cs) D vwCl A 4 (QI below args s (wC ad cs) D vwCl A r υ) 4 [(0, .ref (ad 330)), (1, .int x1), (2, .int x2), (3, .int x3)] [] τ))  (x1 : Int32) (x3 : Int32) (y0 : Int32) (τ : SC) (hf : fc_rd_readCondition_b51 Rc K4 x1 x3 y0 τ = some (r, υ)) : gg p l e (ro_rd_readCondition rq) s m args below meth c (wC ad cs) D vwCl A 4 (QI below args s (wC ad cs) D vwCl A r υ) 51 [(0, .ref (ad 330)), (1, .int x1), (3, .int x3)] [.int y0] τ := by
  unfold fc_rd_readCondition_b51 at hf
  refine gr_istore_n (L2 := [(2, .int y0), (0, .ref (ad 330)), (1, .int x1), (3, .int x3)]) X dX7_readCondition_51 rfl (by decide) rfl ?_
  refine gr_iload_n X dX7_readCondition_52 rfl 0 rfl ?_
  refine gr_if_eq X 60 dX7_readCondition_53 (by decide) (fun hc_ => ?_) (fun hc_ => ?_)
  · replace hf := ot_t hf hc_
    refine gr_sub [1, 2, 0, 3] rfl ?_
    exact wc_rd_readCondition_b60 X hK hA hq0 hRc hK4 _ _ _ _ hf
  · replace hf := ot_f hf hc_
    refine gr_aload_n X dX7_readCondition_56 rfl 1 rfl ?_
    obtain ⟨τ4, hq_, hf⟩ := ot_b hf
    refine gc_Vv (rest := []) X kC_ok hK hA cw7_113 (rvC_RD hK) (xc_rd_advance hq_) rfl ⟨rfl, rfl, by simp only [ro_rd_readCondition, ro_rd_advance]; omega, by simp only [ro_rd_readCondition, ro_rd_advance]; omega⟩ rfl (Nat.le_of_ble_eq_true rfl) dX7_readCondition_57 ?_
    refine gr_sub [1, 2, 0, 3] rfl ?_
    exact wc_rd_readCondition_b60 X hK hA hq0 hRc hK4 _ _ _ _ hf
set_option maxHeartbeats 4000000 in
set_option maxRecDepth 100000 in
theorem wc_rd_readCondition_b37 {p : Program} {l : Launch} {e : Env} {s : State} {m : MethodId} {args : Array Value} {below : List Frame} {meth : Method} {c : Code} {A : Nat → Prop} {D : va_G} {cs : Nat → ClassId} {sK sV : Nat → Nat} {tA : Nat} {ad : Nat → Nat} {r : Int32} {υ : SC} {rq : Room} {Rc : Int32 → SC → Option (Int32 × SC)} {K4 : Int32 → Int32 → Int32 → SC → Option (Int32 × SC)} (X : hc p s m args meth c RX7 cX7_readCondition 4 (some .boolean)) (hK : kC D cs sK sV tA A s) (hA : ∀ q, s.heap.size ≤ q → A q) (hq0 : rq.cells = 0 ∧ rq.slots = 0) (hRc : ∀ (τ : SC) (x1 : Int32) (r : Int32) (υ : SC), Rc x1 τ = some (r, υ) → ctI l (wC ad cs) D vwCl (kC D cs sK sV tA) yX7_readCondition cX7_readCondition 4 .boolean rq [.ref (ad 330), .int x1] τ r υ) (hK4 : (∀ (x1 : Int32) (x2 : Int32) (x3 : Int32) (τ : SC), K4 x1 x2 x3 τ = some (r, υ) → gg p l e (ro_rd_readCondition rq) s m args below meth c (wC ad cs) D vwCl A 4 (QI below args s (wC ad cs) D vwCl A r υ) 4 [(0, .ref (ad 330)), (1, .int x1), (2, .int x2), (3, .int x3)] [] τ))  (x1 : Int32) (x3 : Int32) (τ : SC) (hf : fc_rd_readCondition_b37 Rc K4 x1 x3 τ = some (r, υ)) : gg p l e (ro_rd_readCondition rq) s m args below meth c (wC ad cs) D vwCl A 4 (QI below args s (wC ad cs) D vwCl A r υ) 37 [(0, .ref (ad 330)), (1, .int x1), (3, .int x3)] [] τ := by
  unfold fc_rd_readCondition_b37 at hf
  refine gr_aload_n X dX7_readCondition_37 rfl 0 rfl ?_
  refine gC_get_RD_7 X hK fk7_116 dX7_readCondition_38 ?_
  refine gr_bipush (v := 10) X dX7_readCondition_41 (by decide) ?_
  refine gr_icmp_ne X 50 dX7_readCondition_43 (by decide) (fun hc_ => ?_) (fun hc_ => ?_)
  · replace hf := ot_t hf hc_
    refine gr_iconst (v := 0) X dX7_readCondition_50 (by decide) ?_
    refine gr_sub [0, 1, 2] rfl ?_
    exact wc_rd_readCondition_b51 X hK hA hq0 hRc hK4 _ _ _ _ hf
  · replace hf := ot_f hf hc_
    refine gr_iconst (v := 1) X dX7_readCondition_46 (by decide) ?_
    refine gr_goto X 51 dX7_readCondition_47 (by decide) ?_
    refine gr_sub [0, 1, 2] rfl ?_
    exact wc_rd_readCondition_b51 X hK hA hq0 hRc hK4 _ _ _ _ hf
set_option maxHeartbeats 4000000 in
set_option maxRecDepth 100000 in
theorem wc_rd_readCondition_l4 {p : Program} {l : Launch} {e : Env} {s : State} {m : MethodId} {args : Array Value} {below : List Frame} {meth : Method} {c : Code} {A : Nat → Prop} {D : va_G} {cs : Nat → ClassId} {sK sV : Nat → Nat} {tA : Nat} {ad : Nat → Nat} {r : Int32} {υ : SC} {rq : Room} {Rc : Int32 → SC → Option (Int32 × SC)} (X : hc p s m args meth c RX7 cX7_readCondition 4 (some .boolean)) (hK : kC D cs sK sV tA A s) (hA : ∀ q, s.heap.size ≤ q → A q) (hq0 : rq.cells = 0 ∧ rq.slots = 0) (hRc : ∀ (τ : SC) (x1 : Int32) (r : Int32) (υ : SC), Rc x1 τ = some (r, υ) → ctI l (wC ad cs) D vwCl (kC D cs sK sV tA) yX7_readCondition cX7_readCondition 4 .boolean rq [.ref (ad 330), .int x1] τ r υ)  : ∀ (n : Nat) (x1 : Int32) (x2 : Int32) (x3 : Int32) (τ : SC), fc_rd_readCondition_l4 Rc n x1 x2 x3 τ = some (r, υ) → gg p l e (ro_rd_readCondition rq) s m args below meth c (wC ad cs) D vwCl A 4 (QI below args s (wC ad cs) D vwCl A r υ) 4 [(0, .ref (ad 330)), (1, .int x1), (2, .int x2), (3, .int x3)] [] τ := by
  intro n
  induction n with
  | zero =>
    intro x1 x2 x3 τ hf
    cases (show (none : Option (Int32 × SC)) = some (r, υ) from hf)
  | succ n ih =>
    intro x1 x2 x3 τ hf
    unfold fc_rd_readCondition_l4 at hf
    refine gr_iload_n X dX7_readCondition_4 rfl 3 rfl ?_
    refine gr_sipush (v := 200) X dX7_readCondition_5 (by decide) ?_
    refine gr_icmp_ge X 66 dX7_readCondition_8 (by decide) (fun hc_ => ?_) (fun hc_ => ?_)
    · replace hf := ot_t hf hc_
      refine gr_iconst (v := 1) X dX7_readCondition_66 (by decide) ?_
      exact gr_zret X dX7_readCondition_67 (by decide) (Prod.mk.inj (Option.some.inj hf)).1 (Prod.mk.inj (Option.some.inj hf)).2
    · replace hf := ot_f hf hc_
      refine gr_iload_n X dX7_readCondition_11 rfl 2 rfl ?_
      refine gr_if_eq X 66 dX7_readCondition_12 (by decide) (fun hc_ => ?_) (fun hc_ => ?_)
      · replace hf := ot_t hf hc_
        refine gr_iconst (v := 1) X dX7_readCondition_66 (by decide) ?_
        exact gr_zret X dX7_readCondition_67 (by decide) (Prod.mk.inj (Option.some.inj hf)).1 (Prod.mk.inj (Option.some.inj hf)).2
      · replace hf := ot_f hf hc_
        refine gr_aload_n X dX7_readCondition_15 rfl 0 rfl ?_
        refine gr_iload_n X dX7_readCondition_16 rfl 1 rfl ?_
        obtain ⟨⟨q1, τ2⟩, hq_, hf⟩ := ot_b hf
        replace hf := ot_l (y := q1) hf rfl
        replace hf := ot_l (y := τ2) hf rfl
        refine gc_Vi (rest := []) X kC_ok hK hA cw7_134 (rvC_RD hK) (xc_rd_readAlls hq0 hRc hq_) rfl ⟨rfl, rfl, by simp only [ro_rd_readCondition, ro_rd_readAlls]; omega, by simp only [ro_rd_readCondition, ro_rd_readAlls]; omega⟩ rfl (Nat.le_of_ble_eq_true rfl) dX7_readCondition_17 ?_
        refine gr_if_ne X 25 dX7_readCondition_20 (by decide) (fun hc_ => ?_) (fun hc_ => ?_)
        · replace hf := ot_t hf hc_
          refine gr_iload_n X dX7_readCondition_25 rfl 3 rfl ?_
          refine gr_if_le X 37 dX7_readCondition_26 (by decide) (fun hc_ => ?_) (fun hc_ => ?_)
          · replace hf := ot_t hf hc_
            refine gr_sub [0, 1, 3] rfl ?_
            exact wc_rd_readCondition_b37 X hK hA hq0 hRc ih _ _ _ hf
          · replace hf := ot_f hf hc_
            refine gr_aload_n X dX7_readCondition_29 rfl 0 rfl ?_
            refine gC_get_RD_0 X hK fk7_12 dX7_readCondition_30 ?_
            refine gr_iconst (v := 2) X dX7_readCondition_33 (by decide) ?_
            obtain ⟨τ6, hq_, hf⟩ := ot_b hf
            refine gc_Vv (rest := []) X kC_ok hK hA cw7_137 (rvC_R2 hK) (xc_ru_emit_R2 hq_) rfl ⟨rfl, rfl, by simp only [ro_rd_readCondition, ro_ru_emit_R2]; omega, by simp only [ro_rd_readCondition, ro_ru_emit_R2]; omega⟩ rfl (Nat.le_of_ble_eq_true rfl) dX7_readCondition_34 ?_
            refine gr_sub [0, 1, 3] rfl ?_
            exact wc_rd_readCondition_b37 X hK hA hq0 hRc ih _ _ _ hf
        · replace hf := ot_f hf hc_
          refine gr_iconst (v := 0) X dX7_readCondition_23 (by decide) ?_
          exact gr_zret X dX7_readCondition_24 (by decide) (Prod.mk.inj (Option.some.inj hf)).1 (Prod.mk.inj (Option.some.inj hf)).2
set_option maxHeartbeats 4000000 in
set_option maxRecDepth 100000 in
theorem xc_rd_readCondition {l : Launch} {D : va_G} {cs : Nat → ClassId} {sK sV : Nat → Nat} {tA : Nat} {ad : Nat → Nat} {τ : SC} {x1 : Int32} {r : Int32} {υ : SC} {rq : Room} {Rc : Int32 → SC → Option (Int32 × SC)} (hq0 : rq.cells = 0 ∧ rq.slots = 0) (hRc : ∀ (τ : SC) (x1 : Int32) (r : Int32) (υ : SC), Rc x1 τ = some (r, υ) → ctI l (wC ad cs) D vwCl (kC D cs sK sV tA) yX7_readCondition cX7_readCondition 4 .boolean rq [.ref (ad 330), .int x1] τ r υ) (hf : fc_rd_readCondition Rc x1 τ = some (r, υ)) : ctI l (wC ad cs) D vwCl (kC D cs sK sV tA) yX7_readCondition cX7_readCondition 4 .boolean (ro_rd_readCondition rq) [.ref (ad 330), .int x1] τ r υ := by
  refine ct_I RX7 (by decide +kernel) rfl (Nat.le_of_ble_eq_true rfl) ?_
  intro p e s m args below meth c A X hK hA
  refine gr_eqL (L2 := [(0, .ref (ad 330)), (1, .int x1)]) rfl ?_
  unfold fc_rd_readCondition at hf
  refine gr_iconst (v := 1) X dX7_readCondition_0 (by decide) ?_
  refine gr_istore_n (L2 := [(2, .int (1 : Int32)), (0, .ref (ad 330)), (1, .int x1)]) X dX7_readCondition_1 rfl (by decide) rfl ?_
  refine gr_iconst (v := 0) X dX7_readCondition_2 (by decide) ?_
  refine gr_istore_n (L2 := [(3, .int (0 : Int32)), (2, .int (1 : Int32)), (0, .ref (ad 330)), (1, .int x1)]) X dX7_readCondition_3 rfl (by decide) rfl ?_
  refine gr_sub [2, 3, 1, 0] rfl ?_
  refine wc_rd_readCondition_l4 X hK hA hq0 hRc  hFU _ _ _ _ hf
def fc_rd_readConditionD : Nat → Int32 → SC → Option (Int32 × SC)
  | 0 => fun _ _ => none
  | d + 1 => fc_rd_readCondition (fc_rd_readConditionD d)
def ro_rd_readConditionD : Nat → Room
  | 0 => { frames := 0, cells := 0, slots := 0, locals := 0 }
  | d + 1 => ro_rd_readCondition (ro_rd_readConditionD d)
theorem ro_rd_readConditionD_0 : ∀ d, (ro_rd_readConditionD d).cells = 0 ∧ (ro_rd_readConditionD d).slots = 0
  | 0 => ⟨rfl, rfl⟩
  | _ + 1 => ⟨rfl, rfl⟩
theorem xc_rd_readConditionA {l : Launch} {D : va_G} {cs : Nat → ClassId} {sK sV : Nat → Nat} {tA : Nat} {ad : Nat → Nat} : ∀ (d : Nat) (τ : SC) (x1 : Int32) (r : Int32) (υ : SC), fc_rd_readConditionD d x1 τ = some (r, υ) → ctI l (wC ad cs) D vwCl (kC D cs sK sV tA) yX7_readCondition cX7_readCondition 4 .boolean (ro_rd_readConditionD d) [.ref (ad 330), .int x1] τ r υ := by
  intro d
  induction d with
  | zero =>
    intro τ x1 r υ hf
    cases (show (none : Option (Int32 × SC)) = some (r, υ) from hf)
  | succ d ih =>
    intro τ x1 r υ hf
    exact xc_rd_readCondition (ro_rd_readConditionD_0 d) ih hf
abbrev ro_rd_readRule : Room := { frames := 65, cells := 0, slots := 0, locals := 1455 }
def fc_rd_readRule_b49 (x1 : Int32) (τ : SC) : Option (Int32 × SC) := (if (τ.1 307 0) < (6 : Int32) then (some ((0 : Int32), τ)) else (if (τ.1 307 0) ≤ (8 : Int32) then (hl ((τ.1 307 0) - (6 : Int32)) fun v4 => (Option.bind (fc_rd_advance τ) fun τ6 => (if (τ6.1 307 0) = (159 : Int32) then (Option.bind (fc_rd_advance τ6) fun τ8 => (Option.bind (fc_ru_close_R2 x1 v4 τ8) fun τ10 => (some ((1 : Int32), τ10)))) else (some ((0 : Int32), τ6))))) else (some ((0 : Int32), τ))))
def fc_rd_readRule (τ : SC) : Option (Int32 × SC) := (if (τ.1 307 0) < 0 then (some ((0 : Int32), τ)) else (if (τ.1 307 0) ≤ (5 : Int32) then (hl (τ.1 307 0) fun v1 => (Option.bind (fc_rd_advance τ) fun τ3 => (if ¬ (τ3.1 307 0) = (9 : Int32) then (fc_rd_readRule_b49 v1 τ3) else (Option.bind (fc_rd_advance τ3) fun τ12 => (Option.bind (fc_rd_readConditionD 8 (0 : Int32) τ12) fun p_ => hl p_.1 fun q13 => hl p_.2 fun τ14 => (if ¬ q13 = 0 then (fc_rd_readRule_b49 v1 τ14) else (some ((0 : Int32), τ14)))))))) else (some ((0 : Int32), τ))))
set_option maxHeartbeats 4000000 in
set_option maxRecDepth 100000 in
theorem wc_rd_readRule_b49 {p : Program} {l : Launch} {e : Env} {s : State} {m : MethodId} {args : Array Value} {below : List Frame} {meth : Method} {c : Code} {A : Nat → Prop} {D : va_G} {cs : Nat → ClassId} {sK sV : Nat → Nat} {tA : Nat} {ad : Nat → Nat} {r : Int32} {υ : SC} (X : hc p s m args meth c RX7 cX7_readRule 3 (some .boolean)) (hK : kC D cs sK sV tA A s) (hA : ∀ q, s.heap.size ≤ q → A q)   (x1 : Int32) (τ : SC) (hf : fc_rd_readRule_b49 x1 τ = some (r, υ)) : gg p l e ro_rd_readRule s m args below meth c (wC ad cs) D vwCl A 3 (QI below args s (wC ad cs) D vwCl A r υ) 49 [(0, .ref (ad 330)), (1, .int x1)] [] τ := by
  unfold fc_rd_readRule_b49 at hf
  refine gr_aload_n X dX7_readRule_49 rfl 0 rfl ?_
  refine gC_get_RD_7 X hK fk7_116 dX7_readRule_50 ?_
  refine gr_bipush (v := 6) X dX7_readRule_53 (by decide) ?_
  refine gr_icmp_lt X 67 dX7_readRule_55 (by decide) (fun hc_ => ?_) (fun hc_ => ?_)
  · replace hf := ot_t hf hc_
    refine gr_iconst (v := 0) X dX7_readRule_67 (by decide) ?_
    exact gr_zret X dX7_readRule_68 (by decide) (Prod.mk.inj (Option.some.inj hf)).1 (Prod.mk.inj (Option.some.inj hf)).2
  · replace hf := ot_f hf hc_
    refine gr_aload_n X dX7_readRule_58 rfl 0 rfl ?_
    refine gC_get_RD_7 X hK fk7_116 dX7_readRule_59 ?_
    refine gr_bipush (v := 8) X dX7_readRule_62 (by decide) ?_
    refine gr_icmp_le X 69 dX7_readRule_64 (by decide) (fun hc_ => ?_) (fun hc_ => ?_)
    · replace hf := ot_t hf hc_
      refine gr_aload_n X dX7_readRule_69 rfl 0 rfl ?_
      refine gC_get_RD_7 X hK fk7_116 dX7_readRule_70 ?_
      refine gr_bipush (v := 6) X dX7_readRule_73 (by decide) ?_
      refine gr_isub X dX7_readRule_75 ?_
      refine gC_top (fun v4 e_v4 => ?_)
      replace hf := ot_l hf e_v4
      refine gr_istore_n (L2 := [(2, .int v4), (0, .ref (ad 330)), (1, .int x1)]) X dX7_readRule_76 rfl (by decide) rfl ?_
      refine gr_aload_n X dX7_readRule_77 rfl 1 rfl ?_
      obtain ⟨τ6, hq_, hf⟩ := ot_b hf
      refine gc_Vv (rest := []) X kC_ok hK hA cw7_113 (rvC_RD hK) (xc_rd_advance hq_) rfl ⟨rfl, rfl, Nat.le_of_ble_eq_true rfl, Nat.le_of_ble_eq_true rfl⟩ rfl (Nat.le_of_ble_eq_true rfl) dX7_readRule_78 ?_
      refine gr_aload_n X dX7_readRule_81 rfl 1 rfl ?_
      refine gC_get_RD_7 X hK fk7_116 dX7_readRule_82 ?_
      refine gr_sipush (v := 159) X dX7_readRule_85 (by decide) ?_
      refine gr_icmp_eq X 93 dX7_readRule_88 (by decide) (fun hc_ => ?_) (fun hc_ => ?_)
      · replace hf := ot_t hf hc_
        refine gr_aload_n X dX7_readRule_93 rfl 1 rfl ?_
        obtain ⟨τ8, hq_, hf⟩ := ot_b hf
        refine gc_Vv (rest := []) X kC_ok hK hA cw7_113 (rvC_RD hK) (xc_rd_advance hq_) rfl ⟨rfl, rfl, Nat.le_of_ble_eq_true rfl, Nat.le_of_ble_eq_true rfl⟩ rfl (Nat.le_of_ble_eq_true rfl) dX7_readRule_94 ?_
        refine gr_aload_n X dX7_readRule_97 rfl 1 rfl ?_
        refine gC_get_RD_0 X hK fk7_12 dX7_readRule_98 ?_
        refine gr_iload_n X dX7_readRule_101 rfl 2 rfl ?_
        refine gr_iload_n X dX7_readRule_102 rfl 0 rfl ?_
        obtain ⟨τ10, hq_, hf⟩ := ot_b hf
        refine gc_Vv (rest := []) X kC_ok hK hA cw7_130 (rvC_R2 hK) (xc_ru_close_R2 hq_) rfl ⟨rfl, rfl, Nat.le_of_ble_eq_true rfl, Nat.le_of_ble_eq_true rfl⟩ rfl (Nat.le_of_ble_eq_true rfl) dX7_readRule_103 ?_
        refine gr_iconst (v := 1) X dX7_readRule_106 (by decide) ?_
        exact gr_zret X dX7_readRule_107 (by decide) (Prod.mk.inj (Option.some.inj hf)).1 (Prod.mk.inj (Option.some.inj hf)).2
      · replace hf := ot_f hf hc_
        refine gr_iconst (v := 0) X dX7_readRule_91 (by decide) ?_
        exact gr_zret X dX7_readRule_92 (by decide) (Prod.mk.inj (Option.some.inj hf)).1 (Prod.mk.inj (Option.some.inj hf)).2
    · replace hf := ot_f hf hc_
      refine gr_iconst (v := 0) X dX7_readRule_67 (by decide) ?_
      exact gr_zret X dX7_readRule_68 (by decide) (Prod.mk.inj (Option.some.inj hf)).1 (Prod.mk.inj (Option.some.inj hf)).2
set_option maxHeartbeats 4000000 in
set_option maxRecDepth 100000 in
theorem xc_rd_readRule {l : Launch} {D : va_G} {cs : Nat → ClassId} {sK sV : Nat → Nat} {tA : Nat} {ad : Nat → Nat} {τ : SC} {r : Int32} {υ : SC} (hf : fc_rd_readRule τ = some (r, υ)) : ctI l (wC ad cs) D vwCl (kC D cs sK sV tA) yX7_readRule cX7_readRule 3 .boolean ro_rd_readRule [.ref (ad 330)] τ r υ := by
  refine ct_I RX7 (by decide +kernel) rfl (Nat.le_of_ble_eq_true rfl) ?_
  intro p e s m args below meth c A X hK hA
  refine gr_eqL (L2 := [(0, .ref (ad 330))]) rfl ?_
  unfold fc_rd_readRule at hf
  refine gr_aload_n X dX7_readRule_0 rfl 0 rfl ?_
  refine gC_get_RD_7 X hK fk7_116 dX7_readRule_1 ?_
  refine gr_if_lt X 15 dX7_readRule_4 (by decide) (fun hc_ => ?_) (fun hc_ => ?_)
  · replace hf := ot_t hf hc_
    refine gr_iconst (v := 0) X dX7_readRule_15 (by decide) ?_
    exact gr_zret X dX7_readRule_16 (by decide) (Prod.mk.inj (Option.some.inj hf)).1 (Prod.mk.inj (Option.some.inj hf)).2
  · replace hf := ot_f hf hc_
    refine gr_aload_n X dX7_readRule_7 rfl 0 rfl ?_
    refine gC_get_RD_7 X hK fk7_116 dX7_readRule_8 ?_
    refine gr_iconst (v := 5) X dX7_readRule_11 (by decide) ?_
    refine gr_icmp_le X 17 dX7_readRule_12 (by decide) (fun hc_ => ?_) (fun hc_ => ?_)
    · replace hf := ot_t hf hc_
      refine gr_aload_n X dX7_readRule_17 rfl 0 rfl ?_
      refine gC_get_RD_7 X hK fk7_116 dX7_readRule_18 ?_
      refine gC_top (fun v1 e_v1 => ?_)
      replace hf := ot_l hf e_v1
      refine gr_istore_n (L2 := [(1, .int v1), (0, .ref (ad 330))]) X dX7_readRule_21 rfl (by decide) rfl ?_
      refine gr_aload_n X dX7_readRule_22 rfl 1 rfl ?_
      obtain ⟨τ3, hq_, hf⟩ := ot_b hf
      refine gc_Vv (rest := []) X kC_ok hK hA cw7_113 (rvC_RD hK) (xc_rd_advance hq_) rfl ⟨rfl, rfl, Nat.le_of_ble_eq_true rfl, Nat.le_of_ble_eq_true rfl⟩ rfl (Nat.le_of_ble_eq_true rfl) dX7_readRule_23 ?_
      refine gr_aload_n X dX7_readRule_26 rfl 1 rfl ?_
      refine gC_get_RD_7 X hK fk7_116 dX7_readRule_27 ?_
      refine gr_bipush (v := 9) X dX7_readRule_30 (by decide) ?_
      refine gr_icmp_ne X 49 dX7_readRule_32 (by decide) (fun hc_ => ?_) (fun hc_ => ?_)
      · replace hf := ot_t hf hc_
        refine gr_sub [1, 0] rfl ?_
        exact wc_rd_readRule_b49 X hK hA _ _ hf
      · replace hf := ot_f hf hc_
        refine gr_aload_n X dX7_readRule_35 rfl 1 rfl ?_
        obtain ⟨τ12, hq_, hf⟩ := ot_b hf
        refine gc_Vv (rest := []) X kC_ok hK hA cw7_113 (rvC_RD hK) (xc_rd_advance hq_) rfl ⟨rfl, rfl, Nat.le_of_ble_eq_true rfl, Nat.le_of_ble_eq_true rfl⟩ rfl (Nat.le_of_ble_eq_true rfl) dX7_readRule_36 ?_
        refine gr_aload_n X dX7_readRule_39 rfl 1 rfl ?_
        refine gr_iconst (v := 0) X dX7_readRule_40 (by decide) ?_
        obtain ⟨⟨q13, τ14⟩, hq_, hf⟩ := ot_b hf
        replace hf := ot_l (y := q13) hf rfl
        replace hf := ot_l (y := τ14) hf rfl
        refine gc_Vi (rest := []) X kC_ok hK hA cw7_126 (rvC_RD hK) (xc_rd_readConditionA 8 _ _ _ _ hq_) rfl ⟨rfl, rfl, Nat.le_of_ble_eq_true rfl, Nat.le_of_ble_eq_true rfl⟩ rfl (Nat.le_of_ble_eq_true rfl) dX7_readRule_41 ?_
        refine gr_if_ne X 49 dX7_readRule_44 (by decide) (fun hc_ => ?_) (fun hc_ => ?_)
        · replace hf := ot_t hf hc_
          refine gr_sub [1, 0] rfl ?_
          exact wc_rd_readRule_b49 X hK hA _ _ hf
        · replace hf := ot_f hf hc_
          refine gr_iconst (v := 0) X dX7_readRule_47 (by decide) ?_
          exact gr_zret X dX7_readRule_48 (by decide) (Prod.mk.inj (Option.some.inj hf)).1 (Prod.mk.inj (Option.some.inj hf)).2
    · replace hf := ot_f hf hc_
      refine gr_iconst (v := 0) X dX7_readRule_15 (by decide) ?_
      exact gr_zret X dX7_readRule_16 (by decide) (Prod.mk.inj (Option.some.inj hf)).1 (Prod.mk.inj (Option.some.inj hf)).2
abbrev ro_rd_readAll : Room := { frames := 66, cells := 0, slots := 0, locals := 1477 }
def fc_rd_readAll_l18 (K48 : SC → Option (Int32 × SC)) : Nat → Int32 → SC → Option (Int32 × SC)
  | 0, _, _ => none
  | n + 1, x1, τ => (if (8 : Int32) ≤ x1 then (K48 τ) else (if (τ.1 307 0) = (20 : Int32) then (K48 τ) else (Option.bind (fc_rd_readRule τ) fun p_ => hl p_.1 fun q6 => hl p_.2 fun τ7 => (if ¬ q6 = 0 then ((fc_rd_readAll_l18 K48 n) (x1 + (1 : Int32)) τ7) else (some ((0 : Int32), τ7))))))
def fc_rd_readAll_b48 (τ : SC) : Option (Int32 × SC) := (if ¬ (τ.1 307 0) = (20 : Int32) then (some ((0 : Int32), τ)) else (some ((1 : Int32), τ)))
def fc_rd_readAll (τ : SC) : Option (Int32 × SC) := (Option.bind (fc_ru_clear_R2 τ) fun τ2 => (hl (sc τ2 306 (fun _ => (-1 : Int32))) fun τ3 => (Option.bind (fc_rd_advance τ3) fun τ5 => (fc_rd_readAll_l18 (fun τ => (fc_rd_readAll_b48 τ)) hFU (0 : Int32) τ5))))
set_option maxHeartbeats 4000000 in
set_option maxRecDepth 100000 in
theorem wc_rd_readAll_l18 {p : Program} {l : Launch} {e : Env} {s : State} {m : MethodId} {args : Array Value} {below : List Frame} {meth : Method} {c : Code} {A : Nat → Prop} {D : va_G} {cs : Nat → ClassId} {sK sV : Nat → Nat} {tA : Nat} {ad : Nat → Nat} {r : Int32} {υ : SC} {K48 : SC → Option (Int32 × SC)} (X : hc p s m args meth c RX7 cX7_readAll 2 (some .boolean)) (hK : kC D cs sK sV tA A s) (hA : ∀ q, s.heap.size ≤ q → A q) (hK48 : (∀ (τ : SC), K48 τ = some (r, υ) → gg p l e ro_rd_readAll s m args below meth c (wC ad cs) D vwCl A 2 (QI below args s (wC ad cs) D vwCl A r υ) 48 [(0, .ref (ad 330))] [] τ)) : ∀ (n : Nat) (x1 : Int32) (τ : SC), fc_rd_readAll_l18 K48 n x1 τ = some (r, υ) → gg p l e ro_rd_readAll s m args below meth c (wC ad cs) D vwCl A 2 (QI below args s (wC ad cs) D vwCl A r υ) 18 [(0, .ref (ad 330)), (1, .int x1)] [] τ := by
  intro n
  induction n with
  | zero =>
    intro x1 τ hf
    cases (show (none : Option (Int32 × SC)) = some (r, υ) from hf)
  | succ n ih =>
    intro x1 τ hf
    unfold fc_rd_readAll_l18 at hf
    refine gr_iload_n X dX7_readAll_18 rfl 1 rfl ?_
    refine gr_bipush (v := 8) X dX7_readAll_19 (by decide) ?_
    refine gr_icmp_ge X 48 dX7_readAll_21 (by decide) (fun hc_ => ?_) (fun hc_ => ?_)
    · replace hf := ot_t hf hc_
      refine gr_sub [0] rfl ?_
      exact hK48 _ hf
    · replace hf := ot_f hf hc_
      refine gr_aload_n X dX7_readAll_24 rfl 0 rfl ?_
      refine gC_get_RD_7 X hK fk7_116 dX7_readAll_25 ?_
      refine gr_bipush (v := 20) X dX7_readAll_28 (by decide) ?_
      refine gr_icmp_eq X 48 dX7_readAll_30 (by decide) (fun hc_ => ?_) (fun hc_ => ?_)
      · replace hf := ot_t hf hc_
        refine gr_sub [0] rfl ?_
        exact hK48 _ hf
      · replace hf := ot_f hf hc_
        refine gr_aload_n X dX7_readAll_33 rfl 0 rfl ?_
        obtain ⟨⟨q6, τ7⟩, hq_, hf⟩ := ot_b hf
        replace hf := ot_l (y := q6) hf rfl
        replace hf := ot_l (y := τ7) hf rfl
        refine gc_Vi (rest := []) X kC_ok hK hA cw7_119 (rvC_RD hK) (xc_rd_readRule hq_) rfl ⟨rfl, rfl, Nat.le_of_ble_eq_true rfl, Nat.le_of_ble_eq_true rfl⟩ rfl (Nat.le_of_ble_eq_true rfl) dX7_readAll_34 ?_
        refine gr_if_ne X 42 dX7_readAll_37 (by decide) (fun hc_ => ?_) (fun hc_ => ?_)
        · replace hf := ot_t hf hc_
          refine gr_iinc (k := 1) (v := 1) (L2 := [(1, .int (x1 + (1 : Int32))), (0, .ref (ad 330))]) X dX7_readAll_42 rfl (by decide) (by decide) rfl ?_
          refine gr_goto X 18 dX7_readAll_45 (by decide) ?_
          refine gr_sub [1, 0] rfl ?_
          exact ih _ _ hf
        · replace hf := ot_f hf hc_
          refine gr_iconst (v := 0) X dX7_readAll_40 (by decide) ?_
          exact gr_zret X dX7_readAll_41 (by decide) (Prod.mk.inj (Option.some.inj hf)).1 (Prod.mk.inj (Option.some.inj hf)).2
set_option maxHeartbeats 4000000 in
set_option maxRecDepth 100000 in
theorem wc_rd_readAll_b48 {p : Program} {l : Launch} {e : Env} {s : State} {m : MethodId} {args : Array Value} {below : List Frame} {meth : Method} {c : Code} {A : Nat → Prop} {D : va_G} {cs : Nat → ClassId} {sK sV : Nat → Nat} {tA : Nat} {ad : Nat → Nat} {r : Int32} {υ : SC} (X : hc p s m args meth c RX7 cX7_readAll 2 (some .boolean)) (hK : kC D cs sK sV tA A s) (hA : ∀ q, s.heap.size ≤ q → A q)   (τ : SC) (hf : fc_rd_readAll_b48 τ = some (r, υ)) : gg p l e ro_rd_readAll s m args below meth c (wC ad cs) D vwCl A 2 (QI below args s (wC ad cs) D vwCl A r υ) 48 [(0, .ref (ad 330))] [] τ := by
  unfold fc_rd_readAll_b48 at hf
  refine gr_aload_n X dX7_readAll_48 rfl 0 rfl ?_
  refine gC_get_RD_7 X hK fk7_116 dX7_readAll_49 ?_
  refine gr_bipush (v := 20) X dX7_readAll_52 (by decide) ?_
  refine gr_icmp_ne X 61 dX7_readAll_54 (by decide) (fun hc_ => ?_) (fun hc_ => ?_)
  · replace hf := ot_t hf hc_
    refine gr_iconst (v := 0) X dX7_readAll_61 (by decide) ?_
    exact gr_zret X dX7_readAll_62 (by decide) (Prod.mk.inj (Option.some.inj hf)).1 (Prod.mk.inj (Option.some.inj hf)).2
  · replace hf := ot_f hf hc_
    refine gr_iconst (v := 1) X dX7_readAll_57 (by decide) ?_
    refine gr_goto X 62 dX7_readAll_58 (by decide) ?_
    exact gr_zret X dX7_readAll_62 (by decide) (Prod.mk.inj (Option.some.inj hf)).1 (Prod.mk.inj (Option.some.inj hf)).2
set_option maxHeartbeats 4000000 in
set_option maxRecDepth 100000 in
theorem xc_rd_readAll {l : Launch} {D : va_G} {cs : Nat → ClassId} {sK sV : Nat → Nat} {tA : Nat} {ad : Nat → Nat} {τ : SC} {r : Int32} {υ : SC} (hf : fc_rd_readAll τ = some (r, υ)) : ctI l (wC ad cs) D vwCl (kC D cs sK sV tA) yX7_readAll cX7_readAll 2 .boolean ro_rd_readAll [.ref (ad 330)] τ r υ := by
  refine ct_I RX7 (by decide +kernel) rfl (Nat.le_of_ble_eq_true rfl) ?_
  intro p e s m args below meth c A X hK hA
  refine gr_eqL (L2 := [(0, .ref (ad 330))]) rfl ?_
  unfold fc_rd_readAll at hf
  refine gr_aload_n X dX7_readAll_0 rfl 0 rfl ?_
  refine gC_get_RD_0 X hK fk7_12 dX7_readAll_1 ?_
  obtain ⟨τ2, hq_, hf⟩ := ot_b hf
  refine gc_Vv (rest := []) X kC_ok hK hA cw7_107 (rvC_R2 hK) (xc_ru_clear_R2 hq_) rfl ⟨rfl, rfl, Nat.le_of_ble_eq_true rfl, Nat.le_of_ble_eq_true rfl⟩ rfl (Nat.le_of_ble_eq_true rfl) dX7_readAll_4 ?_
  refine gr_aload_n X dX7_readAll_7 rfl 0 rfl ?_
  refine gr_iconst (v := -1) X dX7_readAll_8 (by decide) ?_
  refine gC_put_RD_6 X hK fk7_110 dX7_readAll_9 ?_
  refine gC_gen (fun τ3 e_τ3 => ?_)
  replace hf := ot_l hf e_τ3
  refine gr_aload_n X dX7_readAll_12 rfl 0 rfl ?_
  obtain ⟨τ5, hq_, hf⟩ := ot_b hf
  refine gc_Vv (rest := []) X kC_ok hK hA cw7_113 (rvC_RD hK) (xc_rd_advance hq_) rfl ⟨rfl, rfl, Nat.le_of_ble_eq_true rfl, Nat.le_of_ble_eq_true rfl⟩ rfl (Nat.le_of_ble_eq_true rfl) dX7_readAll_13 ?_
  refine gr_iconst (v := 0) X dX7_readAll_16 (by decide) ?_
  refine gr_istore_n (L2 := [(1, .int (0 : Int32)), (0, .ref (ad 330))]) X dX7_readAll_17 rfl (by decide) rfl ?_
  refine gr_sub [1, 0] rfl ?_
  refine wc_rd_readAll_l18 X hK hA (fun τ hf => ?_) hFU _ _ hf
  refine gr_sub [0] rfl ?_
  exact wc_rd_readAll_b48 X hK hA _ hf
abbrev ro_ru_copyFrom_R0_R2 : Room := { frames := 1, cells := 0, slots := 0, locals := 80 }
def fc_ru_copyFrom_R0_R2 (τ : SC) : Option SC := (hl (sc τ 120 (fun _ => (τ.1 320 0))) fun τ1 => (hl (sc τ1 121 (va_cpy (τ1.1 321) (τ1.1 121) 0 0 8)) fun τ2 => (hl (sc τ2 122 (va_cpy (τ2.1 322) (τ2.1 122) 0 0 8)) fun τ3 => (hl (sc τ3 123 (va_cpy (τ3.1 323) (τ3.1 123) 0 0 8)) fun τ4 => (hl (sc τ4 124 (va_cpy (τ4.1 324) (τ4.1 124) 0 0 200)) fun τ5 => (some τ5))))))
set_option maxHeartbeats 4000000 in
set_option maxRecDepth 100000 in
theorem xc_ru_copyFrom_R0_R2 {l : Launch} {D : va_G} {cs : Nat → ClassId} {sK sV : Nat → Nat} {tA : Nat} {ad : Nat → Nat} {τ : SC} {υ : SC} (hf : fc_ru_copyFrom_R0_R2 τ = some υ) : ctV l (wC ad cs) D vwCl (kC D cs sK sV tA) yX8_copyFrom cX8_copyFrom 2 ro_ru_copyFrom_R0_R2 [.ref (ad 131), .ref (ad 331)] τ υ := by
  refine ct_V RX8 (by decide +kernel) rfl (Nat.le_of_ble_eq_true rfl) ?_
  intro p e s m args below meth c A X hK hA
  refine gr_eqL (L2 := [(0, .ref (ad 131)), (1, .ref (ad 331))]) rfl ?_
  unfold fc_ru_copyFrom_R0_R2 at hf
  refine gr_aload_n X dX8_copyFrom_0 rfl 0 rfl ?_
  refine gr_aload_n X dX8_copyFrom_1 rfl 1 rfl ?_
  refine gC_get_R2_0 X hK fk8_30 dX8_copyFrom_2 ?_
  refine gC_put_R0_0 X hK fk8_30 dX8_copyFrom_5 ?_
  refine gC_gen (fun τ1 e_τ1 => ?_)
  replace hf := ot_l hf e_τ1
  refine gr_aload_n X dX8_copyFrom_8 rfl 1 rfl ?_
  refine gC_get_R2_1 X hK fk8_9 dX8_copyFrom_9 ?_
  refine gr_iconst (v := 0) X dX8_copyFrom_12 (by decide) ?_
  refine gr_aload_n X dX8_copyFrom_13 rfl 0 rfl ?_
  refine gC_get_R0_1 X hK fk8_9 dX8_copyFrom_14 ?_
  refine gr_iconst (v := 0) X dX8_copyFrom_17 (by decide) ?_
  refine gr_bipush (v := 8) X dX8_copyFrom_18 (by decide) ?_
  refine gC_copy_321_121 X hK cy8_34 ⟨Nat.le_of_ble_eq_true rfl, Nat.le_of_ble_eq_true rfl⟩ dX8_copyFrom_20 ?_
  refine gC_gen (fun τ2 e_τ2 => ?_)
  replace hf := ot_l hf e_τ2
  refine gr_aload_n X dX8_copyFrom_23 rfl 1 rfl ?_
  refine gC_get_R2_2 X hK fk8_15 dX8_copyFrom_24 ?_
  refine gr_iconst (v := 0) X dX8_copyFrom_27 (by decide) ?_
  refine gr_aload_n X dX8_copyFrom_28 rfl 0 rfl ?_
  refine gC_get_R0_2 X hK fk8_15 dX8_copyFrom_29 ?_
  refine gr_iconst (v := 0) X dX8_copyFrom_32 (by decide) ?_
  refine gr_bipush (v := 8) X dX8_copyFrom_33 (by decide) ?_
  refine gC_copy_322_122 X hK cy8_34 ⟨Nat.le_of_ble_eq_true rfl, Nat.le_of_ble_eq_true rfl⟩ dX8_copyFrom_35 ?_
  refine gC_gen (fun τ3 e_τ3 => ?_)
  replace hf := ot_l hf e_τ3
  refine gr_aload_n X dX8_copyFrom_38 rfl 1 rfl ?_
  refine gC_get_R2_3 X hK fk8_18 dX8_copyFrom_39 ?_
  refine gr_iconst (v := 0) X dX8_copyFrom_42 (by decide) ?_
  refine gr_aload_n X dX8_copyFrom_43 rfl 0 rfl ?_
  refine gC_get_R0_3 X hK fk8_18 dX8_copyFrom_44 ?_
  refine gr_iconst (v := 0) X dX8_copyFrom_47 (by decide) ?_
  refine gr_bipush (v := 8) X dX8_copyFrom_48 (by decide) ?_
  refine gC_copy_323_123 X hK cy8_34 ⟨Nat.le_of_ble_eq_true rfl, Nat.le_of_ble_eq_true rfl⟩ dX8_copyFrom_50 ?_
  refine gC_gen (fun τ4 e_τ4 => ?_)
  replace hf := ot_l hf e_τ4
  refine gr_aload_n X dX8_copyFrom_53 rfl 1 rfl ?_
  refine gC_get_R2_4 X hK fk8_21 dX8_copyFrom_54 ?_
  refine gr_iconst (v := 0) X dX8_copyFrom_57 (by decide) ?_
  refine gr_aload_n X dX8_copyFrom_58 rfl 0 rfl ?_
  refine gC_get_R0_4 X hK fk8_21 dX8_copyFrom_59 ?_
  refine gr_iconst (v := 0) X dX8_copyFrom_62 (by decide) ?_
  refine gr_sipush (v := 200) X dX8_copyFrom_63 (by decide) ?_
  refine gC_copy_324_124 X hK cy8_34 ⟨Nat.le_of_ble_eq_true rfl, Nat.le_of_ble_eq_true rfl⟩ dX8_copyFrom_66 ?_
  refine gC_gen (fun τ5 e_τ5 => ?_)
  replace hf := ot_l hf e_τ5
  exact gr_vret X dX8_copyFrom_69 (Option.some.inj hf)
abbrev ro_hh_rules : Room := { frames := 67, cells := 0, slots := 0, locals := 1498 }
def fc_hh_rules (τ : SC) : Option (Int32 × SC) := (Option.bind (fc_rd_scan_a6 (τ.1 7 0) τ) fun τ2 => (hl (sc τ2 7 (fun _ => (0 : Int32))) fun τ3 => (Option.bind (fc_rd_readAll τ3) fun p_ => hl p_.1 fun q4 => hl p_.2 fun τ5 => (if ¬ q4 = 0 then (Option.bind (fc_ru_copyFrom_R0_R2 τ5) fun τ7 => (some ((τ7.1 120 0), τ7))) else (some (((-100 : Int32) - (τ5.1 308 0)), τ5))))))
set_option maxHeartbeats 4000000 in
set_option maxRecDepth 100000 in
theorem xc_hh_rules {l : Launch} {D : va_G} {cs : Nat → ClassId} {sK sV : Nat → Nat} {tA : Nat} {ad : Nat → Nat} {τ : SC} {r : Int32} {υ : SC} (hf : fc_hh_rules τ = some (r, υ)) : ctI l (wC ad cs) D vwCl (kC D cs sK sV tA) yX11_rules cX11_rules 1 .int ro_hh_rules [.ref (ad 16)] τ r υ := by
  refine ct_I RX11 (by decide +kernel) rfl (Nat.le_of_ble_eq_true rfl) ?_
  intro p e s m args below meth c A X hK hA
  refine gr_eqL (L2 := [(0, .ref (ad 16))]) rfl ?_
  unfold fc_hh_rules at hf
  refine gr_aload_n X dX11_rules_0 rfl 0 rfl ?_
  refine gC_get_HH_4 X hK fk11_31 dX11_rules_1 ?_
  refine gr_aload_n X dX11_rules_4 rfl 0 rfl ?_
  refine gC_get_HH_6 X hK fk11_42 dX11_rules_5 ?_
  refine gr_aload_n X dX11_rules_8 rfl 0 rfl ?_
  refine gC_get_HH_7 X hK fk11_174 dX11_rules_9 ?_
  obtain ⟨τ2, hq_, hf⟩ := ot_b hf
  refine gc_Vv (rest := []) X kC_ok hK hA cw11_177 (rvC_RD hK) (xc_rd_scan_a6 hq_) rfl ⟨rfl, rfl, Nat.le_of_ble_eq_true rfl, Nat.le_of_ble_eq_true rfl⟩ rfl (Nat.le_of_ble_eq_true rfl) dX11_rules_12 ?_
  refine gr_aload_n X dX11_rules_15 rfl 0 rfl ?_
  refine gr_iconst (v := 0) X dX11_rules_16 (by decide) ?_
  refine gC_put_HH_7 X hK fk11_174 dX11_rules_17 ?_
  refine gC_gen (fun τ3 e_τ3 => ?_)
  replace hf := ot_l hf e_τ3
  refine gr_aload_n X dX11_rules_20 rfl 0 rfl ?_
  refine gC_get_HH_4 X hK fk11_31 dX11_rules_21 ?_
  obtain ⟨⟨q4, τ5⟩, hq_, hf⟩ := ot_b hf
  replace hf := ot_l (y := q4) hf rfl
  replace hf := ot_l (y := τ5) hf rfl
  refine gc_Vi (rest := []) X kC_ok hK hA cw11_181 (rvC_RD hK) (xc_rd_readAll hq_) rfl ⟨rfl, rfl, Nat.le_of_ble_eq_true rfl, Nat.le_of_ble_eq_true rfl⟩ rfl (Nat.le_of_ble_eq_true rfl) dX11_rules_24 ?_
  refine gr_if_ne X 41 dX11_rules_27 (by decide) (fun hc_ => ?_) (fun hc_ => ?_)
  · replace hf := ot_t hf hc_
    refine gr_aload_n X dX11_rules_41 rfl 0 rfl ?_
    refine gC_get_HH_0 X hK fk11_10 dX11_rules_42 ?_
    refine gC_get_T0_1 X hK fk11_186 dX11_rules_45 ?_
    refine gr_aload_n X dX11_rules_48 rfl 0 rfl ?_
    refine gC_get_HH_4 X hK fk11_31 dX11_rules_49 ?_
    refine gC_get_RD_0 X hK fk11_190 dX11_rules_52 ?_
    obtain ⟨τ7, hq_, hf⟩ := ot_b hf
    refine gc_Vv (rest := []) X kC_ok hK hA cw11_193 (rvC_R0 hK) (xc_ru_copyFrom_R0_R2 hq_) rfl ⟨rfl, rfl, Nat.le_of_ble_eq_true rfl, Nat.le_of_ble_eq_true rfl⟩ rfl (Nat.le_of_ble_eq_true rfl) dX11_rules_55 ?_
    refine gr_aload_n X dX11_rules_58 rfl 0 rfl ?_
    refine gC_get_HH_0 X hK fk11_10 dX11_rules_59 ?_
    refine gC_get_T0_1 X hK fk11_186 dX11_rules_62 ?_
    refine gC_get_R0_0 X hK fk11_199 dX11_rules_65 ?_
    exact gr_iret X dX11_rules_68 (Prod.mk.inj (Option.some.inj hf)).1 (Prod.mk.inj (Option.some.inj hf)).2
  · replace hf := ot_f hf hc_
    refine gr_bipush (v := -100) X dX11_rules_30 (by decide) ?_
    refine gr_aload_n X dX11_rules_32 rfl 0 rfl ?_
    refine gC_get_HH_4 X hK fk11_31 dX11_rules_33 ?_
    refine gC_get_RD_8 X hK fk11_184 dX11_rules_36 ?_
    refine gr_isub X dX11_rules_39 ?_
    exact gr_iret X dX11_rules_40 (Prod.mk.inj (Option.some.inj hf)).1 (Prod.mk.inj (Option.some.inj hf)).2
abbrev ro_hh_held : Room := { frames := 1, cells := 0, slots := 0, locals := 24 }
def fc_hh_held (x0 : Int32) (x1 : Int32) : Option Int32 := (some (hmax (0 : Int32) (hmin x1 x0)))
set_option maxHeartbeats 4000000 in
set_option maxRecDepth 100000 in
theorem xc_hh_held {l : Launch} {D : va_G} {cs : Nat → ClassId} {sK sV : Nat → Nat} {tA : Nat} {ad : Nat → Nat} {τ : SC} {x0 : Int32} {x1 : Int32} {r : Int32} (hf : fc_hh_held x0 x1 = some r) : ctI l (wC ad cs) D vwCl (kC D cs sK sV tA) yX11_held cX11_held 2 .int ro_hh_held [.int x0, .int x1] τ r τ := by
  refine ct_I RX11 (by decide +kernel) rfl (Nat.le_of_ble_eq_true rfl) ?_
  intro p e s m args below meth c A X hK hA
  refine gr_eqL (L2 := [(0, .int x0), (1, .int x1)]) rfl ?_
  unfold fc_hh_held at hf
  refine gr_iconst (v := 0) X dX11_held_0 (by decide) ?_
  refine gr_iload_n X dX11_held_1 rfl 1 rfl ?_
  refine gr_iload_n X dX11_held_2 rfl 0 rfl ?_
  refine gr_mmin X mk11_387 ⟨Nat.le_of_ble_eq_true rfl, Nat.le_of_ble_eq_true rfl⟩ dX11_held_3 ?_
  refine gr_mmax X mk11_390 ⟨Nat.le_of_ble_eq_true rfl, Nat.le_of_ble_eq_true rfl⟩ dX11_held_6 ?_
  exact gr_iret X dX11_held_9 (Option.some.inj hf) rfl
abbrev ro_to_moodByNews : Room := { frames := 2, cells := 0, slots := 0, locals := 45 }
def fc_to_moodByNews (τ : SC) (x1 : Int32) (x2 : Int32) : Option Int32 := (if x1 < 0 then (some x2) else (if x1 < (16 : Int32) then (oc (hin x1 16) (hl ((τ.1 110 (Int32.toNatClampNeg x1)) >>> ((2 : Int32) &&& 31)) fun v1 => (oc (hin x1 16) (if ((τ.1 110 (Int32.toNatClampNeg x1)) &&& (3 : Int32)) = 0 then (Option.bind (fc_hh_held (x2 + v1) (9 : Int32)) fun q2 => (some q2)) else (if ((τ.1 110 (Int32.toNatClampNeg x1)) &&& (3 : Int32)) = 1 then (Option.bind (fc_hh_held (x2 - v1) (9 : Int32)) fun q3 => (some q3)) else (if ((τ.1 110 (Int32.toNatClampNeg x1)) &&& (3 : Int32)) = 2 then (if (5 : Int32) ≤ x2 then (some (hmax (5 : Int32) (x2 - v1))) else (some (hmin (5 : Int32) (x2 + v1)))) else (some x2))))))) else (some x2)))
set_option maxHeartbeats 4000000 in
set_option maxRecDepth 100000 in
theorem xc_to_moodByNews {l : Launch} {D : va_G} {cs : Nat → ClassId} {sK sV : Nat → Nat} {tA : Nat} {ad : Nat → Nat} {τ : SC} {x1 : Int32} {x2 : Int32} {r : Int32} (hf : fc_to_moodByNews τ x1 x2 = some r) : ctI l (wC ad cs) D vwCl (kC D cs sK sV tA) yX9_moodByNews cX9_moodByNews 4 .int ro_to_moodByNews [.ref (ad 130), .int x1, .int x2] τ r τ := by
  refine ct_I RX9 (by decide +kernel) rfl (Nat.le_of_ble_eq_true rfl) ?_
  intro p e s m args below meth c A X hK hA
  refine gr_eqL (L2 := [(0, .ref (ad 130)), (1, .int x1), (2, .int x2)]) rfl ?_
  unfold fc_to_moodByNews at hf
  refine gr_iload_n X dX9_moodByNews_0 rfl 1 rfl ?_
  refine gr_if_lt X 10 dX9_moodByNews_1 (by decide) (fun hc_ => ?_) (fun hc_ => ?_)
  · replace hf := ot_t hf hc_
    refine gr_iload_n X dX9_moodByNews_10 rfl 2 rfl ?_
    exact gr_iret X dX9_moodByNews_11 (Option.some.inj hf) rfl
  · replace hf := ot_f hf hc_
    refine gr_iload_n X dX9_moodByNews_4 rfl 1 rfl ?_
    refine gr_bipush (v := 16) X dX9_moodByNews_5 (by decide) ?_
    refine gr_icmp_lt X 12 dX9_moodByNews_7 (by decide) (fun hc_ => ?_) (fun hc_ => ?_)
    · replace hf := ot_t hf hc_
      refine gr_aload_n X dX9_moodByNews_12 rfl 0 rfl ?_
      refine gC_get_T0_10 X hK fk9_50 dX9_moodByNews_13 ?_
      refine gr_iload_n X dX9_moodByNews_16 rfl 1 rfl ?_
      have hi_ := oc_1 hf
      replace hf := oc_2 hf
      refine gC_ald_110 X hK (Int32.toNatClampNeg x1) hi_ rfl dX9_moodByNews_17 ?_
      refine gr_iconst (v := 2) X dX9_moodByNews_18 (by decide) ?_
      refine gr_ishr X dX9_moodByNews_19 ?_
      refine gC_top (fun v1 e_v1 => ?_)
      replace hf := ot_l hf e_v1
      refine gr_istore_n (L2 := [(3, .int v1), (0, .ref (ad 130)), (1, .int x1), (2, .int x2)]) X dX9_moodByNews_20 rfl (by decide) rfl ?_
      refine gr_aload_n X dX9_moodByNews_21 rfl 1 rfl ?_
      refine gC_get_T0_10 X hK fk9_50 dX9_moodByNews_22 ?_
      refine gr_iload_n X dX9_moodByNews_25 rfl 2 rfl ?_
      have hi_ := oc_1 hf
      replace hf := oc_2 hf
      refine gC_ald_110 X hK (Int32.toNatClampNeg x1) hi_ rfl dX9_moodByNews_26 ?_
      refine gr_iconst (v := 3) X dX9_moodByNews_27 (by decide) ?_
      refine gr_iand X dX9_moodByNews_28 ?_
      by_cases hs0 : ((τ.1 110 (Int32.toNatClampNeg x1)) &&& (3 : Int32)) = 0
      · replace hf := ot_t hf hs0
        refine gr_tin X (0) 56 dX9_moodByNews_29 (by rw [hs0]; decide) (by decide) (by decide) rfl (by decide) ?_
        refine gr_iload_n X dX9_moodByNews_56 rfl 3 rfl ?_
        refine gr_iload_n X dX9_moodByNews_57 rfl 0 rfl ?_
        refine gr_iadd X dX9_moodByNews_58 ?_
        refine gr_bipush (v := 9) X dX9_moodByNews_59 (by decide) ?_
        obtain ⟨q2, hq_, hf⟩ := ot_b hf
        refine gc_Ni (rest := []) X kC_ok hK hA cw9_182 (hK.2.1 _ nw9_182) (xc_hh_held hq_) rfl ⟨rfl, rfl, Nat.le_of_ble_eq_true rfl, Nat.le_of_ble_eq_true rfl⟩ rfl (Nat.le_of_ble_eq_true rfl) dX9_moodByNews_61 ?_
        exact gr_iret X dX9_moodByNews_64 (Option.some.inj hf) rfl
      replace hf := ot_f hf hs0
      by_cases hs1 : ((τ.1 110 (Int32.toNatClampNeg x1)) &&& (3 : Int32)) = 1
      · replace hf := ot_t hf hs1
        refine gr_tin X (1) 65 dX9_moodByNews_29 (by rw [hs1]; decide) (by decide) (by decide) rfl (by decide) ?_
        refine gr_iload_n X dX9_moodByNews_65 rfl 3 rfl ?_
        refine gr_iload_n X dX9_moodByNews_66 rfl 0 rfl ?_
        refine gr_isub X dX9_moodByNews_67 ?_
        refine gr_bipush (v := 9) X dX9_moodByNews_68 (by decide) ?_
        obtain ⟨q3, hq_, hf⟩ := ot_b hf
        refine gc_Ni (rest := []) X kC_ok hK hA cw9_182 (hK.2.1 _ nw9_182) (xc_hh_held hq_) rfl ⟨rfl, rfl, Nat.le_of_ble_eq_true rfl, Nat.le_of_ble_eq_true rfl⟩ rfl (Nat.le_of_ble_eq_true rfl) dX9_moodByNews_70 ?_
        exact gr_iret X dX9_moodByNews_73 (Option.some.inj hf) rfl
      replace hf := ot_f hf hs1
      by_cases hs2 : ((τ.1 110 (Int32.toNatClampNeg x1)) &&& (3 : Int32)) = 2
      · replace hf := ot_t hf hs2
        refine gr_tin X (2) 74 dX9_moodByNews_29 (by rw [hs2]; decide) (by decide) (by decide) rfl (by decide) ?_
        refine gr_iload_n X dX9_moodByNews_74 rfl 3 rfl ?_
        refine gr_iconst (v := 5) X dX9_moodByNews_75 (by decide) ?_
        refine gr_icmp_ge X 89 dX9_moodByNews_76 (by decide) (fun hc_ => ?_) (fun hc_ => ?_)
        · replace hf := ot_t hf hc_
          refine gr_iconst (v := 5) X dX9_moodByNews_89 (by decide) ?_
          refine gr_iload_n X dX9_moodByNews_90 rfl 3 rfl ?_
          refine gr_iload_n X dX9_moodByNews_91 rfl 0 rfl ?_
          refine gr_isub X dX9_moodByNews_92 ?_
          refine gr_mmax X mk9_127 ⟨Nat.le_of_ble_eq_true rfl, Nat.le_of_ble_eq_true rfl⟩ dX9_moodByNews_93 ?_
          exact gr_iret X dX9_moodByNews_96 (Option.some.inj hf) rfl
        · replace hf := ot_f hf hc_
          refine gr_iconst (v := 5) X dX9_moodByNews_79 (by decide) ?_
          refine gr_iload_n X dX9_moodByNews_80 rfl 3 rfl ?_
          refine gr_iload_n X dX9_moodByNews_81 rfl 0 rfl ?_
          refine gr_iadd X dX9_moodByNews_82 ?_
          refine gr_mmin X mk9_133 ⟨Nat.le_of_ble_eq_true rfl, Nat.le_of_ble_eq_true rfl⟩ dX9_moodByNews_83 ?_
          refine gr_goto X 96 dX9_moodByNews_86 (by decide) ?_
          exact gr_iret X dX9_moodByNews_96 (Option.some.inj hf) rfl
      replace hf := ot_f hf hs2
      refine gr_tout X 97 dX9_moodByNews_29 (by have := lv_neT hs0 (show (0 : Int32).toInt = 0 by decide); have := lv_neT hs1 (show (1 : Int32).toInt = 1 by decide); have := lv_neT hs2 (show (2 : Int32).toInt = 2 by decide); omega) (by decide) ?_
      refine gr_iload_n X dX9_moodByNews_97 rfl 3 rfl ?_
      exact gr_iret X dX9_moodByNews_98 (Option.some.inj hf) rfl
    · replace hf := ot_f hf hc_
      refine gr_iload_n X dX9_moodByNews_10 rfl 2 rfl ?_
      exact gr_iret X dX9_moodByNews_11 (Option.some.inj hf) rfl
abbrev ro_to_handsAfter : Room := { frames := 1, cells := 0, slots := 0, locals := 24 }
def fc_to_handsAfter (x0 : Int32) (x1 : Int32) : Option Int32 := (some (hmin (99 : Int32) ((x0 + (6 : Int32)) - (x1 / (2 : Int32)))))
set_option maxHeartbeats 4000000 in
set_option maxRecDepth 100000 in
theorem xc_to_handsAfter {l : Launch} {D : va_G} {cs : Nat → ClassId} {sK sV : Nat → Nat} {tA : Nat} {ad : Nat → Nat} {τ : SC} {x0 : Int32} {x1 : Int32} {r : Int32} (hf : fc_to_handsAfter x0 x1 = some r) : ctI l (wC ad cs) D vwCl (kC D cs sK sV tA) yX9_handsAfter cX9_handsAfter 2 .int ro_to_handsAfter [.int x0, .int x1] τ r τ := by
  refine ct_I RX9 (by decide +kernel) rfl (Nat.le_of_ble_eq_true rfl) ?_
  intro p e s m args below meth c A X hK hA
  refine gr_eqL (L2 := [(0, .int x0), (1, .int x1)]) rfl ?_
  unfold fc_to_handsAfter at hf
  refine gr_bipush (v := 99) X dX9_handsAfter_0 (by decide) ?_
  refine gr_iload_n X dX9_handsAfter_2 rfl 0 rfl ?_
  refine gr_bipush (v := 6) X dX9_handsAfter_3 (by decide) ?_
  refine gr_iadd X dX9_handsAfter_5 ?_
  refine gr_iload_n X dX9_handsAfter_6 rfl 1 rfl ?_
  refine gr_iconst (v := 2) X dX9_handsAfter_7 (by decide) ?_
  refine gr_idiv X dX9_handsAfter_8 (by decide) ?_
  refine gr_isub X dX9_handsAfter_9 ?_
  refine gr_mmin X mk9_133 ⟨Nat.le_of_ble_eq_true rfl, Nat.le_of_ble_eq_true rfl⟩ dX9_handsAfter_10 ?_
  exact gr_iret X dX9_handsAfter_13 (Option.some.inj hf) rfl
abbrev ro_to_goOn : Room := { frames := 2, cells := 0, slots := 0, locals := 45 }
def fc_to_goOn (τ : SC) : Option SC := (Option.bind (fc_to_handsAfter (τ.1 106 0) (τ.1 105 0)) fun q1 => (hl (sc τ 106 (fun _ => q1)) fun τ2 => (hl (sc τ2 102 (fun _ => ((τ2.1 102 0) + (1 : Int32)))) fun τ3 => (some τ3))))
set_option maxHeartbeats 4000000 in
set_option maxRecDepth 100000 in
theorem xc_to_goOn {l : Launch} {D : va_G} {cs : Nat → ClassId} {sK sV : Nat → Nat} {tA : Nat} {ad : Nat → Nat} {τ : SC} {υ : SC} (hf : fc_to_goOn τ = some υ) : ctV l (wC ad cs) D vwCl (kC D cs sK sV tA) yX9_goOn cX9_goOn 1 ro_to_goOn [.ref (ad 130)] τ υ := by
  refine ct_V RX9 (by decide +kernel) rfl (Nat.le_of_ble_eq_true rfl) ?_
  intro p e s m args below meth c A X hK hA
  refine gr_eqL (L2 := [(0, .ref (ad 130))]) rfl ?_
  unfold fc_to_goOn at hf
  refine gr_aload_n X dX9_goOn_0 rfl 0 rfl ?_
  refine gr_aload_n X dX9_goOn_1 rfl 0 rfl ?_
  refine gC_get_T0_6 X hK fk9_111 dX9_goOn_2 ?_
  refine gr_aload_n X dX9_goOn_5 rfl 0 rfl ?_
  refine gC_get_T0_5 X hK fk9_44 dX9_goOn_6 ?_
  obtain ⟨q1, hq_, hf⟩ := ot_b hf
  refine gc_Si (rest := [.ref (ad 130)]) X kC_ok hK hA cw9_194 (xc_to_handsAfter hq_) rfl ⟨rfl, rfl, Nat.le_of_ble_eq_true rfl, Nat.le_of_ble_eq_true rfl⟩ rfl (Nat.le_of_ble_eq_true rfl) dX9_goOn_9 ?_
  refine gC_put_T0_6 X hK fk9_111 dX9_goOn_12 ?_
  refine gC_gen (fun τ2 e_τ2 => ?_)
  replace hf := ot_l hf e_τ2
  refine gr_aload_n X dX9_goOn_15 rfl 0 rfl ?_
  refine gr_dup X dX9_goOn_16 rfl ?_
  refine gC_get_T0_2 X hK fk9_108 dX9_goOn_17 ?_
  refine gr_iconst (v := 1) X dX9_goOn_20 (by decide) ?_
  refine gr_iadd X dX9_goOn_21 ?_
  refine gC_put_T0_2 X hK fk9_108 dX9_goOn_22 ?_
  refine gC_gen (fun τ3 e_τ3 => ?_)
  replace hf := ot_l hf e_τ3
  exact gr_vret X dX9_goOn_25 (Option.some.inj hf)
abbrev ro_to_isInTime : Room := { frames := 2, cells := 0, slots := 0, locals := 45 }
def fc_to_isInTime (τ : SC) (x1 : Int32) : Option Int32 := (Option.bind (fc_to_late τ x1) fun q1 => (oc (hin x1 6) (oc (hin (τ.1 117 (Int32.toNatClampNeg x1)) 6) (if (τ.1 112 (Int32.toNatClampNeg (τ.1 117 (Int32.toNatClampNeg x1)))) < q1 then (some (0 : Int32)) else (some (1 : Int32))))))
set_option maxHeartbeats 4000000 in
set_option maxRecDepth 100000 in
theorem xc_to_isInTime {l : Launch} {D : va_G} {cs : Nat → ClassId} {sK sV : Nat → Nat} {tA : Nat} {ad : Nat → Nat} {τ : SC} {x1 : Int32} {r : Int32} (hf : fc_to_isInTime τ x1 = some r) : ctI l (wC ad cs) D vwCl (kC D cs sK sV tA) yX9_isInTime cX9_isInTime 2 .boolean ro_to_isInTime [.ref (ad 130), .int x1] τ r τ := by
  refine ct_I RX9 (by decide +kernel) rfl (Nat.le_of_ble_eq_true rfl) ?_
  intro p e s m args below meth c A X hK hA
  refine gr_eqL (L2 := [(0, .ref (ad 130)), (1, .int x1)]) rfl ?_
  unfold fc_to_isInTime at hf
  refine gr_aload_n X dX9_isInTime_0 rfl 0 rfl ?_
  refine gr_iload_n X dX9_isInTime_1 rfl 1 rfl ?_
  obtain ⟨q1, hq_, hf⟩ := ot_b hf
  refine gc_Vi (rest := []) X kC_ok hK hA cw9_149 (rvC_T0 hK) (xc_to_late hq_) rfl ⟨rfl, rfl, Nat.le_of_ble_eq_true rfl, Nat.le_of_ble_eq_true rfl⟩ rfl (Nat.le_of_ble_eq_true rfl) dX9_isInTime_2 ?_
  refine gr_aload_n X dX9_isInTime_5 rfl 0 rfl ?_
  refine gC_get_T0_12 X hK fk9_57 dX9_isInTime_6 ?_
  refine gr_aload_n X dX9_isInTime_9 rfl 0 rfl ?_
  refine gC_get_T0_17 X hK fk9_69 dX9_isInTime_10 ?_
  refine gr_iload_n X dX9_isInTime_13 rfl 1 rfl ?_
  have hi_ := oc_1 hf
  replace hf := oc_2 hf
  refine gC_ald_117 X hK (Int32.toNatClampNeg x1) hi_ rfl dX9_isInTime_14 ?_
  have hi_ := oc_1 hf
  replace hf := oc_2 hf
  refine gC_ald_112 X hK (Int32.toNatClampNeg (τ.1 117 (Int32.toNatClampNeg x1))) hi_ rfl dX9_isInTime_15 ?_
  refine gr_icmp_gt X 23 dX9_isInTime_16 (by decide) (fun hc_ => ?_) (fun hc_ => ?_)
  · replace hf := ot_t hf hc_
    refine gr_iconst (v := 0) X dX9_isInTime_23 (by decide) ?_
    exact gr_zret X dX9_isInTime_24 (by decide) (Option.some.inj hf) rfl
  · replace hf := ot_f hf hc_
    refine gr_iconst (v := 1) X dX9_isInTime_19 (by decide) ?_
    refine gr_goto X 24 dX9_isInTime_20 (by decide) ?_
    exact gr_zret X dX9_isInTime_24 (by decide) (Option.some.inj hf) rfl
abbrev ro_to_calls : Room := { frames := 4, cells := 0, slots := 0, locals := 94 }
def fc_to_calls (x1 : Int32) (τ : SC) : Option (Int32 × SC) := (Option.bind (fc_hh_bit (τ.1 107 0) x1) fun q1 => (if ¬ q1 = 0 then (Option.bind (fc_to_will x1 τ) fun p_ => hl p_.1 fun q2 => hl p_.2 fun τ3 => (if ¬ q2 = (1 : Int32) then (Option.bind (fc_hh_withBit (τ3.1 107 0) x1 (0 : Int32)) fun q4 => (hl (sc τ3 107 (fun _ => q4)) fun τ5 => (if ¬ q2 = (2 : Int32) then (Option.bind (fc_to_cheersOf τ5 x1) fun q6 => (Option.bind (fc_hh_held ((τ5.1 105 0) + q6) (9 : Int32)) fun q7 => (hl (sc τ5 105 (fun _ => q7)) fun τ8 => (Option.bind (fc_to_isInTime τ8 x1) fun q9 => (if ¬ q9 = 0 then (Option.bind (fc_hh_withBit (τ8.1 108 0) x1 (1 : Int32)) fun q10 => (hl (sc τ8 108 (fun _ => q10)) fun τ11 => (Option.bind (fc_to_paysOf τ11 x1) fun q12 => (Option.bind (fc_to_late τ11 x1) fun q13 => (some ((q12 + (hmax (0 : Int32) ((9 : Int32) - q13))), τ11)))))) else (some ((0 : Int32), τ8))))))) else (some ((1 : Int32), τ5))))) else (some ((0 : Int32), τ3)))) else (some ((0 : Int32), τ))))
set_option maxHeartbeats 4000000 in
set_option maxRecDepth 100000 in
theorem xc_to_calls {l : Launch} {D : va_G} {cs : Nat → ClassId} {sK sV : Nat → Nat} {tA : Nat} {ad : Nat → Nat} {τ : SC} {x1 : Int32} {r : Int32} {υ : SC} (hf : fc_to_calls x1 τ = some (r, υ)) : ctI l (wC ad cs) D vwCl (kC D cs sK sV tA) yX9_calls cX9_calls 3 .int ro_to_calls [.ref (ad 130), .int x1] τ r υ := by
  refine ct_I RX9 (by decide +kernel) rfl (Nat.le_of_ble_eq_true rfl) ?_
  intro p e s m args below meth c A X hK hA
  refine gr_eqL (L2 := [(0, .ref (ad 130)), (1, .int x1)]) rfl ?_
  unfold fc_to_calls at hf
  refine gr_aload_n X dX9_calls_0 rfl 0 rfl ?_
  refine gC_get_T0_7 X hK fk9_114 dX9_calls_1 ?_
  refine gr_iload_n X dX9_calls_4 rfl 1 rfl ?_
  obtain ⟨q1, hq_, hf⟩ := ot_b hf
  refine gc_Ni (rest := []) X kC_ok hK hA cw9_172 (hK.2.1 _ nw9_172) (xc_hh_bit hq_) rfl ⟨rfl, rfl, Nat.le_of_ble_eq_true rfl, Nat.le_of_ble_eq_true rfl⟩ rfl (Nat.le_of_ble_eq_true rfl) dX9_calls_5 ?_
  refine gr_if_ne X 13 dX9_calls_8 (by decide) (fun hc_ => ?_) (fun hc_ => ?_)
  · replace hf := ot_t hf hc_
    refine gr_aload_n X dX9_calls_13 rfl 0 rfl ?_
    refine gr_iload_n X dX9_calls_14 rfl 1 rfl ?_
    obtain ⟨⟨q2, τ3⟩, hq_, hf⟩ := ot_b hf
    replace hf := ot_l (y := q2) hf rfl
    replace hf := ot_l (y := τ3) hf rfl
    refine gc_Vi (rest := []) X kC_ok hK hA cw9_185 (rvC_T0 hK) (xc_to_will hq_) rfl ⟨rfl, rfl, Nat.le_of_ble_eq_true rfl, Nat.le_of_ble_eq_true rfl⟩ rfl (Nat.le_of_ble_eq_true rfl) dX9_calls_15 ?_
    refine gr_istore_n (L2 := [(2, .int q2), (0, .ref (ad 130)), (1, .int x1)]) X dX9_calls_18 rfl (by decide) rfl ?_
    refine gr_iload_n X dX9_calls_19 rfl 0 rfl ?_
    refine gr_iconst (v := 1) X dX9_calls_20 (by decide) ?_
    refine gr_icmp_ne X 26 dX9_calls_21 (by decide) (fun hc_ => ?_) (fun hc_ => ?_)
    · replace hf := ot_t hf hc_
      refine gr_aload_n X dX9_calls_26 rfl 1 rfl ?_
      refine gr_aload_n X dX9_calls_27 rfl 1 rfl ?_
      refine gC_get_T0_7 X hK fk9_114 dX9_calls_28 ?_
      refine gr_iload_n X dX9_calls_31 rfl 2 rfl ?_
      refine gr_iconst (v := 0) X dX9_calls_32 (by decide) ?_
      obtain ⟨q4, hq_, hf⟩ := ot_b hf
      refine gc_Ni (rest := [.ref (ad 130)]) X kC_ok hK hA cw9_120 (hK.2.1 _ nw9_120) (xc_hh_withBit hq_) rfl ⟨rfl, rfl, Nat.le_of_ble_eq_true rfl, Nat.le_of_ble_eq_true rfl⟩ rfl (Nat.le_of_ble_eq_true rfl) dX9_calls_33 ?_
      refine gC_put_T0_7 X hK fk9_114 dX9_calls_36 ?_
      refine gC_gen (fun τ5 e_τ5 => ?_)
      replace hf := ot_l hf e_τ5
      refine gr_iload_n X dX9_calls_39 rfl 0 rfl ?_
      refine gr_iconst (v := 2) X dX9_calls_40 (by decide) ?_
      refine gr_icmp_ne X 46 dX9_calls_41 (by decide) (fun hc_ => ?_) (fun hc_ => ?_)
      · replace hf := ot_t hf hc_
        refine gr_aload_n X dX9_calls_46 rfl 1 rfl ?_
        refine gr_aload_n X dX9_calls_47 rfl 1 rfl ?_
        refine gC_get_T0_5 X hK fk9_44 dX9_calls_48 ?_
        refine gr_aload_n X dX9_calls_51 rfl 1 rfl ?_
        refine gr_iload_n X dX9_calls_52 rfl 2 rfl ?_
        obtain ⟨q6, hq_, hf⟩ := ot_b hf
        refine gc_Vi (rest := [.int (τ5.1 105 0), .ref (ad 130)]) X kC_ok hK hA cw9_188 (rvC_T0 hK) (xc_to_cheersOf hq_) rfl ⟨rfl, rfl, Nat.le_of_ble_eq_true rfl, Nat.le_of_ble_eq_true rfl⟩ rfl (Nat.le_of_ble_eq_true rfl) dX9_calls_53 ?_
        refine gr_iadd X dX9_calls_56 ?_
        refine gr_bipush (v := 9) X dX9_calls_57 (by decide) ?_
        obtain ⟨q7, hq_, hf⟩ := ot_b hf
        refine gc_Ni (rest := [.ref (ad 130)]) X kC_ok hK hA cw9_182 (hK.2.1 _ nw9_182) (xc_hh_held hq_) rfl ⟨rfl, rfl, Nat.le_of_ble_eq_true rfl, Nat.le_of_ble_eq_true rfl⟩ rfl (Nat.le_of_ble_eq_true rfl) dX9_calls_59 ?_
        refine gC_put_T0_5 X hK fk9_44 dX9_calls_62 ?_
        refine gC_gen (fun τ8 e_τ8 => ?_)
        replace hf := ot_l hf e_τ8
        refine gr_aload_n X dX9_calls_65 rfl 1 rfl ?_
        refine gr_iload_n X dX9_calls_66 rfl 2 rfl ?_
        obtain ⟨q9, hq_, hf⟩ := ot_b hf
        refine gc_Vi (rest := []) X kC_ok hK hA cw9_175 (rvC_T0 hK) (xc_to_isInTime hq_) rfl ⟨rfl, rfl, Nat.le_of_ble_eq_true rfl, Nat.le_of_ble_eq_true rfl⟩ rfl (Nat.le_of_ble_eq_true rfl) dX9_calls_67 ?_
        refine gr_if_ne X 75 dX9_calls_70 (by decide) (fun hc_ => ?_) (fun hc_ => ?_)
        · replace hf := ot_t hf hc_
          refine gr_aload_n X dX9_calls_75 rfl 1 rfl ?_
          refine gr_aload_n X dX9_calls_76 rfl 1 rfl ?_
          refine gC_get_T0_8 X hK fk9_117 dX9_calls_77 ?_
          refine gr_iload_n X dX9_calls_80 rfl 2 rfl ?_
          refine gr_iconst (v := 1) X dX9_calls_81 (by decide) ?_
          obtain ⟨q10, hq_, hf⟩ := ot_b hf
          refine gc_Ni (rest := [.ref (ad 130)]) X kC_ok hK hA cw9_120 (hK.2.1 _ nw9_120) (xc_hh_withBit hq_) rfl ⟨rfl, rfl, Nat.le_of_ble_eq_true rfl, Nat.le_of_ble_eq_true rfl⟩ rfl (Nat.le_of_ble_eq_true rfl) dX9_calls_82 ?_
          refine gC_put_T0_8 X hK fk9_117 dX9_calls_85 ?_
          refine gC_gen (fun τ11 e_τ11 => ?_)
          replace hf := ot_l hf e_τ11
          refine gr_aload_n X dX9_calls_88 rfl 1 rfl ?_
          refine gr_iload_n X dX9_calls_89 rfl 2 rfl ?_
          obtain ⟨q12, hq_, hf⟩ := ot_b hf
          refine gc_Vi (rest := []) X kC_ok hK hA cw9_191 (rvC_T0 hK) (xc_to_paysOf hq_) rfl ⟨rfl, rfl, Nat.le_of_ble_eq_true rfl, Nat.le_of_ble_eq_true rfl⟩ rfl (Nat.le_of_ble_eq_true rfl) dX9_calls_90 ?_
          refine gr_iconst (v := 0) X dX9_calls_93 (by decide) ?_
          refine gr_bipush (v := 9) X dX9_calls_94 (by decide) ?_
          refine gr_aload_n X dX9_calls_96 rfl 1 rfl ?_
          refine gr_iload_n X dX9_calls_97 rfl 2 rfl ?_
          obtain ⟨q13, hq_, hf⟩ := ot_b hf
          refine gc_Vi (rest := [.int (9 : Int32), .int (0 : Int32), .int q12]) X kC_ok hK hA cw9_149 (rvC_T0 hK) (xc_to_late hq_) rfl ⟨rfl, rfl, Nat.le_of_ble_eq_true rfl, Nat.le_of_ble_eq_true rfl⟩ rfl (Nat.le_of_ble_eq_true rfl) dX9_calls_98 ?_
          refine gr_isub X dX9_calls_101 ?_
          refine gr_mmax X mk9_127 ⟨Nat.le_of_ble_eq_true rfl, Nat.le_of_ble_eq_true rfl⟩ dX9_calls_102 ?_
          refine gr_iadd X dX9_calls_105 ?_
          exact gr_iret X dX9_calls_106 (Prod.mk.inj (Option.some.inj hf)).1 (Prod.mk.inj (Option.some.inj hf)).2
        · replace hf := ot_f hf hc_
          refine gr_iconst (v := 0) X dX9_calls_73 (by decide) ?_
          exact gr_iret X dX9_calls_74 (Prod.mk.inj (Option.some.inj hf)).1 (Prod.mk.inj (Option.some.inj hf)).2
      · replace hf := ot_f hf hc_
        refine gr_iconst (v := 1) X dX9_calls_44 (by decide) ?_
        exact gr_iret X dX9_calls_45 (Prod.mk.inj (Option.some.inj hf)).1 (Prod.mk.inj (Option.some.inj hf)).2
    · replace hf := ot_f hf hc_
      refine gr_iconst (v := 0) X dX9_calls_24 (by decide) ?_
      exact gr_iret X dX9_calls_25 (Prod.mk.inj (Option.some.inj hf)).1 (Prod.mk.inj (Option.some.inj hf)).2
  · replace hf := ot_f hf hc_
    refine gr_iconst (v := 0) X dX9_calls_11 (by decide) ?_
    exact gr_iret X dX9_calls_12 (Prod.mk.inj (Option.some.inj hf)).1 (Prod.mk.inj (Option.some.inj hf)).2
