abbrev ro_to_passAsInTheRest : Room := { frames := 5, cells := 0, slots := 0, locals := 116 }
def fc_to_passAsInTheRest_b57 (K20 : Int32 → Int32 → SC → Option (Int32 × SC)) (x1 : Int32) (x2 : Int32) (τ : SC) : Option (Int32 × SC) := (K20 x1 (x2 + (1 : Int32)) τ)
def fc_to_passAsInTheRest_l20 : Nat → Int32 → Int32 → SC → Option (Int32 × SC)
  | 0, _, _, _ => none
  | n + 1, x1, x2, τ => (if (τ.1 113 0) ≤ x2 then (Option.bind (fc_to_goOn τ) fun τ4 => (some (x1, τ4))) else (Option.bind (fc_hh_bit (τ.1 107 0) x2) fun q5 => (if ¬ q5 = (1 : Int32) then (fc_to_passAsInTheRest_b57 (fc_to_passAsInTheRest_l20 n) x1 x2 τ) else (Option.bind (fc_to_isInTime τ x2) fun q6 => (if q6 = 0 then (fc_to_passAsInTheRest_b57 (fc_to_passAsInTheRest_l20 n) x1 x2 τ) else (Option.bind (fc_to_calls x2 τ) fun p_ => hl p_.1 fun q7 => hl p_.2 fun τ8 => (Option.bind (fc_to_goOn τ8) fun τ10 => (some (q7, τ10)))))))))
def fc_to_passAsInTheRest (τ : SC) : Option (Int32 × SC) := (Option.bind (fc_to_moodByNews τ (τ.1 102 0) (τ.1 105 0)) fun q1 => (hl (sc τ 105 (fun _ => q1)) fun τ2 => (fc_to_passAsInTheRest_l20 hFU (0 : Int32) (0 : Int32) τ2)))
set_option maxHeartbeats 4000000 in
set_option maxRecDepth 100000 in
theorem wc_to_passAsInTheRest_b57 {p : Program} {l : Launch} {e : Env} {s : State} {m : MethodId} {args : Array Value} {below : List Frame} {meth : Method} {c : Code} {A : Nat → Prop} {D : va_G} {cs : Nat → ClassId} {sK sV : Nat → Nat} {tA : Nat} {ad : Nat → Nat} {r : Int32} {υ : SC} {K20 : Int32 → Int32 → SC → Option (Int32 × SC)} (X : hc p s m args meth c RX9 cX9_passAsInTheRest 3 (some .int)) (hK : kC D cs sK sV tA A s) (hA : ∀ q, s.heap.size ≤ q → A q) (hK20 : (∀ (x1 : Int32) (x2 : Int32) (τ : SC), K20 x1 x2 τ = some (r, υ) → gg p l e ro_to_passAsInTheRest s m args below meth c (wC ad cs) D vwCl A 3 (QI below args s (wC ad cs) D vwCl A r υ) 20 [(0, .ref (ad 130)), (1, .int x1), (2, .int x2)] [] τ))  (x1 : Int32) (x2 : Int32) (τ : SC) (hf : fc_to_passAsInTheRest_b57 K20 x1 x2 τ = some (r, υ)) : gg p l e ro_to_passAsInTheRest s m args below meth c (wC ad cs) D vwCl A 3 (QI below args s (wC ad cs) D vwCl A r υ) 57 [(0, .ref (ad 130)), (1, .int x1), (2, .int x2)] [] τ := by
  unfold fc_to_passAsInTheRest_b57 at hf
  refine gr_iinc (k := 2) (v := 1) (L2 := [(2, .int (x2 + (1 : Int32))), (0, .ref (ad 130)), (1, .int x1)]) X dX9_passAsInTheRest_57 rfl (by decide) (by decide) rfl ?_
  refine gr_goto X 20 dX9_passAsInTheRest_60 (by decide) ?_
  refine gr_sub [1, 2, 0] rfl ?_
  exact hK20 _ _ _ hf
set_option maxHeartbeats 4000000 in
set_option maxRecDepth 100000 in
theorem wc_to_passAsInTheRest_l20 {p : Program} {l : Launch} {e : Env} {s : State} {m : MethodId} {args : Array Value} {below : List Frame} {meth : Method} {c : Code} {A : Nat → Prop} {D : va_G} {cs : Nat → ClassId} {sK sV : Nat → Nat} {tA : Nat} {ad : Nat → Nat} {r : Int32} {υ : SC} (X : hc p s m args meth c RX9 cX9_passAsInTheRest 3 (some .int)) (hK : kC D cs sK sV tA A s) (hA : ∀ q, s.heap.size ≤ q → A q)  : ∀ (n : Nat) (x1 : Int32) (x2 : Int32) (τ : SC), fc_to_passAsInTheRest_l20 n x1 x2 τ = some (r, υ) → gg p l e ro_to_passAsInTheRest s m args below meth c (wC ad cs) D vwCl A 3 (QI below args s (wC ad cs) D vwCl A r υ) 20 [(0, .ref (ad 130)), (1, .int x1), (2, .int x2)] [] τ := by
  intro n
  induction n with
  | zero =>
    intro x1 x2 τ hf
    cases (show (none : Option (Int32 × SC)) = some (r, υ) from hf)
  | succ n ih =>
    intro x1 x2 τ hf
    unfold fc_to_passAsInTheRest_l20 at hf
    refine gr_iload_n X dX9_passAsInTheRest_20 rfl 2 rfl ?_
    refine gr_aload_n X dX9_passAsInTheRest_21 rfl 0 rfl ?_
    refine gC_get_T0_13 X hK fk9_96 dX9_passAsInTheRest_22 ?_
    refine gr_icmp_ge X 63 dX9_passAsInTheRest_25 (by decide) (fun hc_ => ?_) (fun hc_ => ?_)
    · replace hf := ot_t hf hc_
      refine gr_aload_n X dX9_passAsInTheRest_63 rfl 0 rfl ?_
      obtain ⟨τ4, hq_, hf⟩ := ot_b hf
      refine gc_Vv (rest := []) X kC_ok hK hA cw9_169 (rvC_T0 hK) (xc_to_goOn hq_) rfl ⟨rfl, rfl, Nat.le_of_ble_eq_true rfl, Nat.le_of_ble_eq_true rfl⟩ rfl (Nat.le_of_ble_eq_true rfl) dX9_passAsInTheRest_64 ?_
      refine gr_iload_n X dX9_passAsInTheRest_67 rfl 1 rfl ?_
      exact gr_iret X dX9_passAsInTheRest_68 (Prod.mk.inj (Option.some.inj hf)).1 (Prod.mk.inj (Option.some.inj hf)).2
    · replace hf := ot_f hf hc_
      refine gr_aload_n X dX9_passAsInTheRest_28 rfl 0 rfl ?_
      refine gC_get_T0_7 X hK fk9_114 dX9_passAsInTheRest_29 ?_
      refine gr_iload_n X dX9_passAsInTheRest_32 rfl 2 rfl ?_
      obtain ⟨q5, hq_, hf⟩ := ot_b hf
      refine gc_Ni (rest := []) X kC_ok hK hA cw9_172 (hK.2.1 _ nw9_172) (xc_hh_bit hq_) rfl ⟨rfl, rfl, Nat.le_of_ble_eq_true rfl, Nat.le_of_ble_eq_true rfl⟩ rfl (Nat.le_of_ble_eq_true rfl) dX9_passAsInTheRest_33 ?_
      refine gr_iconst (v := 1) X dX9_passAsInTheRest_36 (by decide) ?_
      refine gr_icmp_ne X 57 dX9_passAsInTheRest_37 (by decide) (fun hc_ => ?_) (fun hc_ => ?_)
      · replace hf := ot_t hf hc_
        refine gr_sub [0, 1, 2] rfl ?_
        exact wc_to_passAsInTheRest_b57 X hK hA ih _ _ _ hf
      · replace hf := ot_f hf hc_
        refine gr_aload_n X dX9_passAsInTheRest_40 rfl 0 rfl ?_
        refine gr_iload_n X dX9_passAsInTheRest_41 rfl 2 rfl ?_
        obtain ⟨q6, hq_, hf⟩ := ot_b hf
        refine gc_Vi (rest := []) X kC_ok hK hA cw9_175 (rvC_T0 hK) (xc_to_isInTime hq_) rfl ⟨rfl, rfl, Nat.le_of_ble_eq_true rfl, Nat.le_of_ble_eq_true rfl⟩ rfl (Nat.le_of_ble_eq_true rfl) dX9_passAsInTheRest_42 ?_
        refine gr_if_eq X 57 dX9_passAsInTheRest_45 (by decide) (fun hc_ => ?_) (fun hc_ => ?_)
        · replace hf := ot_t hf hc_
          refine gr_sub [0, 1, 2] rfl ?_
          exact wc_to_passAsInTheRest_b57 X hK hA ih _ _ _ hf
        · replace hf := ot_f hf hc_
          refine gr_aload_n X dX9_passAsInTheRest_48 rfl 0 rfl ?_
          refine gr_iload_n X dX9_passAsInTheRest_49 rfl 2 rfl ?_
          obtain ⟨⟨q7, τ8⟩, hq_, hf⟩ := ot_b hf
          replace hf := ot_l (y := q7) hf rfl
          replace hf := ot_l (y := τ8) hf rfl
          refine gc_Vi (rest := []) X kC_ok hK hA cw9_166 (rvC_T0 hK) (xc_to_calls hq_) rfl ⟨rfl, rfl, Nat.le_of_ble_eq_true rfl, Nat.le_of_ble_eq_true rfl⟩ rfl (Nat.le_of_ble_eq_true rfl) dX9_passAsInTheRest_50 ?_
          refine gr_istore_n (L2 := [(1, .int q7), (0, .ref (ad 130)), (2, .int x2)]) X dX9_passAsInTheRest_53 rfl (by decide) rfl ?_
          refine gr_goto X 63 dX9_passAsInTheRest_54 (by decide) ?_
          refine gr_aload_n X dX9_passAsInTheRest_63 rfl 1 rfl ?_
          obtain ⟨τ10, hq_, hf⟩ := ot_b hf
          refine gc_Vv (rest := []) X kC_ok hK hA cw9_169 (rvC_T0 hK) (xc_to_goOn hq_) rfl ⟨rfl, rfl, Nat.le_of_ble_eq_true rfl, Nat.le_of_ble_eq_true rfl⟩ rfl (Nat.le_of_ble_eq_true rfl) dX9_passAsInTheRest_64 ?_
          refine gr_iload_n X dX9_passAsInTheRest_67 rfl 0 rfl ?_
          exact gr_iret X dX9_passAsInTheRest_68 (Prod.mk.inj (Option.some.inj hf)).1 (Prod.mk.inj (Option.some.inj hf)).2
set_option maxHeartbeats 4000000 in
set_option maxRecDepth 100000 in
theorem xc_to_passAsInTheRest {l : Launch} {D : va_G} {cs : Nat → ClassId} {sK sV : Nat → Nat} {tA : Nat} {ad : Nat → Nat} {τ : SC} {r : Int32} {υ : SC} (hf : fc_to_passAsInTheRest τ = some (r, υ)) : ctI l (wC ad cs) D vwCl (kC D cs sK sV tA) yX9_passAsInTheRest cX9_passAsInTheRest 3 .int ro_to_passAsInTheRest [.ref (ad 130)] τ r υ := by
  refine ct_I RX9 (by decide +kernel) rfl (Nat.le_of_ble_eq_true rfl) ?_
  intro p e s m args below meth c A X hK hA
  refine gr_eqL (L2 := [(0, .ref (ad 130))]) rfl ?_
  unfold fc_to_passAsInTheRest at hf
  refine gr_aload_n X dX9_passAsInTheRest_0 rfl 0 rfl ?_
  refine gr_aload_n X dX9_passAsInTheRest_1 rfl 0 rfl ?_
  refine gr_aload_n X dX9_passAsInTheRest_2 rfl 0 rfl ?_
  refine gC_get_T0_2 X hK fk9_108 dX9_passAsInTheRest_3 ?_
  refine gr_aload_n X dX9_passAsInTheRest_6 rfl 0 rfl ?_
  refine gC_get_T0_5 X hK fk9_44 dX9_passAsInTheRest_7 ?_
  obtain ⟨q1, hq_, hf⟩ := ot_b hf
  refine gc_Vi (rest := [.ref (ad 130)]) X kC_ok hK hA cw9_159 (rvC_T0 hK) (xc_to_moodByNews hq_) rfl ⟨rfl, rfl, Nat.le_of_ble_eq_true rfl, Nat.le_of_ble_eq_true rfl⟩ rfl (Nat.le_of_ble_eq_true rfl) dX9_passAsInTheRest_10 ?_
  refine gC_put_T0_5 X hK fk9_44 dX9_passAsInTheRest_13 ?_
  refine gC_gen (fun τ2 e_τ2 => ?_)
  replace hf := ot_l hf e_τ2
  refine gr_iconst (v := 0) X dX9_passAsInTheRest_16 (by decide) ?_
  refine gr_istore_n (L2 := [(1, .int (0 : Int32)), (0, .ref (ad 130))]) X dX9_passAsInTheRest_17 rfl (by decide) rfl ?_
  refine gr_iconst (v := 0) X dX9_passAsInTheRest_18 (by decide) ?_
  refine gr_istore_n (L2 := [(2, .int (0 : Int32)), (1, .int (0 : Int32)), (0, .ref (ad 130))]) X dX9_passAsInTheRest_19 rfl (by decide) rfl ?_
  refine gr_sub [2, 1, 0] rfl ?_
  refine wc_to_passAsInTheRest_l20 X hK hA  hFU _ _ _ hf
abbrev ro_hh_scored : Room := { frames := 0, cells := 0, slots := 0, locals := 0 }
def fc_hh_scored (x1 : Int32) (τ : SC) : Option (Int32 × SC) := (hl (sc τ 104 (fun _ => ((τ.1 104 0) + x1))) fun τ1 => (some (x1, τ1)))
set_option maxHeartbeats 4000000 in
set_option maxRecDepth 100000 in
theorem xc_hh_scored {l : Launch} {D : va_G} {cs : Nat → ClassId} {sK sV : Nat → Nat} {tA : Nat} {ad : Nat → Nat} {τ : SC} {x1 : Int32} {r : Int32} {υ : SC} (hf : fc_hh_scored x1 τ = some (r, υ)) : ctI l (wC ad cs) D vwCl (kC D cs sK sV tA) yX11_scored cX11_scored 2 .int ro_hh_scored [.ref (ad 16), .int x1] τ r υ := by
  refine ct_I RX11 (by decide +kernel) rfl (Nat.le_of_ble_eq_true rfl) ?_
  intro p e s m args below meth c A X hK hA
  refine gr_eqL (L2 := [(0, .ref (ad 16)), (1, .int x1)]) rfl ?_
  unfold fc_hh_scored at hf
  refine gr_aload_n X dX11_scored_0 rfl 0 rfl ?_
  refine gC_get_HH_0 X hK fk11_10 dX11_scored_1 ?_
  refine gr_dup X dX11_scored_4 rfl ?_
  refine gC_get_T0_4 X hK fk11_167 dX11_scored_5 ?_
  refine gr_iload_n X dX11_scored_8 rfl 1 rfl ?_
  refine gr_iadd X dX11_scored_9 ?_
  refine gC_put_T0_4 X hK fk11_167 dX11_scored_10 ?_
  refine gC_gen (fun τ1 e_τ1 => ?_)
  replace hf := ot_l hf e_τ1
  refine gr_iload_n X dX11_scored_13 rfl 1 rfl ?_
  exact gr_iret X dX11_scored_14 (Prod.mk.inj (Option.some.inj hf)).1 (Prod.mk.inj (Option.some.inj hf)).2
abbrev ro_hh_hour : Room := { frames := 6, cells := 0, slots := 0, locals := 138 }
def fc_hh_hour (τ : SC) : Option (Int32 × SC) := (Option.bind (fc_to_isOver τ) fun q1 => (if q1 = 0 then (Option.bind (fc_to_passAsInTheRest τ) fun p_ => hl p_.1 fun q2 => hl p_.2 fun τ3 => (Option.bind (fc_hh_scored q2 τ3) fun p_ => hl p_.1 fun q4 => hl p_.2 fun τ5 => (some (q4, τ5)))) else (some ((-4 : Int32), τ))))
set_option maxHeartbeats 4000000 in
set_option maxRecDepth 100000 in
theorem xc_hh_hour {l : Launch} {D : va_G} {cs : Nat → ClassId} {sK sV : Nat → Nat} {tA : Nat} {ad : Nat → Nat} {τ : SC} {r : Int32} {υ : SC} (hf : fc_hh_hour τ = some (r, υ)) : ctI l (wC ad cs) D vwCl (kC D cs sK sV tA) yX11_hour cX11_hour 1 .int ro_hh_hour [.ref (ad 16)] τ r υ := by
  refine ct_I RX11 (by decide +kernel) rfl (Nat.le_of_ble_eq_true rfl) ?_
  intro p e s m args below meth c A X hK hA
  refine gr_eqL (L2 := [(0, .ref (ad 16))]) rfl ?_
  unfold fc_hh_hour at hf
  refine gr_aload_n X dX11_hour_0 rfl 0 rfl ?_
  refine gC_get_HH_0 X hK fk11_10 dX11_hour_1 ?_
  obtain ⟨q1, hq_, hf⟩ := ot_b hf
  refine gc_Vi (rest := []) X kC_ok hK hA cw11_170 (rvC_T0 hK) (xc_to_isOver hq_) rfl ⟨rfl, rfl, Nat.le_of_ble_eq_true rfl, Nat.le_of_ble_eq_true rfl⟩ rfl (Nat.le_of_ble_eq_true rfl) dX11_hour_4 ?_
  refine gr_if_eq X 13 dX11_hour_7 (by decide) (fun hc_ => ?_) (fun hc_ => ?_)
  · replace hf := ot_t hf hc_
    refine gr_aload_n X dX11_hour_13 rfl 0 rfl ?_
    refine gr_aload_n X dX11_hour_14 rfl 0 rfl ?_
    refine gC_get_HH_0 X hK fk11_10 dX11_hour_15 ?_
    obtain ⟨⟨q2, τ3⟩, hq_, hf⟩ := ot_b hf
    replace hf := ot_l (y := q2) hf rfl
    replace hf := ot_l (y := τ3) hf rfl
    refine gc_Vi (rest := [.ref (ad 16)]) X kC_ok hK hA cw11_202 (rvC_T0 hK) (xc_to_passAsInTheRest hq_) rfl ⟨rfl, rfl, Nat.le_of_ble_eq_true rfl, Nat.le_of_ble_eq_true rfl⟩ rfl (Nat.le_of_ble_eq_true rfl) dX11_hour_18 ?_
    obtain ⟨⟨q4, τ5⟩, hq_, hf⟩ := ot_b hf
    replace hf := ot_l (y := q4) hf rfl
    replace hf := ot_l (y := τ5) hf rfl
    refine gc_Vi (rest := []) X kC_ok hK hA cw11_206 (rvC_HH hK) (xc_hh_scored hq_) rfl ⟨rfl, rfl, Nat.le_of_ble_eq_true rfl, Nat.le_of_ble_eq_true rfl⟩ rfl (Nat.le_of_ble_eq_true rfl) dX11_hour_21 ?_
    exact gr_iret X dX11_hour_24 (Prod.mk.inj (Option.some.inj hf)).1 (Prod.mk.inj (Option.some.inj hf)).2
  · replace hf := ot_f hf hc_
    refine gr_bipush (v := -4) X dX11_hour_10 (by decide) ?_
    exact gr_iret X dX11_hour_12 (Prod.mk.inj (Option.some.inj hf)).1 (Prod.mk.inj (Option.some.inj hf)).2
abbrev ro_to_moment : Room := { frames := 0, cells := 0, slots := 0, locals := 0 }
def fc_to_moment (τ : SC) : Option Int32 := (some ((((((τ.1 102 0) <<< ((23 : Int32) &&& 31)) ||| ((τ.1 105 0) <<< ((19 : Int32) &&& 31))) ||| ((τ.1 106 0) <<< ((12 : Int32) &&& 31))) ||| ((τ.1 107 0) <<< ((6 : Int32) &&& 31))) ||| (τ.1 108 0)))
set_option maxHeartbeats 4000000 in
set_option maxRecDepth 100000 in
theorem xc_to_moment {l : Launch} {D : va_G} {cs : Nat → ClassId} {sK sV : Nat → Nat} {tA : Nat} {ad : Nat → Nat} {τ : SC} {r : Int32} (hf : fc_to_moment τ = some r) : ctI l (wC ad cs) D vwCl (kC D cs sK sV tA) yX9_moment cX9_moment 1 .int ro_to_moment [.ref (ad 130)] τ r τ := by
  refine ct_I RX9 (by decide +kernel) rfl (Nat.le_of_ble_eq_true rfl) ?_
  intro p e s m args below meth c A X hK hA
  refine gr_eqL (L2 := [(0, .ref (ad 130))]) rfl ?_
  unfold fc_to_moment at hf
  refine gr_aload_n X dX9_moment_0 rfl 0 rfl ?_
  refine gC_get_T0_2 X hK fk9_108 dX9_moment_1 ?_
  refine gr_bipush (v := 23) X dX9_moment_4 (by decide) ?_
  refine gr_ishl X dX9_moment_6 ?_
  refine gr_aload_n X dX9_moment_7 rfl 0 rfl ?_
  refine gC_get_T0_5 X hK fk9_44 dX9_moment_8 ?_
  refine gr_bipush (v := 19) X dX9_moment_11 (by decide) ?_
  refine gr_ishl X dX9_moment_13 ?_
  refine gr_ior X dX9_moment_14 ?_
  refine gr_aload_n X dX9_moment_15 rfl 0 rfl ?_
  refine gC_get_T0_6 X hK fk9_111 dX9_moment_16 ?_
  refine gr_bipush (v := 12) X dX9_moment_19 (by decide) ?_
  refine gr_ishl X dX9_moment_21 ?_
  refine gr_ior X dX9_moment_22 ?_
  refine gr_aload_n X dX9_moment_23 rfl 0 rfl ?_
  refine gC_get_T0_7 X hK fk9_114 dX9_moment_24 ?_
  refine gr_bipush (v := 6) X dX9_moment_27 (by decide) ?_
  refine gr_ishl X dX9_moment_29 ?_
  refine gr_ior X dX9_moment_30 ?_
  refine gr_aload_n X dX9_moment_31 rfl 0 rfl ?_
  refine gC_get_T0_8 X hK fk9_117 dX9_moment_32 ?_
  refine gr_ior X dX9_moment_35 ?_
  exact gr_iret X dX9_moment_36 (Option.some.inj hf) rfl
abbrev ro_to_hoursOf : Room := { frames := 1, cells := 0, slots := 0, locals := 24 }
def fc_to_hoursOf (τ : SC) (x1 : Int32) : Option Int32 := (some (hmin x1 (hmax (0 : Int32) ((τ.1 103 0) - (τ.1 102 0)))))
set_option maxHeartbeats 4000000 in
set_option maxRecDepth 100000 in
theorem xc_to_hoursOf {l : Launch} {D : va_G} {cs : Nat → ClassId} {sK sV : Nat → Nat} {tA : Nat} {ad : Nat → Nat} {τ : SC} {x1 : Int32} {r : Int32} (hf : fc_to_hoursOf τ x1 = some r) : ctI l (wC ad cs) D vwCl (kC D cs sK sV tA) yX9_hoursOf cX9_hoursOf 2 .int ro_to_hoursOf [.ref (ad 130), .int x1] τ r τ := by
  refine ct_I RX9 (by decide +kernel) rfl (Nat.le_of_ble_eq_true rfl) ?_
  intro p e s m args below meth c A X hK hA
  refine gr_eqL (L2 := [(0, .ref (ad 130)), (1, .int x1)]) rfl ?_
  unfold fc_to_hoursOf at hf
  refine gr_iload_n X dX9_hoursOf_0 rfl 1 rfl ?_
  refine gr_iconst (v := 0) X dX9_hoursOf_1 (by decide) ?_
  refine gr_aload_n X dX9_hoursOf_2 rfl 0 rfl ?_
  refine gC_get_T0_3 X hK fk9_40 dX9_hoursOf_3 ?_
  refine gr_aload_n X dX9_hoursOf_6 rfl 0 rfl ?_
  refine gC_get_T0_2 X hK fk9_108 dX9_hoursOf_7 ?_
  refine gr_isub X dX9_hoursOf_10 ?_
  refine gr_mmax X mk9_127 ⟨Nat.le_of_ble_eq_true rfl, Nat.le_of_ble_eq_true rfl⟩ dX9_hoursOf_11 ?_
  refine gr_mmin X mk9_133 ⟨Nat.le_of_ble_eq_true rfl, Nat.le_of_ble_eq_true rfl⟩ dX9_hoursOf_14 ?_
  exact gr_iret X dX9_hoursOf_17 (Option.some.inj hf) rfl
abbrev ro_to_recall : Room := { frames := 0, cells := 0, slots := 0, locals := 0 }
def fc_to_recall (x1 : Int32) (τ : SC) : Option SC := (hl (sc τ 102 (fun _ => (hushr x1 (23 : Int32)))) fun τ1 => (hl (sc τ1 105 (fun _ => ((hushr x1 (19 : Int32)) &&& (15 : Int32)))) fun τ2 => (hl (sc τ2 106 (fun _ => ((hushr x1 (12 : Int32)) &&& (127 : Int32)))) fun τ3 => (hl (sc τ3 107 (fun _ => ((hushr x1 (6 : Int32)) &&& (63 : Int32)))) fun τ4 => (hl (sc τ4 108 (fun _ => (x1 &&& (63 : Int32)))) fun τ5 => (some τ5))))))
set_option maxHeartbeats 4000000 in
set_option maxRecDepth 100000 in
theorem xc_to_recall {l : Launch} {D : va_G} {cs : Nat → ClassId} {sK sV : Nat → Nat} {tA : Nat} {ad : Nat → Nat} {τ : SC} {x1 : Int32} {υ : SC} (hf : fc_to_recall x1 τ = some υ) : ctV l (wC ad cs) D vwCl (kC D cs sK sV tA) yX9_recall cX9_recall 2 ro_to_recall [.ref (ad 130), .int x1] τ υ := by
  refine ct_V RX9 (by decide +kernel) rfl (Nat.le_of_ble_eq_true rfl) ?_
  intro p e s m args below meth c A X hK hA
  refine gr_eqL (L2 := [(0, .ref (ad 130)), (1, .int x1)]) rfl ?_
  unfold fc_to_recall at hf
  refine gr_aload_n X dX9_recall_0 rfl 0 rfl ?_
  refine gr_iload_n X dX9_recall_1 rfl 1 rfl ?_
  refine gr_bipush (v := 23) X dX9_recall_2 (by decide) ?_
  refine gr_iushr X dX9_recall_4 ?_
  refine gC_put_T0_2 X hK fk9_108 dX9_recall_5 ?_
  refine gC_gen (fun τ1 e_τ1 => ?_)
  replace hf := ot_l hf e_τ1
  refine gr_aload_n X dX9_recall_8 rfl 0 rfl ?_
  refine gr_iload_n X dX9_recall_9 rfl 1 rfl ?_
  refine gr_bipush (v := 19) X dX9_recall_10 (by decide) ?_
  refine gr_iushr X dX9_recall_12 ?_
  refine gr_bipush (v := 15) X dX9_recall_13 (by decide) ?_
  refine gr_iand X dX9_recall_15 ?_
  refine gC_put_T0_5 X hK fk9_44 dX9_recall_16 ?_
  refine gC_gen (fun τ2 e_τ2 => ?_)
  replace hf := ot_l hf e_τ2
  refine gr_aload_n X dX9_recall_19 rfl 0 rfl ?_
  refine gr_iload_n X dX9_recall_20 rfl 1 rfl ?_
  refine gr_bipush (v := 12) X dX9_recall_21 (by decide) ?_
  refine gr_iushr X dX9_recall_23 ?_
  refine gr_bipush (v := 127) X dX9_recall_24 (by decide) ?_
  refine gr_iand X dX9_recall_26 ?_
  refine gC_put_T0_6 X hK fk9_111 dX9_recall_27 ?_
  refine gC_gen (fun τ3 e_τ3 => ?_)
  replace hf := ot_l hf e_τ3
  refine gr_aload_n X dX9_recall_30 rfl 0 rfl ?_
  refine gr_iload_n X dX9_recall_31 rfl 1 rfl ?_
  refine gr_bipush (v := 6) X dX9_recall_32 (by decide) ?_
  refine gr_iushr X dX9_recall_34 ?_
  refine gr_bipush (v := 63) X dX9_recall_35 (by decide) ?_
  refine gr_iand X dX9_recall_37 ?_
  refine gC_put_T0_7 X hK fk9_114 dX9_recall_38 ?_
  refine gC_gen (fun τ4 e_τ4 => ?_)
  replace hf := ot_l hf e_τ4
  refine gr_aload_n X dX9_recall_41 rfl 0 rfl ?_
  refine gr_iload_n X dX9_recall_42 rfl 1 rfl ?_
  refine gr_bipush (v := 63) X dX9_recall_43 (by decide) ?_
  refine gr_iand X dX9_recall_45 ?_
  refine gC_put_T0_8 X hK fk9_117 dX9_recall_46 ?_
  refine gC_gen (fun τ5 e_τ5 => ?_)
  replace hf := ot_l hf e_τ5
  exact gr_vret X dX9_recall_49 (Option.some.inj hf)
abbrev ro_hh_on : Room := { frames := 6, cells := 0, slots := 0, locals := 138 }
def fc_hh_on_l34 : Nat → Int32 → Int32 → Int32 → Int32 → SC → Option (Int32 × SC)
  | 0, _, _, _, _, _ => none
  | n + 1, x2, x3, x4, x5, τ => (if x3 ≤ x5 then (Option.bind (fc_to_recall x2 τ) fun τ5 => (some (x4, τ5))) else (Option.bind (fc_to_passAsInTheRest τ) fun p_ => hl p_.1 fun q6 => hl p_.2 fun τ7 => (hl (x4 + q6) fun v8 => ((fc_hh_on_l34 n) x2 x3 v8 (x5 + (1 : Int32)) τ7))))
def fc_hh_on (x1 : Int32) (τ : SC) : Option (Int32 × SC) := (Option.bind (fc_hh_within x1 (16 : Int32)) fun q1 => (if ¬ q1 = 0 then (Option.bind (fc_to_moment τ) fun q2 => (Option.bind (fc_to_hoursOf τ x1) fun q3 => (fc_hh_on_l34 hFU q2 q3 (0 : Int32) (0 : Int32) τ))) else (some ((-1 : Int32), τ))))
set_option maxHeartbeats 4000000 in
set_option maxRecDepth 100000 in
theorem wc_hh_on_l34 {p : Program} {l : Launch} {e : Env} {s : State} {m : MethodId} {args : Array Value} {below : List Frame} {meth : Method} {c : Code} {A : Nat → Prop} {D : va_G} {cs : Nat → ClassId} {sK sV : Nat → Nat} {tA : Nat} {ad : Nat → Nat} {r : Int32} {υ : SC} (X : hc p s m args meth c RX11 cX11_on 6 (some .int)) (hK : kC D cs sK sV tA A s) (hA : ∀ q, s.heap.size ≤ q → A q)  : ∀ (n : Nat) (x2 : Int32) (x3 : Int32) (x4 : Int32) (x5 : Int32) (τ : SC), fc_hh_on_l34 n x2 x3 x4 x5 τ = some (r, υ) → gg p l e ro_hh_on s m args below meth c (wC ad cs) D vwCl A 6 (QI below args s (wC ad cs) D vwCl A r υ) 34 [(0, .ref (ad 16)), (2, .int x2), (3, .int x3), (4, .int x4), (5, .int x5)] [] τ := by
  intro n
  induction n with
  | zero =>
    intro x2 x3 x4 x5 τ hf
    cases (show (none : Option (Int32 × SC)) = some (r, υ) from hf)
  | succ n ih =>
    intro x2 x3 x4 x5 τ hf
    unfold fc_hh_on_l34 at hf
    refine gr_iload X dX11_on_34 4 rfl ?_
    refine gr_iload_n X dX11_on_36 rfl 2 rfl ?_
    refine gr_icmp_ge X 58 dX11_on_37 (by decide) (fun hc_ => ?_) (fun hc_ => ?_)
    · replace hf := ot_t hf hc_
      refine gr_aload_n X dX11_on_58 rfl 0 rfl ?_
      refine gC_get_HH_0 X hK fk11_10 dX11_on_59 ?_
      refine gr_iload_n X dX11_on_62 rfl 1 rfl ?_
      obtain ⟨τ5, hq_, hf⟩ := ot_b hf
      refine gc_Vv (rest := []) X kC_ok hK hA cw11_215 (rvC_T0 hK) (xc_to_recall hq_) rfl ⟨rfl, rfl, Nat.le_of_ble_eq_true rfl, Nat.le_of_ble_eq_true rfl⟩ rfl (Nat.le_of_ble_eq_true rfl) dX11_on_63 ?_
      refine gr_iload X dX11_on_66 3 rfl ?_
      exact gr_iret X dX11_on_68 (Prod.mk.inj (Option.some.inj hf)).1 (Prod.mk.inj (Option.some.inj hf)).2
    · replace hf := ot_f hf hc_
      refine gr_iload X dX11_on_40 3 rfl ?_
      refine gr_aload_n X dX11_on_42 rfl 0 rfl ?_
      refine gC_get_HH_0 X hK fk11_10 dX11_on_43 ?_
      obtain ⟨⟨q6, τ7⟩, hq_, hf⟩ := ot_b hf
      replace hf := ot_l (y := q6) hf rfl
      replace hf := ot_l (y := τ7) hf rfl
      refine gc_Vi (rest := [.int x4]) X kC_ok hK hA cw11_202 (rvC_T0 hK) (xc_to_passAsInTheRest hq_) rfl ⟨rfl, rfl, Nat.le_of_ble_eq_true rfl, Nat.le_of_ble_eq_true rfl⟩ rfl (Nat.le_of_ble_eq_true rfl) dX11_on_46 ?_
      refine gr_iadd X dX11_on_49 ?_
      refine gC_top (fun v8 e_v8 => ?_)
      replace hf := ot_l hf e_v8
      refine gr_istore (L2 := [(4, .int v8), (0, .ref (ad 16)), (2, .int x2), (3, .int x3), (5, .int x5)]) X dX11_on_50 (by decide) rfl ?_
      refine gr_iinc (k := 4) (v := 1) (L2 := [(5, .int (x5 + (1 : Int32))), (4, .int v8), (0, .ref (ad 16)), (2, .int x2), (3, .int x3)]) X dX11_on_52 rfl (by decide) (by decide) rfl ?_
      refine gr_goto X 34 dX11_on_55 (by decide) ?_
      refine gr_sub [2, 3, 4, 1, 0] rfl ?_
      exact ih _ _ _ _ _ hf
set_option maxHeartbeats 4000000 in
set_option maxRecDepth 100000 in
theorem xc_hh_on {l : Launch} {D : va_G} {cs : Nat → ClassId} {sK sV : Nat → Nat} {tA : Nat} {ad : Nat → Nat} {τ : SC} {x1 : Int32} {r : Int32} {υ : SC} (hf : fc_hh_on x1 τ = some (r, υ)) : ctI l (wC ad cs) D vwCl (kC D cs sK sV tA) yX11_on cX11_on 6 .int ro_hh_on [.ref (ad 16), .int x1] τ r υ := by
  refine ct_I RX11 (by decide +kernel) rfl (Nat.le_of_ble_eq_true rfl) ?_
  intro p e s m args below meth c A X hK hA
  refine gr_eqL (L2 := [(0, .ref (ad 16)), (1, .int x1)]) rfl ?_
  unfold fc_hh_on at hf
  refine gr_iload_n X dX11_on_0 rfl 1 rfl ?_
  refine gr_bipush (v := 16) X dX11_on_1 (by decide) ?_
  obtain ⟨q1, hq_, hf⟩ := ot_b hf
  refine gc_Si (rest := []) X kC_ok hK hA cw11_79 (xc_hh_within hq_) rfl ⟨rfl, rfl, Nat.le_of_ble_eq_true rfl, Nat.le_of_ble_eq_true rfl⟩ rfl (Nat.le_of_ble_eq_true rfl) dX11_on_3 ?_
  refine gr_if_ne X 11 dX11_on_6 (by decide) (fun hc_ => ?_) (fun hc_ => ?_)
  · replace hf := ot_t hf hc_
    refine gr_aload_n X dX11_on_11 rfl 0 rfl ?_
    refine gC_get_HH_0 X hK fk11_10 dX11_on_12 ?_
    obtain ⟨q2, hq_, hf⟩ := ot_b hf
    refine gc_Vi (rest := []) X kC_ok hK hA cw11_209 (rvC_T0 hK) (xc_to_moment hq_) rfl ⟨rfl, rfl, Nat.le_of_ble_eq_true rfl, Nat.le_of_ble_eq_true rfl⟩ rfl (Nat.le_of_ble_eq_true rfl) dX11_on_15 ?_
    refine gr_istore_n (L2 := [(2, .int q2), (0, .ref (ad 16)), (1, .int x1)]) X dX11_on_18 rfl (by decide) rfl ?_
    refine gr_aload_n X dX11_on_19 rfl 1 rfl ?_
    refine gC_get_HH_0 X hK fk11_10 dX11_on_20 ?_
    refine gr_iload_n X dX11_on_23 rfl 2 rfl ?_
    obtain ⟨q3, hq_, hf⟩ := ot_b hf
    refine gc_Vi (rest := []) X kC_ok hK hA cw11_212 (rvC_T0 hK) (xc_to_hoursOf hq_) rfl ⟨rfl, rfl, Nat.le_of_ble_eq_true rfl, Nat.le_of_ble_eq_true rfl⟩ rfl (Nat.le_of_ble_eq_true rfl) dX11_on_24 ?_
    refine gr_istore_n (L2 := [(3, .int q3), (2, .int q2), (0, .ref (ad 16)), (1, .int x1)]) X dX11_on_27 rfl (by decide) rfl ?_
    refine gr_iconst (v := 0) X dX11_on_28 (by decide) ?_
    refine gr_istore (L2 := [(4, .int (0 : Int32)), (3, .int q3), (2, .int q2), (0, .ref (ad 16)), (1, .int x1)]) X dX11_on_29 (by decide) rfl ?_
    refine gr_iconst (v := 0) X dX11_on_31 (by decide) ?_
    refine gr_istore (L2 := [(5, .int (0 : Int32)), (4, .int (0 : Int32)), (3, .int q3), (2, .int q2), (0, .ref (ad 16)), (1, .int x1)]) X dX11_on_32 (by decide) rfl ?_
    refine gr_sub [4, 3, 2, 1, 0] rfl ?_
    refine wc_hh_on_l34 X hK hA  hFU _ _ _ _ _ hf
  · replace hf := ot_f hf hc_
    refine gr_iconst (v := -1) X dX11_on_9 (by decide) ?_
    exact gr_iret X dX11_on_10 (Prod.mk.inj (Option.some.inj hf)).1 (Prod.mk.inj (Option.some.inj hf)).2
abbrev ro_to_hourOfLeaving : Room := { frames := 6, cells := 0, slots := 0, locals := 138 }
def fc_to_hourOfLeaving_b56 (K19 : Int32 → Int32 → Int32 → Int32 → Int32 → SC → Option (Int32 × SC)) (x1 : Int32) (x2 : Int32) (x3 : Int32) (x4 : Int32) (x5 : Int32) (τ : SC) : Option (Int32 × SC) := (K19 x1 x2 x3 x4 (x5 + (1 : Int32)) τ)
def fc_to_hourOfLeaving_l19 : Nat → Int32 → Int32 → Int32 → Int32 → Int32 → SC → Option (Int32 × SC)
  | 0, _, _, _, _, _, _ => none
  | n + 1, x1, x2, x3, x4, x5, τ => (if x3 ≤ x5 then (Option.bind (fc_to_recall x2 τ) fun τ4 => (some (x4, τ4))) else (if ¬ x4 = (-3 : Int32) then (Option.bind (fc_to_recall x2 τ) fun τ6 => (some (x4, τ6))) else (Option.bind (fc_to_passAsInTheRest τ) fun p_ => hl p_.1 fun q7 => hl p_.2 fun τ8 => (Option.bind (fc_hh_bit (τ8.1 107 0) x1) fun q9 => (if ¬ q9 = 0 then (fc_to_hourOfLeaving_b56 (fc_to_hourOfLeaving_l19 n) x1 x2 x3 x4 x5 τ8) else (hl ((τ8.1 102 0) - (1 : Int32)) fun v10 => (fc_to_hourOfLeaving_b56 (fc_to_hourOfLeaving_l19 n) x1 x2 x3 v10 x5 τ8)))))))
def fc_to_hourOfLeaving (x1 : Int32) (τ : SC) : Option (Int32 × SC) := (Option.bind (fc_to_moment τ) fun q1 => (Option.bind (fc_to_hoursOf τ (16 : Int32)) fun q2 => (fc_to_hourOfLeaving_l19 hFU x1 q1 q2 (-3 : Int32) (0 : Int32) τ)))
set_option maxHeartbeats 4000000 in
set_option maxRecDepth 100000 in
theorem wc_to_hourOfLeaving_b56 {p : Program} {l : Launch} {e : Env} {s : State} {m : MethodId} {args : Array Value} {below : List Frame} {meth : Method} {c : Code} {A : Nat → Prop} {D : va_G} {cs : Nat → ClassId} {sK sV : Nat → Nat} {tA : Nat} {ad : Nat → Nat} {r : Int32} {υ : SC} {K19 : Int32 → Int32 → Int32 → Int32 → Int32 → SC → Option (Int32 × SC)} (X : hc p s m args meth c RX9 cX9_hourOfLeaving 6 (some .int)) (hK : kC D cs sK sV tA A s) (hA : ∀ q, s.heap.size ≤ q → A q) (hK19 : (∀ (x1 : Int32) (x2 : Int32) (x3 : Int32) (x4 : Int32) (x5 : Int32) (τ : SC), K19 x1 x2 x3 x4 x5 τ = some (r, υ) → gg p l e ro_to_hourOfLeaving s m args below meth c (wC ad cs) D vwCl A 6 (QI below args s (wC ad cs) D vwCl A r υ) 19 [(0, .ref (ad 130)), (1, .int x1), (2, .int x2), (3, .int x3), (4, .int x4), (5, .int x5)] [] τ))  (x1 : Int32) (x2 : Int32) (x3 : Int32) (x4 : Int32) (x5 : Int32) (τ : SC) (hf : fc_to_hourOfLeaving_b56 K19 x1 x2 x3 x4 x5 τ = some (r, υ)) : gg p l e ro_to_hourOfLeaving s m args below meth c (wC ad cs) D vwCl A 6 (QI below args s (wC ad cs) D vwCl A r υ) 56 [(0, .ref (ad 130)), (1, .int x1), (2, .int x2), (3, .int x3), (4, .int x4), (5, .int x5)] [] τ := by
  unfold fc_to_hourOfLeaving_b56 at hf
  refine gr_iinc (k := 5) (v := 1) (L2 := [(5, .int (x5 + (1 : Int32))), (0, .ref (ad 130)), (1, .int x1), (2, .int x2), (3, .int x3), (4, .int x4)]) X dX9_hourOfLeaving_56 rfl (by decide) (by decide) rfl ?_
  refine gr_goto X 19 dX9_hourOfLeaving_59 (by decide) ?_
  refine gr_sub [1, 2, 3, 4, 5, 0] rfl ?_
  exact hK19 _ _ _ _ _ _ hf
set_option maxHeartbeats 4000000 in
set_option maxRecDepth 100000 in
theorem wc_to_hourOfLeaving_l19 {p : Program} {l : Launch} {e : Env} {s : State} {m : MethodId} {args : Array Value} {below : List Frame} {meth : Method} {c : Code} {A : Nat → Prop} {D : va_G} {cs : Nat → ClassId} {sK sV : Nat → Nat} {tA : Nat} {ad : Nat → Nat} {r : Int32} {υ : SC} (X : hc p s m args meth c RX9 cX9_hourOfLeaving 6 (some .int)) (hK : kC D cs sK sV tA A s) (hA : ∀ q, s.heap.size ≤ q → A q)  : ∀ (n : Nat) (x1 : Int32) (x2 : Int32) (x3 : Int32) (x4 : Int32) (x5 : Int32) (τ : SC), fc_to_hourOfLeaving_l19 n x1 x2 x3 x4 x5 τ = some (r, υ) → gg p l e ro_to_hourOfLeaving s m args below meth c (wC ad cs) D vwCl A 6 (QI below args s (wC ad cs) D vwCl A r υ) 19 [(0, .ref (ad 130)), (1, .int x1), (2, .int x2), (3, .int x3), (4, .int x4), (5, .int x5)] [] τ := by
  intro n
  induction n with
  | zero =>
    intro x1 x2 x3 x4 x5 τ hf
    cases (show (none : Option (Int32 × SC)) = some (r, υ) from hf)
  | succ n ih =>
    intro x1 x2 x3 x4 x5 τ hf
    unfold fc_to_hourOfLeaving_l19 at hf
    refine gr_iload X dX9_hourOfLeaving_19 5 rfl ?_
    refine gr_iload_n X dX9_hourOfLeaving_21 rfl 3 rfl ?_
    refine gr_icmp_ge X 62 dX9_hourOfLeaving_22 (by decide) (fun hc_ => ?_) (fun hc_ => ?_)
    · replace hf := ot_t hf hc_
      refine gr_aload_n X dX9_hourOfLeaving_62 rfl 0 rfl ?_
      refine gr_iload_n X dX9_hourOfLeaving_63 rfl 2 rfl ?_
      obtain ⟨τ4, hq_, hf⟩ := ot_b hf
      refine gc_Vv (rest := []) X kC_ok hK hA cw9_89 (rvC_T0 hK) (xc_to_recall hq_) rfl ⟨rfl, rfl, Nat.le_of_ble_eq_true rfl, Nat.le_of_ble_eq_true rfl⟩ rfl (Nat.le_of_ble_eq_true rfl) dX9_hourOfLeaving_64 ?_
      refine gr_iload X dX9_hourOfLeaving_67 4 rfl ?_
      exact gr_iret X dX9_hourOfLeaving_69 (Prod.mk.inj (Option.some.inj hf)).1 (Prod.mk.inj (Option.some.inj hf)).2
    · replace hf := ot_f hf hc_
      refine gr_iload X dX9_hourOfLeaving_25 4 rfl ?_
      refine gr_bipush (v := -3) X dX9_hourOfLeaving_27 (by decide) ?_
      refine gr_icmp_ne X 62 dX9_hourOfLeaving_29 (by decide) (fun hc_ => ?_) (fun hc_ => ?_)
      · replace hf := ot_t hf hc_
        refine gr_aload_n X dX9_hourOfLeaving_62 rfl 0 rfl ?_
        refine gr_iload_n X dX9_hourOfLeaving_63 rfl 2 rfl ?_
        obtain ⟨τ6, hq_, hf⟩ := ot_b hf
        refine gc_Vv (rest := []) X kC_ok hK hA cw9_89 (rvC_T0 hK) (xc_to_recall hq_) rfl ⟨rfl, rfl, Nat.le_of_ble_eq_true rfl, Nat.le_of_ble_eq_true rfl⟩ rfl (Nat.le_of_ble_eq_true rfl) dX9_hourOfLeaving_64 ?_
        refine gr_iload X dX9_hourOfLeaving_67 4 rfl ?_
        exact gr_iret X dX9_hourOfLeaving_69 (Prod.mk.inj (Option.some.inj hf)).1 (Prod.mk.inj (Option.some.inj hf)).2
      · replace hf := ot_f hf hc_
        refine gr_aload_n X dX9_hourOfLeaving_32 rfl 0 rfl ?_
        obtain ⟨⟨q7, τ8⟩, hq_, hf⟩ := ot_b hf
        replace hf := ot_l (y := q7) hf rfl
        replace hf := ot_l (y := τ8) hf rfl
        refine gc_Vi (rest := []) X kC_ok hK hA cw9_200 (rvC_T0 hK) (xc_to_passAsInTheRest hq_) rfl ⟨rfl, rfl, Nat.le_of_ble_eq_true rfl, Nat.le_of_ble_eq_true rfl⟩ rfl (Nat.le_of_ble_eq_true rfl) dX9_hourOfLeaving_33 ?_
        refine gr_pop X dX9_hourOfLeaving_36 rfl ?_
        refine gr_aload_n X dX9_hourOfLeaving_37 rfl 0 rfl ?_
        refine gC_get_T0_7 X hK fk9_114 dX9_hourOfLeaving_38 ?_
        refine gr_iload_n X dX9_hourOfLeaving_41 rfl 1 rfl ?_
        obtain ⟨q9, hq_, hf⟩ := ot_b hf
        refine gc_Ni (rest := []) X kC_ok hK hA cw9_172 (hK.2.1 _ nw9_172) (xc_hh_bit hq_) rfl ⟨rfl, rfl, Nat.le_of_ble_eq_true rfl, Nat.le_of_ble_eq_true rfl⟩ rfl (Nat.le_of_ble_eq_true rfl) dX9_hourOfLeaving_42 ?_
        refine gr_if_ne X 56 dX9_hourOfLeaving_45 (by decide) (fun hc_ => ?_) (fun hc_ => ?_)
        · replace hf := ot_t hf hc_
          refine gr_sub [0, 1, 2, 3, 4, 5] rfl ?_
          exact wc_to_hourOfLeaving_b56 X hK hA ih _ _ _ _ _ _ hf
        · replace hf := ot_f hf hc_
          refine gr_aload_n X dX9_hourOfLeaving_48 rfl 0 rfl ?_
          refine gC_get_T0_2 X hK fk9_108 dX9_hourOfLeaving_49 ?_
          refine gr_iconst (v := 1) X dX9_hourOfLeaving_52 (by decide) ?_
          refine gr_isub X dX9_hourOfLeaving_53 ?_
          refine gC_top (fun v10 e_v10 => ?_)
          replace hf := ot_l hf e_v10
          refine gr_istore (L2 := [(4, .int v10), (0, .ref (ad 130)), (1, .int x1), (2, .int x2), (3, .int x3), (5, .int x5)]) X dX9_hourOfLeaving_54 (by decide) rfl ?_
          refine gr_sub [1, 2, 3, 4, 0, 5] rfl ?_
          exact wc_to_hourOfLeaving_b56 X hK hA ih _ _ _ _ _ _ hf
set_option maxHeartbeats 4000000 in
set_option maxRecDepth 100000 in
theorem xc_to_hourOfLeaving {l : Launch} {D : va_G} {cs : Nat → ClassId} {sK sV : Nat → Nat} {tA : Nat} {ad : Nat → Nat} {τ : SC} {x1 : Int32} {r : Int32} {υ : SC} (hf : fc_to_hourOfLeaving x1 τ = some (r, υ)) : ctI l (wC ad cs) D vwCl (kC D cs sK sV tA) yX9_hourOfLeaving cX9_hourOfLeaving 6 .int ro_to_hourOfLeaving [.ref (ad 130), .int x1] τ r υ := by
  refine ct_I RX9 (by decide +kernel) rfl (Nat.le_of_ble_eq_true rfl) ?_
  intro p e s m args below meth c A X hK hA
  refine gr_eqL (L2 := [(0, .ref (ad 130)), (1, .int x1)]) rfl ?_
  unfold fc_to_hourOfLeaving at hf
  refine gr_aload_n X dX9_hourOfLeaving_0 rfl 0 rfl ?_
  obtain ⟨q1, hq_, hf⟩ := ot_b hf
  refine gc_Vi (rest := []) X kC_ok hK hA cw9_85 (rvC_T0 hK) (xc_to_moment hq_) rfl ⟨rfl, rfl, Nat.le_of_ble_eq_true rfl, Nat.le_of_ble_eq_true rfl⟩ rfl (Nat.le_of_ble_eq_true rfl) dX9_hourOfLeaving_1 ?_
  refine gr_istore_n (L2 := [(2, .int q1), (0, .ref (ad 130)), (1, .int x1)]) X dX9_hourOfLeaving_4 rfl (by decide) rfl ?_
  refine gr_aload_n X dX9_hourOfLeaving_5 rfl 1 rfl ?_
  refine gr_bipush (v := 16) X dX9_hourOfLeaving_6 (by decide) ?_
  obtain ⟨q2, hq_, hf⟩ := ot_b hf
  refine gc_Vi (rest := []) X kC_ok hK hA cw9_197 (rvC_T0 hK) (xc_to_hoursOf hq_) rfl ⟨rfl, rfl, Nat.le_of_ble_eq_true rfl, Nat.le_of_ble_eq_true rfl⟩ rfl (Nat.le_of_ble_eq_true rfl) dX9_hourOfLeaving_8 ?_
  refine gr_istore_n (L2 := [(3, .int q2), (2, .int q1), (0, .ref (ad 130)), (1, .int x1)]) X dX9_hourOfLeaving_11 rfl (by decide) rfl ?_
  refine gr_bipush (v := -3) X dX9_hourOfLeaving_12 (by decide) ?_
  refine gr_istore (L2 := [(4, .int (-3 : Int32)), (3, .int q2), (2, .int q1), (0, .ref (ad 130)), (1, .int x1)]) X dX9_hourOfLeaving_14 (by decide) rfl ?_
  refine gr_iconst (v := 0) X dX9_hourOfLeaving_16 (by decide) ?_
  refine gr_istore (L2 := [(5, .int (0 : Int32)), (4, .int (-3 : Int32)), (3, .int q2), (2, .int q1), (0, .ref (ad 130)), (1, .int x1)]) X dX9_hourOfLeaving_17 (by decide) rfl ?_
  refine gr_sub [4, 5, 3, 2, 1, 0] rfl ?_
  refine wc_to_hourOfLeaving_l19 X hK hA  hFU _ _ _ _ _ _ hf
abbrev ro_hh_when : Room := { frames := 7, cells := 0, slots := 0, locals := 163 }
def fc_hh_when (x1 : Int32) (τ : SC) : Option (Int32 × SC) := (Option.bind (fc_to_has τ x1) fun q1 => (if ¬ q1 = 0 then (Option.bind (fc_hh_bit (τ.1 107 0) x1) fun q2 => (if ¬ q2 = 0 then (Option.bind (fc_to_hourOfLeaving x1 τ) fun p_ => hl p_.1 fun q3 => hl p_.2 fun τ4 => (some (q3, τ4))) else (some ((-3 : Int32), τ)))) else (some ((-1 : Int32), τ))))
set_option maxHeartbeats 4000000 in
set_option maxRecDepth 100000 in
theorem xc_hh_when {l : Launch} {D : va_G} {cs : Nat → ClassId} {sK sV : Nat → Nat} {tA : Nat} {ad : Nat → Nat} {τ : SC} {x1 : Int32} {r : Int32} {υ : SC} (hf : fc_hh_when x1 τ = some (r, υ)) : ctI l (wC ad cs) D vwCl (kC D cs sK sV tA) yX11_when cX11_when 2 .int ro_hh_when [.ref (ad 16), .int x1] τ r υ := by
  refine ct_I RX11 (by decide +kernel) rfl (Nat.le_of_ble_eq_true rfl) ?_
  intro p e s m args below meth c A X hK hA
  refine gr_eqL (L2 := [(0, .ref (ad 16)), (1, .int x1)]) rfl ?_
  unfold fc_hh_when at hf
  refine gr_aload_n X dX11_when_0 rfl 0 rfl ?_
  refine gC_get_HH_0 X hK fk11_10 dX11_when_1 ?_
  refine gr_iload_n X dX11_when_4 rfl 1 rfl ?_
  obtain ⟨q1, hq_, hf⟩ := ot_b hf
  refine gc_Vi (rest := []) X kC_ok hK hA cw11_91 (rvC_T0 hK) (xc_to_has hq_) rfl ⟨rfl, rfl, Nat.le_of_ble_eq_true rfl, Nat.le_of_ble_eq_true rfl⟩ rfl (Nat.le_of_ble_eq_true rfl) dX11_when_5 ?_
  refine gr_if_ne X 13 dX11_when_8 (by decide) (fun hc_ => ?_) (fun hc_ => ?_)
  · replace hf := ot_t hf hc_
    refine gr_aload_n X dX11_when_13 rfl 0 rfl ?_
    refine gC_get_HH_0 X hK fk11_10 dX11_when_14 ?_
    refine gC_get_T0_7 X hK fk11_106 dX11_when_17 ?_
    refine gr_iload_n X dX11_when_20 rfl 1 rfl ?_
    obtain ⟨q2, hq_, hf⟩ := ot_b hf
    refine gc_Si (rest := []) X kC_ok hK hA cw11_109 (xc_hh_bit hq_) rfl ⟨rfl, rfl, Nat.le_of_ble_eq_true rfl, Nat.le_of_ble_eq_true rfl⟩ rfl (Nat.le_of_ble_eq_true rfl) dX11_when_21 ?_
    refine gr_if_ne X 32 dX11_when_24 (by decide) (fun hc_ => ?_) (fun hc_ => ?_)
    · replace hf := ot_t hf hc_
      refine gr_aload_n X dX11_when_32 rfl 0 rfl ?_
      refine gC_get_HH_0 X hK fk11_10 dX11_when_33 ?_
      refine gr_iload_n X dX11_when_36 rfl 1 rfl ?_
      obtain ⟨⟨q3, τ4⟩, hq_, hf⟩ := ot_b hf
      replace hf := ot_l (y := q3) hf rfl
      replace hf := ot_l (y := τ4) hf rfl
      refine gc_Vi (rest := []) X kC_ok hK hA cw11_219 (rvC_T0 hK) (xc_to_hourOfLeaving hq_) rfl ⟨rfl, rfl, Nat.le_of_ble_eq_true rfl, Nat.le_of_ble_eq_true rfl⟩ rfl (Nat.le_of_ble_eq_true rfl) dX11_when_37 ?_
      exact gr_iret X dX11_when_40 (Prod.mk.inj (Option.some.inj hf)).1 (Prod.mk.inj (Option.some.inj hf)).2
    · replace hf := ot_f hf hc_
      refine gr_bipush (v := -3) X dX11_when_27 (by decide) ?_
      refine gr_goto X 40 dX11_when_29 (by decide) ?_
      exact gr_iret X dX11_when_40 (Prod.mk.inj (Option.some.inj hf)).1 (Prod.mk.inj (Option.some.inj hf)).2
  · replace hf := ot_f hf hc_
    refine gr_iconst (v := -1) X dX11_when_11 (by decide) ?_
    exact gr_iret X dX11_when_12 (Prod.mk.inj (Option.some.inj hf)).1 (Prod.mk.inj (Option.some.inj hf)).2
abbrev ro_hh_mostWorthy_a116 : Room := { frames := 6, cells := 0, slots := 0, locals := 138 }
def fc_hh_mostWorthy_a116_l51 (K34 : Int32 → Int32 → Int32 → Int32 → Int32 → Int32 → Int32 → Int32 → SC → Option (Int32 × SC)) (K76 : Int32 → Int32 → Int32 → Int32 → Int32 → Int32 → Int32 → Int32 → Int32 → SC → Option (Int32 × SC)) : Nat → Int32 → Int32 → Int32 → Int32 → Int32 → Int32 → Int32 → Int32 → Int32 → Int32 → SC → Option (Int32 × SC)
  | 0, _, _, _, _, _, _, _, _, _, _, _ => none
  | n + 1, x2, x3, x4, x5, x6, x7, x8, x9, x10, x11, τ => (if x6 ≤ x11 then (K76 x2 x3 x4 x5 x6 x7 x8 x9 x10 τ) else (Option.bind (fc_to_passAsInTheRest τ) fun p_ => hl p_.1 fun q6 => hl p_.2 fun τ7 => (hl (x10 + q6) fun v8 => ((fc_hh_mostWorthy_a116_l51 K34 K76 n) x2 x3 x4 x5 x6 x7 x8 x9 v8 (x11 + (1 : Int32)) τ7))))
def fc_hh_mostWorthy_a116_b100 (K34 : Int32 → Int32 → Int32 → Int32 → Int32 → Int32 → Int32 → Int32 → SC → Option (Int32 × SC)) (x2 : Int32) (x3 : Int32) (x4 : Int32) (x5 : Int32) (x6 : Int32) (x7 : Int32) (x8 : Int32) (x9 : Int32) (τ : SC) : Option (Int32 × SC) := (K34 x2 x3 x4 x5 x6 x7 x8 (x9 + (1 : Int32)) τ)
def fc_hh_mostWorthy_a116_l34 : Nat → Int32 → Int32 → Int32 → Int32 → Int32 → Int32 → Int32 → Int32 → SC → Option (Int32 × SC)
  | 0, _, _, _, _, _, _, _, _, _ => none
  | n + 1, x2, x3, x4, x5, x6, x7, x8, x9, τ => (if x3 < x9 then (oc (hin x2 6) (hl (sc τ 116 (upd (τ.1 116) (Int32.toNatClampNeg x2) x4)) fun τ4 => (some (x7, τ4)))) else (oc (hin x2 6) (hl (sc τ 116 (upd (τ.1 116) (Int32.toNatClampNeg x2) x9)) fun τ5 => (fc_hh_mostWorthy_a116_l51 (fc_hh_mostWorthy_a116_l34 n) (fun x2 x3 x4 x5 x6 x7 x8 x9 x10 τ => (Option.bind (fc_to_recall x5 τ) fun τ10 => (if x10 ≤ x8 then (fc_hh_mostWorthy_a116_b100 (fc_hh_mostWorthy_a116_l34 n) x2 x3 x4 x5 x6 x7 x8 x9 τ10) else (fc_hh_mostWorthy_a116_b100 (fc_hh_mostWorthy_a116_l34 n) x2 x3 x4 x5 x6 x9 x10 x9 τ10)))) hFU x2 x3 x4 x5 x6 x7 x8 x9 (0 : Int32) (0 : Int32) τ5))))
def fc_hh_mostWorthy_a116 (x2 : Int32) (x3 : Int32) (τ : SC) : Option (Int32 × SC) := (oc (hin x2 6) (hl (τ.1 116 (Int32.toNatClampNeg x2)) fun v1 => (Option.bind (fc_to_moment τ) fun q2 => (Option.bind (fc_to_hoursOf τ (16 : Int32)) fun q3 => (fc_hh_mostWorthy_a116_l34 hFU x2 x3 v1 q2 q3 (0 : Int32) (-1 : Int32) (0 : Int32) τ)))))
set_option maxHeartbeats 4000000 in
set_option maxRecDepth 100000 in
theorem wc_hh_mostWorthy_a116_l51 {p : Program} {l : Launch} {e : Env} {s : State} {m : MethodId} {args : Array Value} {below : List Frame} {meth : Method} {c : Code} {A : Nat → Prop} {D : va_G} {cs : Nat → ClassId} {sK sV : Nat → Nat} {tA : Nat} {ad : Nat → Nat} {r : Int32} {υ : SC} {K34 : Int32 → Int32 → Int32 → Int32 → Int32 → Int32 → Int32 → Int32 → SC → Option (Int32 × SC)} {K76 : Int32 → Int32 → Int32 → Int32 → Int32 → Int32 → Int32 → Int32 → Int32 → SC → Option (Int32 × SC)} (X : hc p s m args meth c RX11 cX11_mostWorthy 12 (some .int)) (hK : kC D cs sK sV tA A s) (hA : ∀ q, s.heap.size ≤ q → A q) (hK34 : (∀ (x2 : Int32) (x3 : Int32) (x4 : Int32) (x5 : Int32) (x6 : Int32) (x7 : Int32) (x8 : Int32) (x9 : Int32) (τ : SC), K34 x2 x3 x4 x5 x6 x7 x8 x9 τ = some (r, υ) → gg p l e ro_hh_mostWorthy_a116 s m args below meth c (wC ad cs) D vwCl A 12 (QI below args s (wC ad cs) D vwCl A r υ) 34 [(0, .ref (ad 16)), (1, .ref (ad 116)), (2, .int x2), (3, .int x3), (4, .int x4), (5, .int x5), (6, .int x6), (7, .int x7), (8, .int x8), (9, .int x9)] [] τ)) (hK76 : (∀ (x2 : Int32) (x3 : Int32) (x4 : Int32) (x5 : Int32) (x6 : Int32) (x7 : Int32) (x8 : Int32) (x9 : Int32) (x10 : Int32) (τ : SC), K76 x2 x3 x4 x5 x6 x7 x8 x9 x10 τ = some (r, υ) → gg p l e ro_hh_mostWorthy_a116 s m args below meth c (wC ad cs) D vwCl A 12 (QI below args s (wC ad cs) D vwCl A r υ) 76 [(0, .ref (ad 16)), (1, .ref (ad 116)), (2, .int x2), (3, .int x3), (4, .int x4), (5, .int x5), (6, .int x6), (7, .int x7), (8, .int x8), (9, .int x9), (10, .int x10)] [] τ)) : ∀ (n : Nat) (x2 : Int32) (x3 : Int32) (x4 : Int32) (x5 : Int32) (x6 : Int32) (x7 : Int32) (x8 : Int32) (x9 : Int32) (x10 : Int32) (x11 : Int32) (τ : SC), fc_hh_mostWorthy_a116_l51 K34 K76 n x2 x3 x4 x5 x6 x7 x8 x9 x10 x11 τ = some (r, υ) → gg p l e ro_hh_mostWorthy_a116 s m args below meth c (wC ad cs) D vwCl A 12 (QI below args s (wC ad cs) D vwCl A r υ) 51 [(0, .ref (ad 16)), (1, .ref (ad 116)), (2, .int x2), (3, .int x3), (4, .int x4), (5, .int x5), (6, .int x6), (7, .int x7), (8, .int x8), (9, .int x9), (10, .int x10), (11, .int x11)] [] τ := by
  intro n
  induction n with
  | zero =>
    intro x2 x3 x4 x5 x6 x7 x8 x9 x10 x11 τ hf
    cases (show (none : Option (Int32 × SC)) = some (r, υ) from hf)
  | succ n ih =>
    intro x2 x3 x4 x5 x6 x7 x8 x9 x10 x11 τ hf
    unfold fc_hh_mostWorthy_a116_l51 at hf
    refine gr_iload X dX11_mostWorthy_51 11 rfl ?_
    refine gr_iload X dX11_mostWorthy_53 6 rfl ?_
    refine gr_icmp_ge X 76 dX11_mostWorthy_55 (by decide) (fun hc_ => ?_) (fun hc_ => ?_)
    · replace hf := ot_t hf hc_
      refine gr_sub [0, 1, 2, 3, 4, 5, 6, 7, 8, 9, 10] rfl ?_
      exact hK76 _ _ _ _ _ _ _ _ _ _ hf
    · replace hf := ot_f hf hc_
      refine gr_iload X dX11_mostWorthy_58 10 rfl ?_
      refine gr_aload_n X dX11_mostWorthy_60 rfl 0 rfl ?_
      refine gC_get_HH_0 X hK fk11_10 dX11_mostWorthy_61 ?_
      obtain ⟨⟨q6, τ7⟩, hq_, hf⟩ := ot_b hf
      replace hf := ot_l (y := q6) hf rfl
      replace hf := ot_l (y := τ7) hf rfl
      refine gc_Vi (rest := [.int x10]) X kC_ok hK hA cw11_202 (rvC_T0 hK) (xc_to_passAsInTheRest hq_) rfl ⟨rfl, rfl, Nat.le_of_ble_eq_true rfl, Nat.le_of_ble_eq_true rfl⟩ rfl (Nat.le_of_ble_eq_true rfl) dX11_mostWorthy_64 ?_
      refine gr_iadd X dX11_mostWorthy_67 ?_
      refine gC_top (fun v8 e_v8 => ?_)
      replace hf := ot_l hf e_v8
      refine gr_istore (L2 := [(10, .int v8), (0, .ref (ad 16)), (1, .ref (ad 116)), (2, .int x2), (3, .int x3), (4, .int x4), (5, .int x5), (6, .int x6), (7, .int x7), (8, .int x8), (9, .int x9), (11, .int x11)]) X dX11_mostWorthy_68 (by decide) rfl ?_
      refine gr_iinc (k := 11) (v := 1) (L2 := [(11, .int (x11 + (1 : Int32))), (10, .int v8), (0, .ref (ad 16)), (1, .ref (ad 116)), (2, .int x2), (3, .int x3), (4, .int x4), (5, .int x5), (6, .int x6), (7, .int x7), (8, .int x8), (9, .int x9)]) X dX11_mostWorthy_70 rfl (by decide) (by decide) rfl ?_
      refine gr_goto X 51 dX11_mostWorthy_73 (by decide) ?_
      refine gr_sub [2, 3, 4, 5, 6, 7, 8, 9, 10, 11, 1, 0] rfl ?_
      exact ih _ _ _ _ _ _ _ _ _ _ _ hf
set_option maxHeartbeats 4000000 in
set_option maxRecDepth 100000 in
theorem wc_hh_mostWorthy_a116_b100 {p : Program} {l : Launch} {e : Env} {s : State} {m : MethodId} {args : Array Value} {below : List Frame} {meth : Method} {c : Code} {A : Nat → Prop} {D : va_G} {cs : Nat → ClassId} {sK sV : Nat → Nat} {tA : Nat} {ad : Nat → Nat} {r : Int32} {υ : SC} {K34 : Int32 → Int32 → Int32 → Int32 → Int32 → Int32 → Int32 → Int32 → SC → Option (Int32 × SC)} (X : hc p s m args meth c RX11 cX11_mostWorthy 12 (some .int)) (hK : kC D cs sK sV tA A s) (hA : ∀ q, s.heap.size ≤ q → A q) (hK34 : (∀ (x2 : Int32) (x3 : Int32) (x4 : Int32) (x5 : Int32) (x6 : Int32) (x7 : Int32) (x8 : Int32) (x9 : Int32) (τ : SC), K34 x2 x3 x4 x5 x6 x7 x8 x9 τ = some (r, υ) → gg p l e ro_hh_mostWorthy_a116 s m args below meth c (wC ad cs) D vwCl A 12 (QI below args s (wC ad cs) D vwCl A r υ) 34 [(0, .ref (ad 16)), (1, .ref (ad 116)), (2, .int x2), (3, .int x3), (4, .int x4), (5, .int x5), (6, .int x6), (7, .int x7), (8, .int x8), (9, .int x9)] [] τ))  (x2 : Int32) (x3 : Int32) (x4 : Int32) (x5 : Int32) (x6 : Int32) (x7 : Int32) (x8 : Int32) (x9 : Int32) (τ : SC) (hf : fc_hh_mostWorthy_a116_b100 K34 x2 x3 x4 x5 x6 x7 x8 x9 τ = some (r, υ)) : gg p l e ro_hh_mostWorthy_a116 s m args below meth c (wC ad cs) D vwCl A 12 (QI below args s (wC ad cs) D vwCl A r υ) 100 [(0, .ref (ad 16)), (1, .ref (ad 116)), (2, .int x2), (3, .int x3), (4, .int x4), (5, .int x5), (6, .int x6), (7, .int x7), (8, .int x8), (9, .int x9)] [] τ := by
  unfold fc_hh_mostWorthy_a116_b100 at hf
  refine gr_iinc (k := 9) (v := 1) (L2 := [(9, .int (x9 + (1 : Int32))), (0, .ref (ad 16)), (1, .ref (ad 116)), (2, .int x2), (3, .int x3), (4, .int x4), (5, .int x5), (6, .int x6), (7, .int x7), (8, .int x8)]) X dX11_mostWorthy_100 rfl (by decide) (by decide) rfl ?_
  refine gr_goto X 34 dX11_mostWorthy_103 (by decide) ?_
  refine gr_sub [1, 2, 3, 4, 5, 6, 7, 8, 9, 0] rfl ?_
  exact hK34 _ _ _ _ _ _ _ _ _ hf
set_option maxHeartbeats 4000000 in
set_option maxRecDepth 100000 in
theorem wc_hh_mostWorthy_a116_l34 {p : Program} {l : Launch} {e : Env} {s : State} {m : MethodId} {args : Array Value} {below : List Frame} {meth : Method} {c : Code} {A : Nat → Prop} {D : va_G} {cs : Nat → ClassId} {sK sV : Nat → Nat} {tA : Nat} {ad : Nat → Nat} {r : Int32} {υ : SC} (X : hc p s m args meth c RX11 cX11_mostWorthy 12 (some .int)) (hK : kC D cs sK sV tA A s) (hA : ∀ q, s.heap.size ≤ q → A q)  : ∀ (n : Nat) (x2 : Int32) (x3 : Int32) (x4 : Int32) (x5 : Int32) (x6 : Int32) (x7 : Int32) (x8 : Int32) (x9 : Int32) (τ : SC), fc_hh_mostWorthy_a116_l34 n x2 x3 x4 x5 x6 x7 x8 x9 τ = some (r, υ) → gg p l e ro_hh_mostWorthy_a116 s m args below meth c (wC ad cs) D vwCl A 12 (QI below args s (wC ad cs) D vwCl A r υ) 34 [(0, .ref (ad 16)), (1, .ref (ad 116)), (2, .int x2), (3, .int x3), (4, .int x4), (5, .int x5), (6, .int x6), (7, .int x7), (8, .int x8), (9, .int x9)] [] τ := by
  intro n
  induction n with
  | zero =>
    intro x2 x3 x4 x5 x6 x7 x8 x9 τ hf
    cases (show (none : Option (Int32 × SC)) = some (r, υ) from hf)
  | succ n ih =>
    intro x2 x3 x4 x5 x6 x7 x8 x9 τ hf
    unfold fc_hh_mostWorthy_a116_l34 at hf
    refine gr_iload X dX11_mostWorthy_34 9 rfl ?_
    refine gr_iload_n X dX11_mostWorthy_36 rfl 3 rfl ?_
    refine gr_icmp_gt X 106 dX11_mostWorthy_37 (by decide) (fun hc_ => ?_) (fun hc_ => ?_)
    · replace hf := ot_t hf hc_
      refine gr_aload_n X dX11_mostWorthy_106 rfl 1 rfl ?_
      refine gr_iload_n X dX11_mostWorthy_107 rfl 2 rfl ?_
      refine gr_iload X dX11_mostWorthy_108 4 rfl ?_
      have hi_ := oc_1 hf
      replace hf := oc_2 hf
      refine gC_ast_116 X hK (Int32.toNatClampNeg x2) hi_ rfl dX11_mostWorthy_110 ?_
      refine gC_gen (fun τ4 e_τ4 => ?_)
      replace hf := ot_l hf e_τ4
      refine gr_iload X dX11_mostWorthy_111 7 rfl ?_
      exact gr_iret X dX11_mostWorthy_113 (Prod.mk.inj (Option.some.inj hf)).1 (Prod.mk.inj (Option.some.inj hf)).2
    · replace hf := ot_f hf hc_
      refine gr_aload_n X dX11_mostWorthy_40 rfl 1 rfl ?_
      refine gr_iload_n X dX11_mostWorthy_41 rfl 2 rfl ?_
      refine gr_iload X dX11_mostWorthy_42 9 rfl ?_
      have hi_ := oc_1 hf
      replace hf := oc_2 hf
      refine gC_ast_116 X hK (Int32.toNatClampNeg x2) hi_ rfl dX11_mostWorthy_44 ?_
      refine gC_gen (fun τ5 e_τ5 => ?_)
      replace hf := ot_l hf e_τ5
      refine gr_iconst (v := 0) X dX11_mostWorthy_45 (by decide) ?_
      refine gr_istore (L2 := [(10, .int (0 : Int32)), (0, .ref (ad 16)), (1, .ref (ad 116)), (2, .int x2), (3, .int x3), (4, .int x4), (5, .int x5), (6, .int x6), (7, .int x7), (8, .int x8), (9, .int x9)]) X dX11_mostWorthy_46 (by decide) rfl ?_
      refine gr_iconst (v := 0) X dX11_mostWorthy_48 (by decide) ?_
      refine gr_istore (L2 := [(11, .int (0 : Int32)), (10, .int (0 : Int32)), (0, .ref (ad 16)), (1, .ref (ad 116)), (2, .int x2), (3, .int x3), (4, .int x4), (5, .int x5), (6, .int x6), (7, .int x7), (8, .int x8), (9, .int x9)]) X dX11_mostWorthy_49 (by decide) rfl ?_
      refine gr_sub [2, 3, 4, 5, 6, 7, 8, 9, 10, 11, 1, 0] rfl ?_
      refine wc_hh_mostWorthy_a116_l51 X hK hA ih (fun x2 x3 x4 x5 x6 x7 x8 x9 x10 τ hf => ?_) hFU _ _ _ _ _ _ _ _ _ _ _ hf
      refine gr_aload_n X dX11_mostWorthy_76 rfl 0 rfl ?_
      refine gC_get_HH_0 X hK fk11_10 dX11_mostWorthy_77 ?_
      refine gr_iload X dX11_mostWorthy_80 5 rfl ?_
      obtain ⟨τ10, hq_, hf⟩ := ot_b hf
      refine gc_Vv (rest := []) X kC_ok hK hA cw11_215 (rvC_T0 hK) (xc_to_recall hq_) rfl ⟨rfl, rfl, Nat.le_of_ble_eq_true rfl, Nat.le_of_ble_eq_true rfl⟩ rfl (Nat.le_of_ble_eq_true rfl) dX11_mostWorthy_82 ?_
      refine gr_iload X dX11_mostWorthy_85 10 rfl ?_
      refine gr_iload X dX11_mostWorthy_87 8 rfl ?_
      refine gr_icmp_le X 100 dX11_mostWorthy_89 (by decide) (fun hc_ => ?_) (fun hc_ => ?_)
      · replace hf := ot_t hf hc_
        refine gr_sub [0, 1, 2, 3, 4, 5, 6, 7, 8, 9] rfl ?_
        exact wc_hh_mostWorthy_a116_b100 X hK hA ih _ _ _ _ _ _ _ _ _ hf
      · replace hf := ot_f hf hc_
        refine gr_iload X dX11_mostWorthy_92 10 rfl ?_
        refine gr_istore (L2 := [(8, .int x10), (0, .ref (ad 16)), (1, .ref (ad 116)), (2, .int x2), (3, .int x3), (4, .int x4), (5, .int x5), (6, .int x6), (7, .int x7), (9, .int x9), (10, .int x10)]) X dX11_mostWorthy_94 (by decide) rfl ?_
        refine gr_iload X dX11_mostWorthy_96 9 rfl ?_
        refine gr_istore (L2 := [(7, .int x9), (8, .int x10), (0, .ref (ad 16)), (1, .ref (ad 116)), (2, .int x2), (3, .int x3), (4, .int x4), (5, .int x5), (6, .int x6), (9, .int x9), (10, .int x10)]) X dX11_mostWorthy_98 (by decide) rfl ?_
        refine gr_sub [2, 3, 4, 5, 6, 7, 8, 0, 1, 9] rfl ?_
        exact wc_hh_mostWorthy_a116_b100 X hK hA ih _ _ _ _ _ _ _ _ _ hf
set_option maxHeartbeats 4000000 in
set_option maxRecDepth 100000 in
theorem xc_hh_mostWorthy_a116 {l : Launch} {D : va_G} {cs : Nat → ClassId} {sK sV : Nat → Nat} {tA : Nat} {ad : Nat → Nat} {τ : SC} {x2 : Int32} {x3 : Int32} {r : Int32} {υ : SC} (hf : fc_hh_mostWorthy_a116 x2 x3 τ = some (r, υ)) : ctI l (wC ad cs) D vwCl (kC D cs sK sV tA) yX11_mostWorthy cX11_mostWorthy 12 .int ro_hh_mostWorthy_a116 [.ref (ad 16), .ref (ad 116), .int x2, .int x3] τ r υ := by
  refine ct_I RX11 (by decide +kernel) rfl (Nat.le_of_ble_eq_true rfl) ?_
  intro p e s m args below meth c A X hK hA
  refine gr_eqL (L2 := [(0, .ref (ad 16)), (1, .ref (ad 116)), (2, .int x2), (3, .int x3)]) rfl ?_
  unfold fc_hh_mostWorthy_a116 at hf
  refine gr_aload_n X dX11_mostWorthy_0 rfl 1 rfl ?_
  refine gr_iload_n X dX11_mostWorthy_1 rfl 2 rfl ?_
  have hi_ := oc_1 hf
  replace hf := oc_2 hf
  refine gC_ald_116 X hK (Int32.toNatClampNeg x2) hi_ rfl dX11_mostWorthy_2 ?_
  refine gC_top (fun v1 e_v1 => ?_)
  replace hf := ot_l hf e_v1
  refine gr_istore (L2 := [(4, .int v1), (0, .ref (ad 16)), (1, .ref (ad 116)), (2, .int x2), (3, .int x3)]) X dX11_mostWorthy_3 (by decide) rfl ?_
  refine gr_aload_n X dX11_mostWorthy_5 rfl 1 rfl ?_
  refine gC_get_HH_0 X hK fk11_10 dX11_mostWorthy_6 ?_
  obtain ⟨q2, hq_, hf⟩ := ot_b hf
  refine gc_Vi (rest := []) X kC_ok hK hA cw11_209 (rvC_T0 hK) (xc_to_moment hq_) rfl ⟨rfl, rfl, Nat.le_of_ble_eq_true rfl, Nat.le_of_ble_eq_true rfl⟩ rfl (Nat.le_of_ble_eq_true rfl) dX11_mostWorthy_9 ?_
  refine gr_istore (L2 := [(5, .int q2), (4, .int v1), (0, .ref (ad 16)), (1, .ref (ad 116)), (2, .int x2), (3, .int x3)]) X dX11_mostWorthy_12 (by decide) rfl ?_
  refine gr_aload_n X dX11_mostWorthy_14 rfl 2 rfl ?_
  refine gC_get_HH_0 X hK fk11_10 dX11_mostWorthy_15 ?_
  refine gr_bipush (v := 16) X dX11_mostWorthy_18 (by decide) ?_
  obtain ⟨q3, hq_, hf⟩ := ot_b hf
  refine gc_Vi (rest := []) X kC_ok hK hA cw11_212 (rvC_T0 hK) (xc_to_hoursOf hq_) rfl ⟨rfl, rfl, Nat.le_of_ble_eq_true rfl, Nat.le_of_ble_eq_true rfl⟩ rfl (Nat.le_of_ble_eq_true rfl) dX11_mostWorthy_20 ?_
  refine gr_istore (L2 := [(6, .int q3), (5, .int q2), (4, .int v1), (0, .ref (ad 16)), (1, .ref (ad 116)), (2, .int x2), (3, .int x3)]) X dX11_mostWorthy_23 (by decide) rfl ?_
  refine gr_iconst (v := 0) X dX11_mostWorthy_25 (by decide) ?_
  refine gr_istore (L2 := [(7, .int (0 : Int32)), (6, .int q3), (5, .int q2), (4, .int v1), (0, .ref (ad 16)), (1, .ref (ad 116)), (2, .int x2), (3, .int x3)]) X dX11_mostWorthy_26 (by decide) rfl ?_
  refine gr_iconst (v := -1) X dX11_mostWorthy_28 (by decide) ?_
  refine gr_istore (L2 := [(8, .int (-1 : Int32)), (7, .int (0 : Int32)), (6, .int q3), (5, .int q2), (4, .int v1), (0, .ref (ad 16)), (1, .ref (ad 116)), (2, .int x2), (3, .int x3)]) X dX11_mostWorthy_29 (by decide) rfl ?_
  refine gr_iconst (v := 0) X dX11_mostWorthy_31 (by decide) ?_
  refine gr_istore (L2 := [(9, .int (0 : Int32)), (8, .int (-1 : Int32)), (7, .int (0 : Int32)), (6, .int q3), (5, .int q2), (4, .int v1), (0, .ref (ad 16)), (1, .ref (ad 116)), (2, .int x2), (3, .int x3)]) X dX11_mostWorthy_32 (by decide) rfl ?_
  refine gr_sub [6, 7, 8, 9, 5, 4, 3, 2, 1, 0] rfl ?_
  refine wc_hh_mostWorthy_a116_l34 X hK hA  hFU _ _ _ _ _ _ _ _ _ hf
abbrev ro_hh_giftFor : Room := { frames := 7, cells := 0, slots := 0, locals := 169 }
def fc_hh_giftFor (x1 : Int32) (τ : SC) : Option (Int32 × SC) := (Option.bind (fc_to_has τ x1) fun q1 => (if q1 = 0 then (some ((-1 : Int32), τ)) else (Option.bind (fc_hh_mostWorthy_a116 x1 (9 : Int32) τ) fun p_ => hl p_.1 fun q2 => hl p_.2 fun τ3 => (some (q2, τ3)))))
set_option maxHeartbeats 4000000 in
set_option maxRecDepth 100000 in
theorem xc_hh_giftFor {l : Launch} {D : va_G} {cs : Nat → ClassId} {sK sV : Nat → Nat} {tA : Nat} {ad : Nat → Nat} {τ : SC} {x1 : Int32} {r : Int32} {υ : SC} (hf : fc_hh_giftFor x1 τ = some (r, υ)) : ctI l (wC ad cs) D vwCl (kC D cs sK sV tA) yX11_giftFor cX11_giftFor 2 .int ro_hh_giftFor [.ref (ad 16), .int x1] τ r υ := by
  refine ct_I RX11 (by decide +kernel) rfl (Nat.le_of_ble_eq_true rfl) ?_
  intro p e s m args below meth c A X hK hA
  refine gr_eqL (L2 := [(0, .ref (ad 16)), (1, .int x1)]) rfl ?_
  unfold fc_hh_giftFor at hf
  refine gr_aload_n X dX11_giftFor_0 rfl 0 rfl ?_
  refine gC_get_HH_0 X hK fk11_10 dX11_giftFor_1 ?_
  refine gr_iload_n X dX11_giftFor_4 rfl 1 rfl ?_
  obtain ⟨q1, hq_, hf⟩ := ot_b hf
  refine gc_Vi (rest := []) X kC_ok hK hA cw11_91 (rvC_T0 hK) (xc_to_has hq_) rfl ⟨rfl, rfl, Nat.le_of_ble_eq_true rfl, Nat.le_of_ble_eq_true rfl⟩ rfl (Nat.le_of_ble_eq_true rfl) dX11_giftFor_5 ?_
  refine gr_if_eq X 28 dX11_giftFor_8 (by decide) (fun hc_ => ?_) (fun hc_ => ?_)
  · replace hf := ot_t hf hc_
    refine gr_iconst (v := -1) X dX11_giftFor_28 (by decide) ?_
    exact gr_iret X dX11_giftFor_29 (Prod.mk.inj (Option.some.inj hf)).1 (Prod.mk.inj (Option.some.inj hf)).2
  · replace hf := ot_f hf hc_
    refine gr_aload_n X dX11_giftFor_11 rfl 0 rfl ?_
    refine gr_aload_n X dX11_giftFor_12 rfl 0 rfl ?_
    refine gC_get_HH_0 X hK fk11_10 dX11_giftFor_13 ?_
    refine gC_get_T0_16 X hK fk11_100 dX11_giftFor_16 ?_
    refine gr_iload_n X dX11_giftFor_19 rfl 1 rfl ?_
    refine gr_bipush (v := 9) X dX11_giftFor_20 (by decide) ?_
    obtain ⟨⟨q2, τ3⟩, hq_, hf⟩ := ot_b hf
    replace hf := ot_l (y := q2) hf rfl
    replace hf := ot_l (y := τ3) hf rfl
    refine gc_Vi (rest := []) X kC_ok hK hA cw11_222 (rvC_HH hK) (xc_hh_mostWorthy_a116 hq_) rfl ⟨rfl, rfl, Nat.le_of_ble_eq_true rfl, Nat.le_of_ble_eq_true rfl⟩ rfl (Nat.le_of_ble_eq_true rfl) dX11_giftFor_22 ?_
    refine gr_goto X 29 dX11_giftFor_25 (by decide) ?_
    exact gr_iret X dX11_giftFor_29 (Prod.mk.inj (Option.some.inj hf)).1 (Prod.mk.inj (Option.some.inj hf)).2
abbrev ro_hh_mostWorthy_a115 : Room := { frames := 6, cells := 0, slots := 0, locals := 138 }
def fc_hh_mostWorthy_a115_l51 (K34 : Int32 → Int32 → Int32 → Int32 → Int32 → Int32 → Int32 → Int32 → SC → Option (Int32 × SC)) (K76 : Int32 → Int32 → Int32 → Int32 → Int32 → Int32 → Int32 → Int32 → Int32 → SC → Option (Int32 × SC)) : Nat → Int32 → Int32 → Int32 → Int32 → Int32 → Int32 → Int32 → Int32 → Int32 → Int32 → SC → Option (Int32 × SC)
  | 0, _, _, _, _, _, _, _, _, _, _, _ => none
  | n + 1, x2, x3, x4, x5, x6, x7, x8, x9, x10, x11, τ => (if x6 ≤ x11 then (K76 x2 x3 x4 x5 x6 x7 x8 x9 x10 τ) else (Option.bind (fc_to_passAsInTheRest τ) fun p_ => hl p_.1 fun q6 => hl p_.2 fun τ7 => (hl (x10 + q6) fun v8 => ((fc_hh_mostWorthy_a115_l51 K34 K76 n) x2 x3 x4 x5 x6 x7 x8 x9 v8 (x11 + (1 : Int32)) τ7))))
def fc_hh_mostWorthy_a115_b100 (K34 : Int32 → Int32 → Int32 → Int32 → Int32 → Int32 → Int32 → Int32 → SC → Option (Int32 × SC)) (x2 : Int32) (x3 : Int32) (x4 : Int32) (x5 : Int32) (x6 : Int32) (x7 : Int32) (x8 : Int32) (x9 : Int32) (τ : SC) : Option (Int32 × SC) := (K34 x2 x3 x4 x5 x6 x7 x8 (x9 + (1 : Int32)) τ)
def fc_hh_mostWorthy_a115_l34 : Nat → Int32 → Int32 → Int32 → Int32 → Int32 → Int32 → Int32 → Int32 → SC → Option (Int32 × SC)
  | 0, _, _, _, _, _, _, _, _, _ => none
  | n + 1, x2, x3, x4, x5, x6, x7, x8, x9, τ => (if x3 < x9 then (oc (hin x2 6) (hl (sc τ 115 (upd (τ.1 115) (Int32.toNatClampNeg x2) x4)) fun τ4 => (some (x7, τ4)))) else (oc (hin x2 6) (hl (sc τ 115 (upd (τ.1 115) (Int32.toNatClampNeg x2) x9)) fun τ5 => (fc_hh_mostWorthy_a115_l51 (fc_hh_mostWorthy_a115_l34 n) (fun x2 x3 x4 x5 x6 x7 x8 x9 x10 τ => (Option.bind (fc_to_recall x5 τ) fun τ10 => (if x10 ≤ x8 then (fc_hh_mostWorthy_a115_b100 (fc_hh_mostWorthy_a115_l34 n) x2 x3 x4 x5 x6 x7 x8 x9 τ10) else (fc_hh_mostWorthy_a115_b100 (fc_hh_mostWorthy_a115_l34 n) x2 x3 x4 x5 x6 x9 x10 x9 τ10)))) hFU x2 x3 x4 x5 x6 x7 x8 x9 (0 : Int32) (0 : Int32) τ5))))
def fc_hh_mostWorthy_a115 (x2 : Int32) (x3 : Int32) (τ : SC) : Option (Int32 × SC) := (oc (hin x2 6) (hl (τ.1 115 (Int32.toNatClampNeg x2)) fun v1 => (Option.bind (fc_to_moment τ) fun q2 => (Option.bind (fc_to_hoursOf τ (16 : Int32)) fun q3 => (fc_hh_mostWorthy_a115_l34 hFU x2 x3 v1 q2 q3 (0 : Int32) (-1 : Int32) (0 : Int32) τ)))))
set_option maxHeartbeats 4000000 in
set_option maxRecDepth 100000 in
theorem wc_hh_mostWorthy_a115_l51 {p : Program} {l : Launch} {e : Env} {s : State} {m : MethodId} {args : Array Value} {below : List Frame} {meth : Method} {c : Code} {A : Nat → Prop} {D : va_G} {cs : Nat → ClassId} {sK sV : Nat → Nat} {tA : Nat} {ad : Nat → Nat} {r : Int32} {υ : SC} {K34 : Int32 → Int32 → Int32 → Int32 → Int32 → Int32 → Int32 → Int32 → SC → Option (Int32 × SC)} {K76 : Int32 → Int32 → Int32 → Int32 → Int32 → Int32 → Int32 → Int32 → Int32 → SC → Option (Int32 × SC)} (X : hc p s m args meth c RX11 cX11_mostWorthy 12 (some .int)) (hK : kC D cs sK sV tA A s) (hA : ∀ q, s.heap.size ≤ q → A q) (hK34 : (∀ (x2 : Int32) (x3 : Int32) (x4 : Int32) (x5 : Int32) (x6 : Int32) (x7 : Int32) (x8 : Int32) (x9 : Int32) (τ : SC), K34 x2 x3 x4 x5 x6 x7 x8 x9 τ = some (r, υ) → gg p l e ro_hh_mostWorthy_a115 s m args below meth c (wC ad cs) D vwCl A 12 (QI below args s (wC ad cs) D vwCl A r υ) 34 [(0, .ref (ad 16)), (1, .ref (ad 115)), (2, .int x2), (3, .int x3), (4, .int x4), (5, .int x5), (6, .int x6), (7, .int x7), (8, .int x8), (9, .int x9)] [] τ)) (hK76 : (∀ (x2 : Int32) (x3 : Int32) (x4 : Int32) (x5 : Int32) (x6 : Int32) (x7 : Int32) (x8 : Int32) (x9 : Int32) (x10 : Int32) (τ : SC), K76 x2 x3 x4 x5 x6 x7 x8 x9 x10 τ = some (r, υ) → gg p l e ro_hh_mostWorthy_a115 s m args below meth c (wC ad cs) D vwCl A 12 (QI below args s (wC ad cs) D vwCl A r υ) 76 [(0, .ref (ad 16)), (1, .ref (ad 115)), (2, .int x2), (3, .int x3), (4, .int x4), (5, .int x5), (6, .int x6), (7, .int x7), (8, .int x8), (9, .int x9), (10, .int x10)] [] τ)) : ∀ (n : Nat) (x2 : Int32) (x3 : Int32) (x4 : Int32) (x5 : Int32) (x6 : Int32) (x7 : Int32) (x8 : Int32) (x9 : Int32) (x10 : Int32) (x11 : Int32) (τ : SC), fc_hh_mostWorthy_a115_l51 K34 K76 n x2 x3 x4 x5 x6 x7 x8 x9 x10 x11 τ = some (r, υ) → gg p l e ro_hh_mostWorthy_a115 s m args below meth c (wC ad cs) D vwCl A 12 (QI below args s (wC ad cs) D vwCl A r υ) 51 [(0, .ref (ad 16)), (1, .ref (ad 115)), (2, .int x2), (3, .int x3), (4, .int x4), (5, .int x5), (6, .int x6), (7, .int x7), (8, .int x8), (9, .int x9), (10, .int x10), (11, .int x11)] [] τ := by
  intro n
  induction n with
  | zero =>
    intro x2 x3 x4 x5 x6 x7 x8 x9 x10 x11 τ hf
    cases (show (none : Option (Int32 × SC)) = some (r, υ) from hf)
  | succ n ih =>
    intro x2 x3 x4 x5 x6 x7 x8 x9 x10 x11 τ hf
    unfold fc_hh_mostWorthy_a115_l51 at hf
    refine gr_iload X dX11_mostWorthy_51 11 rfl ?_
    refine gr_iload X dX11_mostWorthy_53 6 rfl ?_
    refine gr_icmp_ge X 76 dX11_mostWorthy_55 (by decide) (fun hc_ => ?_) (fun hc_ => ?_)
    · replace hf := ot_t hf hc_
      refine gr_sub [0, 1, 2, 3, 4, 5, 6, 7, 8, 9, 10] rfl ?_
      exact hK76 _ _ _ _ _ _ _ _ _ _ hf
    · replace hf := ot_f hf hc_
      refine gr_iload X dX11_mostWorthy_58 10 rfl ?_
      refine gr_aload_n X dX11_mostWorthy_60 rfl 0 rfl ?_
      refine gC_get_HH_0 X hK fk11_10 dX11_mostWorthy_61 ?_
      obtain ⟨⟨q6, τ7⟩, hq_, hf⟩ := ot_b hf
      replace hf := ot_l (y := q6) hf rfl
      replace hf := ot_l (y := τ7) hf rfl
      refine gc_Vi (rest := [.int x10]) X kC_ok hK hA cw11_202 (rvC_T0 hK) (xc_to_passAsInTheRest hq_) rfl ⟨rfl, rfl, Nat.le_of_ble_eq_true rfl, Nat.le_of_ble_eq_true rfl⟩ rfl (Nat.le_of_ble_eq_true rfl) dX11_mostWorthy_64 ?_
      refine gr_iadd X dX11_mostWorthy_67 ?_
      refine gC_top (fun v8 e_v8 => ?_)
      replace hf := ot_l hf e_v8
      refine gr_istore (L2 := [(10, .int v8), (0, .ref (ad 16)), (1, .ref (ad 115)), (2, .int x2), (3, .int x3), (4, .int x4), (5, .int x5), (6, .int x6), (7, .int x7), (8, .int x8), (9, .int x9), (11, .int x11)]) X dX11_mostWorthy_68 (by decide) rfl ?_
      refine gr_iinc (k := 11) (v := 1) (L2 := [(11, .int (x11 + (1 : Int32))), (10, .int v8), (0, .ref (ad 16)), (1, .ref (ad 115)), (2, .int x2), (3, .int x3), (4, .int x4), (5, .int x5), (6, .int x6), (7, .int x7), (8, .int x8), (9, .int x9)]) X dX11_mostWorthy_70 rfl (by decide) (by decide) rfl ?_
      refine gr_goto X 51 dX11_mostWorthy_73 (by decide) ?_
      refine gr_sub [2, 3, 4, 5, 6, 7, 8, 9, 10, 11, 1, 0] rfl ?_
      exact ih _ _ _ _ _ _ _ _ _ _ _ hf
set_option maxHeartbeats 4000000 in
set_option maxRecDepth 100000 in
theorem wc_hh_mostWorthy_a115_b100 {p : Program} {l : Launch} {e : Env} {s : State} {m : MethodId} {args : Array Value} {below : List Frame} {meth : Method} {c : Code} {A : Nat → Prop} {D : va_G} {cs : Nat → ClassId} {sK sV : Nat → Nat} {tA : Nat} {ad : Nat → Nat} {r : Int32} {υ : SC} {K34 : Int32 → Int32 → Int32 → Int32 → Int32 → Int32 → Int32 → Int32 → SC → Option (Int32 × SC)} (X : hc p s m args meth c RX11 cX11_mostWorthy 12 (some .int)) (hK : kC D cs sK sV tA A s) (hA : ∀ q, s.heap.size ≤ q → A q) (hK34 : (∀ (x2 : Int32) (x3 : Int32) (x4 : Int32) (x5 : Int32) (x6 : Int32) (x7 : Int32) (x8 : Int32) (x9 : Int32) (τ : SC), K34 x2 x3 x4 x5 x6 x7 x8 x9 τ = some (r, υ) → gg p l e ro_hh_mostWorthy_a115 s m args below meth c (wC ad cs) D vwCl A 12 (QI below args s (wC ad cs) D vwCl A r υ) 34 [(0, .ref (ad 16)), (1, .ref (ad 115)), (2, .int x2), (3, .int x3), (4, .int x4), (5, .int x5), (6, .int x6), (7, .int x7), (8, .int x8), (9, .int x9)] [] τ))  (x2 : Int32) (x3 : Int32) (x4 : Int32) (x5 : Int32) (x6 : Int32) (x7 : Int32) (x8 : Int32) (x9 : Int32) (τ : SC) (hf : fc_hh_mostWorthy_a115_b100 K34 x2 x3 x4 x5 x6 x7 x8 x9 τ = some (r, υ)) : gg p l e ro_hh_mostWorthy_a115 s m args below meth c (wC ad cs) D vwCl A 12 (QI below args s (wC ad cs) D vwCl A r υ) 100 [(0, .ref (ad 16)), (1, .ref (ad 115)), (2, .int x2), (3, .int x3), (4, .int x4), (5, .int x5), (6, .int x6), (7, .int x7), (8, .int x8), (9, .int x9)] [] τ := by
  unfold fc_hh_mostWorthy_a115_b100 at hf
  refine gr_iinc (k := 9) (v := 1) (L2 := [(9, .int (x9 + (1 : Int32))), (0, .ref (ad 16)), (1, .ref (ad 115)), (2, .int x2), (3, .int x3), (4, .int x4), (5, .int x5), (6, .int x6), (7, .int x7), (8, .int x8)]) X dX11_mostWorthy_100 rfl (by decide) (by decide) rfl ?_
  refine gr_goto X 34 dX11_mostWorthy_103 (by decide) ?_
  refine gr_sub [1, 2, 3, 4, 5, 6, 7, 8, 9, 0] rfl ?_
  exact hK34 _ _ _ _ _ _ _ _ _ hf
set_option maxHeartbeats 4000000 in
set_option maxRecDepth 100000 in
theorem wc_hh_mostWorthy_a115_l34 {p : Program} {l : Launch} {e : Env} {s : State} {m : MethodId} {args : Array Value} {below : List Frame} {meth : Method} {c : Code} {A : Nat → Prop} {D : va_G} {cs : Nat → ClassId} {sK sV : Nat → Nat} {tA : Nat} {ad : Nat → Nat} {r : Int32} {υ : SC} (X : hc p s m args meth c RX11 cX11_mostWorthy 12 (some .int)) (hK : kC D cs sK sV tA A s) (hA : ∀ q, s.heap.size ≤ q → A q)  : ∀ (n : Nat) (x2 : Int32) (x3 : Int32) (x4 : Int32) (x5 : Int32) (x6 : Int32) (x7 : Int32) (x8 : Int32) (x9 : Int32) (τ : SC), fc_hh_mostWorthy_a115_l34 n x2 x3 x4 x5 x6 x7 x8 x9 τ = some (r, υ) → gg p l e ro_hh_mostWorthy_a115 s m args below meth c (wC ad cs) D vwCl A 12 (QI below args s (wC ad cs) D vwCl A r υ) 34 [(0, .ref (ad 16)), (1, .ref (ad 115)), (2, .int x2), (3, .int x3), (4, .int x4), (5, .int x5), (6, .int x6), (7, .int x7), (8, .int x8), (9, .int x9)] [] τ := by
  intro n
  induction n with
  | zero =>
    intro x2 x3 x4 x5 x6 x7 x8 x9 τ hf
    cases (show (none : Option (Int32 × SC)) = some (r, υ) from hf)
  | succ n ih =>
    intro x2 x3 x4 x5 x6 x7 x8 x9 τ hf
    unfold fc_hh_mostWorthy_a115_l34 at hf
    refine gr_iload X dX11_mostWorthy_34 9 rfl ?_
    refine gr_iload_n X dX11_mostWorthy_36 rfl 3 rfl ?_
    refine gr_icmp_gt X 106 dX11_mostWorthy_37 (by decide) (fun hc_ => ?_) (fun hc_ => ?_)
    · replace hf := ot_t hf hc_
      refine gr_aload_n X dX11_mostWorthy_106 rfl 1 rfl ?_
      refine gr_iload_n X dX11_mostWorthy_107 rfl 2 rfl ?_
      refine gr_iload X dX11_mostWorthy_108 4 rfl ?_
      have hi_ := oc_1 hf
      replace hf := oc_2 hf
      refine gC_ast_115 X hK (Int32.toNatClampNeg x2) hi_ rfl dX11_mostWorthy_110 ?_
      refine gC_gen (fun τ4 e_τ4 => ?_)
      replace hf := ot_l hf e_τ4
      refine gr_iload X dX11_mostWorthy_111 7 rfl ?_
      exact gr_iret X dX11_mostWorthy_113 (Prod.mk.inj (Option.some.inj hf)).1 (Prod.mk.inj (Option.some.inj hf)).2
    · replace hf := ot_f hf hc_
      refine gr_aload_n X dX11_mostWorthy_40 rfl 1 rfl ?_
      refine gr_iload_n X dX11_mostWorthy_41 rfl 2 rfl ?_
      refine gr_iload X dX11_mostWorthy_42 9 rfl ?_
      have hi_ := oc_1 hf
      replace hf := oc_2 hf
      refine gC_ast_115 X hK (Int32.toNatClampNeg x2) hi_ rfl dX11_mostWorthy_44 ?_
      refine gC_gen (fun τ5 e_τ5 => ?_)
      replace hf := ot_l hf e_τ5
      refine gr_iconst (v := 0) X dX11_mostWorthy_45 (by decide) ?_
      refine gr_istore (L2 := [(10, .int (0 : Int32)), (0, .ref (ad 16)), (1, .ref (ad 115)), (2, .int x2), (3, .int x3), (4, .int x4), (5, .int x5), (6, .int x6), (7, .int x7), (8, .int x8), (9, .int x9)]) X dX11_mostWorthy_46 (by decide) rfl ?_
      refine gr_iconst (v := 0) X dX11_mostWorthy_48 (by decide) ?_
      refine gr_istore (L2 := [(11, .int (0 : Int32)), (10, .int (0 : Int32)), (0, .ref (ad 16)), (1, .ref (ad 115)), (2, .int x2), (3, .int x3), (4, .int x4), (5, .int x5), (6, .int x6), (7, .int x7), (8, .int x8), (9, .int x9)]) X dX11_mostWorthy_49 (by decide) rfl ?_
      refine gr_sub [2, 3, 4, 5, 6, 7, 8, 9, 10, 11, 1, 0] rfl ?_
      refine wc_hh_mostWorthy_a115_l51 X hK hA ih (fun x2 x3 x4 x5 x6 x7 x8 x9 x10 τ hf => ?_) hFU _ _ _ _ _ _ _ _ _ _ _ hf
      refine gr_aload_n X dX11_mostWorthy_76 rfl 0 rfl ?_
      refine gC_get_HH_0 X hK fk11_10 dX11_mostWorthy_77 ?_
      refine gr_iload X dX11_mostWorthy_80 5 rfl ?_
      obtain ⟨τ10, hq_, hf⟩ := ot_b hf
      refine gc_Vv (rest := []) X kC_ok hK hA cw11_215 (rvC_T0 hK) (xc_to_recall hq_) rfl ⟨rfl, rfl, Nat.le_of_ble_eq_true rfl, Nat.le_of_ble_eq_true rfl⟩ rfl (Nat.le_of_ble_eq_true rfl) dX11_mostWorthy_82 ?_
      refine gr_iload X dX11_mostWorthy_85 10 rfl ?_
      refine gr_iload X dX11_mostWorthy_87 8 rfl ?_
      refine gr_icmp_le X 100 dX11_mostWorthy_89 (by decide) (fun hc_ => ?_) (fun hc_ => ?_)
      · replace hf := ot_t hf hc_
        refine gr_sub [0, 1, 2, 3, 4, 5, 6, 7, 8, 9] rfl ?_
        exact wc_hh_mostWorthy_a115_b100 X hK hA ih _ _ _ _ _ _ _ _ _ hf
      · replace hf := ot_f hf hc_
        refine gr_iload X dX11_mostWorthy_92 10 rfl ?_
        refine gr_istore (L2 := [(8, .int x10), (0, .ref (ad 16)), (1, .ref (ad 115)), (2, .int x2), (3, .int x3), (4, .int x4), (5, .int x5), (6, .int x6), (7, .int x7), (9, .int x9), (10, .int x10)]) X dX11_mostWorthy_94 (by decide) rfl ?_
        refine gr_iload X dX11_mostWorthy_96 9 rfl ?_
        refine gr_istore (L2 := [(7, .int x9), (8, .int x10), (0, .ref (ad 16)), (1, .ref (ad 115)), (2, .int x2), (3, .int x3), (4, .int x4), (5, .int x5), (6, .int x6), (9, .int x9), (10, .int x10)]) X dX11_mostWorthy_98 (by decide) rfl ?_
        refine gr_sub [2, 3, 4, 5, 6, 7, 8, 0, 1, 9] rfl ?_
        exact wc_hh_mostWorthy_a115_b100 X hK hA ih _ _ _ _ _ _ _ _ _ hf
set_option maxHeartbeats 4000000 in
set_option maxRecDepth 100000 in
theorem xc_hh_mostWorthy_a115 {l : Launch} {D : va_G} {cs : Nat → ClassId} {sK sV : Nat → Nat} {tA : Nat} {ad : Nat → Nat} {τ : SC} {x2 : Int32} {x3 : Int32} {r : Int32} {υ : SC} (hf : fc_hh_mostWorthy_a115 x2 x3 τ = some (r, υ)) : ctI l (wC ad cs) D vwCl (kC D cs sK sV tA) yX11_mostWorthy cX11_mostWorthy 12 .int ro_hh_mostWorthy_a115 [.ref (ad 16), .ref (ad 115), .int x2, .int x3] τ r υ := by
  refine ct_I RX11 (by decide +kernel) rfl (Nat.le_of_ble_eq_true rfl) ?_
  intro p e s m args below meth c A X hK hA
  refine gr_eqL (L2 := [(0, .ref (ad 16)), (1, .ref (ad 115)), (2, .int x2), (3, .int x3)]) rfl ?_
  unfold fc_hh_mostWorthy_a115 at hf
  refine gr_aload_n X dX11_mostWorthy_0 rfl 1 rfl ?_
  refine gr_iload_n X dX11_mostWorthy_1 rfl 2 rfl ?_
  have hi_ := oc_1 hf
  replace hf := oc_2 hf
  refine gC_ald_115 X hK (Int32.toNatClampNeg x2) hi_ rfl dX11_mostWorthy_2 ?_
  refine gC_top (fun v1 e_v1 => ?_)
  replace hf := ot_l hf e_v1
  refine gr_istore (L2 := [(4, .int v1), (0, .ref (ad 16)), (1, .ref (ad 115)), (2, .int x2), (3, .int x3)]) X dX11_mostWorthy_3 (by decide) rfl ?_
  refine gr_aload_n X dX11_mostWorthy_5 rfl 1 rfl ?_
  refine gC_get_HH_0 X hK fk11_10 dX11_mostWorthy_6 ?_
  obtain ⟨q2, hq_, hf⟩ := ot_b hf
  refine gc_Vi (rest := []) X kC_ok hK hA cw11_209 (rvC_T0 hK) (xc_to_moment hq_) rfl ⟨rfl, rfl, Nat.le_of_ble_eq_true rfl, Nat.le_of_ble_eq_true rfl⟩ rfl (Nat.le_of_ble_eq_true rfl) dX11_mostWorthy_9 ?_
  refine gr_istore (L2 := [(5, .int q2), (4, .int v1), (0, .ref (ad 16)), (1, .ref (ad 115)), (2, .int x2), (3, .int x3)]) X dX11_mostWorthy_12 (by decide) rfl ?_
  refine gr_aload_n X dX11_mostWorthy_14 rfl 2 rfl ?_
  refine gC_get_HH_0 X hK fk11_10 dX11_mostWorthy_15 ?_
  refine gr_bipush (v := 16) X dX11_mostWorthy_18 (by decide) ?_
  obtain ⟨q3, hq_, hf⟩ := ot_b hf
  refine gc_Vi (rest := []) X kC_ok hK hA cw11_212 (rvC_T0 hK) (xc_to_hoursOf hq_) rfl ⟨rfl, rfl, Nat.le_of_ble_eq_true rfl, Nat.le_of_ble_eq_true rfl⟩ rfl (Nat.le_of_ble_eq_true rfl) dX11_mostWorthy_20 ?_
  refine gr_istore (L2 := [(6, .int q3), (5, .int q2), (4, .int v1), (0, .ref (ad 16)), (1, .ref (ad 115)), (2, .int x2), (3, .int x3)]) X dX11_mostWorthy_23 (by decide) rfl ?_
  refine gr_iconst (v := 0) X dX11_mostWorthy_25 (by decide) ?_
  refine gr_istore (L2 := [(7, .int (0 : Int32)), (6, .int q3), (5, .int q2), (4, .int v1), (0, .ref (ad 16)), (1, .ref (ad 115)), (2, .int x2), (3, .int x3)]) X dX11_mostWorthy_26 (by decide) rfl ?_
  refine gr_iconst (v := -1) X dX11_mostWorthy_28 (by decide) ?_
  refine gr_istore (L2 := [(8, .int (-1 : Int32)), (7, .int (0 : Int32)), (6, .int q3), (5, .int q2), (4, .int v1), (0, .ref (ad 16)), (1, .ref (ad 115)), (2, .int x2), (3, .int x3)]) X dX11_mostWorthy_29 (by decide) rfl ?_
  refine gr_iconst (v := 0) X dX11_mostWorthy_31 (by decide) ?_
  refine gr_istore (L2 := [(9, .int (0 : Int32)), (8, .int (-1 : Int32)), (7, .int (0 : Int32)), (6, .int q3), (5, .int q2), (4, .int v1), (0, .ref (ad 16)), (1, .ref (ad 115)), (2, .int x2), (3, .int x3)]) X dX11_mostWorthy_32 (by decide) rfl ?_
  refine gr_sub [6, 7, 8, 9, 5, 4, 3, 2, 1, 0] rfl ?_
  refine wc_hh_mostWorthy_a115_l34 X hK hA  hFU _ _ _ _ _ _ _ _ _ hf
abbrev ro_hh_dueFor : Room := { frames := 7, cells := 0, slots := 0, locals := 169 }
def fc_hh_dueFor (x1 : Int32) (τ : SC) : Option (Int32 × SC) := (Option.bind (fc_to_has τ x1) fun q1 => (if q1 = 0 then (some ((-1 : Int32), τ)) else (Option.bind (fc_hh_mostWorthy_a115 x1 (60 : Int32) τ) fun p_ => hl p_.1 fun q2 => hl p_.2 fun τ3 => (some (q2, τ3)))))
set_option maxHeartbeats 4000000 in
set_option maxRecDepth 100000 in
theorem xc_hh_dueFor {l : Launch} {D : va_G} {cs : Nat → ClassId} {sK sV : Nat → Nat} {tA : Nat} {ad : Nat → Nat} {τ : SC} {x1 : Int32} {r : Int32} {υ : SC} (hf : fc_hh_dueFor x1 τ = some (r, υ)) : ctI l (wC ad cs) D vwCl (kC D cs sK sV tA) yX11_dueFor cX11_dueFor 2 .int ro_hh_dueFor [.ref (ad 16), .int x1] τ r υ := by
  refine ct_I RX11 (by decide +kernel) rfl (Nat.le_of_ble_eq_true rfl) ?_
  intro p e s m args below meth c A X hK hA
  refine gr_eqL (L2 := [(0, .ref (ad 16)), (1, .int x1)]) rfl ?_
  unfold fc_hh_dueFor at hf
  refine gr_aload_n X dX11_dueFor_0 rfl 0 rfl ?_
  refine gC_get_HH_0 X hK fk11_10 dX11_dueFor_1 ?_
  refine gr_iload_n X dX11_dueFor_4 rfl 1 rfl ?_
  obtain ⟨q1, hq_, hf⟩ := ot_b hf
  refine gc_Vi (rest := []) X kC_ok hK hA cw11_91 (rvC_T0 hK) (xc_to_has hq_) rfl ⟨rfl, rfl, Nat.le_of_ble_eq_true rfl, Nat.le_of_ble_eq_true rfl⟩ rfl (Nat.le_of_ble_eq_true rfl) dX11_dueFor_5 ?_
  refine gr_if_eq X 28 dX11_dueFor_8 (by decide) (fun hc_ => ?_) (fun hc_ => ?_)
  · replace hf := ot_t hf hc_
    refine gr_iconst (v := -1) X dX11_dueFor_28 (by decide) ?_
    exact gr_iret X dX11_dueFor_29 (Prod.mk.inj (Option.some.inj hf)).1 (Prod.mk.inj (Option.some.inj hf)).2
  · replace hf := ot_f hf hc_
    refine gr_aload_n X dX11_dueFor_11 rfl 0 rfl ?_
    refine gr_aload_n X dX11_dueFor_12 rfl 0 rfl ?_
    refine gC_get_HH_0 X hK fk11_10 dX11_dueFor_13 ?_
    refine gC_get_T0_15 X hK fk11_97 dX11_dueFor_16 ?_
    refine gr_iload_n X dX11_dueFor_19 rfl 1 rfl ?_
    refine gr_bipush (v := 60) X dX11_dueFor_20 (by decide) ?_
    obtain ⟨⟨q2, τ3⟩, hq_, hf⟩ := ot_b hf
    replace hf := ot_l (y := q2) hf rfl
    replace hf := ot_l (y := τ3) hf rfl
    refine gc_Vi (rest := []) X kC_ok hK hA cw11_222 (rvC_HH hK) (xc_hh_mostWorthy_a115 hq_) rfl ⟨rfl, rfl, Nat.le_of_ble_eq_true rfl, Nat.le_of_ble_eq_true rfl⟩ rfl (Nat.le_of_ble_eq_true rfl) dX11_dueFor_22 ?_
    refine gr_goto X 29 dX11_dueFor_25 (by decide) ?_
    exact gr_iret X dX11_dueFor_29 (Prod.mk.inj (Option.some.inj hf)).1 (Prod.mk.inj (Option.some.inj hf)).2
abbrev ro_to_pass : Room := { frames := 5, cells := 0, slots := 0, locals := 116 }
def fc_to_pass (x1 : Int32) (τ : SC) : Option (Int32 × SC) := (Option.bind (fc_to_moodByNews τ (τ.1 102 0) (τ.1 105 0)) fun q1 => (hl (sc τ 105 (fun _ => q1)) fun τ2 => (Option.bind (fc_to_has τ2 (x1 - (1 : Int32))) fun q3 => (if q3 = 0 then (Option.bind (fc_to_goOn τ2) fun τ5 => (some ((0 : Int32), τ5))) else (Option.bind (fc_to_calls (x1 - (1 : Int32)) τ2) fun p_ => hl p_.1 fun q6 => hl p_.2 fun τ7 => (Option.bind (fc_to_goOn τ7) fun τ9 => (some (q6, τ9))))))))
set_option maxHeartbeats 4000000 in
set_option maxRecDepth 100000 in
theorem xc_to_pass {l : Launch} {D : va_G} {cs : Nat → ClassId} {sK sV : Nat → Nat} {tA : Nat} {ad : Nat → Nat} {τ : SC} {x1 : Int32} {r : Int32} {υ : SC} (hf : fc_to_pass x1 τ = some (r, υ)) : ctI l (wC ad cs) D vwCl (kC D cs sK sV tA) yX9_pass cX9_pass 3 .int ro_to_pass [.ref (ad 130), .int x1] τ r υ := by
  refine ct_I RX9 (by decide +kernel) rfl (Nat.le_of_ble_eq_true rfl) ?_
  intro p e s m args below meth c A X hK hA
  refine gr_eqL (L2 := [(0, .ref (ad 130)), (1, .int x1)]) rfl ?_
  unfold fc_to_pass at hf
  refine gr_aload_n X dX9_pass_0 rfl 0 rfl ?_
  refine gr_aload_n X dX9_pass_1 rfl 0 rfl ?_
  refine gr_aload_n X dX9_pass_2 rfl 0 rfl ?_
  refine gC_get_T0_2 X hK fk9_108 dX9_pass_3 ?_
  refine gr_aload_n X dX9_pass_6 rfl 0 rfl ?_
  refine gC_get_T0_5 X hK fk9_44 dX9_pass_7 ?_
  obtain ⟨q1, hq_, hf⟩ := ot_b hf
  refine gc_Vi (rest := [.ref (ad 130)]) X kC_ok hK hA cw9_159 (rvC_T0 hK) (xc_to_moodByNews hq_) rfl ⟨rfl, rfl, Nat.le_of_ble_eq_true rfl, Nat.le_of_ble_eq_true rfl⟩ rfl (Nat.le_of_ble_eq_true rfl) dX9_pass_10 ?_
  refine gC_put_T0_5 X hK fk9_44 dX9_pass_13 ?_
  refine gC_gen (fun τ2 e_τ2 => ?_)
  replace hf := ot_l hf e_τ2
  refine gr_aload_n X dX9_pass_16 rfl 0 rfl ?_
  refine gr_iload_n X dX9_pass_17 rfl 1 rfl ?_
  refine gr_iconst (v := 1) X dX9_pass_18 (by decide) ?_
  refine gr_isub X dX9_pass_19 ?_
  obtain ⟨q3, hq_, hf⟩ := ot_b hf
  refine gc_Vi (rest := []) X kC_ok hK hA cw9_162 (rvC_T0 hK) (xc_to_has hq_) rfl ⟨rfl, rfl, Nat.le_of_ble_eq_true rfl, Nat.le_of_ble_eq_true rfl⟩ rfl (Nat.le_of_ble_eq_true rfl) dX9_pass_20 ?_
  refine gr_if_eq X 36 dX9_pass_23 (by decide) (fun hc_ => ?_) (fun hc_ => ?_)
  · replace hf := ot_t hf hc_
    refine gr_iconst (v := 0) X dX9_pass_36 (by decide) ?_
    refine gr_istore_n (L2 := [(2, .int (0 : Int32)), (0, .ref (ad 130)), (1, .int x1)]) X dX9_pass_37 rfl (by decide) rfl ?_
    refine gr_aload_n X dX9_pass_38 rfl 1 rfl ?_
    obtain ⟨τ5, hq_, hf⟩ := ot_b hf
    refine gc_Vv (rest := []) X kC_ok hK hA cw9_169 (rvC_T0 hK) (xc_to_goOn hq_) rfl ⟨rfl, rfl, Nat.le_of_ble_eq_true rfl, Nat.le_of_ble_eq_true rfl⟩ rfl (Nat.le_of_ble_eq_true rfl) dX9_pass_39 ?_
    refine gr_iload_n X dX9_pass_42 rfl 0 rfl ?_
    exact gr_iret X dX9_pass_43 (Prod.mk.inj (Option.some.inj hf)).1 (Prod.mk.inj (Option.some.inj hf)).2
  · replace hf := ot_f hf hc_
    refine gr_aload_n X dX9_pass_26 rfl 0 rfl ?_
    refine gr_iload_n X dX9_pass_27 rfl 1 rfl ?_
    refine gr_iconst (v := 1) X dX9_pass_28 (by decide) ?_
    refine gr_isub X dX9_pass_29 ?_
    obtain ⟨⟨q6, τ7⟩, hq_, hf⟩ := ot_b hf
    replace hf := ot_l (y := q6) hf rfl
    replace hf := ot_l (y := τ7) hf rfl
    refine gc_Vi (rest := []) X kC_ok hK hA cw9_166 (rvC_T0 hK) (xc_to_calls hq_) rfl ⟨rfl, rfl, Nat.le_of_ble_eq_true rfl, Nat.le_of_ble_eq_true rfl⟩ rfl (Nat.le_of_ble_eq_true rfl) dX9_pass_30 ?_
    refine gr_goto X 37 dX9_pass_33 (by decide) ?_
    refine gr_istore_n (L2 := [(2, .int q6), (0, .ref (ad 130)), (1, .int x1)]) X dX9_pass_37 rfl (by decide) rfl ?_
    refine gr_aload_n X dX9_pass_38 rfl 1 rfl ?_
    obtain ⟨τ9, hq_, hf⟩ := ot_b hf
    refine gc_Vv (rest := []) X kC_ok hK hA cw9_169 (rvC_T0 hK) (xc_to_goOn hq_) rfl ⟨rfl, rfl, Nat.le_of_ble_eq_true rfl, Nat.le_of_ble_eq_true rfl⟩ rfl (Nat.le_of_ble_eq_true rfl) dX9_pass_39 ?_
    refine gr_iload_n X dX9_pass_42 rfl 0 rfl ?_
    exact gr_iret X dX9_pass_43 (Prod.mk.inj (Option.some.inj hf)).1 (Prod.mk.inj (Option.some.inj hf)).2
abbrev ro_to_hourThatShows : Room := { frames := 6, cells := 0, slots := 0, locals := 138 }
def fc_to_hourThatShows_b54 (K19 : Int32 → Int32 → Int32 → Int32 → Int32 → SC → Option (Int32 × SC)) (x1 : Int32) (x2 : Int32) (x3 : Int32) (x4 : Int32) (x5 : Int32) (τ : SC) : Option (Int32 × SC) := (K19 x1 x2 x3 x4 (x5 + (1 : Int32)) τ)
def fc_to_hourThatShows_l19 : Nat → Int32 → Int32 → Int32 → Int32 → Int32 → SC → Option (Int32 × SC)
  | 0, _, _, _, _, _, _ => none
  | n + 1, x1, x2, x3, x4, x5, τ => (if x3 ≤ x5 then (Option.bind (fc_to_recall x2 τ) fun τ4 => (some (x4, τ4))) else (if ¬ x4 = (-3 : Int32) then (Option.bind (fc_to_recall x2 τ) fun τ6 => (some (x4, τ6))) else (Option.bind (fc_to_pass (0 : Int32) τ) fun p_ => hl p_.1 fun q7 => hl p_.2 fun τ8 => (if (τ8.1 106 0) < x1 then (fc_to_hourThatShows_b54 (fc_to_hourThatShows_l19 n) x1 x2 x3 x4 x5 τ8) else (hl ((τ8.1 102 0) - (1 : Int32)) fun v9 => (fc_to_hourThatShows_b54 (fc_to_hourThatShows_l19 n) x1 x2 x3 v9 x5 τ8))))))
def fc_to_hourThatShows (x1 : Int32) (τ : SC) : Option (Int32 × SC) := (Option.bind (fc_to_moment τ) fun q1 => (Option.bind (fc_to_hoursOf τ (16 : Int32)) fun q2 => (fc_to_hourThatShows_l19 hFU x1 q1 q2 (-3 : Int32) (0 : Int32) τ)))
set_option maxHeartbeats 4000000 in
set_option maxRecDepth 100000 in
theorem wc_to_hourThatShows_b54 {p : Program} {l : Launch} {e : Env} {s : State} {m : MethodId} {args : Array Value} {below : List Frame} {meth : Method} {c : Code} {A : Nat → Prop} {D : va_G} {cs : Nat → ClassId} {sK sV : Nat → Nat} {tA : Nat} {ad : Nat → Nat} {r : Int32} {υ : SC} {K19 : Int32 → Int32 → Int32 → Int32 → Int32 → SC → Option (Int32 × SC)} (X : hc p s m args meth c RX9 cX9_hourThatShows 6 (some .int)) (hK : kC D cs sK sV tA A s) (hA : ∀ q, s.heap.size ≤ q → A q) (hK19 : (∀ (x1 : Int32) (x2 : Int32) (x3 : Int32) (x4 : Int32) (x5 : Int32) (τ : SC), K19 x1 x2 x3 x4 x5 τ = some (r, υ) → gg p l e ro_to_hourThatShows s m args below meth c (wC ad cs) D vwCl A 6 (QI below args s (wC ad cs) D vwCl A r υ) 19 [(0, .ref (ad 130)), (1, .int x1), (2, .int x2), (3, .int x3), (4, .int x4), (5, .int x5)] [] τ))  (x1 : Int32) (x2 : Int32) (x3 : Int32) (x4 : Int32) (x5 : Int32) (τ : SC) (hf : fc_to_hourThatShows_b54 K19 x1 x2 x3 x4 x5 τ = some (r, υ)) : gg p l e ro_to_hourThatShows s m args below meth c (wC ad cs) D vwCl A 6 (QI below args s (wC ad cs) D vwCl A r υ) 54 [(0, .ref (ad 130)), (1, .int x1), (2, .int x2), (3, .int x3), (4, .int x4), (5, .int x5)] [] τ := by
  unfold fc_to_hourThatShows_b54 at hf
  refine gr_iinc (k := 5) (v := 1) (L2 := [(5, .int (x5 + (1 : Int32))), (0, .ref (ad 130)), (1, .int x1), (2, .int x2), (3, .int x3), (4, .int x4)]) X dX9_hourThatShows_54 rfl (by decide) (by decide) rfl ?_
  refine gr_goto X 19 dX9_hourThatShows_57 (by decide) ?_
  refine gr_sub [1, 2, 3, 4, 5, 0] rfl ?_
  exact hK19 _ _ _ _ _ _ hf
set_option maxHeartbeats 4000000 in
set_option maxRecDepth 100000 in
theorem wc_to_hourThatShows_l19 {p : Program} {l : Launch} {e : Env} {s : State} {m : MethodId} {args : Array Value} {below : List Frame} {meth : Method} {c : Code} {A : Nat → Prop} {D : va_G} {cs : Nat → ClassId} {sK sV : Nat → Nat} {tA : Nat} {ad : Nat → Nat} {r : Int32} {υ : SC} (X : hc p s m args meth c RX9 cX9_hourThatShows 6 (some .int)) (hK : kC D cs sK sV tA A s) (hA : ∀ q, s.heap.size ≤ q → A q)  : ∀ (n : Nat) (x1 : Int32) (x2 : Int32) (x3 : Int32) (x4 : Int32) (x5 : Int32) (τ : SC), fc_to_hourThatShows_l19 n x1 x2 x3 x4 x5 τ = some (r, υ) → gg p l e ro_to_hourThatShows s m args below meth c (wC ad cs) D vwCl A 6 (QI below args s (wC ad cs) D vwCl A r υ) 19 [(0, .ref (ad 130)), (1, .int x1), (2, .int x2), (3, .int x3), (4, .int x4), (5, .int x5)] [] τ := by
  intro n
  induction n with
  | zero =>
    intro x1 x2 x3 x4 x5 τ hf
    cases (show (none : Option (Int32 × SC)) = some (r, υ) from hf)
  | succ n ih =>
    intro x1 x2 x3 x4 x5 τ hf
    unfold fc_to_hourThatShows_l19 at hf
    refine gr_iload X dX9_hourThatShows_19 5 rfl ?_
    refine gr_iload_n X dX9_hourThatShows_21 rfl 3 rfl ?_
    refine gr_icmp_ge X 60 dX9_hourThatShows_22 (by decide) (fun hc_ => ?_) (fun hc_ => ?_)
    · replace hf := ot_t hf hc_
      refine gr_aload_n X dX9_hourThatShows_60 rfl 0 rfl ?_
      refine gr_iload_n X dX9_hourThatShows_61 rfl 2 rfl ?_
      obtain ⟨τ4, hq_, hf⟩ := ot_b hf
      refine gc_Vv (rest := []) X kC_ok hK hA cw9_89 (rvC_T0 hK) (xc_to_recall hq_) rfl ⟨rfl, rfl, Nat.le_of_ble_eq_true rfl, Nat.le_of_ble_eq_true rfl⟩ rfl (Nat.le_of_ble_eq_true rfl) dX9_hourThatShows_62 ?_
      refine gr_iload X dX9_hourThatShows_65 4 rfl ?_
      exact gr_iret X dX9_hourThatShows_67 (Prod.mk.inj (Option.some.inj hf)).1 (Prod.mk.inj (Option.some.inj hf)).2
    · replace hf := ot_f hf hc_
      refine gr_iload X dX9_hourThatShows_25 4 rfl ?_
      refine gr_bipush (v := -3) X dX9_hourThatShows_27 (by decide) ?_
      refine gr_icmp_ne X 60 dX9_hourThatShows_29 (by decide) (fun hc_ => ?_) (fun hc_ => ?_)
      · replace hf := ot_t hf hc_
        refine gr_aload_n X dX9_hourThatShows_60 rfl 0 rfl ?_
        refine gr_iload_n X dX9_hourThatShows_61 rfl 2 rfl ?_
        obtain ⟨τ6, hq_, hf⟩ := ot_b hf
        refine gc_Vv (rest := []) X kC_ok hK hA cw9_89 (rvC_T0 hK) (xc_to_recall hq_) rfl ⟨rfl, rfl, Nat.le_of_ble_eq_true rfl, Nat.le_of_ble_eq_true rfl⟩ rfl (Nat.le_of_ble_eq_true rfl) dX9_hourThatShows_62 ?_
        refine gr_iload X dX9_hourThatShows_65 4 rfl ?_
        exact gr_iret X dX9_hourThatShows_67 (Prod.mk.inj (Option.some.inj hf)).1 (Prod.mk.inj (Option.some.inj hf)).2
      · replace hf := ot_f hf hc_
        refine gr_aload_n X dX9_hourThatShows_32 rfl 0 rfl ?_
        refine gr_iconst (v := 0) X dX9_hourThatShows_33 (by decide) ?_
        obtain ⟨⟨q7, τ8⟩, hq_, hf⟩ := ot_b hf
        replace hf := ot_l (y := q7) hf rfl
        replace hf := ot_l (y := τ8) hf rfl
        refine gc_Vi (rest := []) X kC_ok hK hA cw9_179 (rvC_T0 hK) (xc_to_pass hq_) rfl ⟨rfl, rfl, Nat.le_of_ble_eq_true rfl, Nat.le_of_ble_eq_true rfl⟩ rfl (Nat.le_of_ble_eq_true rfl) dX9_hourThatShows_34 ?_
        refine gr_pop X dX9_hourThatShows_37 rfl ?_
        refine gr_aload_n X dX9_hourThatShows_38 rfl 0 rfl ?_
        refine gC_get_T0_6 X hK fk9_111 dX9_hourThatShows_39 ?_
        refine gr_iload_n X dX9_hourThatShows_42 rfl 1 rfl ?_
        refine gr_icmp_lt X 54 dX9_hourThatShows_43 (by decide) (fun hc_ => ?_) (fun hc_ => ?_)
        · replace hf := ot_t hf hc_
          refine gr_sub [0, 1, 2, 3, 4, 5] rfl ?_
          exact wc_to_hourThatShows_b54 X hK hA ih _ _ _ _ _ _ hf
        · replace hf := ot_f hf hc_
          refine gr_aload_n X dX9_hourThatShows_46 rfl 0 rfl ?_
          refine gC_get_T0_2 X hK fk9_108 dX9_hourThatShows_47 ?_
          refine gr_iconst (v := 1) X dX9_hourThatShows_50 (by decide) ?_
          refine gr_isub X dX9_hourThatShows_51 ?_
          refine gC_top (fun v9 e_v9 => ?_)
          replace hf := ot_l hf e_v9
          refine gr_istore (L2 := [(4, .int v9), (0, .ref (ad 130)), (1, .int x1), (2, .int x2), (3, .int x3), (5, .int x5)]) X dX9_hourThatShows_52 (by decide) rfl ?_
          refine gr_sub [1, 2, 3, 4, 0, 5] rfl ?_
          exact wc_to_hourThatShows_b54 X hK hA ih _ _ _ _ _ _ hf
set_option maxHeartbeats 4000000 in
set_option maxRecDepth 100000 in
theorem xc_to_hourThatShows {l : Launch} {D : va_G} {cs : Nat → ClassId} {sK sV : Nat → Nat} {tA : Nat} {ad : Nat → Nat} {τ : SC} {x1 : Int32} {r : Int32} {υ : SC} (hf : fc_to_hourThatShows x1 τ = some (r, υ)) : ctI l (wC ad cs) D vwCl (kC D cs sK sV tA) yX9_hourThatShows cX9_hourThatShows 6 .int ro_to_hourThatShows [.ref (ad 130), .int x1] τ r υ := by
  refine ct_I RX9 (by decide +kernel) rfl (Nat.le_of_ble_eq_true rfl) ?_
  intro p e s m args below meth c A X hK hA
  refine gr_eqL (L2 := [(0, .ref (ad 130)), (1, .int x1)]) rfl ?_
  unfold fc_to_hourThatShows at hf
  refine gr_aload_n X dX9_hourThatShows_0 rfl 0 rfl ?_
  obtain ⟨q1, hq_, hf⟩ := ot_b hf
  refine gc_Vi (rest := []) X kC_ok hK hA cw9_85 (rvC_T0 hK) (xc_to_moment hq_) rfl ⟨rfl, rfl, Nat.le_of_ble_eq_true rfl, Nat.le_of_ble_eq_true rfl⟩ rfl (Nat.le_of_ble_eq_true rfl) dX9_hourThatShows_1 ?_
  refine gr_istore_n (L2 := [(2, .int q1), (0, .ref (ad 130)), (1, .int x1)]) X dX9_hourThatShows_4 rfl (by decide) rfl ?_
  refine gr_aload_n X dX9_hourThatShows_5 rfl 1 rfl ?_
  refine gr_bipush (v := 16) X dX9_hourThatShows_6 (by decide) ?_
  obtain ⟨q2, hq_, hf⟩ := ot_b hf
  refine gc_Vi (rest := []) X kC_ok hK hA cw9_197 (rvC_T0 hK) (xc_to_hoursOf hq_) rfl ⟨rfl, rfl, Nat.le_of_ble_eq_true rfl, Nat.le_of_ble_eq_true rfl⟩ rfl (Nat.le_of_ble_eq_true rfl) dX9_hourThatShows_8 ?_
  refine gr_istore_n (L2 := [(3, .int q2), (2, .int q1), (0, .ref (ad 130)), (1, .int x1)]) X dX9_hourThatShows_11 rfl (by decide) rfl ?_
  refine gr_bipush (v := -3) X dX9_hourThatShows_12 (by decide) ?_
  refine gr_istore (L2 := [(4, .int (-3 : Int32)), (3, .int q2), (2, .int q1), (0, .ref (ad 130)), (1, .int x1)]) X dX9_hourThatShows_14 (by decide) rfl ?_
  refine gr_iconst (v := 0) X dX9_hourThatShows_16 (by decide) ?_
  refine gr_istore (L2 := [(5, .int (0 : Int32)), (4, .int (-3 : Int32)), (3, .int q2), (2, .int q1), (0, .ref (ad 130)), (1, .int x1)]) X dX9_hourThatShows_17 (by decide) rfl ?_
  refine gr_sub [4, 5, 3, 2, 1, 0] rfl ?_
  refine wc_to_hourThatShows_l19 X hK hA  hFU _ _ _ _ _ _ hf
