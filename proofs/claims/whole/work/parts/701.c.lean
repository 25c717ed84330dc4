abbrev ro_ru_learn_R0 : Room := { frames := 0, cells := 0, slots := 0, locals := 0 }
def fc_ru_learn_R0 (x1 : Int32) (x2 : Int32) (x3 : Int32) (x4 : Int32) (x5 : Int32) (τ : SC) : Option SC := (hl (sc τ 126 (upd (τ.1 126) 0 x1)) fun τ1 => (hl (sc τ1 126 (upd (τ1.1 126) 1 x2)) fun τ2 => (hl (sc τ2 126 (upd (τ2.1 126) 2 x3)) fun τ3 => (hl (sc τ3 126 (upd (τ3.1 126) 3 x4)) fun τ4 => (hl (sc τ4 126 (upd (τ4.1 126) 4 x5)) fun τ5 => (some τ5))))))
set_option maxHeartbeats 4000000 in
set_option maxRecDepth 100000 in
theorem xc_ru_learn_R0 {l : Launch} {D : va_G} {cs : Nat → ClassId} {sK sV : Nat → Nat} {tA : Nat} {ad : Nat → Nat} {τ : SC} {x1 : Int32} {x2 : Int32} {x3 : Int32} {x4 : Int32} {x5 : Int32} {υ : SC} (hf : fc_ru_learn_R0 x1 x2 x3 x4 x5 τ = some υ) : ctV l (wC ad cs) D vwCl (kC D cs sK sV tA) yX8_learn cX8_learn 6 ro_ru_learn_R0 [.ref (ad 131), .int x1, .int x2, .int x3, .int x4, .int x5] τ υ := by
  refine ct_V RX8 (by decide +kernel) rfl (Nat.le_of_ble_eq_true rfl) ?_
  intro p e s m args below meth c A X hK hA
  refine gr_eqL (L2 := [(0, .ref (ad 131)), (1, .int x1), (2, .int x2), (3, .int x3), (4, .int x4), (5, .int x5)]) rfl ?_
  unfold fc_ru_learn_R0 at hf
  refine gr_aload_n X dX8_learn_0 rfl 0 rfl ?_
  refine gC_get_R0_6 X hK fk8_24 dX8_learn_1 ?_
  refine gr_iconst (v := 0) X dX8_learn_4 (by decide) ?_
  refine gr_iload_n X dX8_learn_5 rfl 1 rfl ?_
  refine gC_ast_126 X hK 0 (by decide) (by decide) dX8_learn_6 ?_
  refine gC_gen (fun τ1 e_τ1 => ?_)
  replace hf := ot_l hf e_τ1
  refine gr_aload_n X dX8_learn_7 rfl 0 rfl ?_
  refine gC_get_R0_6 X hK fk8_24 dX8_learn_8 ?_
  refine gr_iconst (v := 1) X dX8_learn_11 (by decide) ?_
  refine gr_iload_n X dX8_learn_12 rfl 2 rfl ?_
  refine gC_ast_126 X hK 1 (by decide) (by decide) dX8_learn_13 ?_
  refine gC_gen (fun τ2 e_τ2 => ?_)
  replace hf := ot_l hf e_τ2
  refine gr_aload_n X dX8_learn_14 rfl 0 rfl ?_
  refine gC_get_R0_6 X hK fk8_24 dX8_learn_15 ?_
  refine gr_iconst (v := 2) X dX8_learn_18 (by decide) ?_
  refine gr_iload_n X dX8_learn_19 rfl 3 rfl ?_
  refine gC_ast_126 X hK 2 (by decide) (by decide) dX8_learn_20 ?_
  refine gC_gen (fun τ3 e_τ3 => ?_)
  replace hf := ot_l hf e_τ3
  refine gr_aload_n X dX8_learn_21 rfl 0 rfl ?_
  refine gC_get_R0_6 X hK fk8_24 dX8_learn_22 ?_
  refine gr_iconst (v := 3) X dX8_learn_25 (by decide) ?_
  refine gr_iload X dX8_learn_26 4 rfl ?_
  refine gC_ast_126 X hK 3 (by decide) (by decide) dX8_learn_28 ?_
  refine gC_gen (fun τ4 e_τ4 => ?_)
  replace hf := ot_l hf e_τ4
  refine gr_aload_n X dX8_learn_29 rfl 0 rfl ?_
  refine gC_get_R0_6 X hK fk8_24 dX8_learn_30 ?_
  refine gr_iconst (v := 4) X dX8_learn_33 (by decide) ?_
  refine gr_iload X dX8_learn_34 5 rfl ?_
  refine gC_ast_126 X hK 4 (by decide) (by decide) dX8_learn_36 ?_
  refine gC_gen (fun τ5 e_τ5 => ?_)
  replace hf := ot_l hf e_τ5
  exact gr_vret X dX8_learn_37 (Option.some.inj hf)
abbrev ro_ru_isOrUnder : Room := { frames := 0, cells := 0, slots := 0, locals := 0 }
def fc_ru_isOrUnder_l4 : Nat → Int32 → Int32 → Int32 → Option Int32
  | 0, _, _, _ => none
  | n + 1, x1, x2, x3 => (if (3 : Int32) ≤ x3 then (some (0 : Int32)) else (if x2 < 0 then (some (0 : Int32)) else (if (6 : Int32) ≤ x2 then (some (0 : Int32)) else (if ¬ x2 = x1 then (oc (hin x2 6) (hl (hAb (Int32.toNatClampNeg x2)) fun v1 => ((fc_ru_isOrUnder_l4 n) x1 v1 (x3 + (1 : Int32))))) else (some (1 : Int32))))))
def fc_ru_isOrUnder (x0 : Int32) (x1 : Int32) : Option Int32 := (fc_ru_isOrUnder_l4 hFU x1 x0 (0 : Int32))
set_option maxHeartbeats 4000000 in
set_option maxRecDepth 100000 in
theorem wc_ru_isOrUnder_l4 {p : Program} {l : Launch} {e : Env} {s : State} {m : MethodId} {args : Array Value} {below : List Frame} {meth : Method} {c : Code} {A : Nat → Prop} {D : va_G} {cs : Nat → ClassId} {sK sV : Nat → Nat} {tA : Nat} {ad : Nat → Nat} {r : Int32} {τ : SC} (X : hc p s m args meth c RX8 cX8_isOrUnder 4 (some .boolean)) (hK : kC D cs sK sV tA A s) (hA : ∀ q, s.heap.size ≤ q → A q)  : ∀ (n : Nat) (x1 : Int32) (x2 : Int32) (x3 : Int32), fc_ru_isOrUnder_l4 n x1 x2 x3 = some r → gg p l e ro_ru_isOrUnder s m args below meth c (wC ad cs) D vwCl A 4 (QI below args s (wC ad cs) D vwCl A r τ) 4 [(1, .int x1), (2, .int x2), (3, .int x3)] [] τ := by
  intro n
  induction n with
  | zero =>
    intro x1 x2 x3 hf
    cases (show (none : Option Int32) = some r from hf)
  | succ n ih =>
    intro x1 x2 x3 hf
    unfold fc_ru_isOrUnder_l4 at hf
    refine gr_iload_n X dX8_isOrUnder_4 rfl 2 rfl ?_
    refine gr_iconst (v := 3) X dX8_isOrUnder_5 (by decide) ?_
    refine gr_icmp_ge X 40 dX8_isOrUnder_6 (by decide) (fun hc_ => ?_) (fun hc_ => ?_)
    · replace hf := ot_t hf hc_
      refine gr_iconst (v := 0) X dX8_isOrUnder_40 (by decide) ?_
      exact gr_zret X dX8_isOrUnder_41 (by decide) (Option.some.inj hf) rfl
    · replace hf := ot_f hf hc_
      refine gr_iload_n X dX8_isOrUnder_9 rfl 1 rfl ?_
      refine gr_if_lt X 40 dX8_isOrUnder_10 (by decide) (fun hc_ => ?_) (fun hc_ => ?_)
      · replace hf := ot_t hf hc_
        refine gr_iconst (v := 0) X dX8_isOrUnder_40 (by decide) ?_
        exact gr_zret X dX8_isOrUnder_41 (by decide) (Option.some.inj hf) rfl
      · replace hf := ot_f hf hc_
        refine gr_iload_n X dX8_isOrUnder_13 rfl 1 rfl ?_
        refine gC_above X hK fk8_27 dX8_isOrUnder_14 ?_
        refine gC_abovelen X hK dX8_isOrUnder_17 ?_
        refine gr_icmp_ge X 40 dX8_isOrUnder_18 (by decide) (fun hc_ => ?_) (fun hc_ => ?_)
        · replace hf := ot_t hf hc_
          refine gr_iconst (v := 0) X dX8_isOrUnder_40 (by decide) ?_
          exact gr_zret X dX8_isOrUnder_41 (by decide) (Option.some.inj hf) rfl
        · replace hf := ot_f hf hc_
          refine gr_iload_n X dX8_isOrUnder_21 rfl 1 rfl ?_
          refine gr_iload_n X dX8_isOrUnder_22 rfl 0 rfl ?_
          refine gr_icmp_ne X 28 dX8_isOrUnder_23 (by decide) (fun hc_ => ?_) (fun hc_ => ?_)
          · replace hf := ot_t hf hc_
            refine gC_above X hK fk8_27 dX8_isOrUnder_28 ?_
            refine gr_iload_n X dX8_isOrUnder_31 rfl 1 rfl ?_
            have hi_ := oc_1 hf
            replace hf := oc_2 hf
            refine gC_above_ald X hK (Int32.toNatClampNeg x2) hi_ rfl dX8_isOrUnder_32 ?_
            refine gC_top (fun v1 e_v1 => ?_)
            replace hf := ot_l hf e_v1
            refine gr_istore_n (L2 := [(2, .int v1), (1, .int x1), (3, .int x3)]) X dX8_isOrUnder_33 rfl (by decide) rfl ?_
            refine gr_iinc (k := 2) (v := 1) (L2 := [(3, .int (x3 + (1 : Int32))), (2, .int v1), (1, .int x1)]) X dX8_isOrUnder_34 rfl (by decide) (by decide) rfl ?_
            refine gr_goto X 4 dX8_isOrUnder_37 (by decide) ?_
            refine gr_sub [2, 1, 0] rfl ?_
            exact ih _ _ _ hf
          · replace hf := ot_f hf hc_
            refine gr_iconst (v := 1) X dX8_isOrUnder_26 (by decide) ?_
            exact gr_zret X dX8_isOrUnder_27 (by decide) (Option.some.inj hf) rfl
set_option maxHeartbeats 4000000 in
set_option maxRecDepth 100000 in
theorem xc_ru_isOrUnder {l : Launch} {D : va_G} {cs : Nat → ClassId} {sK sV : Nat → Nat} {tA : Nat} {ad : Nat → Nat} {τ : SC} {x0 : Int32} {x1 : Int32} {r : Int32} (hf : fc_ru_isOrUnder x0 x1 = some r) : ctI l (wC ad cs) D vwCl (kC D cs sK sV tA) yX8_isOrUnder cX8_isOrUnder 4 .boolean ro_ru_isOrUnder [.int x0, .int x1] τ r τ := by
  refine ct_I RX8 (by decide +kernel) rfl (Nat.le_of_ble_eq_true rfl) ?_
  intro p e s m args below meth c A X hK hA
  refine gr_eqL (L2 := [(0, .int x0), (1, .int x1)]) rfl ?_
  unfold fc_ru_isOrUnder at hf
  refine gr_iload_n X dX8_isOrUnder_0 rfl 0 rfl ?_
  refine gr_istore_n (L2 := [(2, .int x0), (0, .int x0), (1, .int x1)]) X dX8_isOrUnder_1 rfl (by decide) rfl ?_
  refine gr_iconst (v := 0) X dX8_isOrUnder_2 (by decide) ?_
  refine gr_istore_n (L2 := [(3, .int (0 : Int32)), (2, .int x0), (0, .int x0), (1, .int x1)]) X dX8_isOrUnder_3 rfl (by decide) rfl ?_
  refine gr_sub [3, 1, 0] rfl ?_
  refine wc_ru_isOrUnder_l4 X hK hA  hFU _ _ _ hf
abbrev ro_ru_valueOf_R0 : Room := { frames := 0, cells := 0, slots := 0, locals := 0 }
def fc_ru_valueOf_R0 (τ : SC) (x1 : Int32) : Option Int32 := (hl ((-1 : Int32) - x1) fun v1 => (if v1 < 0 then (some x1) else (if (5 : Int32) ≤ v1 then (some x1) else (oc (hin v1 5) (some (τ.1 126 (Int32.toNatClampNeg v1)))))))
set_option maxHeartbeats 4000000 in
set_option maxRecDepth 100000 in
theorem xc_ru_valueOf_R0 {l : Launch} {D : va_G} {cs : Nat → ClassId} {sK sV : Nat → Nat} {tA : Nat} {ad : Nat → Nat} {τ : SC} {x1 : Int32} {r : Int32} (hf : fc_ru_valueOf_R0 τ x1 = some r) : ctI l (wC ad cs) D vwCl (kC D cs sK sV tA) yX8_valueOf cX8_valueOf 3 .int ro_ru_valueOf_R0 [.ref (ad 131), .int x1] τ r τ := by
  refine ct_I RX8 (by decide +kernel) rfl (Nat.le_of_ble_eq_true rfl) ?_
  intro p e s m args below meth c A X hK hA
  refine gr_eqL (L2 := [(0, .ref (ad 131)), (1, .int x1)]) rfl ?_
  unfold fc_ru_valueOf_R0 at hf
  refine gr_iconst (v := -1) X dX8_valueOf_0 (by decide) ?_
  refine gr_iload_n X dX8_valueOf_1 rfl 1 rfl ?_
  refine gr_isub X dX8_valueOf_2 ?_
  refine gC_top (fun v1 e_v1 => ?_)
  replace hf := ot_l hf e_v1
  refine gr_istore_n (L2 := [(2, .int v1), (0, .ref (ad 131)), (1, .int x1)]) X dX8_valueOf_3 rfl (by decide) rfl ?_
  refine gr_iload_n X dX8_valueOf_4 rfl 0 rfl ?_
  refine gr_if_lt X 22 dX8_valueOf_5 (by decide) (fun hc_ => ?_) (fun hc_ => ?_)
  · replace hf := ot_t hf hc_
    refine gr_iload_n X dX8_valueOf_22 rfl 2 rfl ?_
    exact gr_iret X dX8_valueOf_23 (Option.some.inj hf) rfl
  · replace hf := ot_f hf hc_
    refine gr_iload_n X dX8_valueOf_8 rfl 0 rfl ?_
    refine gr_iconst (v := 5) X dX8_valueOf_9 (by decide) ?_
    refine gr_icmp_ge X 22 dX8_valueOf_10 (by decide) (fun hc_ => ?_) (fun hc_ => ?_)
    · replace hf := ot_t hf hc_
      refine gr_iload_n X dX8_valueOf_22 rfl 2 rfl ?_
      exact gr_iret X dX8_valueOf_23 (Option.some.inj hf) rfl
    · replace hf := ot_f hf hc_
      refine gr_aload_n X dX8_valueOf_13 rfl 1 rfl ?_
      refine gC_get_R0_6 X hK fk8_24 dX8_valueOf_14 ?_
      refine gr_iload_n X dX8_valueOf_17 rfl 0 rfl ?_
      have hi_ := oc_1 hf
      replace hf := oc_2 hf
      refine gC_ald_126 X hK (Int32.toNatClampNeg v1) hi_ rfl dX8_valueOf_18 ?_
      refine gr_goto X 23 dX8_valueOf_19 (by decide) ?_
      exact gr_iret X dX8_valueOf_23 (Option.some.inj hf) rfl
abbrev ro_ru_holds_R0 : Room := { frames := 1, cells := 0, slots := 0, locals := 22 }
def fc_ru_holds_R0_b189 (τ : SC) (K195 : Int32 → Option Int32) (K5 : Int32 → Int32 → Int32 → Option Int32) (x2 : Int32) (x3 : Int32) (x4 : Int32) : Option Int32 := (K5 x2 x3 (x4 + (1 : Int32)))
def fc_ru_holds_R0_b184 (τ : SC) (K195 : Int32 → Option Int32) (K5 : Int32 → Int32 → Int32 → Option Int32) (x2 : Int32) (x4 : Int32) (y0 : Int32) (y1 : Int32) : Option Int32 := (hl (y1 ||| y0) fun v4 => (fc_ru_holds_R0_b189 τ K195 K5 x2 v4 (x4 + (2 : Int32))))
def fc_ru_holds_R0_b169 (τ : SC) (K195 : Int32 → Option Int32) (K5 : Int32 → Int32 → Int32 → Option Int32) (x2 : Int32) (x3 : Int32) (x4 : Int32) (y0 : Int32) : Option Int32 := (if y0 = 0 then (fc_ru_holds_R0_b184 τ K195 K5 x2 x4 (0 : Int32) (x3 <<< ((1 : Int32) &&& 31))) else (fc_ru_holds_R0_b184 τ K195 K5 x2 x4 (1 : Int32) (x3 <<< ((1 : Int32) &&& 31))))
def fc_ru_holds_R0_l5 (τ : SC) (K195 : Int32 → Option Int32) : Nat → Int32 → Int32 → Int32 → Option Int32
  | 0, _, _, _ => none
  | n + 1, x2, x3, x4 => (if x2 ≤ x4 then (K195 x3) else (if (200 : Int32) ≤ x4 then (K195 x3) else (oc (hin x4 200) (hl (τ.1 124 (Int32.toNatClampNeg x4)) fun v1 => (if ¬ v1 = 0 then (if ¬ v1 = (1 : Int32) then (if ¬ v1 = (2 : Int32) then (if (200 : Int32) ≤ (x4 + (2 : Int32)) then (fc_ru_holds_R0_b189 τ K195 (fc_ru_holds_R0_l5 τ K195 n) x2 x3 x4) else (oc (hin (x4 + (1 : Int32)) 200) (Option.bind (fc_ru_valueOf_R0 τ (τ.1 124 (Int32.toNatClampNeg (x4 + (1 : Int32))))) fun q2 => (oc (hin (x4 + (2 : Int32)) 200) (Option.bind (fc_ru_valueOf_R0 τ (τ.1 124 (Int32.toNatClampNeg (x4 + (2 : Int32))))) fun q3 => (if ¬ v1 = (3 : Int32) then (if ¬ v1 = (4 : Int32) then (if q2 ≤ q3 then (fc_ru_holds_R0_b169 τ K195 (fc_ru_holds_R0_l5 τ K195 n) x2 x3 x4 (0 : Int32)) else (fc_ru_holds_R0_b169 τ K195 (fc_ru_holds_R0_l5 τ K195 n) x2 x3 x4 (1 : Int32))) else (if ¬ q2 = q3 then (fc_ru_holds_R0_b169 τ K195 (fc_ru_holds_R0_l5 τ K195 n) x2 x3 x4 (0 : Int32)) else (fc_ru_holds_R0_b169 τ K195 (fc_ru_holds_R0_l5 τ K195 n) x2 x3 x4 (1 : Int32)))) else (if q3 ≤ q2 then (fc_ru_holds_R0_b169 τ K195 (fc_ru_holds_R0_l5 τ K195 n) x2 x3 x4 (0 : Int32)) else (fc_ru_holds_R0_b169 τ K195 (fc_ru_holds_R0_l5 τ K195 n) x2 x3 x4 (1 : Int32))))))))) else (hl ((x3 >>> ((1 : Int32) &&& 31)) ||| (x3 &&& (1 : Int32))) fun v5 => (fc_ru_holds_R0_b189 τ K195 (fc_ru_holds_R0_l5 τ K195 n) x2 v5 x4))) else (hl ((x3 >>> ((1 : Int32) &&& 31)) &&& (x3 ||| (-2 : Int32))) fun v6 => (fc_ru_holds_R0_b189 τ K195 (fc_ru_holds_R0_l5 τ K195 n) x2 v6 x4))) else (hl (x3 ^^^ (1 : Int32)) fun v7 => (fc_ru_holds_R0_b189 τ K195 (fc_ru_holds_R0_l5 τ K195 n) x2 v7 x4)))))))
def fc_ru_holds_R0_b195 (τ : SC) (x3 : Int32) : Option Int32 := (if ¬ (x3 &&& (1 : Int32)) = (1 : Int32) then (some (0 : Int32)) else (some (1 : Int32)))
def fc_ru_holds_R0 (τ : SC) (x1 : Int32) (x2 : Int32) : Option Int32 := (fc_ru_holds_R0_l5 τ (fun x3 => (fc_ru_holds_R0_b195 τ x3)) hFU x2 (1 : Int32) x1)
set_option maxHeartbeats 4000000 in
set_option maxRecDepth 100000 in
theorem wc_ru_holds_R0_b189 {p : Program} {l : Launch} {e : Env} {s : State} {m : MethodId} {args : Array Value} {below : List Frame} {meth : Method} {c : Code} {A : Nat → Prop} {D : va_G} {cs : Nat → ClassId} {sK sV : Nat → Nat} {tA : Nat} {ad : Nat → Nat} {r : Int32} {τ : SC} {K195 : Int32 → Option Int32} {K5 : Int32 → Int32 → Int32 → Option Int32} (X : hc p s m args meth c RX8 cX8_holds 9 (some .boolean)) (hK : kC D cs sK sV tA A s) (hA : ∀ q, s.heap.size ≤ q → A q) (hK195 : (∀ (x3 : Int32), K195 x3 = some r → gg p l e ro_ru_holds_R0 s m args below meth c (wC ad cs) D vwCl A 9 (QI below args s (wC ad cs) D vwCl A r τ) 195 [(3, .int x3)] [] τ)) (hK5 : (∀ (x2 : Int32) (x3 : Int32) (x4 : Int32), K5 x2 x3 x4 = some r → gg p l e ro_ru_holds_R0 s m args below meth c (wC ad cs) D vwCl A 9 (QI below args s (wC ad cs) D vwCl A r τ) 5 [(0, .ref (ad 131)), (2, .int x2), (3, .int x3), (4, .int x4)] [] τ))  (x2 : Int32) (x3 : Int32) (x4 : Int32) (hf : fc_ru_holds_R0_b189 τ K195 K5 x2 x3 x4 = some r) : gg p l e ro_ru_holds_R0 s m args below meth c (wC ad cs) D vwCl A 9 (QI below args s (wC ad cs) D vwCl A r τ) 189 [(0, .ref (ad 131)), (2, .int x2), (3, .int x3), (4, .int x4)] [] τ := by
  unfold fc_ru_holds_R0_b189 at hf
  refine gr_iinc (k := 3) (v := 1) (L2 := [(4, .int (x4 + (1 : Int32))), (0, .ref (ad 131)), (2, .int x2), (3, .int x3)]) X dX8_holds_189 rfl (by decide) (by decide) rfl ?_
  refine gr_goto X 5 dX8_holds_192 (by decide) ?_
  refine gr_sub [1, 2, 3, 0] rfl ?_
  exact hK5 _ _ _ hf
set_option maxHeartbeats 4000000 in
set_option maxRecDepth 100000 in
theorem wc_ru_holds_R0_b184 {p : Program} {l : Launch} {e : Env} {s : State} {m : MethodId} {args : Array Value} {below : List Frame} {meth : Method} {c : Code} {A : Nat → Prop} {D : va_G} {cs : Nat → ClassId} {sK sV : Nat → Nat} {tA : Nat} {ad : Nat → Nat} {r : Int32} {τ : SC} {K195 : Int32 → Option Int32} {K5 : Int32 → Int32 → Int32 → Option Int32} (X : hc p s m args meth c RX8 cX8_holds 9 (some .boolean)) (hK : kC D cs sK sV tA A s) (hA : ∀ q, s.heap.size ≤ q → A q) (hK195 : (∀ (x3 : Int32), K195 x3 = some r → gg p l e ro_ru_holds_R0 s m args below meth c (wC ad cs) D vwCl A 9 (QI below args s (wC ad cs) D vwCl A r τ) 195 [(3, .int x3)] [] τ)) (hK5 : (∀ (x2 : Int32) (x3 : Int32) (x4 : Int32), K5 x2 x3 x4 = some r → gg p l e ro_ru_holds_R0 s m args below meth c (wC ad cs) D vwCl A 9 (QI below args s (wC ad cs) D vwCl A r τ) 5 [(0, .ref (ad 131)), (2, .int x2), (3, .int x3), (4, .int x4)] [] τ))  (x2 : Int32) (x4 : Int32) (y0 : Int32) (y1 : Int32) (hf : fc_ru_holds_R0_b184 τ K195 K5 x2 x4 y0 y1 = some r) : gg p l e ro_ru_holds_R0 s m args below meth c (wC ad cs) D vwCl A 9 (QI below args s (wC ad cs) D vwCl A r τ) 184 [(0, .ref (ad 131)), (2, .int x2), (4, .int x4)] [.int y0, .int y1] τ := by
  unfold fc_ru_holds_R0_b184 at hf
  refine gr_ior X dX8_holds_184 ?_
  refine gC_top (fun v4 e_v4 => ?_)
  replace hf := ot_l hf e_v4
  refine gr_istore_n (L2 := [(3, .int v4), (0, .ref (ad 131)), (2, .int x2), (4, .int x4)]) X dX8_holds_185 rfl (by decide) rfl ?_
  refine gr_iinc (k := 3) (v := 2) (L2 := [(4, .int (x4 + (2 : Int32))), (3, .int v4), (0, .ref (ad 131)), (2, .int x2)]) X dX8_holds_186 rfl (by decide) (by decide) rfl ?_
  refine gr_sub [2, 3, 1, 0] rfl ?_
  exact wc_ru_holds_R0_b189 X hK hA hK195 hK5 _ _ _ hf
set_option maxHeartbeats 4000000 in
set_option maxRecDepth 100000 in
theorem wc_ru_holds_R0_b169 {p : Program} {l : Launch} {e : Env} {s : State} {m : MethodId} {args : Array Value} {below : List Frame} {meth : Method} {c : Code} {A : Nat → Prop} {D : va_G} {cs : Nat → ClassId} {sK sV : Nat → Nat} {tA : Nat} {ad : Nat → Nat} {r : Int32} {τ : SC} {K195 : Int32 → Option Int32} {K5 : Int32 → Int32 → Int32 → Option Int32} (X : hc p s m args meth c RX8 cX8_holds 9 (some .boolean)) (hK : kC D cs sK sV tA A s) (hA : ∀ q, s.heap.size ≤ q → A q) (hK195 : (∀ (x3 : Int32), K195 x3 = some r → gg p l e ro_ru_holds_R0 s m args below meth c (wC ad cs) D vwCl A 9 (QI below args s (wC ad cs) D vwCl A r τ) 195 [(3, .int x3)] [] τ)) (hK5 : (∀ (x2 : Int32) (x3 : Int32) (x4 : Int32), K5 x2 x3 x4 = some r → gg p l e ro_ru_holds_R0 s m args below meth c (wC ad cs) D vwCl A 9 (QI below args s (wC ad cs) D vwCl A r τ) 5 [(0, .ref (ad 131)), (2, .int x2), (3, .int x3), (4, .int x4)] [] τ))  (x2 : Int32) (x3 : Int32) (x4 : Int32) (y0 : Int32) (hf : fc_ru_holds_R0_b169 τ K195 K5 x2 x3 x4 y0 = some r) : gg p l e ro_ru_holds_R0 s m args below meth c (wC ad cs) D vwCl A 9 (QI below args s (wC ad cs) D vwCl A r τ) 169 [(0, .ref (ad 131)), (2, .int x2), (3, .int x3), (4, .int x4)] [.int y0] τ := by
  unfold fc_ru_holds_R0_b169 at hf
  refine gr_istore (L2 := [(8, .int y0), (0, .ref (ad 131)), (2, .int x2), (3, .int x3), (4, .int x4)]) X dX8_holds_169 (by decide) rfl ?_
  refine gr_iload_n X dX8_holds_171 rfl 3 rfl ?_
  refine gr_iconst (v := 1) X dX8_holds_172 (by decide) ?_
  refine gr_ishl X dX8_holds_173 ?_
  refine gr_iload X dX8_holds_174 0 rfl ?_
  refine gr_if_eq X 183 dX8_holds_176 (by decide) (fun hc_ => ?_) (fun hc_ => ?_)
  · replace hf := ot_t hf hc_
    refine gr_iconst (v := 0) X dX8_holds_183 (by decide) ?_
    refine gr_sub [1, 2, 4] rfl ?_
    exact wc_ru_holds_R0_b184 X hK hA hK195 hK5 _ _ _ _ hf
  · replace hf := ot_f hf hc_
    refine gr_iconst (v := 1) X dX8_holds_179 (by decide) ?_
    refine gr_goto X 184 dX8_holds_180 (by decide) ?_
    refine gr_sub [1, 2, 4] rfl ?_
    exact wc_ru_holds_R0_b184 X hK hA hK195 hK5 _ _ _ _ hf
set_option maxHeartbeats 4000000 in
set_option maxRecDepth 100000 in
theorem wc_ru_holds_R0_l5 {p : Program} {l : Launch} {e : Env} {s : State} {m : MethodId} {args : Array Value} {below : List Frame} {meth : Method} {c : Code} {A : Nat → Prop} {D : va_G} {cs : Nat → ClassId} {sK sV : Nat → Nat} {tA : Nat} {ad : Nat → Nat} {r : Int32} {τ : SC} {K195 : Int32 → Option Int32} (X : hc p s m args meth c RX8 cX8_holds 9 (some .boolean)) (hK : kC D cs sK sV tA A s) (hA : ∀ q, s.heap.size ≤ q → A q) (hK195 : (∀ (x3 : Int32), K195 x3 = some r → gg p l e ro_ru_holds_R0 s m args below meth c (wC ad cs) D vwCl A 9 (QI below args s (wC ad cs) D vwCl A r τ) 195 [(3, .int x3)] [] τ)) : ∀ (n : Nat) (x2 : Int32) (x3 : Int32) (x4 : Int32), fc_ru_holds_R0_l5 τ K195 n x2 x3 x4 = some r → gg p l e ro_ru_holds_R0 s m args below meth c (wC ad cs) D vwCl A 9 (QI below args s (wC ad cs) D vwCl A r τ) 5 [(0, .ref (ad 131)), (2, .int x2), (3, .int x3), (4, .int x4)] [] τ := by
  intro n
  induction n with
  | zero =>
    intro x2 x3 x4 hf
    cases (show (none : Option Int32) = some r from hf)
  | succ n ih =>
    intro x2 x3 x4 hf
    unfold fc_ru_holds_R0_l5 at hf
    refine gr_iload X dX8_holds_5 3 rfl ?_
    refine gr_iload_n X dX8_holds_7 rfl 1 rfl ?_
    refine gr_icmp_ge X 195 dX8_holds_8 (by decide) (fun hc_ => ?_) (fun hc_ => ?_)
    · replace hf := ot_t hf hc_
      refine gr_sub [2] rfl ?_
      exact hK195 _ hf
    · replace hf := ot_f hf hc_
      refine gr_iload X dX8_holds_11 3 rfl ?_
      refine gr_sipush (v := 200) X dX8_holds_13 (by decide) ?_
      refine gr_icmp_ge X 195 dX8_holds_16 (by decide) (fun hc_ => ?_) (fun hc_ => ?_)
      · replace hf := ot_t hf hc_
        refine gr_sub [2] rfl ?_
        exact hK195 _ hf
      · replace hf := ot_f hf hc_
        refine gr_aload_n X dX8_holds_19 rfl 0 rfl ?_
        refine gC_get_R0_4 X hK fk8_21 dX8_holds_20 ?_
        refine gr_iload X dX8_holds_23 3 rfl ?_
        have hi_ := oc_1 hf
        replace hf := oc_2 hf
        refine gC_ald_124 X hK (Int32.toNatClampNeg x4) hi_ rfl dX8_holds_25 ?_
        refine gC_top (fun v1 e_v1 => ?_)
        replace hf := ot_l hf e_v1
        refine gr_istore (L2 := [(5, .int v1), (0, .ref (ad 131)), (2, .int x2), (3, .int x3), (4, .int x4)]) X dX8_holds_26 (by decide) rfl ?_
        refine gr_iload X dX8_holds_28 0 rfl ?_
        refine gr_if_ne X 40 dX8_holds_30 (by decide) (fun hc_ => ?_) (fun hc_ => ?_)
        · replace hf := ot_t hf hc_
          refine gr_iload X dX8_holds_40 0 rfl ?_
          refine gr_iconst (v := 1) X dX8_holds_42 (by decide) ?_
          refine gr_icmp_ne X 58 dX8_holds_43 (by decide) (fun hc_ => ?_) (fun hc_ => ?_)
          · replace hf := ot_t hf hc_
            refine gr_iload X dX8_holds_58 0 rfl ?_
            refine gr_iconst (v := 2) X dX8_holds_60 (by decide) ?_
            refine gr_icmp_ne X 75 dX8_holds_61 (by decide) (fun hc_ => ?_) (fun hc_ => ?_)
            · replace hf := ot_t hf hc_
              refine gr_iload X dX8_holds_75 4 rfl ?_
              refine gr_iconst (v := 2) X dX8_holds_77 (by decide) ?_
              refine gr_iadd X dX8_holds_78 ?_
              refine gr_sipush (v := 200) X dX8_holds_79 (by decide) ?_
              refine gr_icmp_ge X 189 dX8_holds_82 (by decide) (fun hc_ => ?_) (fun hc_ => ?_)
              · replace hf := ot_t hf hc_
                refine gr_sub [1, 2, 3, 4] rfl ?_
                exact wc_ru_holds_R0_b189 X hK hA hK195 ih _ _ _ hf
              · replace hf := ot_f hf hc_
                refine gr_aload_n X dX8_holds_85 rfl 1 rfl ?_
                refine gr_aload_n X dX8_holds_86 rfl 1 rfl ?_
                refine gC_get_R0_4 X hK fk8_21 dX8_holds_87 ?_
                refine gr_iload X dX8_holds_90 4 rfl ?_
                refine gr_iconst (v := 1) X dX8_holds_92 (by decide) ?_
                refine gr_iadd X dX8_holds_93 ?_
                have hi_ := oc_1 hf
                replace hf := oc_2 hf
                refine gC_ald_124 X hK (Int32.toNatClampNeg (x4 + (1 : Int32))) hi_ rfl dX8_holds_94 ?_
                obtain ⟨q2, hq_, hf⟩ := ot_b hf
                refine gc_Vi (rest := []) X kC_ok hK hA cw8_50 (rvC_R0 hK) (xc_ru_valueOf_R0 hq_) rfl ⟨rfl, rfl, Nat.le_of_ble_eq_true rfl, Nat.le_of_ble_eq_true rfl⟩ rfl (Nat.le_of_ble_eq_true rfl) dX8_holds_95 ?_
                refine gr_istore (L2 := [(6, .int q2), (5, .int v1), (0, .ref (ad 131)), (2, .int x2), (3, .int x3), (4, .int x4)]) X dX8_holds_98 (by decide) rfl ?_
                refine gr_aload_n X dX8_holds_100 rfl 2 rfl ?_
                refine gr_aload_n X dX8_holds_101 rfl 2 rfl ?_
                refine gC_get_R0_4 X hK fk8_21 dX8_holds_102 ?_
                refine gr_iload X dX8_holds_105 5 rfl ?_
                refine gr_iconst (v := 2) X dX8_holds_107 (by decide) ?_
                refine gr_iadd X dX8_holds_108 ?_
                have hi_ := oc_1 hf
                replace hf := oc_2 hf
                refine gC_ald_124 X hK (Int32.toNatClampNeg (x4 + (2 : Int32))) hi_ rfl dX8_holds_109 ?_
                obtain ⟨q3, hq_, hf⟩ := ot_b hf
                refine gc_Vi (rest := []) X kC_ok hK hA cw8_50 (rvC_R0 hK) (xc_ru_valueOf_R0 hq_) rfl ⟨rfl, rfl, Nat.le_of_ble_eq_true rfl, Nat.le_of_ble_eq_true rfl⟩ rfl (Nat.le_of_ble_eq_true rfl) dX8_holds_110 ?_
                refine gr_istore (L2 := [(7, .int q3), (6, .int q2), (5, .int v1), (0, .ref (ad 131)), (2, .int x2), (3, .int x3), (4, .int x4)]) X dX8_holds_113 (by decide) rfl ?_
                refine gr_iload X dX8_holds_115 2 rfl ?_
                refine gr_iconst (v := 3) X dX8_holds_117 (by decide) ?_
                refine gr_icmp_ne X 136 dX8_holds_118 (by decide) (fun hc_ => ?_) (fun hc_ => ?_)
                · replace hf := ot_t hf hc_
                  refine gr_iload X dX8_holds_136 2 rfl ?_
                  refine gr_iconst (v := 4) X dX8_holds_138 (by decide) ?_
                  refine gr_icmp_ne X 157 dX8_holds_139 (by decide) (fun hc_ => ?_) (fun hc_ => ?_)
                  · replace hf := ot_t hf hc_
                    refine gr_iload X dX8_holds_157 1 rfl ?_
                    refine gr_iload X dX8_holds_159 0 rfl ?_
                    refine gr_icmp_le X 168 dX8_holds_161 (by decide) (fun hc_ => ?_) (fun hc_ => ?_)
                    · replace hf := ot_t hf hc_
                      refine gr_iconst (v := 0) X dX8_holds_168 (by decide) ?_
                      refine gr_sub [3, 4, 5, 6] rfl ?_
                      exact wc_ru_holds_R0_b169 X hK hA hK195 ih _ _ _ _ hf
                    · replace hf := ot_f hf hc_
                      refine gr_iconst (v := 1) X dX8_holds_164 (by decide) ?_
                      refine gr_goto X 169 dX8_holds_165 (by decide) ?_
                      refine gr_sub [3, 4, 5, 6] rfl ?_
                      exact wc_ru_holds_R0_b169 X hK hA hK195 ih _ _ _ _ hf
                  · replace hf := ot_f hf hc_
                    refine gr_iload X dX8_holds_142 1 rfl ?_
                    refine gr_iload X dX8_holds_144 0 rfl ?_
                    refine gr_icmp_ne X 153 dX8_holds_146 (by decide) (fun hc_ => ?_) (fun hc_ => ?_)
                    · replace hf := ot_t hf hc_
                      refine gr_iconst (v := 0) X dX8_holds_153 (by decide) ?_
                      refine gr_goto X 169 dX8_holds_154 (by decide) ?_
                      refine gr_sub [3, 4, 5, 6] rfl ?_
                      exact wc_ru_holds_R0_b169 X hK hA hK195 ih _ _ _ _ hf
                    · replace hf := ot_f hf hc_
                      refine gr_iconst (v := 1) X dX8_holds_149 (by decide) ?_
                      refine gr_goto X 169 dX8_holds_150 (by decide) ?_
                      refine gr_sub [3, 4, 5, 6] rfl ?_
                      exact wc_ru_holds_R0_b169 X hK hA hK195 ih _ _ _ _ hf
                · replace hf := ot_f hf hc_
                  refine gr_iload X dX8_holds_121 1 rfl ?_
                  refine gr_iload X dX8_holds_123 0 rfl ?_
                  refine gr_icmp_ge X 132 dX8_holds_125 (by decide) (fun hc_ => ?_) (fun hc_ => ?_)
                  · replace hf := ot_t hf hc_
                    refine gr_iconst (v := 0) X dX8_holds_132 (by decide) ?_
                    refine gr_goto X 169 dX8_holds_133 (by decide) ?_
                    refine gr_sub [3, 4, 5, 6] rfl ?_
                    exact wc_ru_holds_R0_b169 X hK hA hK195 ih _ _ _ _ hf
                  · replace hf := ot_f hf hc_
                    refine gr_iconst (v := 1) X dX8_holds_128 (by decide) ?_
                    refine gr_goto X 169 dX8_holds_129 (by decide) ?_
                    refine gr_sub [3, 4, 5, 6] rfl ?_
                    exact wc_ru_holds_R0_b169 X hK hA hK195 ih _ _ _ _ hf
            · replace hf := ot_f hf hc_
              refine gr_iload_n X dX8_holds_64 rfl 3 rfl ?_
              refine gr_iconst (v := 1) X dX8_holds_65 (by decide) ?_
              refine gr_ishr X dX8_holds_66 ?_
              refine gr_iload_n X dX8_holds_67 rfl 3 rfl ?_
              refine gr_iconst (v := 1) X dX8_holds_68 (by decide) ?_
              refine gr_iand X dX8_holds_69 ?_
              refine gr_ior X dX8_holds_70 ?_
              refine gC_top (fun v5 e_v5 => ?_)
              replace hf := ot_l hf e_v5
              refine gr_istore_n (L2 := [(3, .int v5), (5, .int v1), (0, .ref (ad 131)), (2, .int x2), (4, .int x4)]) X dX8_holds_71 rfl (by decide) rfl ?_
              refine gr_goto X 189 dX8_holds_72 (by decide) ?_
              refine gr_sub [2, 3, 0, 4] rfl ?_
              exact wc_ru_holds_R0_b189 X hK hA hK195 ih _ _ _ hf
          · replace hf := ot_f hf hc_
            refine gr_iload_n X dX8_holds_46 rfl 3 rfl ?_
            refine gr_iconst (v := 1) X dX8_holds_47 (by decide) ?_
            refine gr_ishr X dX8_holds_48 ?_
            refine gr_iload_n X dX8_holds_49 rfl 3 rfl ?_
            refine gr_bipush (v := -2) X dX8_holds_50 (by decide) ?_
            refine gr_ior X dX8_holds_52 ?_
            refine gr_iand X dX8_holds_53 ?_
            refine gC_top (fun v6 e_v6 => ?_)
            replace hf := ot_l hf e_v6
            refine gr_istore_n (L2 := [(3, .int v6), (5, .int v1), (0, .ref (ad 131)), (2, .int x2), (4, .int x4)]) X dX8_holds_54 rfl (by decide) rfl ?_
            refine gr_goto X 189 dX8_holds_55 (by decide) ?_
            refine gr_sub [2, 3, 0, 4] rfl ?_
            exact wc_ru_holds_R0_b189 X hK hA hK195 ih _ _ _ hf
        · replace hf := ot_f hf hc_
          refine gr_iload_n X dX8_holds_33 rfl 3 rfl ?_
          refine gr_iconst (v := 1) X dX8_holds_34 (by decide) ?_
          refine gr_ixor X dX8_holds_35 ?_
          refine gC_top (fun v7 e_v7 => ?_)
          replace hf := ot_l hf e_v7
          refine gr_istore_n (L2 := [(3, .int v7), (5, .int v1), (0, .ref (ad 131)), (2, .int x2), (4, .int x4)]) X dX8_holds_36 rfl (by decide) rfl ?_
          refine gr_goto X 189 dX8_holds_37 (by decide) ?_
          refine gr_sub [2, 3, 0, 4] rfl ?_
          exact wc_ru_holds_R0_b189 X hK hA hK195 ih _ _ _ hf
set_option maxHeartbeats 4000000 in
set_option maxRecDepth 100000 in
theorem wc_ru_holds_R0_b195 {p : Program} {l : Launch} {e : Env} {s : State} {m : MethodId} {args : Array Value} {below : List Frame} {meth : Method} {c : Code} {A : Nat → Prop} {D : va_G} {cs : Nat → ClassId} {sK sV : Nat → Nat} {tA : Nat} {ad : Nat → Nat} {r : Int32} {τ : SC} (X : hc p s m args meth c RX8 cX8_holds 9 (some .boolean)) (hK : kC D cs sK sV tA A s) (hA : ∀ q, s.heap.size ≤ q → A q)   (x3 : Int32) (hf : fc_ru_holds_R0_b195 τ x3 = some r) : gg p l e ro_ru_holds_R0 s m args below meth c (wC ad cs) D vwCl A 9 (QI below args s (wC ad cs) D vwCl A r τ) 195 [(3, .int x3)] [] τ := by
  unfold fc_ru_holds_R0_b195 at hf
  refine gr_iload_n X dX8_holds_195 rfl 0 rfl ?_
  refine gr_iconst (v := 1) X dX8_holds_196 (by decide) ?_
  refine gr_iand X dX8_holds_197 ?_
  refine gr_iconst (v := 1) X dX8_holds_198 (by decide) ?_
  refine gr_icmp_ne X 206 dX8_holds_199 (by decide) (fun hc_ => ?_) (fun hc_ => ?_)
  · replace hf := ot_t hf hc_
    refine gr_iconst (v := 0) X dX8_holds_206 (by decide) ?_
    exact gr_zret X dX8_holds_207 (by decide) (Option.some.inj hf) rfl
  · replace hf := ot_f hf hc_
    refine gr_iconst (v := 1) X dX8_holds_202 (by decide) ?_
    refine gr_goto X 207 dX8_holds_203 (by decide) ?_
    exact gr_zret X dX8_holds_207 (by decide) (Option.some.inj hf) rfl
set_option maxHeartbeats 4000000 in
set_option maxRecDepth 100000 in
theorem xc_ru_holds_R0 {l : Launch} {D : va_G} {cs : Nat → ClassId} {sK sV : Nat → Nat} {tA : Nat} {ad : Nat → Nat} {τ : SC} {x1 : Int32} {x2 : Int32} {r : Int32} (hf : fc_ru_holds_R0 τ x1 x2 = some r) : ctI l (wC ad cs) D vwCl (kC D cs sK sV tA) yX8_holds cX8_holds 9 .boolean ro_ru_holds_R0 [.ref (ad 131), .int x1, .int x2] τ r τ := by
  refine ct_I RX8 (by decide +kernel) rfl (Nat.le_of_ble_eq_true rfl) ?_
  intro p e s m args below meth c A X hK hA
  refine gr_eqL (L2 := [(0, .ref (ad 131)), (1, .int x1), (2, .int x2)]) rfl ?_
  unfold fc_ru_holds_R0 at hf
  refine gr_iconst (v := 1) X dX8_holds_0 (by decide) ?_
  refine gr_istore_n (L2 := [(3, .int (1 : Int32)), (0, .ref (ad 131)), (1, .int x1), (2, .int x2)]) X dX8_holds_1 rfl (by decide) rfl ?_
  refine gr_iload_n X dX8_holds_2 rfl 2 rfl ?_
  refine gr_istore (L2 := [(4, .int x1), (3, .int (1 : Int32)), (0, .ref (ad 131)), (1, .int x1), (2, .int x2)]) X dX8_holds_3 (by decide) rfl ?_
  refine gr_sub [2, 4, 1, 0] rfl ?_
  refine wc_ru_holds_R0_l5 X hK hA (fun x3 hf => ?_) hFU _ _ _ hf
  refine gr_sub [0] rfl ?_
  exact wc_ru_holds_R0_b195 X hK hA _ hf
abbrev ro_ru_tell_R0 : Room := { frames := 2, cells := 0, slots := 0, locals := 50 }
def fc_ru_tell_R0_b52 (τ : SC) (K4 : Int32 → Int32 → Int32 → Option Int32) (x1 : Int32) (x3 : Int32) : Option Int32 := (oc (hin x3 8) (hl (τ.1 123 (Int32.toNatClampNeg x3)) fun v2 => (K4 x1 v2 (x3 + (1 : Int32)))))
def fc_ru_tell_R0_l4 (τ : SC) : Nat → Int32 → Int32 → Int32 → Option Int32
  | 0, _, _, _ => none
  | n + 1, x1, x2, x3 => (if (τ.1 120 0) ≤ x3 then (some (0 : Int32)) else (if (8 : Int32) ≤ x3 then (some (0 : Int32)) else (oc (hin x3 8) (Option.bind (fc_ru_isOrUnder x1 (τ.1 121 (Int32.toNatClampNeg x3))) fun q1 => (if q1 = 0 then (fc_ru_tell_R0_b52 τ (fc_ru_tell_R0_l4 τ n) x1 x3) else (oc (hin x3 8) (Option.bind (fc_ru_holds_R0 τ x2 (τ.1 123 (Int32.toNatClampNeg x3))) fun q3 => (if q3 = 0 then (fc_ru_tell_R0_b52 τ (fc_ru_tell_R0_l4 τ n) x1 x3) else (oc (hin x3 8) (some (τ.1 122 (Int32.toNatClampNeg x3))))))))))))
def fc_ru_tell_R0 (τ : SC) (x1 : Int32) : Option Int32 := (fc_ru_tell_R0_l4 τ hFU x1 (0 : Int32) (0 : Int32))
set_option maxHeartbeats 4000000 in
set_option maxRecDepth 100000 in
theorem wc_ru_tell_R0_b52 {p : Program} {l : Launch} {e : Env} {s : State} {m : MethodId} {args : Array Value} {below : List Frame} {meth : Method} {c : Code} {A : Nat → Prop} {D : va_G} {cs : Nat → ClassId} {sK sV : Nat → Nat} {tA : Nat} {ad : Nat → Nat} {r : Int32} {τ : SC} {K4 : Int32 → Int32 → Int32 → Option Int32} (X : hc p s m args meth c RX8 cX8_tell 4 (some .int)) (hK : kC D cs sK sV tA A s) (hA : ∀ q, s.heap.size ≤ q → A q) (hK4 : (∀ (x1 : Int32) (x2 : Int32) (x3 : Int32), K4 x1 x2 x3 = some r → gg p l e ro_ru_tell_R0 s m args below meth c (wC ad cs) D vwCl A 4 (QI below args s (wC ad cs) D vwCl A r τ) 4 [(0, .ref (ad 131)), (1, .int x1), (2, .int x2), (3, .int x3)] [] τ))  (x1 : Int32) (x3 : Int32) (hf : fc_ru_tell_R0_b52 τ K4 x1 x3 = some r) : gg p l e ro_ru_tell_R0 s m args below meth c (wC ad cs) D vwCl A 4 (QI below args s (wC ad cs) D vwCl A r τ) 52 [(0, .ref (ad 131)), (1, .int x1), (3, .int x3)] [] τ := by
  unfold fc_ru_tell_R0_b52 at hf
  refine gr_aload_n X dX8_tell_52 rfl 0 rfl ?_
  refine gC_get_R0_3 X hK fk8_18 dX8_tell_53 ?_
  refine gr_iload_n X dX8_tell_56 rfl 2 rfl ?_
  have hi_ := oc_1 hf
  replace hf := oc_2 hf
  refine gC_ald_123 X hK (Int32.toNatClampNeg x3) hi_ rfl dX8_tell_57 ?_
  refine gC_top (fun v2 e_v2 => ?_)
  replace hf := ot_l hf e_v2
  refine gr_istore_n (L2 := [(2, .int v2), (0, .ref (ad 131)), (1, .int x1), (3, .int x3)]) X dX8_tell_58 rfl (by decide) rfl ?_
  refine gr_iinc (k := 3) (v := 1) (L2 := [(3, .int (x3 + (1 : Int32))), (2, .int v2), (0, .ref (ad 131)), (1, .int x1)]) X dX8_tell_59 rfl (by decide) (by decide) rfl ?_
  refine gr_goto X 4 dX8_tell_62 (by decide) ?_
  refine gr_sub [2, 3, 1, 0] rfl ?_
  exact hK4 _ _ _ hf
set_option maxHeartbeats 4000000 in
set_option maxRecDepth 100000 in
theorem wc_ru_tell_R0_l4 {p : Program} {l : Launch} {e : Env} {s : State} {m : MethodId} {args : Array Value} {below : List Frame} {meth : Method} {c : Code} {A : Nat → Prop} {D : va_G} {cs : Nat → ClassId} {sK sV : Nat → Nat} {tA : Nat} {ad : Nat → Nat} {r : Int32} {τ : SC} (X : hc p s m args meth c RX8 cX8_tell 4 (some .int)) (hK : kC D cs sK sV tA A s) (hA : ∀ q, s.heap.size ≤ q → A q)  : ∀ (n : Nat) (x1 : Int32) (x2 : Int32) (x3 : Int32), fc_ru_tell_R0_l4 τ n x1 x2 x3 = some r → gg p l e ro_ru_tell_R0 s m args below meth c (wC ad cs) D vwCl A 4 (QI below args s (wC ad cs) D vwCl A r τ) 4 [(0, .ref (ad 131)), (1, .int x1), (2, .int x2), (3, .int x3)] [] τ := by
  intro n
  induction n with
  | zero =>
    intro x1 x2 x3 hf
    cases (show (none : Option Int32) = some r from hf)
  | succ n ih =>
    intro x1 x2 x3 hf
    unfold fc_ru_tell_R0_l4 at hf
    refine gr_iload_n X dX8_tell_4 rfl 3 rfl ?_
    refine gr_aload_n X dX8_tell_5 rfl 0 rfl ?_
    refine gC_get_R0_0 X hK fk8_30 dX8_tell_6 ?_
    refine gr_icmp_ge X 65 dX8_tell_9 (by decide) (fun hc_ => ?_) (fun hc_ => ?_)
    · replace hf := ot_t hf hc_
      refine gr_iconst (v := 0) X dX8_tell_65 (by decide) ?_
      exact gr_iret X dX8_tell_66 (Option.some.inj hf) rfl
    · replace hf := ot_f hf hc_
      refine gr_iload_n X dX8_tell_12 rfl 3 rfl ?_
      refine gr_bipush (v := 8) X dX8_tell_13 (by decide) ?_
      refine gr_icmp_ge X 65 dX8_tell_15 (by decide) (fun hc_ => ?_) (fun hc_ => ?_)
      · replace hf := ot_t hf hc_
        refine gr_iconst (v := 0) X dX8_tell_65 (by decide) ?_
        exact gr_iret X dX8_tell_66 (Option.some.inj hf) rfl
      · replace hf := ot_f hf hc_
        refine gr_iload_n X dX8_tell_18 rfl 1 rfl ?_
        refine gr_aload_n X dX8_tell_19 rfl 0 rfl ?_
        refine gC_get_R0_1 X hK fk8_9 dX8_tell_20 ?_
        refine gr_iload_n X dX8_tell_23 rfl 3 rfl ?_
        have hi_ := oc_1 hf
        replace hf := oc_2 hf
        refine gC_ald_121 X hK (Int32.toNatClampNeg x3) hi_ rfl dX8_tell_24 ?_
        obtain ⟨q1, hq_, hf⟩ := ot_b hf
        refine gc_Si (rest := []) X kC_ok hK hA cw8_43 (xc_ru_isOrUnder hq_) rfl ⟨rfl, rfl, Nat.le_of_ble_eq_true rfl, Nat.le_of_ble_eq_true rfl⟩ rfl (Nat.le_of_ble_eq_true rfl) dX8_tell_25 ?_
        refine gr_if_eq X 52 dX8_tell_28 (by decide) (fun hc_ => ?_) (fun hc_ => ?_)
        · replace hf := ot_t hf hc_
          refine gr_sub [0, 1, 3] rfl ?_
          exact wc_ru_tell_R0_b52 X hK hA ih _ _ hf
        · replace hf := ot_f hf hc_
          refine gr_aload_n X dX8_tell_31 rfl 0 rfl ?_
          refine gr_iload_n X dX8_tell_32 rfl 2 rfl ?_
          refine gr_aload_n X dX8_tell_33 rfl 0 rfl ?_
          refine gC_get_R0_3 X hK fk8_18 dX8_tell_34 ?_
          refine gr_iload_n X dX8_tell_37 rfl 3 rfl ?_
          have hi_ := oc_1 hf
          replace hf := oc_2 hf
          refine gC_ald_123 X hK (Int32.toNatClampNeg x3) hi_ rfl dX8_tell_38 ?_
          obtain ⟨q3, hq_, hf⟩ := ot_b hf
          refine gc_Vi (rest := []) X kC_ok hK hA cw8_47 (rvC_R0 hK) (xc_ru_holds_R0 hq_) rfl ⟨rfl, rfl, Nat.le_of_ble_eq_true rfl, Nat.le_of_ble_eq_true rfl⟩ rfl (Nat.le_of_ble_eq_true rfl) dX8_tell_39 ?_
          refine gr_if_eq X 52 dX8_tell_42 (by decide) (fun hc_ => ?_) (fun hc_ => ?_)
          · replace hf := ot_t hf hc_
            refine gr_sub [0, 1, 3] rfl ?_
            exact wc_ru_tell_R0_b52 X hK hA ih _ _ hf
          · replace hf := ot_f hf hc_
            refine gr_aload_n X dX8_tell_45 rfl 0 rfl ?_
            refine gC_get_R0_2 X hK fk8_15 dX8_tell_46 ?_
            refine gr_iload_n X dX8_tell_49 rfl 3 rfl ?_
            have hi_ := oc_1 hf
            replace hf := oc_2 hf
            refine gC_ald_122 X hK (Int32.toNatClampNeg x3) hi_ rfl dX8_tell_50 ?_
            exact gr_iret X dX8_tell_51 (Option.some.inj hf) rfl
set_option maxHeartbeats 4000000 in
set_option maxRecDepth 100000 in
theorem xc_ru_tell_R0 {l : Launch} {D : va_G} {cs : Nat → ClassId} {sK sV : Nat → Nat} {tA : Nat} {ad : Nat → Nat} {τ : SC} {x1 : Int32} {r : Int32} (hf : fc_ru_tell_R0 τ x1 = some r) : ctI l (wC ad cs) D vwCl (kC D cs sK sV tA) yX8_tell cX8_tell 4 .int ro_ru_tell_R0 [.ref (ad 131), .int x1] τ r τ := by
  refine ct_I RX8 (by decide +kernel) rfl (Nat.le_of_ble_eq_true rfl) ?_
  intro p e s m args below meth c A X hK hA
  refine gr_eqL (L2 := [(0, .ref (ad 131)), (1, .int x1)]) rfl ?_
  unfold fc_ru_tell_R0 at hf
  refine gr_iconst (v := 0) X dX8_tell_0 (by decide) ?_
  refine gr_istore_n (L2 := [(2, .int (0 : Int32)), (0, .ref (ad 131)), (1, .int x1)]) X dX8_tell_1 rfl (by decide) rfl ?_
  refine gr_iconst (v := 0) X dX8_tell_2 (by decide) ?_
  refine gr_istore_n (L2 := [(3, .int (0 : Int32)), (2, .int (0 : Int32)), (0, .ref (ad 131)), (1, .int x1)]) X dX8_tell_3 rfl (by decide) rfl ?_
  refine gr_sub [2, 3, 1, 0] rfl ?_
  refine wc_ru_tell_R0_l4 X hK hA  hFU _ _ _ hf
abbrev ro_to_will : Room := { frames := 3, cells := 0, slots := 0, locals := 73 }
def fc_to_will (x1 : Int32) (τ : SC) : Option (Int32 × SC) := (oc (hin x1 6) (Option.bind (fc_to_late τ x1) fun q1 => (Option.bind (fc_ru_learn_R0 (τ.1 102 0) (τ.1 116 (Int32.toNatClampNeg x1)) q1 (τ.1 105 0) x1 τ) fun τ3 => (oc (hin x1 6) (Option.bind (fc_ru_tell_R0 τ3 (τ3.1 114 (Int32.toNatClampNeg x1))) fun q4 => (some (q4, τ3)))))))
set_option maxHeartbeats 4000000 in
set_option maxRecDepth 100000 in
theorem xc_to_will {l : Launch} {D : va_G} {cs : Nat → ClassId} {sK sV : Nat → Nat} {tA : Nat} {ad : Nat → Nat} {τ : SC} {x1 : Int32} {r : Int32} {υ : SC} (hf : fc_to_will x1 τ = some (r, υ)) : ctI l (wC ad cs) D vwCl (kC D cs sK sV tA) yX9_will cX9_will 2 .int ro_to_will [.ref (ad 130), .int x1] τ r υ := by
  refine ct_I RX9 (by decide +kernel) rfl (Nat.le_of_ble_eq_true rfl) ?_
  intro p e s m args below meth c A X hK hA
  refine gr_eqL (L2 := [(0, .ref (ad 130)), (1, .int x1)]) rfl ?_
  unfold fc_to_will at hf
  refine gr_aload_n X dX9_will_0 rfl 0 rfl ?_
  refine gC_get_T0_1 X hK fk9_36 dX9_will_1 ?_
  refine gr_aload_n X dX9_will_4 rfl 0 rfl ?_
  refine gC_get_T0_2 X hK fk9_108 dX9_will_5 ?_
  refine gr_aload_n X dX9_will_8 rfl 0 rfl ?_
  refine gC_get_T0_16 X hK fk9_66 dX9_will_9 ?_
  refine gr_iload_n X dX9_will_12 rfl 1 rfl ?_
  have hi_ := oc_1 hf
  replace hf := oc_2 hf
  refine gC_ald_116 X hK (Int32.toNatClampNeg x1) hi_ rfl dX9_will_13 ?_
  refine gr_aload_n X dX9_will_14 rfl 0 rfl ?_
  refine gr_iload_n X dX9_will_15 rfl 1 rfl ?_
  obtain ⟨q1, hq_, hf⟩ := ot_b hf
  refine gc_Vi (rest := [.int (τ.1 116 (Int32.toNatClampNeg x1)), .int (τ.1 102 0), .ref (ad 131)]) X kC_ok hK hA cw9_149 (rvC_T0 hK) (xc_to_late hq_) rfl ⟨rfl, rfl, Nat.le_of_ble_eq_true rfl, Nat.le_of_ble_eq_true rfl⟩ rfl (Nat.le_of_ble_eq_true rfl) dX9_will_16 ?_
  refine gr_aload_n X dX9_will_19 rfl 0 rfl ?_
  refine gC_get_T0_5 X hK fk9_44 dX9_will_20 ?_
  refine gr_iload_n X dX9_will_23 rfl 1 rfl ?_
  obtain ⟨τ3, hq_, hf⟩ := ot_b hf
  refine gc_Vv (rest := []) X kC_ok hK hA cw9_152 (rvC_R0 hK) (xc_ru_learn_R0 hq_) rfl ⟨rfl, rfl, Nat.le_of_ble_eq_true rfl, Nat.le_of_ble_eq_true rfl⟩ rfl (Nat.le_of_ble_eq_true rfl) dX9_will_24 ?_
  refine gr_aload_n X dX9_will_27 rfl 0 rfl ?_
  refine gC_get_T0_1 X hK fk9_36 dX9_will_28 ?_
  refine gr_aload_n X dX9_will_31 rfl 0 rfl ?_
  refine gC_get_T0_14 X hK fk9_60 dX9_will_32 ?_
  refine gr_iload_n X dX9_will_35 rfl 1 rfl ?_
  have hi_ := oc_1 hf
  replace hf := oc_2 hf
  refine gC_ald_114 X hK (Int32.toNatClampNeg x1) hi_ rfl dX9_will_36 ?_
  obtain ⟨q4, hq_, hf⟩ := ot_b hf
  refine gc_Vi (rest := []) X kC_ok hK hA cw9_156 (rvC_R0 hK) (xc_ru_tell_R0 hq_) rfl ⟨rfl, rfl, Nat.le_of_ble_eq_true rfl, Nat.le_of_ble_eq_true rfl⟩ rfl (Nat.le_of_ble_eq_true rfl) dX9_will_37 ?_
  exact gr_iret X dX9_will_40 (Prod.mk.inj (Option.some.inj hf)).1 (Prod.mk.inj (Option.some.inj hf)).2
abbrev ro_hh_guildOf : Room := { frames := 4, cells := 0, slots := 0, locals := 94 }
def fc_hh_guildOf (x1 : Int32) (x2 : Int32) (τ : SC) : Option (Int32 × SC) := (Option.bind (fc_to_has τ x1) fun q1 => (if ¬ q1 = 0 then (if x2 = 0 then (oc (hin x1 6) (some ((τ.1 114 (Int32.toNatClampNeg x1)), τ))) else (if x2 = 1 then (oc (hin x1 6) (some ((τ.1 115 (Int32.toNatClampNeg x1)), τ))) else (if x2 = 2 then (oc (hin x1 6) (some ((τ.1 116 (Int32.toNatClampNeg x1)), τ))) else (if x2 = 3 then (oc (hin x1 6) (some ((τ.1 117 (Int32.toNatClampNeg x1)), τ))) else (if x2 = 4 then (Option.bind (fc_hh_bit (τ.1 107 0) x1) fun q2 => (some (q2, τ))) else (if x2 = 5 then (Option.bind (fc_hh_bit (τ.1 108 0) x1) fun q3 => (some (q3, τ))) else (if x2 = 6 then (Option.bind (fc_to_cheersOf τ x1) fun q4 => (some (((10 : Int32) + q4), τ))) else (if x2 = 7 then (Option.bind (fc_to_paysOf τ x1) fun q5 => (some (q5, τ))) else (if x2 = 8 then (Option.bind (fc_to_will x1 τ) fun p_ => hl p_.1 fun q6 => hl p_.2 fun τ7 => (some (q6, τ7))) else (if x2 = 9 then (Option.bind (fc_to_late τ x1) fun q8 => (some (q8, τ))) else (some ((-1 : Int32), τ)))))))))))) else (some ((-1 : Int32), τ))))
set_option maxHeartbeats 4000000 in
set_option maxRecDepth 100000 in
theorem xc_hh_guildOf {l : Launch} {D : va_G} {cs : Nat → ClassId} {sK sV : Nat → Nat} {tA : Nat} {ad : Nat → Nat} {τ : SC} {x1 : Int32} {x2 : Int32} {r : Int32} {υ : SC} (hf : fc_hh_guildOf x1 x2 τ = some (r, υ)) : ctI l (wC ad cs) D vwCl (kC D cs sK sV tA) yX11_guildOf cX11_guildOf 3 .int ro_hh_guildOf [.ref (ad 16), .int x1, .int x2] τ r υ := by
  refine ct_I RX11 (by decide +kernel) rfl (Nat.le_of_ble_eq_true rfl) ?_
  intro p e s m args below meth c A X hK hA
  refine gr_eqL (L2 := [(0, .ref (ad 16)), (1, .int x1), (2, .int x2)]) rfl ?_
  unfold fc_hh_guildOf at hf
  refine gr_aload_n X dX11_guildOf_0 rfl 0 rfl ?_
  refine gC_get_HH_0 X hK fk11_10 dX11_guildOf_1 ?_
  refine gr_iload_n X dX11_guildOf_4 rfl 1 rfl ?_
  obtain ⟨q1, hq_, hf⟩ := ot_b hf
  refine gc_Vi (rest := []) X kC_ok hK hA cw11_91 (rvC_T0 hK) (xc_to_has hq_) rfl ⟨rfl, rfl, Nat.le_of_ble_eq_true rfl, Nat.le_of_ble_eq_true rfl⟩ rfl (Nat.le_of_ble_eq_true rfl) dX11_guildOf_5 ?_
  refine gr_if_ne X 13 dX11_guildOf_8 (by decide) (fun hc_ => ?_) (fun hc_ => ?_)
  · replace hf := ot_t hf hc_
    refine gr_iload_n X dX11_guildOf_13 rfl 2 rfl ?_
    by_cases hs0 : x2 = 0
    · replace hf := ot_t hf hs0
      refine gr_tin X (0) 68 dX11_guildOf_14 (by rw [hs0]; decide) (by decide) (by decide) rfl (by decide) ?_
      refine gr_aload_n X dX11_guildOf_68 rfl 0 rfl ?_
      refine gC_get_HH_0 X hK fk11_10 dX11_guildOf_69 ?_
      refine gC_get_T0_14 X hK fk11_94 dX11_guildOf_72 ?_
      refine gr_iload_n X dX11_guildOf_75 rfl 1 rfl ?_
      have hi_ := oc_1 hf
      replace hf := oc_2 hf
      refine gC_ald_114 X hK (Int32.toNatClampNeg x1) hi_ rfl dX11_guildOf_76 ?_
      exact gr_iret X dX11_guildOf_77 (Prod.mk.inj (Option.some.inj hf)).1 (Prod.mk.inj (Option.some.inj hf)).2
    replace hf := ot_f hf hs0
    by_cases hs1 : x2 = 1
    · replace hf := ot_t hf hs1
      refine gr_tin X (1) 78 dX11_guildOf_14 (by rw [hs1]; decide) (by decide) (by decide) rfl (by decide) ?_
      refine gr_aload_n X dX11_guildOf_78 rfl 0 rfl ?_
      refine gC_get_HH_0 X hK fk11_10 dX11_guildOf_79 ?_
      refine gC_get_T0_15 X hK fk11_97 dX11_guildOf_82 ?_
      refine gr_iload_n X dX11_guildOf_85 rfl 1 rfl ?_
      have hi_ := oc_1 hf
      replace hf := oc_2 hf
      refine gC_ald_115 X hK (Int32.toNatClampNeg x1) hi_ rfl dX11_guildOf_86 ?_
      exact gr_iret X dX11_guildOf_87 (Prod.mk.inj (Option.some.inj hf)).1 (Prod.mk.inj (Option.some.inj hf)).2
    replace hf := ot_f hf hs1
    by_cases hs2 : x2 = 2
    · replace hf := ot_t hf hs2
      refine gr_tin X (2) 88 dX11_guildOf_14 (by rw [hs2]; decide) (by decide) (by decide) rfl (by decide) ?_
      refine gr_aload_n X dX11_guildOf_88 rfl 0 rfl ?_
      refine gC_get_HH_0 X hK fk11_10 dX11_guildOf_89 ?_
      refine gC_get_T0_16 X hK fk11_100 dX11_guildOf_92 ?_
      refine gr_iload_n X dX11_guildOf_95 rfl 1 rfl ?_
      have hi_ := oc_1 hf
      replace hf := oc_2 hf
      refine gC_ald_116 X hK (Int32.toNatClampNeg x1) hi_ rfl dX11_guildOf_96 ?_
      exact gr_iret X dX11_guildOf_97 (Prod.mk.inj (Option.some.inj hf)).1 (Prod.mk.inj (Option.some.inj hf)).2
    replace hf := ot_f hf hs2
    by_cases hs3 : x2 = 3
    · replace hf := ot_t hf hs3
      refine gr_tin X (3) 98 dX11_guildOf_14 (by rw [hs3]; decide) (by decide) (by decide) rfl (by decide) ?_
      refine gr_aload_n X dX11_guildOf_98 rfl 0 rfl ?_
      refine gC_get_HH_0 X hK fk11_10 dX11_guildOf_99 ?_
      refine gC_get_T0_17 X hK fk11_103 dX11_guildOf_102 ?_
      refine gr_iload_n X dX11_guildOf_105 rfl 1 rfl ?_
      have hi_ := oc_1 hf
      replace hf := oc_2 hf
      refine gC_ald_117 X hK (Int32.toNatClampNeg x1) hi_ rfl dX11_guildOf_106 ?_
      exact gr_iret X dX11_guildOf_107 (Prod.mk.inj (Option.some.inj hf)).1 (Prod.mk.inj (Option.some.inj hf)).2
    replace hf := ot_f hf hs3
    by_cases hs4 : x2 = 4
    · replace hf := ot_t hf hs4
      refine gr_tin X (4) 108 dX11_guildOf_14 (by rw [hs4]; decide) (by decide) (by decide) rfl (by decide) ?_
      refine gr_aload_n X dX11_guildOf_108 rfl 0 rfl ?_
      refine gC_get_HH_0 X hK fk11_10 dX11_guildOf_109 ?_
      refine gC_get_T0_7 X hK fk11_106 dX11_guildOf_112 ?_
      refine gr_iload_n X dX11_guildOf_115 rfl 1 rfl ?_
      obtain ⟨q2, hq_, hf⟩ := ot_b hf
      refine gc_Si (rest := []) X kC_ok hK hA cw11_109 (xc_hh_bit hq_) rfl ⟨rfl, rfl, Nat.le_of_ble_eq_true rfl, Nat.le_of_ble_eq_true rfl⟩ rfl (Nat.le_of_ble_eq_true rfl) dX11_guildOf_116 ?_
      exact gr_iret X dX11_guildOf_119 (Prod.mk.inj (Option.some.inj hf)).1 (Prod.mk.inj (Option.some.inj hf)).2
    replace hf := ot_f hf hs4
    by_cases hs5 : x2 = 5
    · replace hf := ot_t hf hs5
      refine gr_tin X (5) 120 dX11_guildOf_14 (by rw [hs5]; decide) (by decide) (by decide) rfl (by decide) ?_
      refine gr_aload_n X dX11_guildOf_120 rfl 0 rfl ?_
      refine gC_get_HH_0 X hK fk11_10 dX11_guildOf_121 ?_
      refine gC_get_T0_8 X hK fk11_113 dX11_guildOf_124 ?_
      refine gr_iload_n X dX11_guildOf_127 rfl 1 rfl ?_
      obtain ⟨q3, hq_, hf⟩ := ot_b hf
      refine gc_Si (rest := []) X kC_ok hK hA cw11_109 (xc_hh_bit hq_) rfl ⟨rfl, rfl, Nat.le_of_ble_eq_true rfl, Nat.le_of_ble_eq_true rfl⟩ rfl (Nat.le_of_ble_eq_true rfl) dX11_guildOf_128 ?_
      exact gr_iret X dX11_guildOf_131 (Prod.mk.inj (Option.some.inj hf)).1 (Prod.mk.inj (Option.some.inj hf)).2
    replace hf := ot_f hf hs5
    by_cases hs6 : x2 = 6
    · replace hf := ot_t hf hs6
      refine gr_tin X (6) 132 dX11_guildOf_14 (by rw [hs6]; decide) (by decide) (by decide) rfl (by decide) ?_
      refine gr_bipush (v := 10) X dX11_guildOf_132 (by decide) ?_
      refine gr_aload_n X dX11_guildOf_134 rfl 0 rfl ?_
      refine gC_get_HH_0 X hK fk11_10 dX11_guildOf_135 ?_
      refine gr_iload_n X dX11_guildOf_138 rfl 1 rfl ?_
      obtain ⟨q4, hq_, hf⟩ := ot_b hf
      refine gc_Vi (rest := [.int (10 : Int32)]) X kC_ok hK hA cw11_116 (rvC_T0 hK) (xc_to_cheersOf hq_) rfl ⟨rfl, rfl, Nat.le_of_ble_eq_true rfl, Nat.le_of_ble_eq_true rfl⟩ rfl (Nat.le_of_ble_eq_true rfl) dX11_guildOf_139 ?_
      refine gr_iadd X dX11_guildOf_142 ?_
      exact gr_iret X dX11_guildOf_143 (Prod.mk.inj (Option.some.inj hf)).1 (Prod.mk.inj (Option.some.inj hf)).2
    replace hf := ot_f hf hs6
    by_cases hs7 : x2 = 7
    · replace hf := ot_t hf hs7
      refine gr_tin X (7) 144 dX11_guildOf_14 (by rw [hs7]; decide) (by decide) (by decide) rfl (by decide) ?_
      refine gr_aload_n X dX11_guildOf_144 rfl 0 rfl ?_
      refine gC_get_HH_0 X hK fk11_10 dX11_guildOf_145 ?_
      refine gr_iload_n X dX11_guildOf_148 rfl 1 rfl ?_
      obtain ⟨q5, hq_, hf⟩ := ot_b hf
      refine gc_Vi (rest := []) X kC_ok hK hA cw11_120 (rvC_T0 hK) (xc_to_paysOf hq_) rfl ⟨rfl, rfl, Nat.le_of_ble_eq_true rfl, Nat.le_of_ble_eq_true rfl⟩ rfl (Nat.le_of_ble_eq_true rfl) dX11_guildOf_149 ?_
      exact gr_iret X dX11_guildOf_152 (Prod.mk.inj (Option.some.inj hf)).1 (Prod.mk.inj (Option.some.inj hf)).2
    replace hf := ot_f hf hs7
    by_cases hs8 : x2 = 8
    · replace hf := ot_t hf hs8
      refine gr_tin X (8) 153 dX11_guildOf_14 (by rw [hs8]; decide) (by decide) (by decide) rfl (by decide) ?_
      refine gr_aload_n X dX11_guildOf_153 rfl 0 rfl ?_
      refine gC_get_HH_0 X hK fk11_10 dX11_guildOf_154 ?_
      refine gr_iload_n X dX11_guildOf_157 rfl 1 rfl ?_
      obtain ⟨⟨q6, τ7⟩, hq_, hf⟩ := ot_b hf
      replace hf := ot_l (y := q6) hf rfl
      replace hf := ot_l (y := τ7) hf rfl
      refine gc_Vi (rest := []) X kC_ok hK hA cw11_123 (rvC_T0 hK) (xc_to_will hq_) rfl ⟨rfl, rfl, Nat.le_of_ble_eq_true rfl, Nat.le_of_ble_eq_true rfl⟩ rfl (Nat.le_of_ble_eq_true rfl) dX11_guildOf_158 ?_
      exact gr_iret X dX11_guildOf_161 (Prod.mk.inj (Option.some.inj hf)).1 (Prod.mk.inj (Option.some.inj hf)).2
    replace hf := ot_f hf hs8
    by_cases hs9 : x2 = 9
    · replace hf := ot_t hf hs9
      refine gr_tin X (9) 162 dX11_guildOf_14 (by rw [hs9]; decide) (by decide) (by decide) rfl (by decide) ?_
      refine gr_aload_n X dX11_guildOf_162 rfl 0 rfl ?_
      refine gC_get_HH_0 X hK fk11_10 dX11_guildOf_163 ?_
      refine gr_iload_n X dX11_guildOf_166 rfl 1 rfl ?_
      obtain ⟨q8, hq_, hf⟩ := ot_b hf
      refine gc_Vi (rest := []) X kC_ok hK hA cw11_126 (rvC_T0 hK) (xc_to_late hq_) rfl ⟨rfl, rfl, Nat.le_of_ble_eq_true rfl, Nat.le_of_ble_eq_true rfl⟩ rfl (Nat.le_of_ble_eq_true rfl) dX11_guildOf_167 ?_
      exact gr_iret X dX11_guildOf_170 (Prod.mk.inj (Option.some.inj hf)).1 (Prod.mk.inj (Option.some.inj hf)).2
    replace hf := ot_f hf hs9
    refine gr_tout X 171 dX11_guildOf_14 (by have := lv_neT hs0 (show (0 : Int32).toInt = 0 by decide); have := lv_neT hs1 (show (1 : Int32).toInt = 1 by decide); have := lv_neT hs2 (show (2 : Int32).toInt = 2 by decide); have := lv_neT hs3 (show (3 : Int32).toInt = 3 by decide); have := lv_neT hs4 (show (4 : Int32).toInt = 4 by decide); have := lv_neT hs5 (show (5 : Int32).toInt = 5 by decide); have := lv_neT hs6 (show (6 : Int32).toInt = 6 by decide); have := lv_neT hs7 (show (7 : Int32).toInt = 7 by decide); have := lv_neT hs8 (show (8 : Int32).toInt = 8 by decide); have := lv_neT hs9 (show (9 : Int32).toInt = 9 by decide); omega) (by decide) ?_
    refine gr_iconst (v := -1) X dX11_guildOf_171 (by decide) ?_
    exact gr_iret X dX11_guildOf_172 (Prod.mk.inj (Option.some.inj hf)).1 (Prod.mk.inj (Option.some.inj hf)).2
  · replace hf := ot_f hf hc_
    refine gr_iconst (v := -1) X dX11_guildOf_11 (by decide) ?_
    exact gr_iret X dX11_guildOf_12 (Prod.mk.inj (Option.some.inj hf)).1 (Prod.mk.inj (Option.some.inj hf)).2
abbrev ro_hh_replaced_a115 : Room := { frames := 0, cells := 0, slots := 0, locals := 0 }
def fc_hh_replaced_a115 (x1 : Int32) (x2 : Int32) (τ : SC) : Option (Int32 × SC) := (oc (hin x1 6) (hl (τ.1 115 (Int32.toNatClampNeg x1)) fun v1 => (oc (hin x1 6) (hl (sc τ 115 (upd (τ.1 115) (Int32.toNatClampNeg x1) x2)) fun τ2 => (some (v1, τ2))))))
set_option maxHeartbeats 4000000 in
set_option maxRecDepth 100000 in
theorem xc_hh_replaced_a115 {l : Launch} {D : va_G} {cs : Nat → ClassId} {sK sV : Nat → Nat} {tA : Nat} {ad : Nat → Nat} {τ : SC} {x1 : Int32} {x2 : Int32} {r : Int32} {υ : SC} (hf : fc_hh_replaced_a115 x1 x2 τ = some (r, υ)) : ctI l (wC ad cs) D vwCl (kC D cs sK sV tA) yX11_replaced cX11_replaced 4 .int ro_hh_replaced_a115 [.ref (ad 115), .int x1, .int x2] τ r υ := by
  refine ct_I RX11 (by decide +kernel) rfl (Nat.le_of_ble_eq_true rfl) ?_
  intro p e s m args below meth c A X hK hA
  refine gr_eqL (L2 := [(0, .ref (ad 115)), (1, .int x1), (2, .int x2)]) rfl ?_
  unfold fc_hh_replaced_a115 at hf
  refine gr_aload_n X dX11_replaced_0 rfl 0 rfl ?_
  refine gr_iload_n X dX11_replaced_1 rfl 1 rfl ?_
  have hi_ := oc_1 hf
  replace hf := oc_2 hf
  refine gC_ald_115 X hK (Int32.toNatClampNeg x1) hi_ rfl dX11_replaced_2 ?_
  refine gC_top (fun v1 e_v1 => ?_)
  replace hf := ot_l hf e_v1
  refine gr_istore_n (L2 := [(3, .int v1), (0, .ref (ad 115)), (1, .int x1), (2, .int x2)]) X dX11_replaced_3 rfl (by decide) rfl ?_
  refine gr_aload_n X dX11_replaced_4 rfl 1 rfl ?_
  refine gr_iload_n X dX11_replaced_5 rfl 2 rfl ?_
  refine gr_iload_n X dX11_replaced_6 rfl 3 rfl ?_
  have hi_ := oc_1 hf
  replace hf := oc_2 hf
  refine gC_ast_115 X hK (Int32.toNatClampNeg x1) hi_ rfl dX11_replaced_7 ?_
  refine gC_gen (fun τ2 e_τ2 => ?_)
  replace hf := ot_l hf e_τ2
  refine gr_iload_n X dX11_replaced_8 rfl 0 rfl ?_
  exact gr_iret X dX11_replaced_9 (Prod.mk.inj (Option.some.inj hf)).1 (Prod.mk.inj (Option.some.inj hf)).2
abbrev ro_hh_replaced_a116 : Room := { frames := 0, cells := 0, slots := 0, locals := 0 }
def fc_hh_replaced_a116 (x1 : Int32) (x2 : Int32) (τ : SC) : Option (Int32 × SC) := (oc (hin x1 6) (hl (τ.1 116 (Int32.toNatClampNeg x1)) fun v1 => (oc (hin x1 6) (hl (sc τ 116 (upd (τ.1 116) (Int32.toNatClampNeg x1) x2)) fun τ2 => (some (v1, τ2))))))
set_option maxHeartbeats 4000000 in
set_option maxRecDepth 100000 in
theorem xc_hh_replaced_a116 {l : Launch} {D : va_G} {cs : Nat → ClassId} {sK sV : Nat → Nat} {tA : Nat} {ad : Nat → Nat} {τ : SC} {x1 : Int32} {x2 : Int32} {r : Int32} {υ : SC} (hf : fc_hh_replaced_a116 x1 x2 τ = some (r, υ)) : ctI l (wC ad cs) D vwCl (kC D cs sK sV tA) yX11_replaced cX11_replaced 4 .int ro_hh_replaced_a116 [.ref (ad 116), .int x1, .int x2] τ r υ := by
  refine ct_I RX11 (by decide +kernel) rfl (Nat.le_of_ble_eq_true rfl) ?_
  intro p e s m args below meth c A X hK hA
  refine gr_eqL (L2 := [(0, .ref (ad 116)), (1, .int x1), (2, .int x2)]) rfl ?_
  unfold fc_hh_replaced_a116 at hf
  refine gr_aload_n X dX11_replaced_0 rfl 0 rfl ?_
  refine gr_iload_n X dX11_replaced_1 rfl 1 rfl ?_
  have hi_ := oc_1 hf
  replace hf := oc_2 hf
  refine gC_ald_116 X hK (Int32.toNatClampNeg x1) hi_ rfl dX11_replaced_2 ?_
  refine gC_top (fun v1 e_v1 => ?_)
  replace hf := ot_l hf e_v1
  refine gr_istore_n (L2 := [(3, .int v1), (0, .ref (ad 116)), (1, .int x1), (2, .int x2)]) X dX11_replaced_3 rfl (by decide) rfl ?_
  refine gr_aload_n X dX11_replaced_4 rfl 1 rfl ?_
  refine gr_iload_n X dX11_replaced_5 rfl 2 rfl ?_
  refine gr_iload_n X dX11_replaced_6 rfl 3 rfl ?_
  have hi_ := oc_1 hf
  replace hf := oc_2 hf
  refine gC_ast_116 X hK (Int32.toNatClampNeg x1) hi_ rfl dX11_replaced_7 ?_
  refine gC_gen (fun τ2 e_τ2 => ?_)
  replace hf := ot_l hf e_τ2
  refine gr_iload_n X dX11_replaced_8 rfl 0 rfl ?_
  exact gr_iret X dX11_replaced_9 (Prod.mk.inj (Option.some.inj hf)).1 (Prod.mk.inj (Option.some.inj hf)).2
abbrev ro_hh_replaced_a117 : Room := { frames := 0, cells := 0, slots := 0, locals := 0 }
def fc_hh_replaced_a117 (x1 : Int32) (x2 : Int32) (τ : SC) : Option (Int32 × SC) := (oc (hin x1 6) (hl (τ.1 117 (Int32.toNatClampNeg x1)) fun v1 => (oc (hin x1 6) (hl (sc τ 117 (upd (τ.1 117) (Int32.toNatClampNeg x1) x2)) fun τ2 => (some (v1, τ2))))))
set_option maxHeartbeats 4000000 in
set_option maxRecDepth 100000 in
theorem xc_hh_replaced_a117 {l : Launch} {D : va_G} {cs : Nat → ClassId} {sK sV : Nat → Nat} {tA : Nat} {ad : Nat → Nat} {τ : SC} {x1 : Int32} {x2 : Int32} {r : Int32} {υ : SC} (hf : fc_hh_replaced_a117 x1 x2 τ = some (r, υ)) : ctI l (wC ad cs) D vwCl (kC D cs sK sV tA) yX11_replaced cX11_replaced 4 .int ro_hh_replaced_a117 [.ref (ad 117), .int x1, .int x2] τ r υ := by
  refine ct_I RX11 (by decide +kernel) rfl (Nat.le_of_ble_eq_true rfl) ?_
  intro p e s m args below meth c A X hK hA
  refine gr_eqL (L2 := [(0, .ref (ad 117)), (1, .int x1), (2, .int x2)]) rfl ?_
  unfold fc_hh_replaced_a117 at hf
  refine gr_aload_n X dX11_replaced_0 rfl 0 rfl ?_
  refine gr_iload_n X dX11_replaced_1 rfl 1 rfl ?_
  have hi_ := oc_1 hf
  replace hf := oc_2 hf
  refine gC_ald_117 X hK (Int32.toNatClampNeg x1) hi_ rfl dX11_replaced_2 ?_
  refine gC_top (fun v1 e_v1 => ?_)
  replace hf := ot_l hf e_v1
  refine gr_istore_n (L2 := [(3, .int v1), (0, .ref (ad 117)), (1, .int x1), (2, .int x2)]) X dX11_replaced_3 rfl (by decide) rfl ?_
  refine gr_aload_n X dX11_replaced_4 rfl 1 rfl ?_
  refine gr_iload_n X dX11_replaced_5 rfl 2 rfl ?_
  refine gr_iload_n X dX11_replaced_6 rfl 3 rfl ?_
  have hi_ := oc_1 hf
  replace hf := oc_2 hf
  refine gC_ast_117 X hK (Int32.toNatClampNeg x1) hi_ rfl dX11_replaced_7 ?_
  refine gC_gen (fun τ2 e_τ2 => ?_)
  replace hf := ot_l hf e_τ2
  refine gr_iload_n X dX11_replaced_8 rfl 0 rfl ?_
  exact gr_iret X dX11_replaced_9 (Prod.mk.inj (Option.some.inj hf)).1 (Prod.mk.inj (Option.some.inj hf)).2
abbrev ro_hh_markWaits : Room := { frames := 1, cells := 0, slots := 0, locals := 22 }
def fc_hh_markWaits (x1 : Int32) (x2 : Int32) (τ : SC) : Option (Int32 × SC) := (Option.bind (fc_hh_bit (τ.1 107 0) x1) fun q1 => (Option.bind (fc_hh_withBit (τ.1 107 0) x1 x2) fun q2 => (hl (sc τ 107 (fun _ => q2)) fun τ3 => (some (q1, τ3)))))
set_option maxHeartbeats 4000000 in
set_option maxRecDepth 100000 in
theorem xc_hh_markWaits {l : Launch} {D : va_G} {cs : Nat → ClassId} {sK sV : Nat → Nat} {tA : Nat} {ad : Nat → Nat} {τ : SC} {x1 : Int32} {x2 : Int32} {r : Int32} {υ : SC} (hf : fc_hh_markWaits x1 x2 τ = some (r, υ)) : ctI l (wC ad cs) D vwCl (kC D cs sK sV tA) yX11_markWaits cX11_markWaits 4 .int ro_hh_markWaits [.ref (ad 16), .int x1, .int x2] τ r υ := by
  refine ct_I RX11 (by decide +kernel) rfl (Nat.le_of_ble_eq_true rfl) ?_
  intro p e s m args below meth c A X hK hA
  refine gr_eqL (L2 := [(0, .ref (ad 16)), (1, .int x1), (2, .int x2)]) rfl ?_
  unfold fc_hh_markWaits at hf
  refine gr_aload_n X dX11_markWaits_0 rfl 0 rfl ?_
  refine gC_get_HH_0 X hK fk11_10 dX11_markWaits_1 ?_
  refine gC_get_T0_7 X hK fk11_106 dX11_markWaits_4 ?_
  refine gr_iload_n X dX11_markWaits_7 rfl 1 rfl ?_
  obtain ⟨q1, hq_, hf⟩ := ot_b hf
  refine gc_Si (rest := []) X kC_ok hK hA cw11_109 (xc_hh_bit hq_) rfl ⟨rfl, rfl, Nat.le_of_ble_eq_true rfl, Nat.le_of_ble_eq_true rfl⟩ rfl (Nat.le_of_ble_eq_true rfl) dX11_markWaits_8 ?_
  refine gr_istore_n (L2 := [(3, .int q1), (0, .ref (ad 16)), (1, .int x1), (2, .int x2)]) X dX11_markWaits_11 rfl (by decide) rfl ?_
  refine gr_aload_n X dX11_markWaits_12 rfl 1 rfl ?_
  refine gC_get_HH_0 X hK fk11_10 dX11_markWaits_13 ?_
  refine gr_aload_n X dX11_markWaits_16 rfl 1 rfl ?_
  refine gC_get_HH_0 X hK fk11_10 dX11_markWaits_17 ?_
  refine gC_get_T0_7 X hK fk11_106 dX11_markWaits_20 ?_
  refine gr_iload_n X dX11_markWaits_23 rfl 2 rfl ?_
  refine gr_iload_n X dX11_markWaits_24 rfl 3 rfl ?_
  obtain ⟨q2, hq_, hf⟩ := ot_b hf
  refine gc_Si (rest := [.ref (ad 130)]) X kC_ok hK hA cw11_139 (xc_hh_withBit hq_) rfl ⟨rfl, rfl, Nat.le_of_ble_eq_true rfl, Nat.le_of_ble_eq_true rfl⟩ rfl (Nat.le_of_ble_eq_true rfl) dX11_markWaits_25 ?_
  refine gC_put_T0_7 X hK fk11_106 dX11_markWaits_28 ?_
  refine gC_gen (fun τ3 e_τ3 => ?_)
  replace hf := ot_l hf e_τ3
  refine gr_iload_n X dX11_markWaits_31 rfl 0 rfl ?_
  exact gr_iret X dX11_markWaits_32 (Prod.mk.inj (Option.some.inj hf)).1 (Prod.mk.inj (Option.some.inj hf)).2
abbrev ro_hh_markDone : Room := { frames := 1, cells := 0, slots := 0, locals := 22 }
def fc_hh_markDone (x1 : Int32) (x2 : Int32) (τ : SC) : Option (Int32 × SC) := (Option.bind (fc_hh_bit (τ.1 108 0) x1) fun q1 => (Option.bind (fc_hh_withBit (τ.1 108 0) x1 x2) fun q2 => (hl (sc τ 108 (fun _ => q2)) fun τ3 => (some (q1, τ3)))))
set_option maxHeartbeats 4000000 in
set_option maxRecDepth 100000 in
theorem xc_hh_markDone {l : Launch} {D : va_G} {cs : Nat → ClassId} {sK sV : Nat → Nat} {tA : Nat} {ad : Nat → Nat} {τ : SC} {x1 : Int32} {x2 : Int32} {r : Int32} {υ : SC} (hf : fc_hh_markDone x1 x2 τ = some (r, υ)) : ctI l (wC ad cs) D vwCl (kC D cs sK sV tA) yX11_markDone cX11_markDone 4 .int ro_hh_markDone [.ref (ad 16), .int x1, .int x2] τ r υ := by
  refine ct_I RX11 (by decide +kernel) rfl (Nat.le_of_ble_eq_true rfl) ?_
  intro p e s m args below meth c A X hK hA
  refine gr_eqL (L2 := [(0, .ref (ad 16)), (1, .int x1), (2, .int x2)]) rfl ?_
  unfold fc_hh_markDone at hf
  refine gr_aload_n X dX11_markDone_0 rfl 0 rfl ?_
  refine gC_get_HH_0 X hK fk11_10 dX11_markDone_1 ?_
  refine gC_get_T0_8 X hK fk11_113 dX11_markDone_4 ?_
  refine gr_iload_n X dX11_markDone_7 rfl 1 rfl ?_
  obtain ⟨q1, hq_, hf⟩ := ot_b hf
  refine gc_Si (rest := []) X kC_ok hK hA cw11_109 (xc_hh_bit hq_) rfl ⟨rfl, rfl, Nat.le_of_ble_eq_true rfl, Nat.le_of_ble_eq_true rfl⟩ rfl (Nat.le_of_ble_eq_true rfl) dX11_markDone_8 ?_
  refine gr_istore_n (L2 := [(3, .int q1), (0, .ref (ad 16)), (1, .int x1), (2, .int x2)]) X dX11_markDone_11 rfl (by decide) rfl ?_
  refine gr_aload_n X dX11_markDone_12 rfl 1 rfl ?_
  refine gC_get_HH_0 X hK fk11_10 dX11_markDone_13 ?_
  refine gr_aload_n X dX11_markDone_16 rfl 1 rfl ?_
  refine gC_get_HH_0 X hK fk11_10 dX11_markDone_17 ?_
  refine gC_get_T0_8 X hK fk11_113 dX11_markDone_20 ?_
  refine gr_iload_n X dX11_markDone_23 rfl 2 rfl ?_
  refine gr_iload_n X dX11_markDone_24 rfl 3 rfl ?_
  obtain ⟨q2, hq_, hf⟩ := ot_b hf
  refine gc_Si (rest := [.ref (ad 130)]) X kC_ok hK hA cw11_139 (xc_hh_withBit hq_) rfl ⟨rfl, rfl, Nat.le_of_ble_eq_true rfl, Nat.le_of_ble_eq_true rfl⟩ rfl (Nat.le_of_ble_eq_true rfl) dX11_markDone_25 ?_
  refine gC_put_T0_8 X hK fk11_113 dX11_markDone_28 ?_
  refine gC_gen (fun τ3 e_τ3 => ?_)
  replace hf := ot_l hf e_τ3
  refine gr_iload_n X dX11_markDone_31 rfl 0 rfl ?_
  exact gr_iret X dX11_markDone_32 (Prod.mk.inj (Option.some.inj hf)).1 (Prod.mk.inj (Option.some.inj hf)).2
abbrev ro_hh_change : Room := { frames := 2, cells := 0, slots := 0, locals := 45 }
def fc_hh_change (x1 : Int32) (x2 : Int32) (x3 : Int32) (τ : SC) : Option (Int32 × SC) := (Option.bind (fc_to_has τ x1) fun q1 => (if q1 = 0 then (some ((-1 : Int32), τ)) else (if 0 ≤ x3 then (if x2 = 1 then (if x3 ≤ (60 : Int32) then (Option.bind (fc_hh_replaced_a115 x1 x3 τ) fun p_ => hl p_.1 fun q2 => hl p_.2 fun τ3 => (some (q2, τ3))) else (some ((-1 : Int32), τ))) else (if x2 = 2 then (if x3 < (10 : Int32) then (Option.bind (fc_hh_replaced_a116 x1 x3 τ) fun p_ => hl p_.1 fun q4 => hl p_.2 fun τ5 => (some (q4, τ5))) else (some ((-1 : Int32), τ))) else (if x2 = 3 then (if x3 < (6 : Int32) then (Option.bind (fc_hh_replaced_a117 x1 x3 τ) fun p_ => hl p_.1 fun q6 => hl p_.2 fun τ7 => (some (q6, τ7))) else (some ((-1 : Int32), τ))) else (if x2 = 4 then (if x3 ≤ (1 : Int32) then (Option.bind (fc_hh_markWaits x1 x3 τ) fun p_ => hl p_.1 fun q8 => hl p_.2 fun τ9 => (some (q8, τ9))) else (some ((-1 : Int32), τ))) else (if x2 = 5 then (if x3 ≤ (1 : Int32) then (Option.bind (fc_hh_markDone x1 x3 τ) fun p_ => hl p_.1 fun q10 => hl p_.2 fun τ11 => (some (q10, τ11))) else (some ((-1 : Int32), τ))) else (some ((-1 : Int32), τ))))))) else (some ((-1 : Int32), τ)))))
set_option maxHeartbeats 4000000 in
set_option maxRecDepth 100000 in
theorem xc_hh_change {l : Launch} {D : va_G} {cs : Nat → ClassId} {sK sV : Nat → Nat} {tA : Nat} {ad : Nat → Nat} {τ : SC} {x1 : Int32} {x2 : Int32} {x3 : Int32} {r : Int32} {υ : SC} (hf : fc_hh_change x1 x2 x3 τ = some (r, υ)) : ctI l (wC ad cs) D vwCl (kC D cs sK sV tA) yX11_change cX11_change 4 .int ro_hh_change [.ref (ad 16), .int x1, .int x2, .int x3] τ r υ := by
  refine ct_I RX11 (by decide +kernel) rfl (Nat.le_of_ble_eq_true rfl) ?_
  intro p e s m args below meth c A X hK hA
  refine gr_eqL (L2 := [(0, .ref (ad 16)), (1, .int x1), (2, .int x2), (3, .int x3)]) rfl ?_
  unfold fc_hh_change at hf
  refine gr_aload_n X dX11_change_0 rfl 0 rfl ?_
  refine gC_get_HH_0 X hK fk11_10 dX11_change_1 ?_
  refine gr_iload_n X dX11_change_4 rfl 1 rfl ?_
  obtain ⟨q1, hq_, hf⟩ := ot_b hf
  refine gc_Vi (rest := []) X kC_ok hK hA cw11_91 (rvC_T0 hK) (xc_to_has hq_) rfl ⟨rfl, rfl, Nat.le_of_ble_eq_true rfl, Nat.le_of_ble_eq_true rfl⟩ rfl (Nat.le_of_ble_eq_true rfl) dX11_change_5 ?_
  refine gr_if_eq X 15 dX11_change_8 (by decide) (fun hc_ => ?_) (fun hc_ => ?_)
  · replace hf := ot_t hf hc_
    refine gr_iconst (v := -1) X dX11_change_15 (by decide) ?_
    exact gr_iret X dX11_change_16 (Prod.mk.inj (Option.some.inj hf)).1 (Prod.mk.inj (Option.some.inj hf)).2
  · replace hf := ot_f hf hc_
    refine gr_iload_n X dX11_change_11 rfl 3 rfl ?_
    refine gr_if_ge X 17 dX11_change_12 (by decide) (fun hc_ => ?_) (fun hc_ => ?_)
    · replace hf := ot_t hf hc_
      refine gr_iload_n X dX11_change_17 rfl 2 rfl ?_
      by_cases hs0 : x2 = 1
      · replace hf := ot_t hf hs0
        refine gr_tin X (1) 52 dX11_change_18 (by rw [hs0]; decide) (by decide) (by decide) rfl (by decide) ?_
        refine gr_iload_n X dX11_change_52 rfl 3 rfl ?_
        refine gr_bipush (v := 60) X dX11_change_53 (by decide) ?_
        refine gr_icmp_le X 62 dX11_change_55 (by decide) (fun hc_ => ?_) (fun hc_ => ?_)
        · replace hf := ot_t hf hc_
          refine gr_aload_n X dX11_change_62 rfl 0 rfl ?_
          refine gC_get_HH_0 X hK fk11_10 dX11_change_63 ?_
          refine gC_get_T0_15 X hK fk11_97 dX11_change_66 ?_
          refine gr_iload_n X dX11_change_69 rfl 1 rfl ?_
          refine gr_iload_n X dX11_change_70 rfl 3 rfl ?_
          obtain ⟨⟨q2, τ3⟩, hq_, hf⟩ := ot_b hf
          replace hf := ot_l (y := q2) hf rfl
          replace hf := ot_l (y := τ3) hf rfl
          refine gc_Si (rest := []) X kC_ok hK hA cw11_129 (xc_hh_replaced_a115 hq_) rfl ⟨rfl, rfl, Nat.le_of_ble_eq_true rfl, Nat.le_of_ble_eq_true rfl⟩ rfl (Nat.le_of_ble_eq_true rfl) dX11_change_71 ?_
          exact gr_iret X dX11_change_74 (Prod.mk.inj (Option.some.inj hf)).1 (Prod.mk.inj (Option.some.inj hf)).2
        · replace hf := ot_f hf hc_
          refine gr_iconst (v := -1) X dX11_change_58 (by decide) ?_
          refine gr_goto X 74 dX11_change_59 (by decide) ?_
          exact gr_iret X dX11_change_74 (Prod.mk.inj (Option.some.inj hf)).1 (Prod.mk.inj (Option.some.inj hf)).2
      replace hf := ot_f hf hs0
      by_cases hs1 : x2 = 2
      · replace hf := ot_t hf hs1
        refine gr_tin X (2) 75 dX11_change_18 (by rw [hs1]; decide) (by decide) (by decide) rfl (by decide) ?_
        refine gr_iload_n X dX11_change_75 rfl 3 rfl ?_
        refine gr_bipush (v := 10) X dX11_change_76 (by decide) ?_
        refine gr_icmp_lt X 85 dX11_change_78 (by decide) (fun hc_ => ?_) (fun hc_ => ?_)
        · replace hf := ot_t hf hc_
          refine gr_aload_n X dX11_change_85 rfl 0 rfl ?_
          refine gC_get_HH_0 X hK fk11_10 dX11_change_86 ?_
          refine gC_get_T0_16 X hK fk11_100 dX11_change_89 ?_
          refine gr_iload_n X dX11_change_92 rfl 1 rfl ?_
          refine gr_iload_n X dX11_change_93 rfl 3 rfl ?_
          obtain ⟨⟨q4, τ5⟩, hq_, hf⟩ := ot_b hf
          replace hf := ot_l (y := q4) hf rfl
          replace hf := ot_l (y := τ5) hf rfl
          refine gc_Si (rest := []) X kC_ok hK hA cw11_129 (xc_hh_replaced_a116 hq_) rfl ⟨rfl, rfl, Nat.le_of_ble_eq_true rfl, Nat.le_of_ble_eq_true rfl⟩ rfl (Nat.le_of_ble_eq_true rfl) dX11_change_94 ?_
          exact gr_iret X dX11_change_97 (Prod.mk.inj (Option.some.inj hf)).1 (Prod.mk.inj (Option.some.inj hf)).2
        · replace hf := ot_f hf hc_
          refine gr_iconst (v := -1) X dX11_change_81 (by decide) ?_
          refine gr_goto X 97 dX11_change_82 (by decide) ?_
          exact gr_iret X dX11_change_97 (Prod.mk.inj (Option.some.inj hf)).1 (Prod.mk.inj (Option.some.inj hf)).2
      replace hf := ot_f hf hs1
      by_cases hs2 : x2 = 3
      · replace hf := ot_t hf hs2
        refine gr_tin X (3) 98 dX11_change_18 (by rw [hs2]; decide) (by decide) (by decide) rfl (by decide) ?_
        refine gr_iload_n X dX11_change_98 rfl 3 rfl ?_
        refine gr_bipush (v := 6) X dX11_change_99 (by decide) ?_
        refine gr_icmp_lt X 108 dX11_change_101 (by decide) (fun hc_ => ?_) (fun hc_ => ?_)
        · replace hf := ot_t hf hc_
          refine gr_aload_n X dX11_change_108 rfl 0 rfl ?_
          refine gC_get_HH_0 X hK fk11_10 dX11_change_109 ?_
          refine gC_get_T0_17 X hK fk11_103 dX11_change_112 ?_
          refine gr_iload_n X dX11_change_115 rfl 1 rfl ?_
          refine gr_iload_n X dX11_change_116 rfl 3 rfl ?_
          obtain ⟨⟨q6, τ7⟩, hq_, hf⟩ := ot_b hf
          replace hf := ot_l (y := q6) hf rfl
          replace hf := ot_l (y := τ7) hf rfl
          refine gc_Si (rest := []) X kC_ok hK hA cw11_129 (xc_hh_replaced_a117 hq_) rfl ⟨rfl, rfl, Nat.le_of_ble_eq_true rfl, Nat.le_of_ble_eq_true rfl⟩ rfl (Nat.le_of_ble_eq_true rfl) dX11_change_117 ?_
          exact gr_iret X dX11_change_120 (Prod.mk.inj (Option.some.inj hf)).1 (Prod.mk.inj (Option.some.inj hf)).2
        · replace hf := ot_f hf hc_
          refine gr_iconst (v := -1) X dX11_change_104 (by decide) ?_
          refine gr_goto X 120 dX11_change_105 (by decide) ?_
          exact gr_iret X dX11_change_120 (Prod.mk.inj (Option.some.inj hf)).1 (Prod.mk.inj (Option.some.inj hf)).2
      replace hf := ot_f hf hs2
      by_cases hs3 : x2 = 4
      · replace hf := ot_t hf hs3
        refine gr_tin X (4) 121 dX11_change_18 (by rw [hs3]; decide) (by decide) (by decide) rfl (by decide) ?_
        refine gr_iload_n X dX11_change_121 rfl 3 rfl ?_
        refine gr_iconst (v := 1) X dX11_change_122 (by decide) ?_
        refine gr_icmp_le X 130 dX11_change_123 (by decide) (fun hc_ => ?_) (fun hc_ => ?_)
        · replace hf := ot_t hf hc_
          refine gr_aload_n X dX11_change_130 rfl 0 rfl ?_
          refine gr_iload_n X dX11_change_131 rfl 1 rfl ?_
          refine gr_iload_n X dX11_change_132 rfl 3 rfl ?_
          obtain ⟨⟨q8, τ9⟩, hq_, hf⟩ := ot_b hf
          replace hf := ot_l (y := q8) hf rfl
          replace hf := ot_l (y := τ9) hf rfl
          refine gc_Vi (rest := []) X kC_ok hK hA cw11_133 (rvC_HH hK) (xc_hh_markWaits hq_) rfl ⟨rfl, rfl, Nat.le_of_ble_eq_true rfl, Nat.le_of_ble_eq_true rfl⟩ rfl (Nat.le_of_ble_eq_true rfl) dX11_change_133 ?_
          exact gr_iret X dX11_change_136 (Prod.mk.inj (Option.some.inj hf)).1 (Prod.mk.inj (Option.some.inj hf)).2
        · replace hf := ot_f hf hc_
          refine gr_iconst (v := -1) X dX11_change_126 (by decide) ?_
          refine gr_goto X 136 dX11_change_127 (by decide) ?_
          exact gr_iret X dX11_change_136 (Prod.mk.inj (Option.some.inj hf)).1 (Prod.mk.inj (Option.some.inj hf)).2
      replace hf := ot_f hf hs3
      by_cases hs4 : x2 = 5
      · replace hf := ot_t hf hs4
        refine gr_tin X (5) 137 dX11_change_18 (by rw [hs4]; decide) (by decide) (by decide) rfl (by decide) ?_
        refine gr_iload_n X dX11_change_137 rfl 3 rfl ?_
        refine gr_iconst (v := 1) X dX11_change_138 (by decide) ?_
        refine gr_icmp_le X 146 dX11_change_139 (by decide) (fun hc_ => ?_) (fun hc_ => ?_)
        · replace hf := ot_t hf hc_
          refine gr_aload_n X dX11_change_146 rfl 0 rfl ?_
          refine gr_iload_n X dX11_change_147 rfl 1 rfl ?_
          refine gr_iload_n X dX11_change_148 rfl 3 rfl ?_
          obtain ⟨⟨q10, τ11⟩, hq_, hf⟩ := ot_b hf
          replace hf := ot_l (y := q10) hf rfl
          replace hf := ot_l (y := τ11) hf rfl
          refine gc_Vi (rest := []) X kC_ok hK hA cw11_136 (rvC_HH hK) (xc_hh_markDone hq_) rfl ⟨rfl, rfl, Nat.le_of_ble_eq_true rfl, Nat.le_of_ble_eq_true rfl⟩ rfl (Nat.le_of_ble_eq_true rfl) dX11_change_149 ?_
          exact gr_iret X dX11_change_152 (Prod.mk.inj (Option.some.inj hf)).1 (Prod.mk.inj (Option.some.inj hf)).2
        · replace hf := ot_f hf hc_
          refine gr_iconst (v := -1) X dX11_change_142 (by decide) ?_
          refine gr_goto X 152 dX11_change_143 (by decide) ?_
          exact gr_iret X dX11_change_152 (Prod.mk.inj (Option.some.inj hf)).1 (Prod.mk.inj (Option.some.inj hf)).2
      replace hf := ot_f hf hs4
      refine gr_tout X 153 dX11_change_18 (by have := lv_neT hs0 (show (1 : Int32).toInt = 1 by decide); have := lv_neT hs1 (show (2 : Int32).toInt = 2 by decide); have := lv_neT hs2 (show (3 : Int32).toInt = 3 by decide); have := lv_neT hs3 (show (4 : Int32).toInt = 4 by decide); have := lv_neT hs4 (show (5 : Int32).toInt = 5 by decide); omega) (by decide) ?_
      refine gr_iconst (v := -1) X dX11_change_153 (by decide) ?_
      exact gr_iret X dX11_change_154 (Prod.mk.inj (Option.some.inj hf)).1 (Prod.mk.inj (Option.some.inj hf)).2
    · replace hf := ot_f hf hc_
      refine gr_iconst (v := -1) X dX11_change_15 (by decide) ?_
      exact gr_iret X dX11_change_16 (Prod.mk.inj (Option.some.inj hf)).1 (Prod.mk.inj (Option.some.inj hf)).2
