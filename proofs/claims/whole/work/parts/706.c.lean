abbrev ro_hh_shows : Room := { frames := 7, cells := 0, slots := 0, locals := 163 }
def fc_hh_shows (x1 : Int32) (τ : SC) : Option (Int32 × SC) := (Option.bind (fc_hh_within x1 (99 : Int32)) fun q1 => (if q1 = 0 then (some ((-1 : Int32), τ)) else (Option.bind (fc_to_hourThatShows x1 τ) fun p_ => hl p_.1 fun q2 => hl p_.2 fun τ3 => (some (q2, τ3)))))
set_option maxHeartbeats 4000000 in
set_option maxRecDepth 100000 in
theorem xc_hh_shows {l : Launch} {D : va_G} {cs : Nat → ClassId} {sK sV : Nat → Nat} {tA : Nat} {ad : Nat → Nat} {τ : SC} {x1 : Int32} {r : Int32} {υ : SC} (hf : fc_hh_shows x1 τ = some (r, υ)) : ctI l (wC ad cs) D vwCl (kC D cs sK sV tA) yX11_shows cX11_shows 2 .int ro_hh_shows [.ref (ad 16), .int x1] τ r υ := by
  refine ct_I RX11 (by decide +kernel) rfl (Nat.le_of_ble_eq_true rfl) ?_
  intro p e s m args below meth c A X hK hA
  refine gr_eqL (L2 := [(0, .ref (ad 16)), (1, .int x1)]) rfl ?_
  unfold fc_hh_shows at hf
  refine gr_iload_n X dX11_shows_0 rfl 1 rfl ?_
  refine gr_bipush (v := 99) X dX11_shows_1 (by decide) ?_
  obtain ⟨q1, hq_, hf⟩ := ot_b hf
  refine gc_Si (rest := []) X kC_ok hK hA cw11_79 (xc_hh_within hq_) rfl ⟨rfl, rfl, Nat.le_of_ble_eq_true rfl, Nat.le_of_ble_eq_true rfl⟩ rfl (Nat.le_of_ble_eq_true rfl) dX11_shows_3 ?_
  refine gr_if_eq X 20 dX11_shows_6 (by decide) (fun hc_ => ?_) (fun hc_ => ?_)
  · replace hf := ot_t hf hc_
    refine gr_iconst (v := -1) X dX11_shows_20 (by decide) ?_
    exact gr_iret X dX11_shows_21 (Prod.mk.inj (Option.some.inj hf)).1 (Prod.mk.inj (Option.some.inj hf)).2
  · replace hf := ot_f hf hc_
    refine gr_aload_n X dX11_shows_9 rfl 0 rfl ?_
    refine gC_get_HH_0 X hK fk11_10 dX11_shows_10 ?_
    refine gr_iload_n X dX11_shows_13 rfl 1 rfl ?_
    obtain ⟨⟨q2, τ3⟩, hq_, hf⟩ := ot_b hf
    replace hf := ot_l (y := q2) hf rfl
    replace hf := ot_l (y := τ3) hf rfl
    refine gc_Vi (rest := []) X kC_ok hK hA cw11_225 (rvC_T0 hK) (xc_to_hourThatShows hq_) rfl ⟨rfl, rfl, Nat.le_of_ble_eq_true rfl, Nat.le_of_ble_eq_true rfl⟩ rfl (Nat.le_of_ble_eq_true rfl) dX11_shows_14 ?_
    refine gr_goto X 21 dX11_shows_17 (by decide) ?_
    exact gr_iret X dX11_shows_21 (Prod.mk.inj (Option.some.inj hf)).1 (Prod.mk.inj (Option.some.inj hf)).2
abbrev ro_hh_right : Room := { frames := 6, cells := 0, slots := 0, locals := 138 }
def fc_hh_right_b88 (K94 : Int32 → Int32 → Int32 → Int32 → SC → Option (Int32 × SC)) (K37 : Int32 → Int32 → Int32 → Int32 → Int32 → Int32 → SC → Option (Int32 × SC)) (x1 : Int32) (x2 : Int32) (x3 : Int32) (x4 : Int32) (x5 : Int32) (x6 : Int32) (τ : SC) : Option (Int32 × SC) := (K37 x1 x2 x3 x4 x5 (x6 + (1 : Int32)) τ)
def fc_hh_right_l37 (K94 : Int32 → Int32 → Int32 → Int32 → SC → Option (Int32 × SC)) : Nat → Int32 → Int32 → Int32 → Int32 → Int32 → Int32 → SC → Option (Int32 × SC)
  | 0, _, _, _, _, _, _, _ => none
  | n + 1, x1, x2, x3, x4, x5, x6, τ => (if x3 ≤ x6 then (K94 x1 x2 x4 x5 τ) else (Option.bind (fc_to_passAsInTheRest τ) fun p_ => hl p_.1 fun q4 => hl p_.2 fun τ5 => (hl (habs ((τ5.1 106 0) - ((4 : Int32) * (τ5.1 102 0)))) fun v6 => (hl (x5 + v6) fun v7 => (if ¬ v6 = 0 then (fc_hh_right_b88 K94 (fc_hh_right_l37 K94 n) x1 x2 x3 x4 v7 x6 τ5) else (fc_hh_right_b88 K94 (fc_hh_right_l37 K94 n) x1 x2 x3 (x4 + (1 : Int32)) v7 x6 τ5))))))
def fc_hh_right (x1 : Int32) (τ : SC) : Option (Int32 × SC) := (Option.bind (fc_hh_within x1 (1 : Int32)) fun q1 => (if ¬ q1 = 0 then (Option.bind (fc_to_moment τ) fun q2 => (Option.bind (fc_to_hoursOf τ (16 : Int32)) fun q3 => (fc_hh_right_l37 (fun x1 x2 x4 x5 τ => (Option.bind (fc_to_recall x2 τ) fun τ9 => (if ¬ x1 = 0 then (some (x5, τ9)) else (some (x4, τ9))))) hFU x1 q2 q3 (0 : Int32) (0 : Int32) (0 : Int32) τ))) else (some ((-1 : Int32), τ))))
set_option maxHeartbeats 4000000 in
set_option maxRecDepth 100000 in
theorem wc_hh_right_b88 {p : Program} {l : Launch} {e : Env} {s : State} {m : MethodId} {args : Array Value} {below : List Frame} {meth : Method} {c : Code} {A : Nat → Prop} {D : va_G} {cs : Nat → ClassId} {sK sV : Nat → Nat} {tA : Nat} {ad : Nat → Nat} {r : Int32} {υ : SC} {K94 : Int32 → Int32 → Int32 → Int32 → SC → Option (Int32 × SC)} {K37 : Int32 → Int32 → Int32 → Int32 → Int32 → Int32 → SC → Option (Int32 × SC)} (X : hc p s m args meth c RX11 cX11_right 8 (some .int)) (hK : kC D cs sK sV tA A s) (hA : ∀ q, s.heap.size ≤ q → A q) (hK94 : (∀ (x1 : Int32) (x2 : Int32) (x4 : Int32) (x5 : Int32) (τ : SC), K94 x1 x2 x4 x5 τ = some (r, υ) → gg p l e ro_hh_right s m args below meth c (wC ad cs) D vwCl A 8 (QI below args s (wC ad cs) D vwCl A r υ) 94 [(0, .ref (ad 16)), (1, .int x1), (2, .int x2), (4, .int x4), (5, .int x5)] [] τ)) (hK37 : (∀ (x1 : Int32) (x2 : Int32) (x3 : Int32) (x4 : Int32) (x5 : Int32) (x6 : Int32) (τ : SC), K37 x1 x2 x3 x4 x5 x6 τ = some (r, υ) → gg p l e ro_hh_right s m args below meth c (wC ad cs) D vwCl A 8 (QI below args s (wC ad cs) D vwCl A r υ) 37 [(0, .ref (ad 16)), (1, .int x1), (2, .int x2), (3, .int x3), (4, .int x4), (5, .int x5), (6, .int x6)] [] τ))  (x1 : Int32) (x2 : Int32) (x3 : Int32) (x4 : Int32) (x5 : Int32) (x6 : Int32) (τ : SC) (hf : fc_hh_right_b88 K94 K37 x1 x2 x3 x4 x5 x6 τ = some (r, υ)) : gg p l e ro_hh_right s m args below meth c (wC ad cs) D vwCl A 8 (QI below args s (wC ad cs) D vwCl A r υ) 88 [(0, .ref (ad 16)), (1, .int x1), (2, .int x2), (3, .int x3), (4, .int x4), (5, .int x5), (6, .int x6)] [] τ := by
  unfold fc_hh_right_b88 at hf
  refine gr_iinc (k := 6) (v := 1) (L2 := [(6, .int (x6 + (1 : Int32))), (0, .ref (ad 16)), (1, .int x1), (2, .int x2), (3, .int x3), (4, .int x4), (5, .int x5)]) X dX11_right_88 rfl (by decide) (by decide) rfl ?_
  refine gr_goto X 37 dX11_right_91 (by decide) ?_
  refine gr_sub [1, 2, 3, 4, 5, 6, 0] rfl ?_
  exact hK37 _ _ _ _ _ _ _ hf
set_option maxHeartbeats 4000000 in
set_option maxRecDepth 100000 in
theorem wc_hh_right_l37 {p : Program} {l : Launch} {e : Env} {s : State} {m : MethodId} {args : Array Value} {below : List Frame} {meth : Method} {c : Code} {A : Nat → Prop} {D : va_G} {cs : Nat → ClassId} {sK sV : Nat → Nat} {tA : Nat} {ad : Nat → Nat} {r : Int32} {υ : SC} {K94 : Int32 → Int32 → Int32 → Int32 → SC → Option (Int32 × SC)} (X : hc p s m args meth c RX11 cX11_right 8 (some .int)) (hK : kC D cs sK sV tA A s) (hA : ∀ q, s.heap.size ≤ q → A q) (hK94 : (∀ (x1 : Int32) (x2 : Int32) (x4 : Int32) (x5 : Int32) (τ : SC), K94 x1 x2 x4 x5 τ = some (r, υ) → gg p l e ro_hh_right s m args below meth c (wC ad cs) D vwCl A 8 (QI below args s (wC ad cs) D vwCl A r υ) 94 [(0, .ref (ad 16)), (1, .int x1), (2, .int x2), (4, .int x4), (5, .int x5)] [] τ)) : ∀ (n : Nat) (x1 : Int32) (x2 : Int32) (x3 : Int32) (x4 : Int32) (x5 : Int32) (x6 : Int32) (τ : SC), fc_hh_right_l37 K94 n x1 x2 x3 x4 x5 x6 τ = some (r, υ) → gg p l e ro_hh_right s m args below meth c (wC ad cs) D vwCl A 8 (QI below args s (wC ad cs) D vwCl A r υ) 37 [(0, .ref (ad 16)), (1, .int x1), (2, .int x2), (3, .int x3), (4, .int x4), (5, .int x5), (6, .int x6)] [] τ := by
  intro n
  induction n with
  | zero =>
    intro x1 x2 x3 x4 x5 x6 τ hf
    cases (show (none : Option (Int32 × SC)) = some (r, υ) from hf)
  | succ n ih =>
    intro x1 x2 x3 x4 x5 x6 τ hf
    unfold fc_hh_right_l37 at hf
    refine gr_iload X dX11_right_37 6 rfl ?_
    refine gr_iload_n X dX11_right_39 rfl 3 rfl ?_
    refine gr_icmp_ge X 94 dX11_right_40 (by decide) (fun hc_ => ?_) (fun hc_ => ?_)
    · replace hf := ot_t hf hc_
      refine gr_sub [0, 1, 2, 4, 5] rfl ?_
      exact hK94 _ _ _ _ _ hf
    · replace hf := ot_f hf hc_
      refine gr_aload_n X dX11_right_43 rfl 0 rfl ?_
      refine gC_get_HH_0 X hK fk11_10 dX11_right_44 ?_
      obtain ⟨⟨q4, τ5⟩, hq_, hf⟩ := ot_b hf
      replace hf := ot_l (y := q4) hf rfl
      replace hf := ot_l (y := τ5) hf rfl
      refine gc_Vi (rest := []) X kC_ok hK hA cw11_202 (rvC_T0 hK) (xc_to_passAsInTheRest hq_) rfl ⟨rfl, rfl, Nat.le_of_ble_eq_true rfl, Nat.le_of_ble_eq_true rfl⟩ rfl (Nat.le_of_ble_eq_true rfl) dX11_right_47 ?_
      refine gr_pop X dX11_right_50 rfl ?_
      refine gr_aload_n X dX11_right_51 rfl 0 rfl ?_
      refine gC_get_HH_0 X hK fk11_10 dX11_right_52 ?_
      refine gC_get_T0_6 X hK fk11_155 dX11_right_55 ?_
      refine gr_iconst (v := 4) X dX11_right_58 (by decide) ?_
      refine gr_aload_n X dX11_right_59 rfl 0 rfl ?_
      refine gC_get_HH_0 X hK fk11_10 dX11_right_60 ?_
      refine gC_get_T0_2 X hK fk11_158 dX11_right_63 ?_
      refine gr_imul X dX11_right_66 ?_
      refine gr_isub X dX11_right_67 ?_
      refine gr_mabs X mk11_228 ⟨Nat.le_of_ble_eq_true rfl, Nat.le_of_ble_eq_true rfl⟩ dX11_right_68 ?_
      refine gC_top (fun v6 e_v6 => ?_)
      replace hf := ot_l hf e_v6
      refine gr_istore (L2 := [(7, .int v6), (0, .ref (ad 16)), (1, .int x1), (2, .int x2), (3, .int x3), (4, .int x4), (5, .int x5), (6, .int x6)]) X dX11_right_71 (by decide) rfl ?_
      refine gr_iload X dX11_right_73 6 rfl ?_
      refine gr_iload X dX11_right_75 0 rfl ?_
      refine gr_iadd X dX11_right_77 ?_
      refine gC_top (fun v7 e_v7 => ?_)
      replace hf := ot_l hf e_v7
      refine gr_istore (L2 := [(5, .int v7), (7, .int v6), (0, .ref (ad 16)), (1, .int x1), (2, .int x2), (3, .int x3), (4, .int x4), (6, .int x6)]) X dX11_right_78 (by decide) rfl ?_
      refine gr_iload X dX11_right_80 1 rfl ?_
      refine gr_if_ne X 88 dX11_right_82 (by decide) (fun hc_ => ?_) (fun hc_ => ?_)
      · replace hf := ot_t hf hc_
        refine gr_sub [2, 3, 4, 5, 6, 0, 7] rfl ?_
        exact wc_hh_right_b88 X hK hA hK94 ih _ _ _ _ _ _ _ hf
      · replace hf := ot_f hf hc_
        refine gr_iinc (k := 6) (v := 1) (L2 := [(4, .int (x4 + (1 : Int32))), (5, .int v7), (7, .int v6), (0, .ref (ad 16)), (1, .int x1), (2, .int x2), (3, .int x3), (6, .int x6)]) X dX11_right_85 rfl (by decide) (by decide) rfl ?_
        refine gr_sub [3, 4, 5, 6, 0, 1, 7] rfl ?_
        exact wc_hh_right_b88 X hK hA hK94 ih _ _ _ _ _ _ _ hf
set_option maxHeartbeats 4000000 in
set_option maxRecDepth 100000 in
theorem xc_hh_right {l : Launch} {D : va_G} {cs : Nat → ClassId} {sK sV : Nat → Nat} {tA : Nat} {ad : Nat → Nat} {τ : SC} {x1 : Int32} {r : Int32} {υ : SC} (hf : fc_hh_right x1 τ = some (r, υ)) : ctI l (wC ad cs) D vwCl (kC D cs sK sV tA) yX11_right cX11_right 8 .int ro_hh_right [.ref (ad 16), .int x1] τ r υ := by
  refine ct_I RX11 (by decide +kernel) rfl (Nat.le_of_ble_eq_true rfl) ?_
  intro p e s m args below meth c A X hK hA
  refine gr_eqL (L2 := [(0, .ref (ad 16)), (1, .int x1)]) rfl ?_
  unfold fc_hh_right at hf
  refine gr_iload_n X dX11_right_0 rfl 1 rfl ?_
  refine gr_iconst (v := 1) X dX11_right_1 (by decide) ?_
  obtain ⟨q1, hq_, hf⟩ := ot_b hf
  refine gc_Si (rest := []) X kC_ok hK hA cw11_79 (xc_hh_within hq_) rfl ⟨rfl, rfl, Nat.le_of_ble_eq_true rfl, Nat.le_of_ble_eq_true rfl⟩ rfl (Nat.le_of_ble_eq_true rfl) dX11_right_2 ?_
  refine gr_if_ne X 10 dX11_right_5 (by decide) (fun hc_ => ?_) (fun hc_ => ?_)
  · replace hf := ot_t hf hc_
    refine gr_aload_n X dX11_right_10 rfl 0 rfl ?_
    refine gC_get_HH_0 X hK fk11_10 dX11_right_11 ?_
    obtain ⟨q2, hq_, hf⟩ := ot_b hf
    refine gc_Vi (rest := []) X kC_ok hK hA cw11_209 (rvC_T0 hK) (xc_to_moment hq_) rfl ⟨rfl, rfl, Nat.le_of_ble_eq_true rfl, Nat.le_of_ble_eq_true rfl⟩ rfl (Nat.le_of_ble_eq_true rfl) dX11_right_14 ?_
    refine gr_istore_n (L2 := [(2, .int q2), (0, .ref (ad 16)), (1, .int x1)]) X dX11_right_17 rfl (by decide) rfl ?_
    refine gr_aload_n X dX11_right_18 rfl 1 rfl ?_
    refine gC_get_HH_0 X hK fk11_10 dX11_right_19 ?_
    refine gr_bipush (v := 16) X dX11_right_22 (by decide) ?_
    obtain ⟨q3, hq_, hf⟩ := ot_b hf
    refine gc_Vi (rest := []) X kC_ok hK hA cw11_212 (rvC_T0 hK) (xc_to_hoursOf hq_) rfl ⟨rfl, rfl, Nat.le_of_ble_eq_true rfl, Nat.le_of_ble_eq_true rfl⟩ rfl (Nat.le_of_ble_eq_true rfl) dX11_right_24 ?_
    refine gr_istore_n (L2 := [(3, .int q3), (2, .int q2), (0, .ref (ad 16)), (1, .int x1)]) X dX11_right_27 rfl (by decide) rfl ?_
    refine gr_iconst (v := 0) X dX11_right_28 (by decide) ?_
    refine gr_istore (L2 := [(4, .int (0 : Int32)), (3, .int q3), (2, .int q2), (0, .ref (ad 16)), (1, .int x1)]) X dX11_right_29 (by decide) rfl ?_
    refine gr_iconst (v := 0) X dX11_right_31 (by decide) ?_
    refine gr_istore (L2 := [(5, .int (0 : Int32)), (4, .int (0 : Int32)), (3, .int q3), (2, .int q2), (0, .ref (ad 16)), (1, .int x1)]) X dX11_right_32 (by decide) rfl ?_
    refine gr_iconst (v := 0) X dX11_right_34 (by decide) ?_
    refine gr_istore (L2 := [(6, .int (0 : Int32)), (5, .int (0 : Int32)), (4, .int (0 : Int32)), (3, .int q3), (2, .int q2), (0, .ref (ad 16)), (1, .int x1)]) X dX11_right_35 (by decide) rfl ?_
    refine gr_sub [5, 6, 4, 3, 2, 1, 0] rfl ?_
    refine wc_hh_right_l37 X hK hA (fun x1 x2 x4 x5 τ hf => ?_) hFU _ _ _ _ _ _ _ hf
    refine gr_aload_n X dX11_right_94 rfl 0 rfl ?_
    refine gC_get_HH_0 X hK fk11_10 dX11_right_95 ?_
    refine gr_iload_n X dX11_right_98 rfl 2 rfl ?_
    obtain ⟨τ9, hq_, hf⟩ := ot_b hf
    refine gc_Vv (rest := []) X kC_ok hK hA cw11_215 (rvC_T0 hK) (xc_to_recall hq_) rfl ⟨rfl, rfl, Nat.le_of_ble_eq_true rfl, Nat.le_of_ble_eq_true rfl⟩ rfl (Nat.le_of_ble_eq_true rfl) dX11_right_99 ?_
    refine gr_iload_n X dX11_right_102 rfl 1 rfl ?_
    refine gr_if_ne X 111 dX11_right_103 (by decide) (fun hc_ => ?_) (fun hc_ => ?_)
    · replace hf := ot_t hf hc_
      refine gr_iload X dX11_right_111 4 rfl ?_
      exact gr_iret X dX11_right_113 (Prod.mk.inj (Option.some.inj hf)).1 (Prod.mk.inj (Option.some.inj hf)).2
    · replace hf := ot_f hf hc_
      refine gr_iload X dX11_right_106 3 rfl ?_
      refine gr_goto X 113 dX11_right_108 (by decide) ?_
      exact gr_iret X dX11_right_113 (Prod.mk.inj (Option.some.inj hf)).1 (Prod.mk.inj (Option.some.inj hf)).2
  · replace hf := ot_f hf hc_
    refine gr_iconst (v := -1) X dX11_right_8 (by decide) ?_
    exact gr_iret X dX11_right_9 (Prod.mk.inj (Option.some.inj hf)).1 (Prod.mk.inj (Option.some.inj hf)).2
abbrev ro_to_closeTo : Room := { frames := 1, cells := 0, slots := 0, locals := 24 }
def fc_to_closeTo_b48 (τ : SC) (K4 : Int32 → Int32 → Int32 → Option Int32) (x1 : Int32) (x2 : Int32) (x3 : Int32) : Option Int32 := (K4 x1 x2 (x3 + (1 : Int32)))
def fc_to_closeTo_l4 (τ : SC) : Nat → Int32 → Int32 → Int32 → Option Int32
  | 0, _, _, _ => none
  | n + 1, x1, x2, x3 => (if (τ.1 113 0) ≤ x3 then (some x2) else (Option.bind (fc_hh_bit (τ.1 107 0) x3) fun q1 => (if ¬ q1 = (1 : Int32) then (fc_to_closeTo_b48 τ (fc_to_closeTo_l4 τ n) x1 x2 x3) else (Option.bind (fc_to_dueWithShift τ x3) fun q2 => (Option.bind (fc_to_dueWithShift τ x1) fun q3 => (if (2 : Int32) < (habs (q2 - q3)) then (fc_to_closeTo_b48 τ (fc_to_closeTo_l4 τ n) x1 x2 x3) else (hl (x2 ||| ((1 : Int32) <<< (x3 &&& 31))) fun v4 => (fc_to_closeTo_b48 τ (fc_to_closeTo_l4 τ n) x1 v4 x3))))))))
def fc_to_closeTo (τ : SC) (x1 : Int32) : Option Int32 := (fc_to_closeTo_l4 τ hFU x1 (0 : Int32) (0 : Int32))
set_option maxHeartbeats 4000000 in
set_option maxRecDepth 100000 in
theorem wc_to_closeTo_b48 {p : Program} {l : Launch} {e : Env} {s : State} {m : MethodId} {args : Array Value} {below : List Frame} {meth : Method} {c : Code} {A : Nat → Prop} {D : va_G} {cs : Nat → ClassId} {sK sV : Nat → Nat} {tA : Nat} {ad : Nat → Nat} {r : Int32} {τ : SC} {K4 : Int32 → Int32 → Int32 → Option Int32} (X : hc p s m args meth c RX9 cX9_closeTo 4 (some .int)) (hK : kC D cs sK sV tA A s) (hA : ∀ q, s.heap.size ≤ q → A q) (hK4 : (∀ (x1 : Int32) (x2 : Int32) (x3 : Int32), K4 x1 x2 x3 = some r → gg p l e ro_to_closeTo s m args below meth c (wC ad cs) D vwCl A 4 (QI below args s (wC ad cs) D vwCl A r τ) 4 [(0, .ref (ad 130)), (1, .int x1), (2, .int x2), (3, .int x3)] [] τ))  (x1 : Int32) (x2 : Int32) (x3 : Int32) (hf : fc_to_closeTo_b48 τ K4 x1 x2 x3 = some r) : gg p l e ro_to_closeTo s m args below meth c (wC ad cs) D vwCl A 4 (QI below args s (wC ad cs) D vwCl A r τ) 48 [(0, .ref (ad 130)), (1, .int x1), (2, .int x2), (3, .int x3)] [] τ := by
  unfold fc_to_closeTo_b48 at hf
  refine gr_iinc (k := 3) (v := 1) (L2 := [(3, .int (x3 + (1 : Int32))), (0, .ref (ad 130)), (1, .int x1), (2, .int x2)]) X dX9_closeTo_48 rfl (by decide) (by decide) rfl ?_
  refine gr_goto X 4 dX9_closeTo_51 (by decide) ?_
  refine gr_sub [1, 2, 3, 0] rfl ?_
  exact hK4 _ _ _ hf
set_option maxHeartbeats 4000000 in
set_option maxRecDepth 100000 in
theorem wc_to_closeTo_l4 {p : Program} {l : Launch} {e : Env} {s : State} {m : MethodId} {args : Array Value} {below : List Frame} {meth : Method} {c : Code} {A : Nat → Prop} {D : va_G} {cs : Nat → ClassId} {sK sV : Nat → Nat} {tA : Nat} {ad : Nat → Nat} {r : Int32} {τ : SC} (X : hc p s m args meth c RX9 cX9_closeTo 4 (some .int)) (hK : kC D cs sK sV tA A s) (hA : ∀ q, s.heap.size ≤ q → A q)  : ∀ (n : Nat) (x1 : Int32) (x2 : Int32) (x3 : Int32), fc_to_closeTo_l4 τ n x1 x2 x3 = some r → gg p l e ro_to_closeTo s m args below meth c (wC ad cs) D vwCl A 4 (QI below args s (wC ad cs) D vwCl A r τ) 4 [(0, .ref (ad 130)), (1, .int x1), (2, .int x2), (3, .int x3)] [] τ := by
  intro n
  induction n with
  | zero =>
    intro x1 x2 x3 hf
    cases (show (none : Option Int32) = some r from hf)
  | succ n ih =>
    intro x1 x2 x3 hf
    unfold fc_to_closeTo_l4 at hf
    refine gr_iload_n X dX9_closeTo_4 rfl 3 rfl ?_
    refine gr_aload_n X dX9_closeTo_5 rfl 0 rfl ?_
    refine gC_get_T0_13 X hK fk9_96 dX9_closeTo_6 ?_
    refine gr_icmp_ge X 54 dX9_closeTo_9 (by decide) (fun hc_ => ?_) (fun hc_ => ?_)
    · replace hf := ot_t hf hc_
      refine gr_iload_n X dX9_closeTo_54 rfl 2 rfl ?_
      exact gr_iret X dX9_closeTo_55 (Option.some.inj hf) rfl
    · replace hf := ot_f hf hc_
      refine gr_aload_n X dX9_closeTo_12 rfl 0 rfl ?_
      refine gC_get_T0_7 X hK fk9_114 dX9_closeTo_13 ?_
      refine gr_iload_n X dX9_closeTo_16 rfl 3 rfl ?_
      obtain ⟨q1, hq_, hf⟩ := ot_b hf
      refine gc_Ni (rest := []) X kC_ok hK hA cw9_172 (hK.2.1 _ nw9_172) (xc_hh_bit hq_) rfl ⟨rfl, rfl, Nat.le_of_ble_eq_true rfl, Nat.le_of_ble_eq_true rfl⟩ rfl (Nat.le_of_ble_eq_true rfl) dX9_closeTo_17 ?_
      refine gr_iconst (v := 1) X dX9_closeTo_20 (by decide) ?_
      refine gr_icmp_ne X 48 dX9_closeTo_21 (by decide) (fun hc_ => ?_) (fun hc_ => ?_)
      · replace hf := ot_t hf hc_
        refine gr_sub [0, 1, 2, 3] rfl ?_
        exact wc_to_closeTo_b48 X hK hA ih _ _ _ hf
      · replace hf := ot_f hf hc_
        refine gr_aload_n X dX9_closeTo_24 rfl 0 rfl ?_
        refine gr_iload_n X dX9_closeTo_25 rfl 3 rfl ?_
        obtain ⟨q2, hq_, hf⟩ := ot_b hf
        refine gc_Vi (rest := []) X kC_ok hK hA cw9_136 (rvC_T0 hK) (xc_to_dueWithShift hq_) rfl ⟨rfl, rfl, Nat.le_of_ble_eq_true rfl, Nat.le_of_ble_eq_true rfl⟩ rfl (Nat.le_of_ble_eq_true rfl) dX9_closeTo_26 ?_
        refine gr_aload_n X dX9_closeTo_29 rfl 0 rfl ?_
        refine gr_iload_n X dX9_closeTo_30 rfl 1 rfl ?_
        obtain ⟨q3, hq_, hf⟩ := ot_b hf
        refine gc_Vi (rest := [.int q2]) X kC_ok hK hA cw9_136 (rvC_T0 hK) (xc_to_dueWithShift hq_) rfl ⟨rfl, rfl, Nat.le_of_ble_eq_true rfl, Nat.le_of_ble_eq_true rfl⟩ rfl (Nat.le_of_ble_eq_true rfl) dX9_closeTo_31 ?_
        refine gr_isub X dX9_closeTo_34 ?_
        refine gr_mabs X mk9_140 ⟨Nat.le_of_ble_eq_true rfl, Nat.le_of_ble_eq_true rfl⟩ dX9_closeTo_35 ?_
        refine gr_iconst (v := 2) X dX9_closeTo_38 (by decide) ?_
        refine gr_icmp_gt X 48 dX9_closeTo_39 (by decide) (fun hc_ => ?_) (fun hc_ => ?_)
        · replace hf := ot_t hf hc_
          refine gr_sub [0, 1, 2, 3] rfl ?_
          exact wc_to_closeTo_b48 X hK hA ih _ _ _ hf
        · replace hf := ot_f hf hc_
          refine gr_iload_n X dX9_closeTo_42 rfl 2 rfl ?_
          refine gr_iconst (v := 1) X dX9_closeTo_43 (by decide) ?_
          refine gr_iload_n X dX9_closeTo_44 rfl 3 rfl ?_
          refine gr_ishl X dX9_closeTo_45 ?_
          refine gr_ior X dX9_closeTo_46 ?_
          refine gC_top (fun v4 e_v4 => ?_)
          replace hf := ot_l hf e_v4
          refine gr_istore_n (L2 := [(2, .int v4), (0, .ref (ad 130)), (1, .int x1), (3, .int x3)]) X dX9_closeTo_47 rfl (by decide) rfl ?_
          refine gr_sub [1, 2, 0, 3] rfl ?_
          exact wc_to_closeTo_b48 X hK hA ih _ _ _ hf
set_option maxHeartbeats 4000000 in
set_option maxRecDepth 100000 in
theorem xc_to_closeTo {l : Launch} {D : va_G} {cs : Nat → ClassId} {sK sV : Nat → Nat} {tA : Nat} {ad : Nat → Nat} {τ : SC} {x1 : Int32} {r : Int32} (hf : fc_to_closeTo τ x1 = some r) : ctI l (wC ad cs) D vwCl (kC D cs sK sV tA) yX9_closeTo cX9_closeTo 4 .int ro_to_closeTo [.ref (ad 130), .int x1] τ r τ := by
  refine ct_I RX9 (by decide +kernel) rfl (Nat.le_of_ble_eq_true rfl) ?_
  intro p e s m args below meth c A X hK hA
  refine gr_eqL (L2 := [(0, .ref (ad 130)), (1, .int x1)]) rfl ?_
  unfold fc_to_closeTo at hf
  refine gr_iconst (v := 0) X dX9_closeTo_0 (by decide) ?_
  refine gr_istore_n (L2 := [(2, .int (0 : Int32)), (0, .ref (ad 130)), (1, .int x1)]) X dX9_closeTo_1 rfl (by decide) rfl ?_
  refine gr_iconst (v := 0) X dX9_closeTo_2 (by decide) ?_
  refine gr_istore_n (L2 := [(3, .int (0 : Int32)), (2, .int (0 : Int32)), (0, .ref (ad 130)), (1, .int x1)]) X dX9_closeTo_3 rfl (by decide) rfl ?_
  refine gr_sub [2, 3, 1, 0] rfl ?_
  refine wc_to_closeTo_l4 X hK hA  hFU _ _ _ hf
abbrev ro_to_queueOf : Room := { frames := 2, cells := 0, slots := 0, locals := 47 }
def fc_to_queueOf_b50 (τ : SC) (K11 : Int32 → Int32 → Option Int32) (K56 : Int32 → Int32 → Option Int32) (K22 : Int32 → Int32 → Int32 → Option Int32) (x2 : Int32) (x3 : Int32) (x4 : Int32) : Option Int32 := (K22 x2 x3 (x4 + (1 : Int32)))
def fc_to_queueOf_l22 (τ : SC) (K11 : Int32 → Int32 → Option Int32) (K56 : Int32 → Int32 → Option Int32) : Nat → Int32 → Int32 → Int32 → Option Int32
  | 0, _, _, _ => none
  | n + 1, x2, x3, x4 => (if (τ.1 113 0) ≤ x4 then (K56 x2 x3) else (Option.bind (fc_hh_bit x2 x4) fun q2 => (if ¬ q2 = (1 : Int32) then (fc_to_queueOf_b50 τ K11 K56 (fc_to_queueOf_l22 τ K11 K56 n) x2 x3 x4) else (Option.bind (fc_to_closeTo τ x4) fun q3 => (hl (x2 ||| q3) fun v4 => (fc_to_queueOf_b50 τ K11 K56 (fc_to_queueOf_l22 τ K11 K56 n) v4 x3 x4))))))
def fc_to_queueOf_l11 (τ : SC) : Nat → Int32 → Int32 → Option Int32
  | 0, _, _ => none
  | n + 1, x2, x3 => (if (τ.1 113 0) ≤ x3 then (some x2) else (fc_to_queueOf_l22 τ (fc_to_queueOf_l11 τ n) (fun x2 x3 => ((fc_to_queueOf_l11 τ n) x2 (x3 + (1 : Int32)))) hFU x2 x3 (0 : Int32)))
def fc_to_queueOf (τ : SC) (x1 : Int32) : Option Int32 := (hl ((τ.1 107 0) &&& ((1 : Int32) <<< (x1 &&& 31))) fun v1 => (fc_to_queueOf_l11 τ hFU v1 (0 : Int32)))
set_option maxHeartbeats 4000000 in
set_option maxRecDepth 100000 in
theorem wc_to_queueOf_b50 {p : Program} {l : Launch} {e : Env} {s : State} {m : MethodId} {args : Array Value} {below : List Frame} {meth : Method} {c : Code} {A : Nat → Prop} {D : va_G} {cs : Nat → ClassId} {sK sV : Nat → Nat} {tA : Nat} {ad : Nat → Nat} {r : Int32} {τ : SC} {K11 : Int32 → Int32 → Option Int32} {K56 : Int32 → Int32 → Option Int32} {K22 : Int32 → Int32 → Int32 → Option Int32} (X : hc p s m args meth c RX9 cX9_queueOf 5 (some .int)) (hK : kC D cs sK sV tA A s) (hA : ∀ q, s.heap.size ≤ q → A q) (hK11 : (∀ (x2 : Int32) (x3 : Int32), K11 x2 x3 = some r → gg p l e ro_to_queueOf s m args below meth c (wC ad cs) D vwCl A 5 (QI below args s (wC ad cs) D vwCl A r τ) 11 [(0, .ref (ad 130)), (2, .int x2), (3, .int x3)] [] τ)) (hK56 : (∀ (x2 : Int32) (x3 : Int32), K56 x2 x3 = some r → gg p l e ro_to_queueOf s m args below meth c (wC ad cs) D vwCl A 5 (QI below args s (wC ad cs) D vwCl A r τ) 56 [(0, .ref (ad 130)), (2, .int x2), (3, .int x3)] [] τ)) (hK22 : (∀ (x2 : Int32) (x3 : Int32) (x4 : Int32), K22 x2 x3 x4 = some r → gg p l e ro_to_queueOf s m args below meth c (wC ad cs) D vwCl A 5 (QI below args s (wC ad cs) D vwCl A r τ) 22 [(0, .ref (ad 130)), (2, .int x2), (3, .int x3), (4, .int x4)] [] τ))  (x2 : Int32) (x3 : Int32) (x4 : Int32) (hf : fc_to_queueOf_b50 τ K11 K56 K22 x2 x3 x4 = some r) : gg p l e ro_to_queueOf s m args below meth c (wC ad cs) D vwCl A 5 (QI below args s (wC ad cs) D vwCl A r τ) 50 [(0, .ref (ad 130)), (2, .int x2), (3, .int x3), (4, .int x4)] [] τ := by
  unfold fc_to_queueOf_b50 at hf
  refine gr_iinc (k := 3) (v := 1) (L2 := [(4, .int (x4 + (1 : Int32))), (0, .ref (ad 130)), (2, .int x2), (3, .int x3)]) X dX9_queueOf_50 rfl (by decide) (by decide) rfl ?_
  refine gr_goto X 22 dX9_queueOf_53 (by decide) ?_
  refine gr_sub [1, 2, 3, 0] rfl ?_
  exact hK22 _ _ _ hf
set_option maxHeartbeats 4000000 in
set_option maxRecDepth 100000 in
theorem wc_to_queueOf_l22 {p : Program} {l : Launch} {e : Env} {s : State} {m : MethodId} {args : Array Value} {below : List Frame} {meth : Method} {c : Code} {A : Nat → Prop} {D : va_G} {cs : Nat → ClassId} {sK sV : Nat → Nat} {tA : Nat} {ad : Nat → Nat} {r : Int32} {τ : SC} {K11 : Int32 → Int32 → Option Int32} {K56 : Int32 → Int32 → Option Int32} (X : hc p s m args meth c RX9 cX9_queueOf 5 (some .int)) (hK : kC D cs sK sV tA A s) (hA : ∀ q, s.heap.size ≤ q → A q) (hK11 : (∀ (x2 : Int32) (x3 : Int32), K11 x2 x3 = some r → gg p l e ro_to_queueOf s m args below meth c (wC ad cs) D vwCl A 5 (QI below args s (wC ad cs) D vwCl A r τ) 11 [(0, .ref (ad 130)), (2, .int x2), (3, .int x3)] [] τ)) (hK56 : (∀ (x2 : Int32) (x3 : Int32), K56 x2 x3 = some r → gg p l e ro_to_queueOf s m args below meth c (wC ad cs) D vwCl A 5 (QI below args s (wC ad cs) D vwCl A r τ) 56 [(0, .ref (ad 130)), (2, .int x2), (3, .int x3)] [] τ)) : ∀ (n : Nat) (x2 : Int32) (x3 : Int32) (x4 : Int32), fc_to_queueOf_l22 τ K11 K56 n x2 x3 x4 = some r → gg p l e ro_to_queueOf s m args below meth c (wC ad cs) D vwCl A 5 (QI below args s (wC ad cs) D vwCl A r τ) 22 [(0, .ref (ad 130)), (2, .int x2), (3, .int x3), (4, .int x4)] [] τ := by
  intro n
  induction n with
  | zero =>
    intro x2 x3 x4 hf
    cases (show (none : Option Int32) = some r from hf)
  | succ n ih =>
    intro x2 x3 x4 hf
    unfold fc_to_queueOf_l22 at hf
    refine gr_iload X dX9_queueOf_22 3 rfl ?_
    refine gr_aload_n X dX9_queueOf_24 rfl 0 rfl ?_
    refine gC_get_T0_13 X hK fk9_96 dX9_queueOf_25 ?_
    refine gr_icmp_ge X 56 dX9_queueOf_28 (by decide) (fun hc_ => ?_) (fun hc_ => ?_)
    · replace hf := ot_t hf hc_
      refine gr_sub [0, 1, 2] rfl ?_
      exact hK56 _ _ hf
    · replace hf := ot_f hf hc_
      refine gr_iload_n X dX9_queueOf_31 rfl 1 rfl ?_
      refine gr_iload X dX9_queueOf_32 3 rfl ?_
      obtain ⟨q2, hq_, hf⟩ := ot_b hf
      refine gc_Ni (rest := []) X kC_ok hK hA cw9_172 (hK.2.1 _ nw9_172) (xc_hh_bit hq_) rfl ⟨rfl, rfl, Nat.le_of_ble_eq_true rfl, Nat.le_of_ble_eq_true rfl⟩ rfl (Nat.le_of_ble_eq_true rfl) dX9_queueOf_34 ?_
      refine gr_iconst (v := 1) X dX9_queueOf_37 (by decide) ?_
      refine gr_icmp_ne X 50 dX9_queueOf_38 (by decide) (fun hc_ => ?_) (fun hc_ => ?_)
      · replace hf := ot_t hf hc_
        refine gr_sub [0, 1, 2, 3] rfl ?_
        exact wc_to_queueOf_b50 X hK hA hK11 hK56 ih _ _ _ hf
      · replace hf := ot_f hf hc_
        refine gr_iload_n X dX9_queueOf_41 rfl 1 rfl ?_
        refine gr_aload_n X dX9_queueOf_42 rfl 0 rfl ?_
        refine gr_iload X dX9_queueOf_43 3 rfl ?_
        obtain ⟨q3, hq_, hf⟩ := ot_b hf
        refine gc_Vi (rest := [.int x2]) X kC_ok hK hA cw9_203 (rvC_T0 hK) (xc_to_closeTo hq_) rfl ⟨rfl, rfl, Nat.le_of_ble_eq_true rfl, Nat.le_of_ble_eq_true rfl⟩ rfl (Nat.le_of_ble_eq_true rfl) dX9_queueOf_45 ?_
        refine gr_ior X dX9_queueOf_48 ?_
        refine gC_top (fun v4 e_v4 => ?_)
        replace hf := ot_l hf e_v4
        refine gr_istore_n (L2 := [(2, .int v4), (0, .ref (ad 130)), (3, .int x3), (4, .int x4)]) X dX9_queueOf_49 rfl (by decide) rfl ?_
        refine gr_sub [1, 0, 2, 3] rfl ?_
        exact wc_to_queueOf_b50 X hK hA hK11 hK56 ih _ _ _ hf
set_option maxHeartbeats 4000000 in
set_option maxRecDepth 100000 in
theorem wc_to_queueOf_l11 {p : Program} {l : Launch} {e : Env} {s : State} {m : MethodId} {args : Array Value} {below : List Frame} {meth : Method} {c : Code} {A : Nat → Prop} {D : va_G} {cs : Nat → ClassId} {sK sV : Nat → Nat} {tA : Nat} {ad : Nat → Nat} {r : Int32} {τ : SC} (X : hc p s m args meth c RX9 cX9_queueOf 5 (some .int)) (hK : kC D cs sK sV tA A s) (hA : ∀ q, s.heap.size ≤ q → A q)  : ∀ (n : Nat) (x2 : Int32) (x3 : Int32), fc_to_queueOf_l11 τ n x2 x3 = some r → gg p l e ro_to_queueOf s m args below meth c (wC ad cs) D vwCl A 5 (QI below args s (wC ad cs) D vwCl A r τ) 11 [(0, .ref (ad 130)), (2, .int x2), (3, .int x3)] [] τ := by
  intro n
  induction n with
  | zero =>
    intro x2 x3 hf
    cases (show (none : Option Int32) = some r from hf)
  | succ n ih =>
    intro x2 x3 hf
    unfold fc_to_queueOf_l11 at hf
    refine gr_iload_n X dX9_queueOf_11 rfl 2 rfl ?_
    refine gr_aload_n X dX9_queueOf_12 rfl 0 rfl ?_
    refine gC_get_T0_13 X hK fk9_96 dX9_queueOf_13 ?_
    refine gr_icmp_ge X 62 dX9_queueOf_16 (by decide) (fun hc_ => ?_) (fun hc_ => ?_)
    · replace hf := ot_t hf hc_
      refine gr_iload_n X dX9_queueOf_62 rfl 1 rfl ?_
      exact gr_iret X dX9_queueOf_63 (Option.some.inj hf) rfl
    · replace hf := ot_f hf hc_
      refine gr_iconst (v := 0) X dX9_queueOf_19 (by decide) ?_
      refine gr_istore (L2 := [(4, .int (0 : Int32)), (0, .ref (ad 130)), (2, .int x2), (3, .int x3)]) X dX9_queueOf_20 (by decide) rfl ?_
      refine gr_sub [1, 2, 3, 0] rfl ?_
      refine wc_to_queueOf_l22 X hK hA ih (fun x2 x3 hf => ?_) hFU _ _ _ hf
      refine gr_iinc (k := 2) (v := 1) (L2 := [(3, .int (x3 + (1 : Int32))), (0, .ref (ad 130)), (2, .int x2)]) X dX9_queueOf_56 rfl (by decide) (by decide) rfl ?_
      refine gr_goto X 11 dX9_queueOf_59 (by decide) ?_
      refine gr_sub [1, 2, 0] rfl ?_
      exact ih _ _ hf
set_option maxHeartbeats 4000000 in
set_option maxRecDepth 100000 in
theorem xc_to_queueOf {l : Launch} {D : va_G} {cs : Nat → ClassId} {sK sV : Nat → Nat} {tA : Nat} {ad : Nat → Nat} {τ : SC} {x1 : Int32} {r : Int32} (hf : fc_to_queueOf τ x1 = some r) : ctI l (wC ad cs) D vwCl (kC D cs sK sV tA) yX9_queueOf cX9_queueOf 5 .int ro_to_queueOf [.ref (ad 130), .int x1] τ r τ := by
  refine ct_I RX9 (by decide +kernel) rfl (Nat.le_of_ble_eq_true rfl) ?_
  intro p e s m args below meth c A X hK hA
  refine gr_eqL (L2 := [(0, .ref (ad 130)), (1, .int x1)]) rfl ?_
  unfold fc_to_queueOf at hf
  refine gr_aload_n X dX9_queueOf_0 rfl 0 rfl ?_
  refine gC_get_T0_7 X hK fk9_114 dX9_queueOf_1 ?_
  refine gr_iconst (v := 1) X dX9_queueOf_4 (by decide) ?_
  refine gr_iload_n X dX9_queueOf_5 rfl 1 rfl ?_
  refine gr_ishl X dX9_queueOf_6 ?_
  refine gr_iand X dX9_queueOf_7 ?_
  refine gC_top (fun v1 e_v1 => ?_)
  replace hf := ot_l hf e_v1
  refine gr_istore_n (L2 := [(2, .int v1), (0, .ref (ad 130)), (1, .int x1)]) X dX9_queueOf_8 rfl (by decide) rfl ?_
  refine gr_iconst (v := 0) X dX9_queueOf_9 (by decide) ?_
  refine gr_istore_n (L2 := [(3, .int (0 : Int32)), (2, .int v1), (0, .ref (ad 130)), (1, .int x1)]) X dX9_queueOf_10 rfl (by decide) rfl ?_
  refine gr_sub [2, 1, 0] rfl ?_
  refine wc_to_queueOf_l11 X hK hA  hFU _ _ hf
abbrev ro_hh_countQueues : Room := { frames := 3, cells := 0, slots := 0, locals := 71 }
def fc_hh_countQueues_b54 (τ : SC) (K6 : Int32 → Int32 → Int32 → Option Int32) (x1 : Int32) (x2 : Int32) (x3 : Int32) : Option Int32 := (K6 x1 x2 (x3 + (1 : Int32)))
def fc_hh_countQueues_l6 (τ : SC) : Nat → Int32 → Int32 → Int32 → Option Int32
  | 0, _, _, _ => none
  | n + 1, x1, x2, x3 => (if (τ.1 113 0) ≤ x3 then (some x1) else (Option.bind (fc_hh_bit (τ.1 107 0) x3) fun q1 => (if ¬ q1 = (1 : Int32) then (fc_hh_countQueues_b54 τ (fc_hh_countQueues_l6 τ n) x1 x2 x3) else (Option.bind (fc_hh_bit x2 x3) fun q2 => (if ¬ q2 = 0 then (fc_hh_countQueues_b54 τ (fc_hh_countQueues_l6 τ n) x1 x2 x3) else (Option.bind (fc_to_queueOf τ x3) fun q3 => (hl (x2 ||| q3) fun v4 => (fc_hh_countQueues_b54 τ (fc_hh_countQueues_l6 τ n) (x1 + (1 : Int32)) v4 x3))))))))
def fc_hh_countQueues (τ : SC) : Option Int32 := (fc_hh_countQueues_l6 τ hFU (0 : Int32) (0 : Int32) (0 : Int32))
set_option maxHeartbeats 4000000 in
set_option maxRecDepth 100000 in
theorem wc_hh_countQueues_b54 {p : Program} {l : Launch} {e : Env} {s : State} {m : MethodId} {args : Array Value} {below : List Frame} {meth : Method} {c : Code} {A : Nat → Prop} {D : va_G} {cs : Nat → ClassId} {sK sV : Nat → Nat} {tA : Nat} {ad : Nat → Nat} {r : Int32} {τ : SC} {K6 : Int32 → Int32 → Int32 → Option Int32} (X : hc p s m args meth c RX11 cX11_countQueues 4 (some .int)) (hK : kC D cs sK sV tA A s) (hA : ∀ q, s.heap.size ≤ q → A q) (hK6 : (∀ (x1 : Int32) (x2 : Int32) (x3 : Int32), K6 x1 x2 x3 = some r → gg p l e ro_hh_countQueues s m args below meth c (wC ad cs) D vwCl A 4 (QI below args s (wC ad cs) D vwCl A r τ) 6 [(0, .ref (ad 16)), (1, .int x1), (2, .int x2), (3, .int x3)] [] τ))  (x1 : Int32) (x2 : Int32) (x3 : Int32) (hf : fc_hh_countQueues_b54 τ K6 x1 x2 x3 = some r) : gg p l e ro_hh_countQueues s m args below meth c (wC ad cs) D vwCl A 4 (QI below args s (wC ad cs) D vwCl A r τ) 54 [(0, .ref (ad 16)), (1, .int x1), (2, .int x2), (3, .int x3)] [] τ := by
  unfold fc_hh_countQueues_b54 at hf
  refine gr_iinc (k := 3) (v := 1) (L2 := [(3, .int (x3 + (1 : Int32))), (0, .ref (ad 16)), (1, .int x1), (2, .int x2)]) X dX11_countQueues_54 rfl (by decide) (by decide) rfl ?_
  refine gr_goto X 6 dX11_countQueues_57 (by decide) ?_
  refine gr_sub [1, 2, 3, 0] rfl ?_
  exact hK6 _ _ _ hf
set_option maxHeartbeats 4000000 in
set_option maxRecDepth 100000 in
theorem wc_hh_countQueues_l6 {p : Program} {l : Launch} {e : Env} {s : State} {m : MethodId} {args : Array Value} {below : List Frame} {meth : Method} {c : Code} {A : Nat → Prop} {D : va_G} {cs : Nat → ClassId} {sK sV : Nat → Nat} {tA : Nat} {ad : Nat → Nat} {r : Int32} {τ : SC} (X : hc p s m args meth c RX11 cX11_countQueues 4 (some .int)) (hK : kC D cs sK sV tA A s) (hA : ∀ q, s.heap.size ≤ q → A q)  : ∀ (n : Nat) (x1 : Int32) (x2 : Int32) (x3 : Int32), fc_hh_countQueues_l6 τ n x1 x2 x3 = some r → gg p l e ro_hh_countQueues s m args below meth c (wC ad cs) D vwCl A 4 (QI below args s (wC ad cs) D vwCl A r τ) 6 [(0, .ref (ad 16)), (1, .int x1), (2, .int x2), (3, .int x3)] [] τ := by
  intro n
  induction n with
  | zero =>
    intro x1 x2 x3 hf
    cases (show (none : Option Int32) = some r from hf)
  | succ n ih =>
    intro x1 x2 x3 hf
    unfold fc_hh_countQueues_l6 at hf
    refine gr_iload_n X dX11_countQueues_6 rfl 3 rfl ?_
    refine gr_aload_n X dX11_countQueues_7 rfl 0 rfl ?_
    refine gC_get_HH_0 X hK fk11_10 dX11_countQueues_8 ?_
    refine gC_get_T0_13 X hK fk11_83 dX11_countQueues_11 ?_
    refine gr_icmp_ge X 60 dX11_countQueues_14 (by decide) (fun hc_ => ?_) (fun hc_ => ?_)
    · replace hf := ot_t hf hc_
      refine gr_iload_n X dX11_countQueues_60 rfl 1 rfl ?_
      exact gr_iret X dX11_countQueues_61 (Option.some.inj hf) rfl
    · replace hf := ot_f hf hc_
      refine gr_aload_n X dX11_countQueues_17 rfl 0 rfl ?_
      refine gC_get_HH_0 X hK fk11_10 dX11_countQueues_18 ?_
      refine gC_get_T0_7 X hK fk11_106 dX11_countQueues_21 ?_
      refine gr_iload_n X dX11_countQueues_24 rfl 3 rfl ?_
      obtain ⟨q1, hq_, hf⟩ := ot_b hf
      refine gc_Si (rest := []) X kC_ok hK hA cw11_109 (xc_hh_bit hq_) rfl ⟨rfl, rfl, Nat.le_of_ble_eq_true rfl, Nat.le_of_ble_eq_true rfl⟩ rfl (Nat.le_of_ble_eq_true rfl) dX11_countQueues_25 ?_
      refine gr_iconst (v := 1) X dX11_countQueues_28 (by decide) ?_
      refine gr_icmp_ne X 54 dX11_countQueues_29 (by decide) (fun hc_ => ?_) (fun hc_ => ?_)
      · replace hf := ot_t hf hc_
        refine gr_sub [0, 1, 2, 3] rfl ?_
        exact wc_hh_countQueues_b54 X hK hA ih _ _ _ hf
      · replace hf := ot_f hf hc_
        refine gr_iload_n X dX11_countQueues_32 rfl 2 rfl ?_
        refine gr_iload_n X dX11_countQueues_33 rfl 3 rfl ?_
        obtain ⟨q2, hq_, hf⟩ := ot_b hf
        refine gc_Si (rest := []) X kC_ok hK hA cw11_109 (xc_hh_bit hq_) rfl ⟨rfl, rfl, Nat.le_of_ble_eq_true rfl, Nat.le_of_ble_eq_true rfl⟩ rfl (Nat.le_of_ble_eq_true rfl) dX11_countQueues_34 ?_
        refine gr_if_ne X 54 dX11_countQueues_37 (by decide) (fun hc_ => ?_) (fun hc_ => ?_)
        · replace hf := ot_t hf hc_
          refine gr_sub [0, 1, 2, 3] rfl ?_
          exact wc_hh_countQueues_b54 X hK hA ih _ _ _ hf
        · replace hf := ot_f hf hc_
          refine gr_iload_n X dX11_countQueues_40 rfl 2 rfl ?_
          refine gr_aload_n X dX11_countQueues_41 rfl 0 rfl ?_
          refine gC_get_HH_0 X hK fk11_10 dX11_countQueues_42 ?_
          refine gr_iload_n X dX11_countQueues_45 rfl 3 rfl ?_
          obtain ⟨q3, hq_, hf⟩ := ot_b hf
          refine gc_Vi (rest := [.int x2]) X kC_ok hK hA cw11_236 (rvC_T0 hK) (xc_to_queueOf hq_) rfl ⟨rfl, rfl, Nat.le_of_ble_eq_true rfl, Nat.le_of_ble_eq_true rfl⟩ rfl (Nat.le_of_ble_eq_true rfl) dX11_countQueues_46 ?_
          refine gr_ior X dX11_countQueues_49 ?_
          refine gC_top (fun v4 e_v4 => ?_)
          replace hf := ot_l hf e_v4
          refine gr_istore_n (L2 := [(2, .int v4), (0, .ref (ad 16)), (1, .int x1), (3, .int x3)]) X dX11_countQueues_50 rfl (by decide) rfl ?_
          refine gr_iinc (k := 2) (v := 1) (L2 := [(1, .int (x1 + (1 : Int32))), (2, .int v4), (0, .ref (ad 16)), (3, .int x3)]) X dX11_countQueues_51 rfl (by decide) (by decide) rfl ?_
          refine gr_sub [2, 0, 1, 3] rfl ?_
          exact wc_hh_countQueues_b54 X hK hA ih _ _ _ hf
set_option maxHeartbeats 4000000 in
set_option maxRecDepth 100000 in
theorem xc_hh_countQueues {l : Launch} {D : va_G} {cs : Nat → ClassId} {sK sV : Nat → Nat} {tA : Nat} {ad : Nat → Nat} {τ : SC} {r : Int32} (hf : fc_hh_countQueues τ = some r) : ctI l (wC ad cs) D vwCl (kC D cs sK sV tA) yX11_countQueues cX11_countQueues 4 .int ro_hh_countQueues [.ref (ad 16)] τ r τ := by
  refine ct_I RX11 (by decide +kernel) rfl (Nat.le_of_ble_eq_true rfl) ?_
  intro p e s m args below meth c A X hK hA
  refine gr_eqL (L2 := [(0, .ref (ad 16))]) rfl ?_
  unfold fc_hh_countQueues at hf
  refine gr_iconst (v := 0) X dX11_countQueues_0 (by decide) ?_
  refine gr_istore_n (L2 := [(1, .int (0 : Int32)), (0, .ref (ad 16))]) X dX11_countQueues_1 rfl (by decide) rfl ?_
  refine gr_iconst (v := 0) X dX11_countQueues_2 (by decide) ?_
  refine gr_istore_n (L2 := [(2, .int (0 : Int32)), (1, .int (0 : Int32)), (0, .ref (ad 16))]) X dX11_countQueues_3 rfl (by decide) rfl ?_
  refine gr_iconst (v := 0) X dX11_countQueues_4 (by decide) ?_
  refine gr_istore_n (L2 := [(3, .int (0 : Int32)), (2, .int (0 : Int32)), (1, .int (0 : Int32)), (0, .ref (ad 16))]) X dX11_countQueues_5 rfl (by decide) rfl ?_
  refine gr_sub [3, 2, 1, 0] rfl ?_
  refine wc_hh_countQueues_l6 X hK hA  hFU _ _ _ hf
abbrev ro_hh_queues : Room := { frames := 4, cells := 0, slots := 0, locals := 94 }
def fc_hh_queues (τ : SC) (x1 : Int32) : Option Int32 := (if ¬ x1 = (-1 : Int32) then (Option.bind (fc_to_has τ x1) fun q1 => (if q1 = 0 then (some (-1 : Int32)) else (Option.bind (fc_to_queueOf τ x1) fun q2 => (some q2)))) else (Option.bind (fc_hh_countQueues τ) fun q3 => (some q3)))
set_option maxHeartbeats 4000000 in
set_option maxRecDepth 100000 in
theorem xc_hh_queues {l : Launch} {D : va_G} {cs : Nat → ClassId} {sK sV : Nat → Nat} {tA : Nat} {ad : Nat → Nat} {τ : SC} {x1 : Int32} {r : Int32} (hf : fc_hh_queues τ x1 = some r) : ctI l (wC ad cs) D vwCl (kC D cs sK sV tA) yX11_queues cX11_queues 2 .int ro_hh_queues [.ref (ad 16), .int x1] τ r τ := by
  refine ct_I RX11 (by decide +kernel) rfl (Nat.le_of_ble_eq_true rfl) ?_
  intro p e s m args below meth c A X hK hA
  refine gr_eqL (L2 := [(0, .ref (ad 16)), (1, .int x1)]) rfl ?_
  unfold fc_hh_queues at hf
  refine gr_iload_n X dX11_queues_0 rfl 1 rfl ?_
  refine gr_iconst (v := -1) X dX11_queues_1 (by decide) ?_
  refine gr_icmp_ne X 10 dX11_queues_2 (by decide) (fun hc_ => ?_) (fun hc_ => ?_)
  · replace hf := ot_t hf hc_
    refine gr_aload_n X dX11_queues_10 rfl 0 rfl ?_
    refine gC_get_HH_0 X hK fk11_10 dX11_queues_11 ?_
    refine gr_iload_n X dX11_queues_14 rfl 1 rfl ?_
    obtain ⟨q1, hq_, hf⟩ := ot_b hf
    refine gc_Vi (rest := []) X kC_ok hK hA cw11_91 (rvC_T0 hK) (xc_to_has hq_) rfl ⟨rfl, rfl, Nat.le_of_ble_eq_true rfl, Nat.le_of_ble_eq_true rfl⟩ rfl (Nat.le_of_ble_eq_true rfl) dX11_queues_15 ?_
    refine gr_if_eq X 32 dX11_queues_18 (by decide) (fun hc_ => ?_) (fun hc_ => ?_)
    · replace hf := ot_t hf hc_
      refine gr_iconst (v := -1) X dX11_queues_32 (by decide) ?_
      exact gr_iret X dX11_queues_33 (Option.some.inj hf) rfl
    · replace hf := ot_f hf hc_
      refine gr_aload_n X dX11_queues_21 rfl 0 rfl ?_
      refine gC_get_HH_0 X hK fk11_10 dX11_queues_22 ?_
      refine gr_iload_n X dX11_queues_25 rfl 1 rfl ?_
      obtain ⟨q2, hq_, hf⟩ := ot_b hf
      refine gc_Vi (rest := []) X kC_ok hK hA cw11_236 (rvC_T0 hK) (xc_to_queueOf hq_) rfl ⟨rfl, rfl, Nat.le_of_ble_eq_true rfl, Nat.le_of_ble_eq_true rfl⟩ rfl (Nat.le_of_ble_eq_true rfl) dX11_queues_26 ?_
      refine gr_goto X 33 dX11_queues_29 (by decide) ?_
      exact gr_iret X dX11_queues_33 (Option.some.inj hf) rfl
  · replace hf := ot_f hf hc_
    refine gr_aload_n X dX11_queues_5 rfl 0 rfl ?_
    obtain ⟨q3, hq_, hf⟩ := ot_b hf
    refine gc_Vi (rest := []) X kC_ok hK hA cw11_233 (rvC_HH hK) (xc_hh_countQueues hq_) rfl ⟨rfl, rfl, Nat.le_of_ble_eq_true rfl, Nat.le_of_ble_eq_true rfl⟩ rfl (Nat.le_of_ble_eq_true rfl) dX11_queues_6 ?_
    exact gr_iret X dX11_queues_9 (Option.some.inj hf) rfl
abbrev ro_to_wayFrom : Room := { frames := 1, cells := 0, slots := 0, locals := 24 }
def fc_to_wayFrom_b52 (τ : SC) (K58 : Int32 → Int32 → Int32 → Option Int32) (K9 : Int32 → Int32 → Int32 → Int32 → Int32 → Option Int32) (x1 : Int32) (x2 : Int32) (x3 : Int32) (x4 : Int32) (x5 : Int32) : Option Int32 := (K9 x1 x2 x3 x4 (x5 + (1 : Int32)))
def fc_to_wayFrom_l9 (τ : SC) (K58 : Int32 → Int32 → Int32 → Option Int32) : Nat → Int32 → Int32 → Int32 → Int32 → Int32 → Option Int32
  | 0, _, _, _, _, _ => none
  | n + 1, x1, x2, x3, x4, x5 => (if (τ.1 113 0) ≤ x5 then (K58 x1 x3 x4) else (Option.bind (fc_hh_bit x2 x5) fun q1 => (if ¬ q1 = (1 : Int32) then (fc_to_wayFrom_b52 τ K58 (fc_to_wayFrom_l9 τ K58 n) x1 x2 x3 x4 x5) else (Option.bind (fc_to_dueWithShift τ x5) fun q2 => (hl (hmin x3 q2) fun v3 => (Option.bind (fc_to_dueWithShift τ x5) fun q4 => (hl (hmax x4 q4) fun v5 => (fc_to_wayFrom_b52 τ K58 (fc_to_wayFrom_l9 τ K58 n) x1 x2 v3 v5 x5))))))))
def fc_to_wayFrom (τ : SC) (x1 : Int32) (x2 : Int32) : Option Int32 := (fc_to_wayFrom_l9 τ (fun x1 x3 x4 => (if 0 ≤ x4 then (some ((x4 - x3) + (hmin (habs (x1 - x3)) (habs (x1 - x4))))) else (some (0 : Int32)))) hFU x1 x2 (2147483647 : Int32) (-1 : Int32) (0 : Int32))
set_option maxHeartbeats 4000000 in
set_option maxRecDepth 100000 in
theorem wc_to_wayFrom_b52 {p : Program} {l : Launch} {e : Env} {s : State} {m : MethodId} {args : Array Value} {below : List Frame} {meth : Method} {c : Code} {A : Nat → Prop} {D : va_G} {cs : Nat → ClassId} {sK sV : Nat → Nat} {tA : Nat} {ad : Nat → Nat} {r : Int32} {τ : SC} {K58 : Int32 → Int32 → Int32 → Option Int32} {K9 : Int32 → Int32 → Int32 → Int32 → Int32 → Option Int32} (X : hc p s m args meth c RX9 cX9_wayFrom 6 (some .int)) (hK : kC D cs sK sV tA A s) (hA : ∀ q, s.heap.size ≤ q → A q) (hK58 : (∀ (x1 : Int32) (x3 : Int32) (x4 : Int32), K58 x1 x3 x4 = some r → gg p l e ro_to_wayFrom s m args below meth c (wC ad cs) D vwCl A 6 (QI below args s (wC ad cs) D vwCl A r τ) 58 [(1, .int x1), (3, .int x3), (4, .int x4)] [] τ)) (hK9 : (∀ (x1 : Int32) (x2 : Int32) (x3 : Int32) (x4 : Int32) (x5 : Int32), K9 x1 x2 x3 x4 x5 = some r → gg p l e ro_to_wayFrom s m args below meth c (wC ad cs) D vwCl A 6 (QI below args s (wC ad cs) D vwCl A r τ) 9 [(0, .ref (ad 130)), (1, .int x1), (2, .int x2), (3, .int x3), (4, .int x4), (5, .int x5)] [] τ))  (x1 : Int32) (x2 : Int32) (x3 : Int32) (x4 : Int32) (x5 : Int32) (hf : fc_to_wayFrom_b52 τ K58 K9 x1 x2 x3 x4 x5 = some r) : gg p l e ro_to_wayFrom s m args below meth c (wC ad cs) D vwCl A 6 (QI below args s (wC ad cs) D vwCl A r τ) 52 [(0, .ref (ad 130)), (1, .int x1), (2, .int x2), (3, .int x3), (4, .int x4), (5, .int x5)] [] τ := by
  unfold fc_to_wayFrom_b52 at hf
  refine gr_iinc (k := 5) (v := 1) (L2 := [(5, .int (x5 + (1 : Int32))), (0, .ref (ad 130)), (1, .int x1), (2, .int x2), (3, .int x3), (4, .int x4)]) X dX9_wayFrom_52 rfl (by decide) (by decide) rfl ?_
  refine gr_goto X 9 dX9_wayFrom_55 (by decide) ?_
  refine gr_sub [1, 2, 3, 4, 5, 0] rfl ?_
  exact hK9 _ _ _ _ _ hf
set_option maxHeartbeats 4000000 in
set_option maxRecDepth 100000 in
theorem wc_to_wayFrom_l9 {p : Program} {l : Launch} {e : Env} {s : State} {m : MethodId} {args : Array Value} {below : List Frame} {meth : Method} {c : Code} {A : Nat → Prop} {D : va_G} {cs : Nat → ClassId} {sK sV : Nat → Nat} {tA : Nat} {ad : Nat → Nat} {r : Int32} {τ : SC} {K58 : Int32 → Int32 → Int32 → Option Int32} (X : hc p s m args meth c RX9 cX9_wayFrom 6 (some .int)) (hK : kC D cs sK sV tA A s) (hA : ∀ q, s.heap.size ≤ q → A q) (hK58 : (∀ (x1 : Int32) (x3 : Int32) (x4 : Int32), K58 x1 x3 x4 = some r → gg p l e ro_to_wayFrom s m args below meth c (wC ad cs) D vwCl A 6 (QI below args s (wC ad cs) D vwCl A r τ) 58 [(1, .int x1), (3, .int x3), (4, .int x4)] [] τ)) : ∀ (n : Nat) (x1 : Int32) (x2 : Int32) (x3 : Int32) (x4 : Int32) (x5 : Int32), fc_to_wayFrom_l9 τ K58 n x1 x2 x3 x4 x5 = some r → gg p l e ro_to_wayFrom s m args below meth c (wC ad cs) D vwCl A 6 (QI below args s (wC ad cs) D vwCl A r τ) 9 [(0, .ref (ad 130)), (1, .int x1), (2, .int x2), (3, .int x3), (4, .int x4), (5, .int x5)] [] τ := by
  intro n
  induction n with
  | zero =>
    intro x1 x2 x3 x4 x5 hf
    cases (show (none : Option Int32) = some r from hf)
  | succ n ih =>
    intro x1 x2 x3 x4 x5 hf
    unfold fc_to_wayFrom_l9 at hf
    refine gr_iload X dX9_wayFrom_9 5 rfl ?_
    refine gr_aload_n X dX9_wayFrom_11 rfl 0 rfl ?_
    refine gC_get_T0_13 X hK fk9_96 dX9_wayFrom_12 ?_
    refine gr_icmp_ge X 58 dX9_wayFrom_15 (by decide) (fun hc_ => ?_) (fun hc_ => ?_)
    · replace hf := ot_t hf hc_
      refine gr_sub [1, 3, 4] rfl ?_
      exact hK58 _ _ _ hf
    · replace hf := ot_f hf hc_
      refine gr_iload_n X dX9_wayFrom_18 rfl 2 rfl ?_
      refine gr_iload X dX9_wayFrom_19 5 rfl ?_
      obtain ⟨q1, hq_, hf⟩ := ot_b hf
      refine gc_Ni (rest := []) X kC_ok hK hA cw9_172 (hK.2.1 _ nw9_172) (xc_hh_bit hq_) rfl ⟨rfl, rfl, Nat.le_of_ble_eq_true rfl, Nat.le_of_ble_eq_true rfl⟩ rfl (Nat.le_of_ble_eq_true rfl) dX9_wayFrom_21 ?_
      refine gr_iconst (v := 1) X dX9_wayFrom_24 (by decide) ?_
      refine gr_icmp_ne X 52 dX9_wayFrom_25 (by decide) (fun hc_ => ?_) (fun hc_ => ?_)
      · replace hf := ot_t hf hc_
        refine gr_sub [0, 1, 2, 3, 4, 5] rfl ?_
        exact wc_to_wayFrom_b52 X hK hA hK58 ih _ _ _ _ _ hf
      · replace hf := ot_f hf hc_
        refine gr_iload_n X dX9_wayFrom_28 rfl 3 rfl ?_
        refine gr_aload_n X dX9_wayFrom_29 rfl 0 rfl ?_
        refine gr_iload X dX9_wayFrom_30 5 rfl ?_
        obtain ⟨q2, hq_, hf⟩ := ot_b hf
        refine gc_Vi (rest := [.int x3]) X kC_ok hK hA cw9_136 (rvC_T0 hK) (xc_to_dueWithShift hq_) rfl ⟨rfl, rfl, Nat.le_of_ble_eq_true rfl, Nat.le_of_ble_eq_true rfl⟩ rfl (Nat.le_of_ble_eq_true rfl) dX9_wayFrom_32 ?_
        refine gr_mmin X mk9_133 ⟨Nat.le_of_ble_eq_true rfl, Nat.le_of_ble_eq_true rfl⟩ dX9_wayFrom_35 ?_
        refine gC_top (fun v3 e_v3 => ?_)
        replace hf := ot_l hf e_v3
        refine gr_istore_n (L2 := [(3, .int v3), (0, .ref (ad 130)), (1, .int x1), (2, .int x2), (4, .int x4), (5, .int x5)]) X dX9_wayFrom_38 rfl (by decide) rfl ?_
        refine gr_iload X dX9_wayFrom_39 4 rfl ?_
        refine gr_aload_n X dX9_wayFrom_41 rfl 1 rfl ?_
        refine gr_iload X dX9_wayFrom_42 5 rfl ?_
        obtain ⟨q4, hq_, hf⟩ := ot_b hf
        refine gc_Vi (rest := [.int x4]) X kC_ok hK hA cw9_136 (rvC_T0 hK) (xc_to_dueWithShift hq_) rfl ⟨rfl, rfl, Nat.le_of_ble_eq_true rfl, Nat.le_of_ble_eq_true rfl⟩ rfl (Nat.le_of_ble_eq_true rfl) dX9_wayFrom_44 ?_
        refine gr_mmax X mk9_127 ⟨Nat.le_of_ble_eq_true rfl, Nat.le_of_ble_eq_true rfl⟩ dX9_wayFrom_47 ?_
        refine gC_top (fun v5 e_v5 => ?_)
        replace hf := ot_l hf e_v5
        refine gr_istore (L2 := [(4, .int v5), (3, .int v3), (0, .ref (ad 130)), (1, .int x1), (2, .int x2), (5, .int x5)]) X dX9_wayFrom_50 (by decide) rfl ?_
        refine gr_sub [2, 3, 4, 1, 0, 5] rfl ?_
        exact wc_to_wayFrom_b52 X hK hA hK58 ih _ _ _ _ _ hf
set_option maxHeartbeats 4000000 in
set_option maxRecDepth 100000 in
theorem xc_to_wayFrom {l : Launch} {D : va_G} {cs : Nat → ClassId} {sK sV : Nat → Nat} {tA : Nat} {ad : Nat → Nat} {τ : SC} {x1 : Int32} {x2 : Int32} {r : Int32} (hf : fc_to_wayFrom τ x1 x2 = some r) : ctI l (wC ad cs) D vwCl (kC D cs sK sV tA) yX9_wayFrom cX9_wayFrom 6 .int ro_to_wayFrom [.ref (ad 130), .int x1, .int x2] τ r τ := by
  refine ct_I RX9 (by decide +kernel) rfl (Nat.le_of_ble_eq_true rfl) ?_
  intro p e s m args below meth c A X hK hA
  refine gr_eqL (L2 := [(0, .ref (ad 130)), (1, .int x1), (2, .int x2)]) rfl ?_
  unfold fc_to_wayFrom at hf
  refine gr_ldc X ck9_208 dX9_wayFrom_0 ?_
  refine gr_istore_n (L2 := [(3, .int (2147483647 : Int32)), (0, .ref (ad 130)), (1, .int x1), (2, .int x2)]) X dX9_wayFrom_2 rfl (by decide) rfl ?_
  refine gr_iconst (v := -1) X dX9_wayFrom_3 (by decide) ?_
  refine gr_istore (L2 := [(4, .int (-1 : Int32)), (3, .int (2147483647 : Int32)), (0, .ref (ad 130)), (1, .int x1), (2, .int x2)]) X dX9_wayFrom_4 (by decide) rfl ?_
  refine gr_iconst (v := 0) X dX9_wayFrom_6 (by decide) ?_
  refine gr_istore (L2 := [(5, .int (0 : Int32)), (4, .int (-1 : Int32)), (3, .int (2147483647 : Int32)), (0, .ref (ad 130)), (1, .int x1), (2, .int x2)]) X dX9_wayFrom_7 (by decide) rfl ?_
  refine gr_sub [3, 4, 5, 2, 1, 0] rfl ?_
  refine wc_to_wayFrom_l9 X hK hA (fun x1 x3 x4 hf => ?_) hFU _ _ _ _ _ hf
  refine gr_iload X dX9_wayFrom_58 2 rfl ?_
  refine gr_if_ge X 65 dX9_wayFrom_60 (by decide) (fun hc_ => ?_) (fun hc_ => ?_)
  · replace hf := ot_t hf hc_
    refine gr_iload X dX9_wayFrom_65 2 rfl ?_
    refine gr_iload_n X dX9_wayFrom_67 rfl 1 rfl ?_
    refine gr_isub X dX9_wayFrom_68 ?_
    refine gr_iload_n X dX9_wayFrom_69 rfl 0 rfl ?_
    refine gr_iload_n X dX9_wayFrom_70 rfl 1 rfl ?_
    refine gr_isub X dX9_wayFrom_71 ?_
    refine gr_mabs X mk9_140 ⟨Nat.le_of_ble_eq_true rfl, Nat.le_of_ble_eq_true rfl⟩ dX9_wayFrom_72 ?_
    refine gr_iload_n X dX9_wayFrom_75 rfl 0 rfl ?_
    refine gr_iload X dX9_wayFrom_76 2 rfl ?_
    refine gr_isub X dX9_wayFrom_78 ?_
    refine gr_mabs X mk9_140 ⟨Nat.le_of_ble_eq_true rfl, Nat.le_of_ble_eq_true rfl⟩ dX9_wayFrom_79 ?_
    refine gr_mmin X mk9_133 ⟨Nat.le_of_ble_eq_true rfl, Nat.le_of_ble_eq_true rfl⟩ dX9_wayFrom_82 ?_
    refine gr_iadd X dX9_wayFrom_85 ?_
    exact gr_iret X dX9_wayFrom_86 (Option.some.inj hf) rfl
  · replace hf := ot_f hf hc_
    refine gr_iconst (v := 0) X dX9_wayFrom_63 (by decide) ?_
    exact gr_iret X dX9_wayFrom_64 (Option.some.inj hf) rfl
abbrev ro_hh_firstErrand : Room := { frames := 2, cells := 0, slots := 0, locals := 49 }
def fc_hh_firstErrand_b61 (τ : SC) (K3 : Int32 → Int32 → Int32 → Int32 → Option Int32) (x1 : Int32) (x2 : Int32) (x3 : Int32) (x4 : Int32) : Option Int32 := (K3 x1 x2 x3 (x4 + (1 : Int32)))
def fc_hh_firstErrand_l3 (τ : SC) : Nat → Int32 → Int32 → Int32 → Int32 → Option Int32
  | 0, _, _, _, _ => none
  | n + 1, x1, x2, x3, x4 => (if (τ.1 113 0) ≤ x4 then (some (-3 : Int32)) else (Option.bind (fc_hh_bit x2 x4) fun q1 => (if ¬ q1 = (1 : Int32) then (fc_hh_firstErrand_b61 τ (fc_hh_firstErrand_l3 τ n) x1 x2 x3 x4) else (Option.bind (fc_to_dueWithShift τ x4) fun q2 => (Option.bind (fc_to_wayFrom τ q2 x2) fun q3 => (if ¬ ((habs (q2 - x1)) + q3) = x3 then (fc_hh_firstErrand_b61 τ (fc_hh_firstErrand_l3 τ n) x1 x2 x3 x4) else (some x4)))))))
def fc_hh_firstErrand (τ : SC) (x1 : Int32) (x2 : Int32) (x3 : Int32) : Option Int32 := (fc_hh_firstErrand_l3 τ hFU x1 x2 x3 (0 : Int32))
set_option maxHeartbeats 4000000 in
set_option maxRecDepth 100000 in
theorem wc_hh_firstErrand_b61 {p : Program} {l : Launch} {e : Env} {s : State} {m : MethodId} {args : Array Value} {below : List Frame} {meth : Method} {c : Code} {A : Nat → Prop} {D : va_G} {cs : Nat → ClassId} {sK sV : Nat → Nat} {tA : Nat} {ad : Nat → Nat} {r : Int32} {τ : SC} {K3 : Int32 → Int32 → Int32 → Int32 → Option Int32} (X : hc p s m args meth c RX11 cX11_firstErrand 6 (some .int)) (hK : kC D cs sK sV tA A s) (hA : ∀ q, s.heap.size ≤ q → A q) (hK3 : (∀ (x1 : Int32) (x2 : Int32) (x3 : Int32) (x4 : Int32), K3 x1 x2 x3 x4 = some r → gg p l e ro_hh_firstErrand s m args below meth c (wC ad cs) D vwCl A 6 (QI below args s (wC ad cs) D vwCl A r τ) 3 [(0, .ref (ad 16)), (1, .int x1), (2, .int x2), (3, .int x3), (4, .int x4)] [] τ))  (x1 : Int32) (x2 : Int32) (x3 : Int32) (x4 : Int32) (hf : fc_hh_firstErrand_b61 τ K3 x1 x2 x3 x4 = some r) : gg p l e ro_hh_firstErrand s m args below meth c (wC ad cs) D vwCl A 6 (QI below args s (wC ad cs) D vwCl A r τ) 61 [(0, .ref (ad 16)), (1, .int x1), (2, .int x2), (3, .int x3), (4, .int x4)] [] τ := by
  unfold fc_hh_firstErrand_b61 at hf
  refine gr_iinc (k := 4) (v := 1) (L2 := [(4, .int (x4 + (1 : Int32))), (0, .ref (ad 16)), (1, .int x1), (2, .int x2), (3, .int x3)]) X dX11_firstErrand_61 rfl (by decide) (by decide) rfl ?_
  refine gr_goto X 3 dX11_firstErrand_64 (by decide) ?_
  refine gr_sub [1, 2, 3, 4, 0] rfl ?_
  exact hK3 _ _ _ _ hf
set_option maxHeartbeats 4000000 in
set_option maxRecDepth 100000 in
theorem wc_hh_firstErrand_l3 {p : Program} {l : Launch} {e : Env} {s : State} {m : MethodId} {args : Array Value} {below : List Frame} {meth : Method} {c : Code} {A : Nat → Prop} {D : va_G} {cs : Nat → ClassId} {sK sV : Nat → Nat} {tA : Nat} {ad : Nat → Nat} {r : Int32} {τ : SC} (X : hc p s m args meth c RX11 cX11_firstErrand 6 (some .int)) (hK : kC D cs sK sV tA A s) (hA : ∀ q, s.heap.size ≤ q → A q)  : ∀ (n : Nat) (x1 : Int32) (x2 : Int32) (x3 : Int32) (x4 : Int32), fc_hh_firstErrand_l3 τ n x1 x2 x3 x4 = some r → gg p l e ro_hh_firstErrand s m args below meth c (wC ad cs) D vwCl A 6 (QI below args s (wC ad cs) D vwCl A r τ) 3 [(0, .ref (ad 16)), (1, .int x1), (2, .int x2), (3, .int x3), (4, .int x4)] [] τ := by
  intro n
  induction n with
  | zero =>
    intro x1 x2 x3 x4 hf
    cases (show (none : Option Int32) = some r from hf)
  | succ n ih =>
    intro x1 x2 x3 x4 hf
    unfold fc_hh_firstErrand_l3 at hf
    refine gr_iload X dX11_firstErrand_3 4 rfl ?_
    refine gr_aload_n X dX11_firstErrand_5 rfl 0 rfl ?_
    refine gC_get_HH_0 X hK fk11_10 dX11_firstErrand_6 ?_
    refine gC_get_T0_13 X hK fk11_83 dX11_firstErrand_9 ?_
    refine gr_icmp_ge X 67 dX11_firstErrand_12 (by decide) (fun hc_ => ?_) (fun hc_ => ?_)
    · replace hf := ot_t hf hc_
      refine gr_bipush (v := -3) X dX11_firstErrand_67 (by decide) ?_
      exact gr_iret X dX11_firstErrand_69 (Option.some.inj hf) rfl
    · replace hf := ot_f hf hc_
      refine gr_iload_n X dX11_firstErrand_15 rfl 2 rfl ?_
      refine gr_iload X dX11_firstErrand_16 4 rfl ?_
      obtain ⟨q1, hq_, hf⟩ := ot_b hf
      refine gc_Si (rest := []) X kC_ok hK hA cw11_109 (xc_hh_bit hq_) rfl ⟨rfl, rfl, Nat.le_of_ble_eq_true rfl, Nat.le_of_ble_eq_true rfl⟩ rfl (Nat.le_of_ble_eq_true rfl) dX11_firstErrand_18 ?_
      refine gr_iconst (v := 1) X dX11_firstErrand_21 (by decide) ?_
      refine gr_icmp_ne X 61 dX11_firstErrand_22 (by decide) (fun hc_ => ?_) (fun hc_ => ?_)
      · replace hf := ot_t hf hc_
        refine gr_sub [0, 1, 2, 3, 4] rfl ?_
        exact wc_hh_firstErrand_b61 X hK hA ih _ _ _ _ hf
      · replace hf := ot_f hf hc_
        refine gr_aload_n X dX11_firstErrand_25 rfl 0 rfl ?_
        refine gC_get_HH_0 X hK fk11_10 dX11_firstErrand_26 ?_
        refine gr_iload X dX11_firstErrand_29 4 rfl ?_
        obtain ⟨q2, hq_, hf⟩ := ot_b hf
        refine gc_Vi (rest := []) X kC_ok hK hA cw11_248 (rvC_T0 hK) (xc_to_dueWithShift hq_) rfl ⟨rfl, rfl, Nat.le_of_ble_eq_true rfl, Nat.le_of_ble_eq_true rfl⟩ rfl (Nat.le_of_ble_eq_true rfl) dX11_firstErrand_31 ?_
        refine gr_istore (L2 := [(5, .int q2), (0, .ref (ad 16)), (1, .int x1), (2, .int x2), (3, .int x3), (4, .int x4)]) X dX11_firstErrand_34 (by decide) rfl ?_
        refine gr_iload X dX11_firstErrand_36 0 rfl ?_
        refine gr_iload_n X dX11_firstErrand_38 rfl 2 rfl ?_
        refine gr_isub X dX11_firstErrand_39 ?_
        refine gr_mabs X mk11_228 ⟨Nat.le_of_ble_eq_true rfl, Nat.le_of_ble_eq_true rfl⟩ dX11_firstErrand_40 ?_
        refine gr_aload_n X dX11_firstErrand_43 rfl 1 rfl ?_
        refine gC_get_HH_0 X hK fk11_10 dX11_firstErrand_44 ?_
        refine gr_iload X dX11_firstErrand_47 0 rfl ?_
        refine gr_iload_n X dX11_firstErrand_49 rfl 3 rfl ?_
        obtain ⟨q3, hq_, hf⟩ := ot_b hf
        refine gc_Vi (rest := [.int (habs (q2 - x1))]) X kC_ok hK hA cw11_242 (rvC_T0 hK) (xc_to_wayFrom hq_) rfl ⟨rfl, rfl, Nat.le_of_ble_eq_true rfl, Nat.le_of_ble_eq_true rfl⟩ rfl (Nat.le_of_ble_eq_true rfl) dX11_firstErrand_50 ?_
        refine gr_iadd X dX11_firstErrand_53 ?_
        refine gr_iload_n X dX11_firstErrand_54 rfl 4 rfl ?_
        refine gr_icmp_ne X 61 dX11_firstErrand_55 (by decide) (fun hc_ => ?_) (fun hc_ => ?_)
        · replace hf := ot_t hf hc_
          refine gr_sub [1, 2, 3, 4, 5] rfl ?_
          exact wc_hh_firstErrand_b61 X hK hA ih _ _ _ _ hf
        · replace hf := ot_f hf hc_
          refine gr_iload X dX11_firstErrand_58 5 rfl ?_
          exact gr_iret X dX11_firstErrand_60 (Option.some.inj hf) rfl
set_option maxHeartbeats 4000000 in
set_option maxRecDepth 100000 in
theorem xc_hh_firstErrand {l : Launch} {D : va_G} {cs : Nat → ClassId} {sK sV : Nat → Nat} {tA : Nat} {ad : Nat → Nat} {τ : SC} {x1 : Int32} {x2 : Int32} {x3 : Int32} {r : Int32} (hf : fc_hh_firstErrand τ x1 x2 x3 = some r) : ctI l (wC ad cs) D vwCl (kC D cs sK sV tA) yX11_firstErrand cX11_firstErrand 6 .int ro_hh_firstErrand [.ref (ad 16), .int x1, .int x2, .int x3] τ r τ := by
  refine ct_I RX11 (by decide +kernel) rfl (Nat.le_of_ble_eq_true rfl) ?_
  intro p e s m args below meth c A X hK hA
  refine gr_eqL (L2 := [(0, .ref (ad 16)), (1, .int x1), (2, .int x2), (3, .int x3)]) rfl ?_
  unfold fc_hh_firstErrand at hf
  refine gr_iconst (v := 0) X dX11_firstErrand_0 (by decide) ?_
  refine gr_istore (L2 := [(4, .int (0 : Int32)), (0, .ref (ad 16)), (1, .int x1), (2, .int x2), (3, .int x3)]) X dX11_firstErrand_1 (by decide) rfl ?_
  refine gr_sub [1, 2, 3, 4, 0] rfl ?_
  refine wc_hh_firstErrand_l3 X hK hA  hFU _ _ _ _ hf
abbrev ro_hh_errands : Room := { frames := 3, cells := 0, slots := 0, locals := 74 }
def fc_hh_errands (τ : SC) (x1 : Int32) (x2 : Int32) : Option Int32 := (Option.bind (fc_hh_within x1 (99 : Int32)) fun q1 => (if q1 = 0 then (some (-1 : Int32)) else (Option.bind (fc_hh_within x2 (1 : Int32)) fun q2 => (if ¬ q2 = 0 then (Option.bind (fc_to_everyGuild τ) fun q3 => (hl (q3 &&& ((τ.1 107 0) ^^^ (-1 : Int32))) fun v4 => (Option.bind (fc_to_wayFrom τ x1 v4) fun q5 => (if ¬ x2 = 0 then (Option.bind (fc_hh_firstErrand τ x1 v4 q5) fun q6 => (some q6)) else (some q5))))) else (some (-1 : Int32))))))
set_option maxHeartbeats 4000000 in
set_option maxRecDepth 100000 in
theorem xc_hh_errands {l : Launch} {D : va_G} {cs : Nat → ClassId} {sK sV : Nat → Nat} {tA : Nat} {ad : Nat → Nat} {τ : SC} {x1 : Int32} {x2 : Int32} {r : Int32} (hf : fc_hh_errands τ x1 x2 = some r) : ctI l (wC ad cs) D vwCl (kC D cs sK sV tA) yX11_errands cX11_errands 5 .int ro_hh_errands [.ref (ad 16), .int x1, .int x2] τ r τ := by
  refine ct_I RX11 (by decide +kernel) rfl (Nat.le_of_ble_eq_true rfl) ?_
  intro p e s m args below meth c A X hK hA
  refine gr_eqL (L2 := [(0, .ref (ad 16)), (1, .int x1), (2, .int x2)]) rfl ?_
  unfold fc_hh_errands at hf
  refine gr_iload_n X dX11_errands_0 rfl 1 rfl ?_
  refine gr_bipush (v := 99) X dX11_errands_1 (by decide) ?_
  obtain ⟨q1, hq_, hf⟩ := ot_b hf
  refine gc_Si (rest := []) X kC_ok hK hA cw11_79 (xc_hh_within hq_) rfl ⟨rfl, rfl, Nat.le_of_ble_eq_true rfl, Nat.le_of_ble_eq_true rfl⟩ rfl (Nat.le_of_ble_eq_true rfl) dX11_errands_3 ?_
  refine gr_if_eq X 17 dX11_errands_6 (by decide) (fun hc_ => ?_) (fun hc_ => ?_)
  · replace hf := ot_t hf hc_
    refine gr_iconst (v := -1) X dX11_errands_17 (by decide) ?_
    exact gr_iret X dX11_errands_18 (Option.some.inj hf) rfl
  · replace hf := ot_f hf hc_
    refine gr_iload_n X dX11_errands_9 rfl 2 rfl ?_
    refine gr_iconst (v := 1) X dX11_errands_10 (by decide) ?_
    obtain ⟨q2, hq_, hf⟩ := ot_b hf
    refine gc_Si (rest := []) X kC_ok hK hA cw11_79 (xc_hh_within hq_) rfl ⟨rfl, rfl, Nat.le_of_ble_eq_true rfl, Nat.le_of_ble_eq_true rfl⟩ rfl (Nat.le_of_ble_eq_true rfl) dX11_errands_11 ?_
    refine gr_if_ne X 19 dX11_errands_14 (by decide) (fun hc_ => ?_) (fun hc_ => ?_)
    · replace hf := ot_t hf hc_
      refine gr_aload_n X dX11_errands_19 rfl 0 rfl ?_
      refine gC_get_HH_0 X hK fk11_10 dX11_errands_20 ?_
      obtain ⟨q3, hq_, hf⟩ := ot_b hf
      refine gc_Vi (rest := []) X kC_ok hK hA cw11_239 (rvC_T0 hK) (xc_to_everyGuild hq_) rfl ⟨rfl, rfl, Nat.le_of_ble_eq_true rfl, Nat.le_of_ble_eq_true rfl⟩ rfl (Nat.le_of_ble_eq_true rfl) dX11_errands_23 ?_
      refine gr_aload_n X dX11_errands_26 rfl 0 rfl ?_
      refine gC_get_HH_0 X hK fk11_10 dX11_errands_27 ?_
      refine gC_get_T0_7 X hK fk11_106 dX11_errands_30 ?_
      refine gr_iconst (v := -1) X dX11_errands_33 (by decide) ?_
      refine gr_ixor X dX11_errands_34 ?_
      refine gr_iand X dX11_errands_35 ?_
      refine gC_top (fun v4 e_v4 => ?_)
      replace hf := ot_l hf e_v4
      refine gr_istore_n (L2 := [(3, .int v4), (0, .ref (ad 16)), (1, .int x1), (2, .int x2)]) X dX11_errands_36 rfl (by decide) rfl ?_
      refine gr_aload_n X dX11_errands_37 rfl 1 rfl ?_
      refine gC_get_HH_0 X hK fk11_10 dX11_errands_38 ?_
      refine gr_iload_n X dX11_errands_41 rfl 2 rfl ?_
      refine gr_iload_n X dX11_errands_42 rfl 0 rfl ?_
      obtain ⟨q5, hq_, hf⟩ := ot_b hf
      refine gc_Vi (rest := []) X kC_ok hK hA cw11_242 (rvC_T0 hK) (xc_to_wayFrom hq_) rfl ⟨rfl, rfl, Nat.le_of_ble_eq_true rfl, Nat.le_of_ble_eq_true rfl⟩ rfl (Nat.le_of_ble_eq_true rfl) dX11_errands_43 ?_
      refine gr_istore (L2 := [(4, .int q5), (3, .int v4), (0, .ref (ad 16)), (1, .int x1), (2, .int x2)]) X dX11_errands_46 (by decide) rfl ?_
      refine gr_iload_n X dX11_errands_48 rfl 4 rfl ?_
      refine gr_if_ne X 57 dX11_errands_49 (by decide) (fun hc_ => ?_) (fun hc_ => ?_)
      · replace hf := ot_t hf hc_
        refine gr_aload_n X dX11_errands_57 rfl 2 rfl ?_
        refine gr_iload_n X dX11_errands_58 rfl 3 rfl ?_
        refine gr_iload_n X dX11_errands_59 rfl 1 rfl ?_
        refine gr_iload X dX11_errands_60 0 rfl ?_
        obtain ⟨q6, hq_, hf⟩ := ot_b hf
        refine gc_Vi (rest := []) X kC_ok hK hA cw11_245 (rvC_HH hK) (xc_hh_firstErrand hq_) rfl ⟨rfl, rfl, Nat.le_of_ble_eq_true rfl, Nat.le_of_ble_eq_true rfl⟩ rfl (Nat.le_of_ble_eq_true rfl) dX11_errands_62 ?_
        exact gr_iret X dX11_errands_65 (Option.some.inj hf) rfl
      · replace hf := ot_f hf hc_
        refine gr_iload X dX11_errands_52 0 rfl ?_
        refine gr_goto X 65 dX11_errands_54 (by decide) ?_
        exact gr_iret X dX11_errands_65 (Option.some.inj hf) rfl
    · replace hf := ot_f hf hc_
      refine gr_iconst (v := -1) X dX11_errands_17 (by decide) ?_
      exact gr_iret X dX11_errands_18 (Option.some.inj hf) rfl
abbrev ro_pl_noteBetter : Room := { frames := 1, cells := 0, slots := 0, locals := 80 }
def fc_pl_noteBetter (x1 : Int32) (x2 : Int32) (τ : SC) : Option SC := (oc (hin x1 5) (oc (decide ((Int32.toNatClampNeg x1) < 5)) (hl (sc τ (410 + (Int32.toNatClampNeg x1)) (upd (τ.1 (410 + (Int32.toNatClampNeg x1))) 0 x2)) fun τ1 => (oc (hin (x1 - (1 : Int32)) 5) (oc (hin x1 5) (oc (decide (((Int32.toNatClampNeg (x1 - (1 : Int32))) < 5) ∧ ((Int32.toNatClampNeg x1) < 5) ∧ (¬ (Int32.toNatClampNeg (x1 - (1 : Int32))) = (Int32.toNatClampNeg x1)) ∧ (¬ (x1 - (1 : Int32)) < 0) ∧ ((Int32.toNatClampNeg (0 : Int32)) + (Int32.toNatClampNeg (x1 - (1 : Int32))) ≤ 4) ∧ ((Int32.toNatClampNeg (1 : Int32)) + (Int32.toNatClampNeg (x1 - (1 : Int32))) ≤ 4))) (hl (sc τ1 (410 + (Int32.toNatClampNeg x1)) (va_cpy (τ1.1 (410 + (Int32.toNatClampNeg (x1 - (1 : Int32))))) (τ1.1 (410 + (Int32.toNatClampNeg x1))) (Int32.toNatClampNeg (0 : Int32)) (Int32.toNatClampNeg (1 : Int32)) (Int32.toNatClampNeg (x1 - (1 : Int32))))) fun τ2 => (some τ2))))))))
set_option maxHeartbeats 4000000 in
set_option maxRecDepth 100000 in
theorem xc_pl_noteBetter {l : Launch} {D : va_G} {cs : Nat → ClassId} {sK sV : Nat → Nat} {tA : Nat} {ad : Nat → Nat} {τ : SC} {x1 : Int32} {x2 : Int32} {υ : SC} (hf : fc_pl_noteBetter x1 x2 τ = some υ) : ctV l (wC ad cs) D vwCl (kC D cs sK sV tA) yX6_noteBetter cX6_noteBetter 3 ro_pl_noteBetter [.ref (ad 430), .int x1, .int x2] τ υ := by
  refine ct_V RX6 (by decide +kernel) rfl (Nat.le_of_ble_eq_true rfl) ?_
  intro p e s m args below meth c A X hK hA
  refine gr_eqL (L2 := [(0, .ref (ad 430)), (1, .int x1), (2, .int x2)]) rfl ?_
  unfold fc_pl_noteBetter at hf
  refine gr_aload_n X dX6_noteBetter_0 rfl 0 rfl ?_
  refine gC_get_PL_2 X hK fk6_17 dX6_noteBetter_1 ?_
  refine gr_iload_n X dX6_noteBetter_4 rfl 1 rfl ?_
  have hi_ := oc_1 hf
  replace hf := oc_2 hf
  refine gC_aald_Q X hK (Int32.toNatClampNeg x1) hi_ rfl dX6_noteBetter_5 ?_
  refine gr_iconst (v := 0) X dX6_noteBetter_6 (by decide) ?_
  refine gr_iload_n X dX6_noteBetter_7 rfl 2 rfl ?_
  have hq_ := oc_1 hf
  replace hf := oc_2 hf
  refine gC_ast_Q X hK hq_ 0 (by decide) (by decide) dX6_noteBetter_8 ?_
  refine gC_gen (fun τ1 e_τ1 => ?_)
  replace hf := ot_l hf e_τ1
  refine gr_aload_n X dX6_noteBetter_9 rfl 0 rfl ?_
  refine gC_get_PL_2 X hK fk6_17 dX6_noteBetter_10 ?_
  refine gr_iload_n X dX6_noteBetter_13 rfl 1 rfl ?_
  refine gr_iconst (v := 1) X dX6_noteBetter_14 (by decide) ?_
  refine gr_isub X dX6_noteBetter_15 ?_
  have hi_ := oc_1 hf
  replace hf := oc_2 hf
  refine gC_aald_Q X hK (Int32.toNatClampNeg (x1 - (1 : Int32))) hi_ rfl dX6_noteBetter_16 ?_
  refine gr_iconst (v := 0) X dX6_noteBetter_17 (by decide) ?_
  refine gr_aload_n X dX6_noteBetter_18 rfl 0 rfl ?_
  refine gC_get_PL_2 X hK fk6_17 dX6_noteBetter_19 ?_
  refine gr_iload_n X dX6_noteBetter_22 rfl 1 rfl ?_
  have hi_ := oc_1 hf
  replace hf := oc_2 hf
  refine gC_aald_Q X hK (Int32.toNatClampNeg x1) hi_ rfl dX6_noteBetter_23 ?_
  refine gr_iconst (v := 1) X dX6_noteBetter_24 (by decide) ?_
  refine gr_iload_n X dX6_noteBetter_25 rfl 1 rfl ?_
  refine gr_iconst (v := 1) X dX6_noteBetter_26 (by decide) ?_
  refine gr_isub X dX6_noteBetter_27 ?_
  have hcp_ := of_decide_eq_true (oc_1 hf)
  replace hf := oc_2 hf
  refine gC_copyQ X hK cy6_49 hcp_.1 hcp_.2.1 hcp_.2.2.1 (by decide) (by decide) hcp_.2.2.2.1 hcp_.2.2.2.2.1 hcp_.2.2.2.2.2 ⟨Nat.le_of_ble_eq_true rfl, Nat.le_of_ble_eq_true rfl⟩ dX6_noteBetter_28 ?_
  refine gC_gen (fun τ2 e_τ2 => ?_)
  replace hf := ot_l hf e_τ2
  exact gr_vret X dX6_noteBetter_31 (Option.some.inj hf)
def ro_pl_search (rq : Room) : Room := { frames := rq.frames + 7, cells := 0, slots := 0, locals := rq.locals + 168 }
def fc_pl_search_b189 (Rc : Int32 → SC → Option (Int32 × SC)) (K41 : Int32 → Int32 → Int32 → Int32 → Int32 → Int32 → Int32 → SC → Option (Int32 × SC)) (x1 : Int32) (x2 : Int32) (x3 : Int32) (x4 : Int32) (x5 : Int32) (x6 : Int32) (x7 : Int32) (τ : SC) : Option (Int32 × SC) := (Option.bind (fc_to_recall x2 τ) fun τ11 => (K41 x1 x2 x3 x4 x5 x6 (x7 + (1 : Int32)) τ11))
def fc_pl_search_b164 (Rc : Int32 → SC → Option (Int32 × SC)) (K41 : Int32 → Int32 → Int32 → Int32 → Int32 → Int32 → Int32 → SC → Option (Int32 × SC)) (x1 : Int32) (x2 : Int32) (x3 : Int32) (x4 : Int32) (x5 : Int32) (x6 : Int32) (x7 : Int32) (x9 : Int32) (x10 : Int32) (y0 : Int32) (y1 : Int32) (y2 : Int32) (τ : SC) : Option (Int32 × SC) := (oc (hin y2 5) (hl (sc τ 401 (upd (τ.1 401) (Int32.toNatClampNeg y2) (y1 + y0))) fun τ9 => (if ¬ x7 = 0 then (fc_pl_search_b189 Rc K41 x1 x2 x3 x4 x5 x6 x7 τ9) else (oc (hin (x1 - (1 : Int32)) 5) (hl (τ9.1 401 (Int32.toNatClampNeg (x1 - (1 : Int32)))) fun v12 => (fc_pl_search_b189 Rc K41 x1 x2 x3 x9 x10 v12 x7 τ9))))))
def fc_pl_search_b139 (Rc : Int32 → SC → Option (Int32 × SC)) (K41 : Int32 → Int32 → Int32 → Int32 → Int32 → Int32 → Int32 → SC → Option (Int32 × SC)) (x1 : Int32) (x2 : Int32) (x3 : Int32) (x4 : Int32) (x5 : Int32) (x6 : Int32) (x7 : Int32) (x9 : Int32) (x10 : Int32) (τ : SC) : Option (Int32 × SC) := (oc (hin x1 5) (if ¬ x10 = x3 then (fc_pl_search_b164 Rc K41 x1 x2 x3 x4 x5 x6 x7 x9 x10 (0 : Int32) (τ.1 401 (Int32.toNatClampNeg x1)) x1 τ) else (oc (hin (x1 - (1 : Int32)) 5) (fc_pl_search_b164 Rc K41 x1 x2 x3 x4 x5 x6 x7 x9 x10 (τ.1 401 (Int32.toNatClampNeg (x1 - (1 : Int32)))) (τ.1 401 (Int32.toNatClampNeg x1)) x1 τ))))
def fc_pl_search_b99 (Rc : Int32 → SC → Option (Int32 × SC)) (K41 : Int32 → Int32 → Int32 → Int32 → Int32 → Int32 → Int32 → SC → Option (Int32 × SC)) (x1 : Int32) (x2 : Int32) (x3 : Int32) (x4 : Int32) (x5 : Int32) (x6 : Int32) (x7 : Int32) (y0 : Int32) (y1 : Int32) (y2 : Int32) (τ : SC) : Option (Int32 × SC) := (oc (hin y2 5) (hl (sc τ 401 (upd (τ.1 401) (Int32.toNatClampNeg y2) (y1 + y0))) fun τ16 => (fc_pl_search_b189 Rc K41 x1 x2 x3 x4 x5 x6 x7 τ16)))
def fc_pl_search_l41 (Rc : Int32 → SC → Option (Int32 × SC)) : Nat → Int32 → Int32 → Int32 → Int32 → Int32 → Int32 → Int32 → SC → Option (Int32 × SC)
  | 0, _, _, _, _, _, _, _, _ => none
  | n + 1, x1, x2, x3, x4, x5, x6, x7, τ => (if (τ.1 113 0) < x7 then (some (x3, τ)) else (Option.bind (fc_to_pass x7 τ) fun p_ => hl p_.1 fun q3 => hl p_.2 fun τ4 => (Option.bind (fc_to_moment τ4) fun q5 => (if ¬ q5 = x4 then (Option.bind (Rc (x1 - (1 : Int32)) τ4) fun p_ => hl p_.1 fun q6 => hl p_.2 fun τ7 => (hl (q3 + q6) fun v8 => (if v8 ≤ x3 then (fc_pl_search_b139 Rc (fc_pl_search_l41 Rc n) x1 x2 x3 x4 x5 x6 x7 q5 v8 τ7) else (oc (hin x1 5) (hl (sc τ7 401 (upd (τ7.1 401) (Int32.toNatClampNeg x1) (0 : Int32))) fun τ13 => (Option.bind (fc_pl_noteBetter x1 x7 τ13) fun τ15 => (fc_pl_search_b139 Rc (fc_pl_search_l41 Rc n) x1 x2 v8 x4 x5 x6 x7 q5 v8 τ15))))))) else (oc (hin x1 5) (if ¬ x5 = x3 then (fc_pl_search_b99 Rc (fc_pl_search_l41 Rc n) x1 x2 x3 x4 x5 x6 x7 (0 : Int32) (τ4.1 401 (Int32.toNatClampNeg x1)) x1 τ4) else (fc_pl_search_b99 Rc (fc_pl_search_l41 Rc n) x1 x2 x3 x4 x5 x6 x7 x6 (τ4.1 401 (Int32.toNatClampNeg x1)) x1 τ4)))))))
def fc_pl_search (Rc : Int32 → SC → Option (Int32 × SC)) (x1 : Int32) (τ : SC) : Option (Int32 × SC) := (if x1 < (1 : Int32) then (hl (sc τ 401 (upd (τ.1 401) 0 (1 : Int32))) fun τ1 => (some ((0 : Int32), τ1))) else (if x1 ≤ (4 : Int32) then (Option.bind (fc_to_moment τ) fun q2 => (fc_pl_search_l41 Rc hFU x1 q2 (-1 : Int32) (-1 : Int32) (0 : Int32) (0 : Int32) (0 : Int32) τ)) else (hl (sc τ 401 (upd (τ.1 401) 0 (1 : Int32))) fun τ17 => (some ((0 : Int32), τ17)))))
set_option maxHeartbeats 4000000 in
set_option maxRecDepth 100000 in
theorem wc_pl_search_b189 {p : Program} {l : Launch} {e : Env} {s : State} {m : MethodId} {args : Array Value} {below : List Frame} {meth : Method} {c : Code} {A : Nat → Prop} {D : va_G} {cs : Nat → ClassId} {sK sV : Nat → Nat} {tA : Nat} {ad : Nat → Nat} {r : Int32} {υ : SC} {rq : Room} {Rc : Int32 → SC → Option (Int32 × SC)} {K41 : Int32 → Int32 → Int32 → Int32 → Int32 → Int32 → Int32 → SC → Option (Int32 × SC)} (X : hc p s m args meth c RX6 cX6_search 11 (some .int)) (hK : kC D cs sK sV tA A s) (hA : ∀ q, s.heap.size ≤ q → A q) (hq0 : rq.cells = 0 ∧ rq.slots = 0) (hRc : ∀ (τ : SC) (x1 : Int32) (r : Int32) (υ : SC), Rc x1 τ = some (r, υ) → ctI l (wC ad cs) D vwCl (kC D cs sK sV tA) yX6_search cX6_search 11 .int rq [.ref (ad 430), .int x1] τ r υ) (hK41 : (∀ (x1 : Int32) (x2 : Int32) (x3 : Int32) (x4 : Int32) (x5 : Int32) (x6 : Int32) (x7 : Int32) (τ : SC), K41 x1 x2 x3 x4 x5 x6 x7 τ = some (r, υ) → gg p l e (ro_pl_search rq) s m args below meth c (wC ad cs) D vwCl A 11 (QI below args s (wC ad cs) D vwCl A r υ) 41 [(0, .ref (ad 430)), (1, .int x1), (2, .int x2), (3, .int x3), (4, .int x4), (5, .int x5), (6, .int x6), (7, .int x7)] [] τ))  (x1 : Int32) (x2 : Int32) (x3 : Int32) (x4 : Int32) (x5 : Int32) (x6 : Int32) (x7 : Int32) (τ : SC) (hf : fc_pl_search_b189 Rc K41 x1 x2 x3 x4 x5 x6 x7 τ = some (r, υ)) : gg p l e (ro_pl_search rq) s m args below meth c (wC ad cs) D vwCl A 11 (QI below args s (wC ad cs) D vwCl A r υ) 189 [(0, .ref (ad 430)), (1, .int x1), (2, .int x2), (3, .int x3), (4, .int x4), (5, .int x5), (6, .int x6), (7, .int x7)] [] τ := by
  unfold fc_pl_search_b189 at hf
  refine gr_aload_n X dX6_search_189 rfl 0 rfl ?_
  refine gC_get_PL_0 X hK fk6_20 dX6_search_190 ?_
  refine gr_iload_n X dX6_search_193 rfl 2 rfl ?_
  obtain ⟨τ11, hq_, hf⟩ := ot_b hf
  refine gc_Vv (rest := []) X kC_ok hK hA cw6_45 (rvC_T0 hK) (xc_to_recall hq_) rfl ⟨rfl, rfl, by simp only [ro_pl_search, ro_to_recall]; omega, by simp only [ro_pl_search, ro_to_recall]; omega⟩ rfl (Nat.le_of_ble_eq_true rfl) dX6_search_194 ?_
  refine gr_iinc (k := 7) (v := 1) (L2 := [(7, .int (x7 + (1 : Int32))), (0, .ref (ad 430)), (1, .int x1), (2, .int x2), (3, .int x3), (4, .int x4), (5, .int x5), (6, .int x6)]) X dX6_search_197 rfl (by decide) (by decide) rfl ?_
  refine gr_goto X 41 dX6_search_200 (by decide) ?_
  refine gr_sub [1, 2, 3, 4, 5, 6, 7, 0] rfl ?_
  exact hK41 _ _ _ _ _ _ _ _ hf
set_option maxHeartbeats 4000000 in
set_option maxRecDepth 100000 in
theorem wc_pl_search_b164 {p : Program} {l : Launch} {e : Env} {s : State} {m : MethodId} {args : Array Value} {below : List Frame} {meth : Method} {c : Code} {A : Nat → Prop} {D : va_G} {cs : Nat → ClassId} {sK sV : Nat → Nat} {tA : Nat} {ad : Nat → Nat} {r : Int32} {υ : SC} {rq : Room} {Rc : Int32 → SC → Option (Int32 × SC)} {K41 : Int32 → Int32 → Int32 → Int32 → Int32 → Int32 → Int32 → SC → Option (Int32 × SC)} (X : hc p s m args meth c RX6 cX6_search 11 (some .int)) (hK : kC D cs sK sV tA A s) (hA : ∀ q, s.heap.size ≤ q → A q) (hq0 : rq.cells = 0 ∧ rq.slots = 0) (hRc : ∀ (τ : SC) (x1 : Int32) (r : Int32) (υ : SC), Rc x1 τ = some (r, υ) → ctI l (wC ad cs) D vwCl (kC D cs sK sV tA) yX6_search cX6_search 11 .int rq [.ref (ad 430), .int x1] τ r υ) (hK41 : (∀ (x1 : Int32) (x2 : Int32) (x3 : Int32) (x4 : Int32) (x5 : Int32) (x6 : Int32) (x7 : Int32) (τ : SC), K41 x1 x2 x3 x4 x5 x6 x7 τ = some (r, υ) → gg p l e (ro_pl_search rq) s m args below meth c (wC ad cs) D vwCl A 11 (QI below args s (wC ad cs) D vwCl A r υ) 41 [(0, .ref (ad 430)), (1, .int x1), (2, .int x2), (3, .int x3), (4, .int x4), (5, .int x5), (6, .int x6), (7, .int x7)] [] τ))  (x1 : Int32) (x2 : Int32) (x3 : Int32) (x4 : Int32) (x5 : Int32) (x6 : Int32) (x7 : Int32) (x9 : Int32) (x10 : Int32) (y0 : Int32) (y1 : Int32) (y2 : Int32) (τ : SC) (hf : fc_pl_search_b164 Rc K41 x1 x2 x3 x4 x5 x6 x7 x9 x10 y0 y1 y2 τ = some (r, υ)) : gg p l e (ro_pl_search rq) s m args below meth c (wC ad cs) D vwCl A 11 (QI below args s (wC ad cs) D vwCl A r υ) 164 [(0, .ref (ad 430)), (1, .int x1), (2, .int x2), (3, .int x3), (4, .int x4), (5, .int x5), (6, .int x6), (7, .int x7), (9, .int x9), (10, .int x10)] [.int y0, .int y1, .int y2, .ref (ad 401)] τ := by
  unfold fc_pl_search_b164 at hf
  refine gr_iadd X dX6_search_164 ?_
  have hi_ := oc_1 hf
  replace hf := oc_2 hf
  refine gC_ast_401 X hK (Int32.toNatClampNeg y2) hi_ rfl dX6_search_165 ?_
  refine gC_gen (fun τ9 e_τ9 => ?_)
  replace hf := ot_l hf e_τ9
  refine gr_iload X dX6_search_166 7 rfl ?_
  refine gr_if_ne X 189 dX6_search_168 (by decide) (fun hc_ => ?_) (fun hc_ => ?_)
  · replace hf := ot_t hf hc_
    refine gr_sub [0, 1, 2, 3, 4, 5, 6, 7] rfl ?_
    exact wc_pl_search_b189 X hK hA hq0 hRc hK41 _ _ _ _ _ _ _ _ hf
  · replace hf := ot_f hf hc_
    refine gr_iload X dX6_search_171 8 rfl ?_
    refine gr_istore (L2 := [(4, .int x9), (0, .ref (ad 430)), (1, .int x1), (2, .int x2), (3, .int x3), (5, .int x5), (6, .int x6), (7, .int x7), (9, .int x9), (10, .int x10)]) X dX6_search_173 (by decide) rfl ?_
    refine gr_iload X dX6_search_175 9 rfl ?_
    refine gr_istore (L2 := [(5, .int x10), (4, .int x9), (0, .ref (ad 430)), (1, .int x1), (2, .int x2), (3, .int x3), (6, .int x6), (7, .int x7), (9, .int x9), (10, .int x10)]) X dX6_search_177 (by decide) rfl ?_
    refine gr_aload_n X dX6_search_179 rfl 2 rfl ?_
    refine gC_get_PL_1 X hK fk6_9 dX6_search_180 ?_
    refine gr_iload_n X dX6_search_183 rfl 3 rfl ?_
    refine gr_iconst (v := 1) X dX6_search_184 (by decide) ?_
    refine gr_isub X dX6_search_185 ?_
    have hi_ := oc_1 hf
    replace hf := oc_2 hf
    refine gC_ald_401 X hK (Int32.toNatClampNeg (x1 - (1 : Int32))) hi_ rfl dX6_search_186 ?_
    refine gC_top (fun v12 e_v12 => ?_)
    replace hf := ot_l hf e_v12
    refine gr_istore (L2 := [(6, .int v12), (5, .int x10), (4, .int x9), (0, .ref (ad 430)), (1, .int x1), (2, .int x2), (3, .int x3), (7, .int x7), (9, .int x9), (10, .int x10)]) X dX6_search_187 (by decide) rfl ?_
    refine gr_sub [3, 4, 5, 6, 2, 1, 0, 7] rfl ?_
    exact wc_pl_search_b189 X hK hA hq0 hRc hK41 _ _ _ _ _ _ _ _ hf
set_option maxHeartbeats 4000000 in
set_option maxRecDepth 100000 in
theorem wc_pl_search_b139 {p : Program} {l : Launch} {e : Env} {s : State} {m : MethodId} {args : Array Value} {below : List Frame} {meth : Method} {c : Code} {A : Nat → Prop} {D : va_G} {cs : Nat → ClassId} {sK sV : Nat → Nat} {tA : Nat} {ad : Nat → Nat} {r : Int32} {υ : SC} {rq : Room} {Rc : Int32 → SC → Option (Int32 × SC)} {K41 : Int32 → Int32 → Int32 → Int32 → Int32 → Int32 → Int32 → SC → Option (Int32 × SC)} (X : hc p s m args meth c RX6 cX6_search 11 (some .int)) (hK : kC D cs sK sV tA A s) (hA : ∀ q, s.heap.size ≤ q → A q) (hq0 : rq.cells = 0 ∧ rq.slots = 0) (hRc : ∀ (τ : SC) (x1 : Int32) (r : Int32) (υ : SC), Rc x1 τ = some (r, υ) → ctI l (wC ad cs) D vwCl (kC D cs sK sV tA) yX6_search cX6_search 11 .int rq [.ref (ad 430), .int x1] τ r υ) (hK41 : (∀ (x1 : Int32) (x2 : Int32) (x3 : Int32) (x4 : Int32) (x5 : Int32) (x6 : Int32) (x7 : Int32) (τ : SC), K41 x1 x2 x3 x4 x5 x6 x7 τ = some (r, υ) → gg p l e (ro_pl_search rq) s m args below meth c (wC ad cs) D vwCl A 11 (QI below args s (wC ad cs) D vwCl A r υ) 41 [(0, .ref (ad 430)), (1, .int x1), (2, .int x2), (3, .int x3), (4, .int x4), (5, .int x5), (6, .int x6), (7, .int x7)] [] τ))  (x1 : Int32) (x2 : Int32) (x3 : Int32) (x4 : Int32) (x5 : Int32) (x6 : Int32) (x7 : Int32) (x9 : Int32) (x10 : Int32) (τ : SC) (hf : fc_pl_search_b139 Rc K41 x1 x2 x3 x4 x5 x6 x7 x9 x10 τ = some (r, υ)) : gg p l e (ro_pl_search rq) s m args below meth c (wC ad cs) D vwCl A 11 (QI below args s (wC ad cs) D vwCl A r υ) 139 [(0, .ref (ad 430)), (1, .int x1), (2, .int x2), (3, .int x3), (4, .int x4), (5, .int x5), (6, .int x6), (7, .int x7), (9, .int x9), (10, .int x10)] [] τ := by
  unfold fc_pl_search_b139 at hf
  refine gr_aload_n X dX6_search_139 rfl 0 rfl ?_
  refine gC_get_PL_1 X hK fk6_9 dX6_search_140 ?_
  refine gr_iload_n X dX6_search_143 rfl 1 rfl ?_
  refine gr_dup2 X dX6_search_144 rfl rfl ?_
  have hi_ := oc_1 hf
  replace hf := oc_2 hf
  refine gC_ald_401 X hK (Int32.toNatClampNeg x1) hi_ rfl dX6_search_145 ?_
  refine gr_iload X dX6_search_146 9 rfl ?_
  refine gr_iload_n X dX6_search_148 rfl 3 rfl ?_
  refine gr_icmp_ne X 163 dX6_search_149 (by decide) (fun hc_ => ?_) (fun hc_ => ?_)
  · replace hf := ot_t hf hc_
    refine gr_iconst (v := 0) X dX6_search_163 (by decide) ?_
    refine gr_sub [0, 1, 2, 3, 4, 5, 6, 7, 8, 9] rfl ?_
    exact wc_pl_search_b164 X hK hA hq0 hRc hK41 _ _ _ _ _ _ _ _ _ _ _ _ _ hf
  · replace hf := ot_f hf hc_
    refine gr_aload_n X dX6_search_152 rfl 0 rfl ?_
    refine gC_get_PL_1 X hK fk6_9 dX6_search_153 ?_
    refine gr_iload_n X dX6_search_156 rfl 1 rfl ?_
    refine gr_iconst (v := 1) X dX6_search_157 (by decide) ?_
    refine gr_isub X dX6_search_158 ?_
    have hi_ := oc_1 hf
    replace hf := oc_2 hf
    refine gC_ald_401 X hK (Int32.toNatClampNeg (x1 - (1 : Int32))) hi_ rfl dX6_search_159 ?_
    refine gr_goto X 164 dX6_search_160 (by decide) ?_
    refine gr_sub [0, 1, 2, 3, 4, 5, 6, 7, 8, 9] rfl ?_
    exact wc_pl_search_b164 X hK hA hq0 hRc hK41 _ _ _ _ _ _ _ _ _ _ _ _ _ hf
set_option maxHeartbeats 4000000 in
set_option maxRecDepth 100000 in
theorem wc_pl_search_b99 {p : Program} {l : Launch} {e : Env} {s : State} {m : MethodId} {args : Array Value} {below : List Frame} {meth : Method} {c : Code} {A : Nat → Prop} {D : va_G} {cs : Nat → ClassId} {sK sV : Nat → Nat} {tA : Nat} {ad : Nat → Nat} {r : Int32} {υ : SC} {rq : Room} {Rc : Int32 → SC → Option (Int32 × SC)} {K41 : Int32 → Int32 → Int32 → Int32 → Int32 → Int32 → Int32 → SC → Option (Int32 × SC)} (X : hc p s m args meth c RX6 cX6_search 11 (some .int)) (hK : kC D cs sK sV tA A s) (hA : ∀ q, s.heap.size ≤ q → A q) (hq0 : rq.cells = 0 ∧ rq.slots = 0) (hRc : ∀ (τ : SC) (x1 : Int32) (r : Int32) (υ : SC), Rc x1 τ = some (r, υ) → ctI l (wC ad cs) D vwCl (kC D cs sK sV tA) yX6_search cX6_search 11 .int rq [.ref (ad 430), .int x1] τ r υ) (hK41 : (∀ (x1 : Int32) (x2 : Int32) (x3 : Int32) (x4 : Int32) (x5 : Int32) (x6 : Int32) (x7 : Int32) (τ : SC), K41 x1 x2 x3 x4 x5 x6 x7 τ = some (r, υ) → gg p l e (ro_pl_search rq) s m args below meth c (wC ad cs) D vwCl A 11 (QI below args s (wC ad cs) D vwCl A r υ) 41 [(0, .ref (ad 430)), (1, .int x1), (2, .int x2), (3, .int x3), (4, .int x4), (5, .int x5), (6, .int x6), (7, .int x7)] [] τ))  (x1 : Int32) (x2 : Int32) (x3 : Int32) (x4 : Int32) (x5 : Int32) (x6 : Int32) (x7 : Int32) (y0 : Int32) (y1 : Int32) (y2 : Int32) (τ : SC) (hf : fc_pl_search_b99 Rc K41 x1 x2 x3 x4 x5 x6 x7 y0 y1 y2 τ = some (r, υ)) : gg p l e (ro_pl_search rq) s m args below meth c (wC ad cs) D vwCl A 11 (QI below args s (wC ad cs) D vwCl A r υ) 99 [(0, .ref (ad 430)), (1, .int x1), (2, .int x2), (3, .int x3), (4, .int x4), (5, .int x5), (6, .int x6), (7, .int x7)] [.int y0, .int y1, .int y2, .ref (ad 401)] τ := by
  unfold fc_pl_search_b99 at hf
  refine gr_iadd X dX6_search_99 ?_
  have hi_ := oc_1 hf
  replace hf := oc_2 hf
  refine gC_ast_401 X hK (Int32.toNatClampNeg y2) hi_ rfl dX6_search_100 ?_
  refine gC_gen (fun τ16 e_τ16 => ?_)
  replace hf := ot_l hf e_τ16
  refine gr_goto X 189 dX6_search_101 (by decide) ?_
  refine gr_sub [0, 1, 2, 3, 4, 5, 6, 7] rfl ?_
  exact wc_pl_search_b189 X hK hA hq0 hRc hK41 _ _ _ _ _ _ _ _ hf
set_option maxHeartbeats 4000000 in
set_option maxRecDepth 100000 in
theorem wc_pl_search_l41 {p : Program} {l : Launch} {e : Env} {s : State} {m : MethodId} {args : Array Value} {below : List Frame} {meth : Method} {c : Code} {A : Nat → Prop} {D : va_G} {cs : Nat → ClassId} {sK sV : Nat → Nat} {tA : Nat} {ad : Nat → Nat} {r : Int32} {υ : SC} {rq : Room} {Rc : Int32 → SC → Option (Int32 × SC)} (X : hc p s m args meth c RX6 cX6_search 11 (some .int)) (hK : kC D cs sK sV tA A s) (hA : ∀ q, s.heap.size ≤ q → A q) (hq0 : rq.cells = 0 ∧ rq.slots = 0) (hRc : ∀ (τ : SC) (x1 : Int32) (r : Int32) (υ : SC), Rc x1 τ = some (r, υ) → ctI l (wC ad cs) D vwCl (kC D cs sK sV tA) yX6_search cX6_search 11 .int rq [.ref (ad 430), .int x1] τ r υ)  : ∀ (n : Nat) (x1 : Int32) (x2 : Int32) (x3 : Int32) (x4 : Int32) (x5 : Int32) (x6 : Int32) (x7 : Int32) (τ : SC), fc_pl_search_l41 Rc n x1 x2 x3 x4 x5 x6 x7 τ = some (r, υ) → gg p l e (ro_pl_search rq) s m args below meth c (wC ad cs) D vwCl A 11 (QI below args s (wC ad cs) D vwCl A r υ) 41 [(0, .ref (ad 430)), (1, .int x1), (2, .int x2), (3, .int x3), (4, .int x4), (5, .int x5), (6, .int x6), (7, .int x7)] [] τ := by
  intro n
  induction n with
  | zero =>
    intro x1 x2 x3 x4 x5 x6 x7 τ hf
    cases (show (none : Option (Int32 × SC)) = some (r, υ) from hf)
  | succ n ih =>
    intro x1 x2 x3 x4 x5 x6 x7 τ hf
    unfold fc_pl_search_l41 at hf
    refine gr_iload X dX6_search_41 7 rfl ?_
    refine gr_aload_n X dX6_search_43 rfl 0 rfl ?_
    refine gC_get_PL_0 X hK fk6_20 dX6_search_44 ?_
    refine gC_get_T0_13 X hK fk6_30 dX6_search_47 ?_
    refine gr_icmp_gt X 203 dX6_search_50 (by decide) (fun hc_ => ?_) (fun hc_ => ?_)
    · replace hf := ot_t hf hc_
      refine gr_iload_n X dX6_search_203 rfl 3 rfl ?_
      exact gr_iret X dX6_search_204 (Prod.mk.inj (Option.some.inj hf)).1 (Prod.mk.inj (Option.some.inj hf)).2
    · replace hf := ot_f hf hc_
      refine gr_aload_n X dX6_search_53 rfl 0 rfl ?_
      refine gC_get_PL_0 X hK fk6_20 dX6_search_54 ?_
      refine gr_iload X dX6_search_57 7 rfl ?_
      obtain ⟨⟨q3, τ4⟩, hq_, hf⟩ := ot_b hf
      replace hf := ot_l (y := q3) hf rfl
      replace hf := ot_l (y := τ4) hf rfl
      refine gc_Vi (rest := []) X kC_ok hK hA cw6_34 (rvC_T0 hK) (xc_to_pass hq_) rfl ⟨rfl, rfl, by simp only [ro_pl_search, ro_to_pass]; omega, by simp only [ro_pl_search, ro_to_pass]; omega⟩ rfl (Nat.le_of_ble_eq_true rfl) dX6_search_59 ?_
      refine gr_istore (L2 := [(8, .int q3), (0, .ref (ad 430)), (1, .int x1), (2, .int x2), (3, .int x3), (4, .int x4), (5, .int x5), (6, .int x6), (7, .int x7)]) X dX6_search_62 (by decide) rfl ?_
      refine gr_aload_n X dX6_search_64 rfl 1 rfl ?_
      refine gC_get_PL_0 X hK fk6_20 dX6_search_65 ?_
      obtain ⟨q5, hq_, hf⟩ := ot_b hf
      refine gc_Vi (rest := []) X kC_ok hK hA cw6_24 (rvC_T0 hK) (xc_to_moment hq_) rfl ⟨rfl, rfl, by simp only [ro_pl_search, ro_to_moment]; omega, by simp only [ro_pl_search, ro_to_moment]; omega⟩ rfl (Nat.le_of_ble_eq_true rfl) dX6_search_68 ?_
      refine gr_istore (L2 := [(9, .int q5), (8, .int q3), (0, .ref (ad 430)), (1, .int x1), (2, .int x2), (3, .int x3), (4, .int x4), (5, .int x5), (6, .int x6), (7, .int x7)]) X dX6_search_71 (by decide) rfl ?_
      refine gr_iload X dX6_search_73 0 rfl ?_
      refine gr_iload X dX6_search_75 6 rfl ?_
      refine gr_icmp_ne X 104 dX6_search_77 (by decide) (fun hc_ => ?_) (fun hc_ => ?_)
      · replace hf := ot_t hf hc_
        refine gr_iload X dX6_search_104 1 rfl ?_
        refine gr_aload_n X dX6_search_106 rfl 2 rfl ?_
        refine gr_iload_n X dX6_search_107 rfl 3 rfl ?_
        refine gr_iconst (v := 1) X dX6_search_108 (by decide) ?_
        refine gr_isub X dX6_search_109 ?_
        obtain ⟨⟨q6, τ7⟩, hq_, hf⟩ := ot_b hf
        replace hf := ot_l (y := q6) hf rfl
        replace hf := ot_l (y := τ7) hf rfl
        refine gc_Vi (rest := [.int q3]) X kC_ok hK hA cw6_38 (rvC_PL hK) (hRc _ _ _ _ hq_) rfl ⟨hq0.1, hq0.2, by simp only [ro_pl_search]; omega, by simp only [ro_pl_search]; omega⟩ rfl (Nat.le_of_ble_eq_true rfl) dX6_search_110 ?_
        refine gr_iadd X dX6_search_113 ?_
        refine gC_top (fun v8 e_v8 => ?_)
        replace hf := ot_l hf e_v8
        refine gr_istore (L2 := [(10, .int v8), (9, .int q5), (8, .int q3), (0, .ref (ad 430)), (1, .int x1), (2, .int x2), (3, .int x3), (4, .int x4), (5, .int x5), (6, .int x6), (7, .int x7)]) X dX6_search_114 (by decide) rfl ?_
        refine gr_iload X dX6_search_116 0 rfl ?_
        refine gr_iload_n X dX6_search_118 rfl 6 rfl ?_
        refine gr_icmp_le X 139 dX6_search_119 (by decide) (fun hc_ => ?_) (fun hc_ => ?_)
        · replace hf := ot_t hf hc_
          refine gr_sub [3, 4, 5, 6, 7, 8, 9, 10, 1, 0] rfl ?_
          exact wc_pl_search_b139 X hK hA hq0 hRc ih _ _ _ _ _ _ _ _ _ _ hf
        · replace hf := ot_f hf hc_
          refine gr_iload X dX6_search_122 0 rfl ?_
          refine gr_istore_n (L2 := [(3, .int v8), (10, .int v8), (9, .int q5), (8, .int q3), (0, .ref (ad 430)), (1, .int x1), (2, .int x2), (4, .int x4), (5, .int x5), (6, .int x6), (7, .int x7)]) X dX6_search_124 rfl (by decide) rfl ?_
          refine gr_aload_n X dX6_search_125 rfl 4 rfl ?_
          refine gC_get_PL_1 X hK fk6_9 dX6_search_126 ?_
          refine gr_iload_n X dX6_search_129 rfl 5 rfl ?_
          refine gr_iconst (v := 0) X dX6_search_130 (by decide) ?_
          have hi_ := oc_1 hf
          replace hf := oc_2 hf
          refine gC_ast_401 X hK (Int32.toNatClampNeg x1) hi_ rfl dX6_search_131 ?_
          refine gC_gen (fun τ13 e_τ13 => ?_)
          replace hf := ot_l hf e_τ13
          refine gr_aload_n X dX6_search_132 rfl 4 rfl ?_
          refine gr_iload_n X dX6_search_133 rfl 5 rfl ?_
          refine gr_iload X dX6_search_134 10 rfl ?_
          obtain ⟨τ15, hq_, hf⟩ := ot_b hf
          refine gc_Vv (rest := []) X kC_ok hK hA cw6_41 (rvC_PL hK) (xc_pl_noteBetter hq_) rfl ⟨rfl, rfl, by simp only [ro_pl_search, ro_pl_noteBetter]; omega, by simp only [ro_pl_search, ro_pl_noteBetter]; omega⟩ rfl (Nat.le_of_ble_eq_true rfl) dX6_search_136 ?_
          refine gr_sub [4, 5, 6, 0, 7, 8, 9, 10, 2, 1] rfl ?_
          exact wc_pl_search_b139 X hK hA hq0 hRc ih _ _ _ _ _ _ _ _ _ _ hf
      · replace hf := ot_f hf hc_
        refine gr_aload_n X dX6_search_80 rfl 2 rfl ?_
        refine gC_get_PL_1 X hK fk6_9 dX6_search_81 ?_
        refine gr_iload_n X dX6_search_84 rfl 3 rfl ?_
        refine gr_dup2 X dX6_search_85 rfl rfl ?_
        have hi_ := oc_1 hf
        replace hf := oc_2 hf
        refine gC_ald_401 X hK (Int32.toNatClampNeg x1) hi_ rfl dX6_search_86 ?_
        refine gr_iload X dX6_search_87 7 rfl ?_
        refine gr_iload_n X dX6_search_89 rfl 5 rfl ?_
        refine gr_icmp_ne X 98 dX6_search_90 (by decide) (fun hc_ => ?_) (fun hc_ => ?_)
        · replace hf := ot_t hf hc_
          refine gr_iconst (v := 0) X dX6_search_98 (by decide) ?_
          refine gr_sub [2, 3, 4, 5, 6, 7, 8, 9] rfl ?_
          exact wc_pl_search_b99 X hK hA hq0 hRc ih _ _ _ _ _ _ _ _ _ _ _ hf
        · replace hf := ot_f hf hc_
          refine gr_iload X dX6_search_93 8 rfl ?_
          refine gr_goto X 99 dX6_search_95 (by decide) ?_
          refine gr_sub [2, 3, 4, 5, 6, 7, 8, 9] rfl ?_
          exact wc_pl_search_b99 X hK hA hq0 hRc ih _ _ _ _ _ _ _ _ _ _ _ hf
set_option maxHeartbeats 4000000 in
set_option maxRecDepth 100000 in
theorem xc_pl_search {l : Launch} {D : va_G} {cs : Nat → ClassId} {sK sV : Nat → Nat} {tA : Nat} {ad : Nat → Nat} {τ : SC} {x1 : Int32} {r : Int32} {υ : SC} {rq : Room} {Rc : Int32 → SC → Option (Int32 × SC)} (hq0 : rq.cells = 0 ∧ rq.slots = 0) (hRc : ∀ (τ : SC) (x1 : Int32) (r : Int32) (υ : SC), Rc x1 τ = some (r, υ) → ctI l (wC ad cs) D vwCl (kC D cs sK sV tA) yX6_search cX6_search 11 .int rq [.ref (ad 430), .int x1] τ r υ) (hf : fc_pl_search Rc x1 τ = some (r, υ)) : ctI l (wC ad cs) D vwCl (kC D cs sK sV tA) yX6_search cX6_search 11 .int (ro_pl_search rq) [.ref (ad 430), .int x1] τ r υ := by
  refine ct_I RX6 (by decide +kernel) rfl (Nat.le_of_ble_eq_true rfl) ?_
  intro p e s m args below meth c A X hK hA
  refine gr_eqL (L2 := [(0, .ref (ad 430)), (1, .int x1)]) rfl ?_
  unfold fc_pl_search at hf
  refine gr_iload_n X dX6_search_0 rfl 1 rfl ?_
  refine gr_iconst (v := 1) X dX6_search_1 (by decide) ?_
  refine gr_icmp_lt X 10 dX6_search_2 (by decide) (fun hc_ => ?_) (fun hc_ => ?_)
  · replace hf := ot_t hf hc_
    refine gr_aload_n X dX6_search_10 rfl 0 rfl ?_
    refine gC_get_PL_1 X hK fk6_9 dX6_search_11 ?_
    refine gr_iconst (v := 0) X dX6_search_14 (by decide) ?_
    refine gr_iconst (v := 1) X dX6_search_15 (by decide) ?_
    refine gC_ast_401 X hK 0 (by decide) (by decide) dX6_search_16 ?_
    refine gC_gen (fun τ1 e_τ1 => ?_)
    replace hf := ot_l hf e_τ1
    refine gr_iconst (v := 0) X dX6_search_17 (by decide) ?_
    exact gr_iret X dX6_search_18 (Prod.mk.inj (Option.some.inj hf)).1 (Prod.mk.inj (Option.some.inj hf)).2
  · replace hf := ot_f hf hc_
    refine gr_iload_n X dX6_search_5 rfl 1 rfl ?_
    refine gr_iconst (v := 4) X dX6_search_6 (by decide) ?_
    refine gr_icmp_le X 19 dX6_search_7 (by decide) (fun hc_ => ?_) (fun hc_ => ?_)
    · replace hf := ot_t hf hc_
      refine gr_aload_n X dX6_search_19 rfl 0 rfl ?_
      refine gC_get_PL_0 X hK fk6_20 dX6_search_20 ?_
      obtain ⟨q2, hq_, hf⟩ := ot_b hf
      refine gc_Vi (rest := []) X kC_ok hK hA cw6_24 (rvC_T0 hK) (xc_to_moment hq_) rfl ⟨rfl, rfl, by simp only [ro_pl_search, ro_to_moment]; omega, by simp only [ro_pl_search, ro_to_moment]; omega⟩ rfl (Nat.le_of_ble_eq_true rfl) dX6_search_23 ?_
      refine gr_istore_n (L2 := [(2, .int q2), (0, .ref (ad 430)), (1, .int x1)]) X dX6_search_26 rfl (by decide) rfl ?_
      refine gr_iconst (v := -1) X dX6_search_27 (by decide) ?_
      refine gr_istore_n (L2 := [(3, .int (-1 : Int32)), (2, .int q2), (0, .ref (ad 430)), (1, .int x1)]) X dX6_search_28 rfl (by decide) rfl ?_
      refine gr_iconst (v := -1) X dX6_search_29 (by decide) ?_
      refine gr_istore (L2 := [(4, .int (-1 : Int32)), (3, .int (-1 : Int32)), (2, .int q2), (0, .ref (ad 430)), (1, .int x1)]) X dX6_search_30 (by decide) rfl ?_
      refine gr_iconst (v := 0) X dX6_search_32 (by decide) ?_
      refine gr_istore (L2 := [(5, .int (0 : Int32)), (4, .int (-1 : Int32)), (3, .int (-1 : Int32)), (2, .int q2), (0, .ref (ad 430)), (1, .int x1)]) X dX6_search_33 (by decide) rfl ?_
      refine gr_iconst (v := 0) X dX6_search_35 (by decide) ?_
      refine gr_istore (L2 := [(6, .int (0 : Int32)), (5, .int (0 : Int32)), (4, .int (-1 : Int32)), (3, .int (-1 : Int32)), (2, .int q2), (0, .ref (ad 430)), (1, .int x1)]) X dX6_search_36 (by decide) rfl ?_
      refine gr_iconst (v := 0) X dX6_search_38 (by decide) ?_
      refine gr_istore (L2 := [(7, .int (0 : Int32)), (6, .int (0 : Int32)), (5, .int (0 : Int32)), (4, .int (-1 : Int32)), (3, .int (-1 : Int32)), (2, .int q2), (0, .ref (ad 430)), (1, .int x1)]) X dX6_search_39 (by decide) rfl ?_
      refine gr_sub [6, 7, 5, 4, 3, 2, 1, 0] rfl ?_
      refine wc_pl_search_l41 X hK hA hq0 hRc  hFU _ _ _ _ _ _ _ _ hf
    · replace hf := ot_f hf hc_
      refine gr_aload_n X dX6_search_10 rfl 0 rfl ?_
      refine gC_get_PL_1 X hK fk6_9 dX6_search_11 ?_
      refine gr_iconst (v := 0) X dX6_search_14 (by decide) ?_
      refine gr_iconst (v := 1) X dX6_search_15 (by decide) ?_
      refine gC_ast_401 X hK 0 (by decide) (by decide) dX6_search_16 ?_
      refine gC_gen (fun τ17 e_τ17 => ?_)
      replace hf := ot_l hf e_τ17
      refine gr_iconst (v := 0) X dX6_search_17 (by decide) ?_
      exact gr_iret X dX6_search_18 (Prod.mk.inj (Option.some.inj hf)).1 (Prod.mk.inj (Option.some.inj hf)).2
def fc_pl_searchD : Nat → Int32 → SC → Option (Int32 × SC)
  | 0 => fun _ _ => none
  | d + 1 => fc_pl_search (fc_pl_searchD d)
def ro_pl_searchD : Nat → Room
  | 0 => { frames := 0, cells := 0, slots := 0, locals := 0 }
  | d + 1 => ro_pl_search (ro_pl_searchD d)
theorem ro_pl_searchD_0 : ∀ d, (ro_pl_searchD d).cells = 0 ∧ (ro_pl_searchD d).slots = 0
  | 0 => ⟨rfl, rfl⟩
  | _ + 1 => ⟨rfl, rfl⟩
theorem xc_pl_searchA {l : Launch} {D : va_G} {cs : Nat → ClassId} {sK sV : Nat → Nat} {tA : Nat} {ad : Nat → Nat} : ∀ (d : Nat) (τ : SC) (x1 : Int32) (r : Int32) (υ : SC), fc_pl_searchD d x1 τ = some (r, υ) → ctI l (wC ad cs) D vwCl (kC D cs sK sV tA) yX6_search cX6_search 11 .int (ro_pl_searchD d) [.ref (ad 430), .int x1] τ r υ := by
  intro d
  induction d with
  | zero =>
    intro τ x1 r υ hf
    cases (show (none : Option (Int32 × SC)) = some (r, υ) from hf)
  | succ d ih =>
    intro τ x1 r υ hf
    exact xc_pl_search (ro_pl_searchD_0 d) ih hf
