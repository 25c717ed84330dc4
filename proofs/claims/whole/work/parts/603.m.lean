abbrev rm_isSame : Room := { frames := 1, cells := 0, slots := 0, locals := 21 }
def fm_isSame (σ : SM) (x1 : Int32) (x2 : Int32) (x3 : Int32) (x4 : Int32) : Option Int32 := (Option.bind (fm_byteAt σ ((σ 7 0) + x1)) fun q1 => (if ¬ q1 = x2 then (some (0 : Int32)) else (Option.bind (fm_byteAt σ (((σ 7 0) + x1) + (1 : Int32))) fun q2 => (if ¬ q2 = x3 then (some (0 : Int32)) else (Option.bind (fm_byteAt σ (((σ 7 0) + x1) + (2 : Int32))) fun q3 => (if ¬ q3 = x4 then (some (0 : Int32)) else (some (1 : Int32))))))))
set_option maxHeartbeats 4000000 in
set_option maxRecDepth 100000 in
theorem xm_isSame {l : Launch} {D : va_G} {cA : ClassId} {h : Nat} {ad : Nat → Nat} {σ : SM} {x1 : Int32} {x2 : Int32} {x3 : Int32} {x4 : Int32} {r : Int32} (hf : fm_isSame σ x1 x2 x3 x4 = some r) : ctI l (wM h ad cA) D vwCl (kM D cA) yX12_isSame cX12_isSame 5 .boolean rm_isSame [.ref h, .int x1, .int x2, .int x3, .int x4] σ r σ := by
  refine ct_I RX12 (by decide +kernel) rfl (Nat.le_of_ble_eq_true rfl) ?_
  intro p e s m args below meth c A X hK hA
  refine gr_eqL (L2 := [(0, .ref h), (1, .int x1), (2, .int x2), (3, .int x3), (4, .int x4)]) rfl ?_
  unfold fm_isSame at hf
  refine gr_aload_n X dX12_isSame_0 rfl 0 rfl ?_
  refine gr_aload_n X dX12_isSame_1 rfl 0 rfl ?_
  refine gM_get_7 X hK dX12_isSame_2 ?_
  refine gr_iload_n X dX12_isSame_5 rfl 1 rfl ?_
  refine gr_iadd X dX12_isSame_6 ?_
  obtain ⟨q1, hq_, hf⟩ := ot_b hf
  refine gc_Vi (rest := []) X kM_ok hK hA cw12_byteAt (rvM hK) (xm_byteAt hq_) rfl ⟨rfl, rfl, Nat.le_of_ble_eq_true rfl, Nat.le_of_ble_eq_true rfl⟩ rfl (Nat.le_of_ble_eq_true rfl) dX12_isSame_7 ?_
  refine gr_iload_n X dX12_isSame_10 rfl 2 rfl ?_
  refine gr_icmp_ne X 51 dX12_isSame_11 (by decide) (fun hc_ => ?_) (fun hc_ => ?_)
  · replace hf := ot_t hf hc_
    refine gr_iconst (v := 0) X dX12_isSame_51 (by decide) ?_
    exact gr_zret X dX12_isSame_52 (by decide) (Option.some.inj hf) rfl
  · replace hf := ot_f hf hc_
    refine gr_aload_n X dX12_isSame_14 rfl 0 rfl ?_
    refine gr_aload_n X dX12_isSame_15 rfl 0 rfl ?_
    refine gM_get_7 X hK dX12_isSame_16 ?_
    refine gr_iload_n X dX12_isSame_19 rfl 1 rfl ?_
    refine gr_iadd X dX12_isSame_20 ?_
    refine gr_iconst (v := 1) X dX12_isSame_21 (by decide) ?_
    refine gr_iadd X dX12_isSame_22 ?_
    obtain ⟨q2, hq_, hf⟩ := ot_b hf
    refine gc_Vi (rest := []) X kM_ok hK hA cw12_byteAt (rvM hK) (xm_byteAt hq_) rfl ⟨rfl, rfl, Nat.le_of_ble_eq_true rfl, Nat.le_of_ble_eq_true rfl⟩ rfl (Nat.le_of_ble_eq_true rfl) dX12_isSame_23 ?_
    refine gr_iload_n X dX12_isSame_26 rfl 3 rfl ?_
    refine gr_icmp_ne X 51 dX12_isSame_27 (by decide) (fun hc_ => ?_) (fun hc_ => ?_)
    · replace hf := ot_t hf hc_
      refine gr_iconst (v := 0) X dX12_isSame_51 (by decide) ?_
      exact gr_zret X dX12_isSame_52 (by decide) (Option.some.inj hf) rfl
    · replace hf := ot_f hf hc_
      refine gr_aload_n X dX12_isSame_30 rfl 0 rfl ?_
      refine gr_aload_n X dX12_isSame_31 rfl 0 rfl ?_
      refine gM_get_7 X hK dX12_isSame_32 ?_
      refine gr_iload_n X dX12_isSame_35 rfl 1 rfl ?_
      refine gr_iadd X dX12_isSame_36 ?_
      refine gr_iconst (v := 2) X dX12_isSame_37 (by decide) ?_
      refine gr_iadd X dX12_isSame_38 ?_
      obtain ⟨q3, hq_, hf⟩ := ot_b hf
      refine gc_Vi (rest := []) X kM_ok hK hA cw12_byteAt (rvM hK) (xm_byteAt hq_) rfl ⟨rfl, rfl, Nat.le_of_ble_eq_true rfl, Nat.le_of_ble_eq_true rfl⟩ rfl (Nat.le_of_ble_eq_true rfl) dX12_isSame_39 ?_
      refine gr_iload X dX12_isSame_42 4 rfl ?_
      refine gr_icmp_ne X 51 dX12_isSame_44 (by decide) (fun hc_ => ?_) (fun hc_ => ?_)
      · replace hf := ot_t hf hc_
        refine gr_iconst (v := 0) X dX12_isSame_51 (by decide) ?_
        exact gr_zret X dX12_isSame_52 (by decide) (Option.some.inj hf) rfl
      · replace hf := ot_f hf hc_
        refine gr_iconst (v := 1) X dX12_isSame_47 (by decide) ?_
        refine gr_goto X 52 dX12_isSame_48 (by decide) ?_
        exact gr_zret X dX12_isSame_52 (by decide) (Option.some.inj hf) rfl
abbrev rm_kindHere : Room := { frames := 2, cells := 0, slots := 0, locals := 46 }
def fm_kindHere_b132 (σ : SM) : Option Int32 := (Option.bind (fm_isName σ (4 : Int32) (98 : Int32) (111 : Int32) (111 : Int32) (107 : Int32)) fun q5 => (if q5 = 0 then (Option.bind (fm_isName σ (6 : Int32) (99 : Int32) (97 : Int32) (110 : Int32) (101 : Int32)) fun q6 => (if q6 = 0 then (some (-1 : Int32)) else (Option.bind (fm_isSame σ (2 : Int32) (110 : Int32) (100 : Int32) (108 : Int32)) fun q7 => (if q7 = 0 then (some (-1 : Int32)) else (some (5 : Int32)))))) else (some (4 : Int32))))
def fm_kindHere_b99 (σ : SM) : Option Int32 := (Option.bind (fm_isName σ (6 : Int32) (100 : Int32) (111 : Int32) (99 : Int32) (114 : Int32)) fun q4 => (if q4 = 0 then (fm_kindHere_b132 σ) else (Option.bind (fm_isSame σ (2 : Int32) (99 : Int32) (116 : Int32) (111 : Int32)) fun q8 => (if q8 = 0 then (fm_kindHere_b132 σ) else (some (3 : Int32))))))
def fm_kindHere_b66 (σ : SM) : Option Int32 := (Option.bind (fm_isName σ (6 : Int32) (108 : Int32) (97 : Int32) (119 : Int32) (114 : Int32)) fun q3 => (if q3 = 0 then (fm_kindHere_b99 σ) else (Option.bind (fm_isSame σ (2 : Int32) (119 : Int32) (121 : Int32) (101 : Int32)) fun q9 => (if q9 = 0 then (fm_kindHere_b99 σ) else (some (2 : Int32))))))
def fm_kindHere_b33 (σ : SM) : Option Int32 := (Option.bind (fm_isName σ (5 : Int32) (98 : Int32) (97 : Int32) (107 : Int32) (114 : Int32)) fun q2 => (if q2 = 0 then (fm_kindHere_b66 σ) else (Option.bind (fm_byteAt σ ((σ 7 0) + (3 : Int32))) fun q10 => (if ¬ q10 = (101 : Int32) then (fm_kindHere_b66 σ) else (some (1 : Int32))))))
def fm_kindHere (σ : SM) : Option Int32 := (Option.bind (fm_isName σ (5 : Int32) (103 : Int32) (117 : Int32) (105 : Int32) (100 : Int32)) fun q1 => (if q1 = 0 then (fm_kindHere_b33 σ) else (Option.bind (fm_byteAt σ ((σ 7 0) + (3 : Int32))) fun q11 => (if ¬ q11 = (108 : Int32) then (fm_kindHere_b33 σ) else (some (0 : Int32))))))
set_option maxHeartbeats 4000000 in
set_option maxRecDepth 100000 in
theorem wm_kindHere_b132 {p : Program} {l : Launch} {e : Env} {s : State} {m : MethodId} {args : Array Value} {below : List Frame} {meth : Method} {c : Code} {A : Nat → Prop} {D : va_G} {cA : ClassId} {h : Nat} {ad : Nat → Nat} {r : Int32} {σ : SM} (X : hc p s m args meth c RX12 cX12_kindHere 1 (some .int)) (hK : kM D cA A s) (hA : ∀ q, s.heap.size ≤ q → A q)   (hf : fm_kindHere_b132 σ = some r) : gg p l e rm_kindHere s m args below meth c (wM h ad cA) D vwCl A 1 (QI below args s (wM h ad cA) D vwCl A r σ) 132 [(0, .ref h)] [] σ := by
  unfold fm_kindHere_b132 at hf
  refine gr_aload_n X dX12_kindHere_132 rfl 0 rfl ?_
  refine gr_iconst (v := 4) X dX12_kindHere_133 (by decide) ?_
  refine gr_bipush (v := 98) X dX12_kindHere_134 (by decide) ?_
  refine gr_bipush (v := 111) X dX12_kindHere_136 (by decide) ?_
  refine gr_bipush (v := 111) X dX12_kindHere_138 (by decide) ?_
  refine gr_bipush (v := 107) X dX12_kindHere_140 (by decide) ?_
  obtain ⟨q5, hq_, hf⟩ := ot_b hf
  refine gc_Vi (rest := []) X kM_ok hK hA cw12_isName (rvM hK) (xm_isName hq_) rfl ⟨rfl, rfl, Nat.le_of_ble_eq_true rfl, Nat.le_of_ble_eq_true rfl⟩ rfl (Nat.le_of_ble_eq_true rfl) dX12_kindHere_142 ?_
  refine gr_if_eq X 150 dX12_kindHere_145 (by decide) (fun hc_ => ?_) (fun hc_ => ?_)
  · replace hf := ot_t hf hc_
    refine gr_aload_n X dX12_kindHere_150 rfl 0 rfl ?_
    refine gr_bipush (v := 6) X dX12_kindHere_151 (by decide) ?_
    refine gr_bipush (v := 99) X dX12_kindHere_153 (by decide) ?_
    refine gr_bipush (v := 97) X dX12_kindHere_155 (by decide) ?_
    refine gr_bipush (v := 110) X dX12_kindHere_157 (by decide) ?_
    refine gr_bipush (v := 101) X dX12_kindHere_159 (by decide) ?_
    obtain ⟨q6, hq_, hf⟩ := ot_b hf
    refine gc_Vi (rest := []) X kM_ok hK hA cw12_isName (rvM hK) (xm_isName hq_) rfl ⟨rfl, rfl, Nat.le_of_ble_eq_true rfl, Nat.le_of_ble_eq_true rfl⟩ rfl (Nat.le_of_ble_eq_true rfl) dX12_kindHere_161 ?_
    refine gr_if_eq X 185 dX12_kindHere_164 (by decide) (fun hc_ => ?_) (fun hc_ => ?_)
    · replace hf := ot_t hf hc_
      refine gr_iconst (v := -1) X dX12_kindHere_185 (by decide) ?_
      exact gr_iret X dX12_kindHere_186 (Option.some.inj hf) rfl
    · replace hf := ot_f hf hc_
      refine gr_aload_n X dX12_kindHere_167 rfl 0 rfl ?_
      refine gr_iconst (v := 2) X dX12_kindHere_168 (by decide) ?_
      refine gr_bipush (v := 110) X dX12_kindHere_169 (by decide) ?_
      refine gr_bipush (v := 100) X dX12_kindHere_171 (by decide) ?_
      refine gr_bipush (v := 108) X dX12_kindHere_173 (by decide) ?_
      obtain ⟨q7, hq_, hf⟩ := ot_b hf
      refine gc_Vi (rest := []) X kM_ok hK hA cw12_isSame (rvM hK) (xm_isSame hq_) rfl ⟨rfl, rfl, Nat.le_of_ble_eq_true rfl, Nat.le_of_ble_eq_true rfl⟩ rfl (Nat.le_of_ble_eq_true rfl) dX12_kindHere_175 ?_
      refine gr_if_eq X 185 dX12_kindHere_178 (by decide) (fun hc_ => ?_) (fun hc_ => ?_)
      · replace hf := ot_t hf hc_
        refine gr_iconst (v := -1) X dX12_kindHere_185 (by decide) ?_
        exact gr_iret X dX12_kindHere_186 (Option.some.inj hf) rfl
      · replace hf := ot_f hf hc_
        refine gr_iconst (v := 5) X dX12_kindHere_181 (by decide) ?_
        refine gr_goto X 186 dX12_kindHere_182 (by decide) ?_
        exact gr_iret X dX12_kindHere_186 (Option.some.inj hf) rfl
  · replace hf := ot_f hf hc_
    refine gr_iconst (v := 4) X dX12_kindHere_148 (by decide) ?_
    exact gr_iret X dX12_kindHere_149 (Option.some.inj hf) rfl
set_option maxHeartbeats 4000000 in
set_option maxRecDepth 100000 in
theorem wm_kindHere_b99 {p : Program} {l : Launch} {e : Env} {s : State} {m : MethodId} {args : Array Value} {below : List Frame} {meth : Method} {c : Code} {A : Nat → Prop} {D : va_G} {cA : ClassId} {h : Nat} {ad : Nat → Nat} {r : Int32} {σ : SM} (X : hc p s m args meth c RX12 cX12_kindHere 1 (some .int)) (hK : kM D cA A s) (hA : ∀ q, s.heap.size ≤ q → A q)   (hf : fm_kindHere_b99 σ = some r) : gg p l e rm_kindHere s m args below meth c (wM h ad cA) D vwCl A 1 (QI below args s (wM h ad cA) D vwCl A r σ) 99 [(0, .ref h)] [] σ := by
  unfold fm_kindHere_b99 at hf
  refine gr_aload_n X dX12_kindHere_99 rfl 0 rfl ?_
  refine gr_bipush (v := 6) X dX12_kindHere_100 (by decide) ?_
  refine gr_bipush (v := 100) X dX12_kindHere_102 (by decide) ?_
  refine gr_bipush (v := 111) X dX12_kindHere_104 (by decide) ?_
  refine gr_bipush (v := 99) X dX12_kindHere_106 (by decide) ?_
  refine gr_bipush (v := 114) X dX12_kindHere_108 (by decide) ?_
  obtain ⟨q4, hq_, hf⟩ := ot_b hf
  refine gc_Vi (rest := []) X kM_ok hK hA cw12_isName (rvM hK) (xm_isName hq_) rfl ⟨rfl, rfl, Nat.le_of_ble_eq_true rfl, Nat.le_of_ble_eq_true rfl⟩ rfl (Nat.le_of_ble_eq_true rfl) dX12_kindHere_110 ?_
  refine gr_if_eq X 132 dX12_kindHere_113 (by decide) (fun hc_ => ?_) (fun hc_ => ?_)
  · replace hf := ot_t hf hc_
    refine gr_sub [0] rfl ?_
    exact wm_kindHere_b132 X hK hA  hf
  · replace hf := ot_f hf hc_
    refine gr_aload_n X dX12_kindHere_116 rfl 0 rfl ?_
    refine gr_iconst (v := 2) X dX12_kindHere_117 (by decide) ?_
    refine gr_bipush (v := 99) X dX12_kindHere_118 (by decide) ?_
    refine gr_bipush (v := 116) X dX12_kindHere_120 (by decide) ?_
    refine gr_bipush (v := 111) X dX12_kindHere_122 (by decide) ?_
    obtain ⟨q8, hq_, hf⟩ := ot_b hf
    refine gc_Vi (rest := []) X kM_ok hK hA cw12_isSame (rvM hK) (xm_isSame hq_) rfl ⟨rfl, rfl, Nat.le_of_ble_eq_true rfl, Nat.le_of_ble_eq_true rfl⟩ rfl (Nat.le_of_ble_eq_true rfl) dX12_kindHere_124 ?_
    refine gr_if_eq X 132 dX12_kindHere_127 (by decide) (fun hc_ => ?_) (fun hc_ => ?_)
    · replace hf := ot_t hf hc_
      refine gr_sub [0] rfl ?_
      exact wm_kindHere_b132 X hK hA  hf
    · replace hf := ot_f hf hc_
      refine gr_iconst (v := 3) X dX12_kindHere_130 (by decide) ?_
      exact gr_iret X dX12_kindHere_131 (Option.some.inj hf) rfl
set_option maxHeartbeats 4000000 in
set_option maxRecDepth 100000 in
theorem wm_kindHere_b66 {p : Program} {l : Launch} {e : Env} {s : State} {m : MethodId} {args : Array Value} {below : List Frame} {meth : Method} {c : Code} {A : Nat → Prop} {D : va_G} {cA : ClassId} {h : Nat} {ad : Nat → Nat} {r : Int32} {σ : SM} (X : hc p s m args meth c RX12 cX12_kindHere 1 (some .int)) (hK : kM D cA A s) (hA : ∀ q, s.heap.size ≤ q → A q)   (hf : fm_kindHere_b66 σ = some r) : gg p l e rm_kindHere s m args below meth c (wM h ad cA) D vwCl A 1 (QI below args s (wM h ad cA) D vwCl A r σ) 66 [(0, .ref h)] [] σ := by
  unfold fm_kindHere_b66 at hf
  refine gr_aload_n X dX12_kindHere_66 rfl 0 rfl ?_
  refine gr_bipush (v := 6) X dX12_kindHere_67 (by decide) ?_
  refine gr_bipush (v := 108) X dX12_kindHere_69 (by decide) ?_
  refine gr_bipush (v := 97) X dX12_kindHere_71 (by decide) ?_
  refine gr_bipush (v := 119) X dX12_kindHere_73 (by decide) ?_
  refine gr_bipush (v := 114) X dX12_kindHere_75 (by decide) ?_
  obtain ⟨q3, hq_, hf⟩ := ot_b hf
  refine gc_Vi (rest := []) X kM_ok hK hA cw12_isName (rvM hK) (xm_isName hq_) rfl ⟨rfl, rfl, Nat.le_of_ble_eq_true rfl, Nat.le_of_ble_eq_true rfl⟩ rfl (Nat.le_of_ble_eq_true rfl) dX12_kindHere_77 ?_
  refine gr_if_eq X 99 dX12_kindHere_80 (by decide) (fun hc_ => ?_) (fun hc_ => ?_)
  · replace hf := ot_t hf hc_
    refine gr_sub [0] rfl ?_
    exact wm_kindHere_b99 X hK hA  hf
  · replace hf := ot_f hf hc_
    refine gr_aload_n X dX12_kindHere_83 rfl 0 rfl ?_
    refine gr_iconst (v := 2) X dX12_kindHere_84 (by decide) ?_
    refine gr_bipush (v := 119) X dX12_kindHere_85 (by decide) ?_
    refine gr_bipush (v := 121) X dX12_kindHere_87 (by decide) ?_
    refine gr_bipush (v := 101) X dX12_kindHere_89 (by decide) ?_
    obtain ⟨q9, hq_, hf⟩ := ot_b hf
    refine gc_Vi (rest := []) X kM_ok hK hA cw12_isSame (rvM hK) (xm_isSame hq_) rfl ⟨rfl, rfl, Nat.le_of_ble_eq_true rfl, Nat.le_of_ble_eq_true rfl⟩ rfl (Nat.le_of_ble_eq_true rfl) dX12_kindHere_91 ?_
    refine gr_if_eq X 99 dX12_kindHere_94 (by decide) (fun hc_ => ?_) (fun hc_ => ?_)
    · replace hf := ot_t hf hc_
      refine gr_sub [0] rfl ?_
      exact wm_kindHere_b99 X hK hA  hf
    · replace hf := ot_f hf hc_
      refine gr_iconst (v := 2) X dX12_kindHere_97 (by decide) ?_
      exact gr_iret X dX12_kindHere_98 (Option.some.inj hf) rfl
set_option maxHeartbeats 4000000 in
set_option maxRecDepth 100000 in
theorem wm_kindHere_b33 {p : Program} {l : Launch} {e : Env} {s : State} {m : MethodId} {args : Array Value} {below : List Frame} {meth : Method} {c : Code} {A : Nat → Prop} {D : va_G} {cA : ClassId} {h : Nat} {ad : Nat → Nat} {r : Int32} {σ : SM} (X : hc p s m args meth c RX12 cX12_kindHere 1 (some .int)) (hK : kM D cA A s) (hA : ∀ q, s.heap.size ≤ q → A q)   (hf : fm_kindHere_b33 σ = some r) : gg p l e rm_kindHere s m args below meth c (wM h ad cA) D vwCl A 1 (QI below args s (wM h ad cA) D vwCl A r σ) 33 [(0, .ref h)] [] σ := by
  unfold fm_kindHere_b33 at hf
  refine gr_aload_n X dX12_kindHere_33 rfl 0 rfl ?_
  refine gr_iconst (v := 5) X dX12_kindHere_34 (by decide) ?_
  refine gr_bipush (v := 98) X dX12_kindHere_35 (by decide) ?_
  refine gr_bipush (v := 97) X dX12_kindHere_37 (by decide) ?_
  refine gr_bipush (v := 107) X dX12_kindHere_39 (by decide) ?_
  refine gr_bipush (v := 114) X dX12_kindHere_41 (by decide) ?_
  obtain ⟨q2, hq_, hf⟩ := ot_b hf
  refine gc_Vi (rest := []) X kM_ok hK hA cw12_isName (rvM hK) (xm_isName hq_) rfl ⟨rfl, rfl, Nat.le_of_ble_eq_true rfl, Nat.le_of_ble_eq_true rfl⟩ rfl (Nat.le_of_ble_eq_true rfl) dX12_kindHere_43 ?_
  refine gr_if_eq X 66 dX12_kindHere_46 (by decide) (fun hc_ => ?_) (fun hc_ => ?_)
  · replace hf := ot_t hf hc_
    refine gr_sub [0] rfl ?_
    exact wm_kindHere_b66 X hK hA  hf
  · replace hf := ot_f hf hc_
    refine gr_aload_n X dX12_kindHere_49 rfl 0 rfl ?_
    refine gr_aload_n X dX12_kindHere_50 rfl 0 rfl ?_
    refine gM_get_7 X hK dX12_kindHere_51 ?_
    refine gr_iconst (v := 3) X dX12_kindHere_54 (by decide) ?_
    refine gr_iadd X dX12_kindHere_55 ?_
    obtain ⟨q10, hq_, hf⟩ := ot_b hf
    refine gc_Vi (rest := []) X kM_ok hK hA cw12_byteAt (rvM hK) (xm_byteAt hq_) rfl ⟨rfl, rfl, Nat.le_of_ble_eq_true rfl, Nat.le_of_ble_eq_true rfl⟩ rfl (Nat.le_of_ble_eq_true rfl) dX12_kindHere_56 ?_
    refine gr_bipush (v := 101) X dX12_kindHere_59 (by decide) ?_
    refine gr_icmp_ne X 66 dX12_kindHere_61 (by decide) (fun hc_ => ?_) (fun hc_ => ?_)
    · replace hf := ot_t hf hc_
      refine gr_sub [0] rfl ?_
      exact wm_kindHere_b66 X hK hA  hf
    · replace hf := ot_f hf hc_
      refine gr_iconst (v := 1) X dX12_kindHere_64 (by decide) ?_
      exact gr_iret X dX12_kindHere_65 (Option.some.inj hf) rfl
set_option maxHeartbeats 4000000 in
set_option maxRecDepth 100000 in
theorem xm_kindHere {l : Launch} {D : va_G} {cA : ClassId} {h : Nat} {ad : Nat → Nat} {σ : SM} {r : Int32} (hf : fm_kindHere σ = some r) : ctI l (wM h ad cA) D vwCl (kM D cA) yX12_kindHere cX12_kindHere 1 .int rm_kindHere [.ref h] σ r σ := by
  refine ct_I RX12 (by decide +kernel) rfl (Nat.le_of_ble_eq_true rfl) ?_
  intro p e s m args below meth c A X hK hA
  refine gr_eqL (L2 := [(0, .ref h)]) rfl ?_
  unfold fm_kindHere at hf
  refine gr_aload_n X dX12_kindHere_0 rfl 0 rfl ?_
  refine gr_iconst (v := 5) X dX12_kindHere_1 (by decide) ?_
  refine gr_bipush (v := 103) X dX12_kindHere_2 (by decide) ?_
  refine gr_bipush (v := 117) X dX12_kindHere_4 (by decide) ?_
  refine gr_bipush (v := 105) X dX12_kindHere_6 (by decide) ?_
  refine gr_bipush (v := 100) X dX12_kindHere_8 (by decide) ?_
  obtain ⟨q1, hq_, hf⟩ := ot_b hf
  refine gc_Vi (rest := []) X kM_ok hK hA cw12_isName (rvM hK) (xm_isName hq_) rfl ⟨rfl, rfl, Nat.le_of_ble_eq_true rfl, Nat.le_of_ble_eq_true rfl⟩ rfl (Nat.le_of_ble_eq_true rfl) dX12_kindHere_10 ?_
  refine gr_if_eq X 33 dX12_kindHere_13 (by decide) (fun hc_ => ?_) (fun hc_ => ?_)
  · replace hf := ot_t hf hc_
    refine gr_sub [0] rfl ?_
    exact wm_kindHere_b33 X hK hA  hf
  · replace hf := ot_f hf hc_
    refine gr_aload_n X dX12_kindHere_16 rfl 0 rfl ?_
    refine gr_aload_n X dX12_kindHere_17 rfl 0 rfl ?_
    refine gM_get_7 X hK dX12_kindHere_18 ?_
    refine gr_iconst (v := 3) X dX12_kindHere_21 (by decide) ?_
    refine gr_iadd X dX12_kindHere_22 ?_
    obtain ⟨q11, hq_, hf⟩ := ot_b hf
    refine gc_Vi (rest := []) X kM_ok hK hA cw12_byteAt (rvM hK) (xm_byteAt hq_) rfl ⟨rfl, rfl, Nat.le_of_ble_eq_true rfl, Nat.le_of_ble_eq_true rfl⟩ rfl (Nat.le_of_ble_eq_true rfl) dX12_kindHere_23 ?_
    refine gr_bipush (v := 108) X dX12_kindHere_26 (by decide) ?_
    refine gr_icmp_ne X 33 dX12_kindHere_28 (by decide) (fun hc_ => ?_) (fun hc_ => ?_)
    · replace hf := ot_t hf hc_
      refine gr_sub [0] rfl ?_
      exact wm_kindHere_b33 X hK hA  hf
    · replace hf := ot_f hf hc_
      refine gr_iconst (v := 0) X dX12_kindHere_31 (by decide) ?_
      exact gr_iret X dX12_kindHere_32 (Option.some.inj hf) rfl
abbrev rm_doHere : Room := { frames := 2, cells := 0, slots := 0, locals := 46 }
def fm_doHere (σ : SM) : Option Int32 := (Option.bind (fm_isName σ (4 : Int32) (99 : Int32) (111 : Int32) (109 : Int32) (101 : Int32)) fun q1 => (if q1 = 0 then (Option.bind (fm_isName σ (4 : Int32) (119 : Int32) (97 : Int32) (105 : Int32) (116 : Int32)) fun q2 => (if q2 = 0 then (Option.bind (fm_isName σ (5 : Int32) (108 : Int32) (101 : Int32) (97 : Int32) (101 : Int32)) fun q3 => (if q3 = 0 then (some (-1 : Int32)) else (Option.bind (fm_byteAt σ ((σ 7 0) + (3 : Int32))) fun q4 => (if ¬ q4 = (118 : Int32) then (some (-1 : Int32)) else (some (2 : Int32)))))) else (some (1 : Int32)))) else (some (0 : Int32))))
set_option maxHeartbeats 4000000 in
set_option maxRecDepth 100000 in
theorem xm_doHere {l : Launch} {D : va_G} {cA : ClassId} {h : Nat} {ad : Nat → Nat} {σ : SM} {r : Int32} (hf : fm_doHere σ = some r) : ctI l (wM h ad cA) D vwCl (kM D cA) yX12_doHere cX12_doHere 1 .int rm_doHere [.ref h] σ r σ := by
  refine ct_I RX12 (by decide +kernel) rfl (Nat.le_of_ble_eq_true rfl) ?_
  intro p e s m args below meth c A X hK hA
  refine gr_eqL (L2 := [(0, .ref h)]) rfl ?_
  unfold fm_doHere at hf
  refine gr_aload_n X dX12_doHere_0 rfl 0 rfl ?_
  refine gr_iconst (v := 4) X dX12_doHere_1 (by decide) ?_
  refine gr_bipush (v := 99) X dX12_doHere_2 (by decide) ?_
  refine gr_bipush (v := 111) X dX12_doHere_4 (by decide) ?_
  refine gr_bipush (v := 109) X dX12_doHere_6 (by decide) ?_
  refine gr_bipush (v := 101) X dX12_doHere_8 (by decide) ?_
  obtain ⟨q1, hq_, hf⟩ := ot_b hf
  refine gc_Vi (rest := []) X kM_ok hK hA cw12_isName (rvM hK) (xm_isName hq_) rfl ⟨rfl, rfl, Nat.le_of_ble_eq_true rfl, Nat.le_of_ble_eq_true rfl⟩ rfl (Nat.le_of_ble_eq_true rfl) dX12_doHere_10 ?_
  refine gr_if_eq X 18 dX12_doHere_13 (by decide) (fun hc_ => ?_) (fun hc_ => ?_)
  · replace hf := ot_t hf hc_
    refine gr_aload_n X dX12_doHere_18 rfl 0 rfl ?_
    refine gr_iconst (v := 4) X dX12_doHere_19 (by decide) ?_
    refine gr_bipush (v := 119) X dX12_doHere_20 (by decide) ?_
    refine gr_bipush (v := 97) X dX12_doHere_22 (by decide) ?_
    refine gr_bipush (v := 105) X dX12_doHere_24 (by decide) ?_
    refine gr_bipush (v := 116) X dX12_doHere_26 (by decide) ?_
    obtain ⟨q2, hq_, hf⟩ := ot_b hf
    refine gc_Vi (rest := []) X kM_ok hK hA cw12_isName (rvM hK) (xm_isName hq_) rfl ⟨rfl, rfl, Nat.le_of_ble_eq_true rfl, Nat.le_of_ble_eq_true rfl⟩ rfl (Nat.le_of_ble_eq_true rfl) dX12_doHere_28 ?_
    refine gr_if_eq X 36 dX12_doHere_31 (by decide) (fun hc_ => ?_) (fun hc_ => ?_)
    · replace hf := ot_t hf hc_
      refine gr_aload_n X dX12_doHere_36 rfl 0 rfl ?_
      refine gr_iconst (v := 5) X dX12_doHere_37 (by decide) ?_
      refine gr_bipush (v := 108) X dX12_doHere_38 (by decide) ?_
      refine gr_bipush (v := 101) X dX12_doHere_40 (by decide) ?_
      refine gr_bipush (v := 97) X dX12_doHere_42 (by decide) ?_
      refine gr_bipush (v := 101) X dX12_doHere_44 (by decide) ?_
      obtain ⟨q3, hq_, hf⟩ := ot_b hf
      refine gc_Vi (rest := []) X kM_ok hK hA cw12_isName (rvM hK) (xm_isName hq_) rfl ⟨rfl, rfl, Nat.le_of_ble_eq_true rfl, Nat.le_of_ble_eq_true rfl⟩ rfl (Nat.le_of_ble_eq_true rfl) dX12_doHere_46 ?_
      refine gr_if_eq X 71 dX12_doHere_49 (by decide) (fun hc_ => ?_) (fun hc_ => ?_)
      · replace hf := ot_t hf hc_
        refine gr_iconst (v := -1) X dX12_doHere_71 (by decide) ?_
        exact gr_iret X dX12_doHere_72 (Option.some.inj hf) rfl
      · replace hf := ot_f hf hc_
        refine gr_aload_n X dX12_doHere_52 rfl 0 rfl ?_
        refine gr_aload_n X dX12_doHere_53 rfl 0 rfl ?_
        refine gM_get_7 X hK dX12_doHere_54 ?_
        refine gr_iconst (v := 3) X dX12_doHere_57 (by decide) ?_
        refine gr_iadd X dX12_doHere_58 ?_
        obtain ⟨q4, hq_, hf⟩ := ot_b hf
        refine gc_Vi (rest := []) X kM_ok hK hA cw12_byteAt (rvM hK) (xm_byteAt hq_) rfl ⟨rfl, rfl, Nat.le_of_ble_eq_true rfl, Nat.le_of_ble_eq_true rfl⟩ rfl (Nat.le_of_ble_eq_true rfl) dX12_doHere_59 ?_
        refine gr_bipush (v := 118) X dX12_doHere_62 (by decide) ?_
        refine gr_icmp_ne X 71 dX12_doHere_64 (by decide) (fun hc_ => ?_) (fun hc_ => ?_)
        · replace hf := ot_t hf hc_
          refine gr_iconst (v := -1) X dX12_doHere_71 (by decide) ?_
          exact gr_iret X dX12_doHere_72 (Option.some.inj hf) rfl
        · replace hf := ot_f hf hc_
          refine gr_iconst (v := 2) X dX12_doHere_67 (by decide) ?_
          refine gr_goto X 72 dX12_doHere_68 (by decide) ?_
          exact gr_iret X dX12_doHere_72 (Option.some.inj hf) rfl
    · replace hf := ot_f hf hc_
      refine gr_iconst (v := 1) X dX12_doHere_34 (by decide) ?_
      exact gr_iret X dX12_doHere_35 (Option.some.inj hf) rfl
  · replace hf := ot_f hf hc_
    refine gr_iconst (v := 0) X dX12_doHere_16 (by decide) ?_
    exact gr_iret X dX12_doHere_17 (Option.some.inj hf) rfl
abbrev rm_factHere : Room := { frames := 2, cells := 0, slots := 0, locals := 46 }
def fm_factHere (σ : SM) : Option Int32 := (Option.bind (fm_isName σ (4 : Int32) (104 : Int32) (111 : Int32) (117 : Int32) (114 : Int32)) fun q1 => (if q1 = 0 then (Option.bind (fm_isName σ (4 : Int32) (103 : Int32) (105 : Int32) (102 : Int32) (116 : Int32)) fun q2 => (if q2 = 0 then (Option.bind (fm_isName σ (4 : Int32) (108 : Int32) (97 : Int32) (116 : Int32) (101 : Int32)) fun q3 => (if q3 = 0 then (Option.bind (fm_isName σ (4 : Int32) (109 : Int32) (111 : Int32) (111 : Int32) (100 : Int32)) fun q4 => (if q4 = 0 then (Option.bind (fm_isName σ (6 : Int32) (110 : Int32) (117 : Int32) (109 : Int32) (114 : Int32)) fun q5 => (if q5 = 0 then (some (-1 : Int32)) else (Option.bind (fm_isSame σ (2 : Int32) (109 : Int32) (98 : Int32) (101 : Int32)) fun q6 => (if q6 = 0 then (some (-1 : Int32)) else (some (4 : Int32)))))) else (some (3 : Int32)))) else (some (2 : Int32)))) else (some (1 : Int32)))) else (some (0 : Int32))))
set_option maxHeartbeats 4000000 in
set_option maxRecDepth 100000 in
theorem xm_factHere {l : Launch} {D : va_G} {cA : ClassId} {h : Nat} {ad : Nat → Nat} {σ : SM} {r : Int32} (hf : fm_factHere σ = some r) : ctI l (wM h ad cA) D vwCl (kM D cA) yX12_factHere cX12_factHere 1 .int rm_factHere [.ref h] σ r σ := by
  refine ct_I RX12 (by decide +kernel) rfl (Nat.le_of_ble_eq_true rfl) ?_
  intro p e s m args below meth c A X hK hA
  refine gr_eqL (L2 := [(0, .ref h)]) rfl ?_
  unfold fm_factHere at hf
  refine gr_aload_n X dX12_factHere_0 rfl 0 rfl ?_
  refine gr_iconst (v := 4) X dX12_factHere_1 (by decide) ?_
  refine gr_bipush (v := 104) X dX12_factHere_2 (by decide) ?_
  refine gr_bipush (v := 111) X dX12_factHere_4 (by decide) ?_
  refine gr_bipush (v := 117) X dX12_factHere_6 (by decide) ?_
  refine gr_bipush (v := 114) X dX12_factHere_8 (by decide) ?_
  obtain ⟨q1, hq_, hf⟩ := ot_b hf
  refine gc_Vi (rest := []) X kM_ok hK hA cw12_isName (rvM hK) (xm_isName hq_) rfl ⟨rfl, rfl, Nat.le_of_ble_eq_true rfl, Nat.le_of_ble_eq_true rfl⟩ rfl (Nat.le_of_ble_eq_true rfl) dX12_factHere_10 ?_
  refine gr_if_eq X 18 dX12_factHere_13 (by decide) (fun hc_ => ?_) (fun hc_ => ?_)
  · replace hf := ot_t hf hc_
    refine gr_aload_n X dX12_factHere_18 rfl 0 rfl ?_
    refine gr_iconst (v := 4) X dX12_factHere_19 (by decide) ?_
    refine gr_bipush (v := 103) X dX12_factHere_20 (by decide) ?_
    refine gr_bipush (v := 105) X dX12_factHere_22 (by decide) ?_
    refine gr_bipush (v := 102) X dX12_factHere_24 (by decide) ?_
    refine gr_bipush (v := 116) X dX12_factHere_26 (by decide) ?_
    obtain ⟨q2, hq_, hf⟩ := ot_b hf
    refine gc_Vi (rest := []) X kM_ok hK hA cw12_isName (rvM hK) (xm_isName hq_) rfl ⟨rfl, rfl, Nat.le_of_ble_eq_true rfl, Nat.le_of_ble_eq_true rfl⟩ rfl (Nat.le_of_ble_eq_true rfl) dX12_factHere_28 ?_
    refine gr_if_eq X 36 dX12_factHere_31 (by decide) (fun hc_ => ?_) (fun hc_ => ?_)
    · replace hf := ot_t hf hc_
      refine gr_aload_n X dX12_factHere_36 rfl 0 rfl ?_
      refine gr_iconst (v := 4) X dX12_factHere_37 (by decide) ?_
      refine gr_bipush (v := 108) X dX12_factHere_38 (by decide) ?_
      refine gr_bipush (v := 97) X dX12_factHere_40 (by decide) ?_
      refine gr_bipush (v := 116) X dX12_factHere_42 (by decide) ?_
      refine gr_bipush (v := 101) X dX12_factHere_44 (by decide) ?_
      obtain ⟨q3, hq_, hf⟩ := ot_b hf
      refine gc_Vi (rest := []) X kM_ok hK hA cw12_isName (rvM hK) (xm_isName hq_) rfl ⟨rfl, rfl, Nat.le_of_ble_eq_true rfl, Nat.le_of_ble_eq_true rfl⟩ rfl (Nat.le_of_ble_eq_true rfl) dX12_factHere_46 ?_
      refine gr_if_eq X 54 dX12_factHere_49 (by decide) (fun hc_ => ?_) (fun hc_ => ?_)
      · replace hf := ot_t hf hc_
        refine gr_aload_n X dX12_factHere_54 rfl 0 rfl ?_
        refine gr_iconst (v := 4) X dX12_factHere_55 (by decide) ?_
        refine gr_bipush (v := 109) X dX12_factHere_56 (by decide) ?_
        refine gr_bipush (v := 111) X dX12_factHere_58 (by decide) ?_
        refine gr_bipush (v := 111) X dX12_factHere_60 (by decide) ?_
        refine gr_bipush (v := 100) X dX12_factHere_62 (by decide) ?_
        obtain ⟨q4, hq_, hf⟩ := ot_b hf
        refine gc_Vi (rest := []) X kM_ok hK hA cw12_isName (rvM hK) (xm_isName hq_) rfl ⟨rfl, rfl, Nat.le_of_ble_eq_true rfl, Nat.le_of_ble_eq_true rfl⟩ rfl (Nat.le_of_ble_eq_true rfl) dX12_factHere_64 ?_
        refine gr_if_eq X 72 dX12_factHere_67 (by decide) (fun hc_ => ?_) (fun hc_ => ?_)
        · replace hf := ot_t hf hc_
          refine gr_aload_n X dX12_factHere_72 rfl 0 rfl ?_
          refine gr_bipush (v := 6) X dX12_factHere_73 (by decide) ?_
          refine gr_bipush (v := 110) X dX12_factHere_75 (by decide) ?_
          refine gr_bipush (v := 117) X dX12_factHere_77 (by decide) ?_
          refine gr_bipush (v := 109) X dX12_factHere_79 (by decide) ?_
          refine gr_bipush (v := 114) X dX12_factHere_81 (by decide) ?_
          obtain ⟨q5, hq_, hf⟩ := ot_b hf
          refine gc_Vi (rest := []) X kM_ok hK hA cw12_isName (rvM hK) (xm_isName hq_) rfl ⟨rfl, rfl, Nat.le_of_ble_eq_true rfl, Nat.le_of_ble_eq_true rfl⟩ rfl (Nat.le_of_ble_eq_true rfl) dX12_factHere_83 ?_
          refine gr_if_eq X 107 dX12_factHere_86 (by decide) (fun hc_ => ?_) (fun hc_ => ?_)
          · replace hf := ot_t hf hc_
            refine gr_iconst (v := -1) X dX12_factHere_107 (by decide) ?_
            exact gr_iret X dX12_factHere_108 (Option.some.inj hf) rfl
          · replace hf := ot_f hf hc_
            refine gr_aload_n X dX12_factHere_89 rfl 0 rfl ?_
            refine gr_iconst (v := 2) X dX12_factHere_90 (by decide) ?_
            refine gr_bipush (v := 109) X dX12_factHere_91 (by decide) ?_
            refine gr_bipush (v := 98) X dX12_factHere_93 (by decide) ?_
            refine gr_bipush (v := 101) X dX12_factHere_95 (by decide) ?_
            obtain ⟨q6, hq_, hf⟩ := ot_b hf
            refine gc_Vi (rest := []) X kM_ok hK hA cw12_isSame (rvM hK) (xm_isSame hq_) rfl ⟨rfl, rfl, Nat.le_of_ble_eq_true rfl, Nat.le_of_ble_eq_true rfl⟩ rfl (Nat.le_of_ble_eq_true rfl) dX12_factHere_97 ?_
            refine gr_if_eq X 107 dX12_factHere_100 (by decide) (fun hc_ => ?_) (fun hc_ => ?_)
            · replace hf := ot_t hf hc_
              refine gr_iconst (v := -1) X dX12_factHere_107 (by decide) ?_
              exact gr_iret X dX12_factHere_108 (Option.some.inj hf) rfl
            · replace hf := ot_f hf hc_
              refine gr_iconst (v := 4) X dX12_factHere_103 (by decide) ?_
              refine gr_goto X 108 dX12_factHere_104 (by decide) ?_
              exact gr_iret X dX12_factHere_108 (Option.some.inj hf) rfl
        · replace hf := ot_f hf hc_
          refine gr_iconst (v := 3) X dX12_factHere_70 (by decide) ?_
          exact gr_iret X dX12_factHere_71 (Option.some.inj hf) rfl
      · replace hf := ot_f hf hc_
        refine gr_iconst (v := 2) X dX12_factHere_52 (by decide) ?_
        exact gr_iret X dX12_factHere_53 (Option.some.inj hf) rfl
    · replace hf := ot_f hf hc_
      refine gr_iconst (v := 1) X dX12_factHere_34 (by decide) ?_
      exact gr_iret X dX12_factHere_35 (Option.some.inj hf) rfl
  · replace hf := ot_f hf hc_
    refine gr_iconst (v := 0) X dX12_factHere_16 (by decide) ?_
    exact gr_iret X dX12_factHere_17 (Option.some.inj hf) rfl
abbrev rm_isTwo : Room := { frames := 1, cells := 0, slots := 0, locals := 21 }
def fm_isTwo (σ : SM) (x1 : Int32) (x2 : Int32) : Option Int32 := (if ¬ (σ 6 0) = (1 : Int32) then (some (0 : Int32)) else (if ¬ ((σ 8 0) - (σ 7 0)) = (2 : Int32) then (some (0 : Int32)) else (Option.bind (fm_byteAt σ (σ 7 0)) fun q1 => (if ¬ q1 = x1 then (some (0 : Int32)) else (Option.bind (fm_byteAt σ ((σ 7 0) + (1 : Int32))) fun q2 => (if ¬ q2 = x2 then (some (0 : Int32)) else (some (1 : Int32))))))))
set_option maxHeartbeats 4000000 in
set_option maxRecDepth 100000 in
theorem xm_isTwo {l : Launch} {D : va_G} {cA : ClassId} {h : Nat} {ad : Nat → Nat} {σ : SM} {x1 : Int32} {x2 : Int32} {r : Int32} (hf : fm_isTwo σ x1 x2 = some r) : ctI l (wM h ad cA) D vwCl (kM D cA) yX12_isTwo cX12_isTwo 3 .boolean rm_isTwo [.ref h, .int x1, .int x2] σ r σ := by
  refine ct_I RX12 (by decide +kernel) rfl (Nat.le_of_ble_eq_true rfl) ?_
  intro p e s m args below meth c A X hK hA
  refine gr_eqL (L2 := [(0, .ref h), (1, .int x1), (2, .int x2)]) rfl ?_
  unfold fm_isTwo at hf
  refine gr_aload_n X dX12_isTwo_0 rfl 0 rfl ?_
  refine gM_get_6 X hK dX12_isTwo_1 ?_
  refine gr_iconst (v := 1) X dX12_isTwo_4 (by decide) ?_
  refine gr_icmp_ne X 51 dX12_isTwo_5 (by decide) (fun hc_ => ?_) (fun hc_ => ?_)
  · replace hf := ot_t hf hc_
    refine gr_iconst (v := 0) X dX12_isTwo_51 (by decide) ?_
    exact gr_zret X dX12_isTwo_52 (by decide) (Option.some.inj hf) rfl
  · replace hf := ot_f hf hc_
    refine gr_aload_n X dX12_isTwo_8 rfl 0 rfl ?_
    refine gM_get_8 X hK dX12_isTwo_9 ?_
    refine gr_aload_n X dX12_isTwo_12 rfl 0 rfl ?_
    refine gM_get_7 X hK dX12_isTwo_13 ?_
    refine gr_isub X dX12_isTwo_16 ?_
    refine gr_iconst (v := 2) X dX12_isTwo_17 (by decide) ?_
    refine gr_icmp_ne X 51 dX12_isTwo_18 (by decide) (fun hc_ => ?_) (fun hc_ => ?_)
    · replace hf := ot_t hf hc_
      refine gr_iconst (v := 0) X dX12_isTwo_51 (by decide) ?_
      exact gr_zret X dX12_isTwo_52 (by decide) (Option.some.inj hf) rfl
    · replace hf := ot_f hf hc_
      refine gr_aload_n X dX12_isTwo_21 rfl 0 rfl ?_
      refine gr_aload_n X dX12_isTwo_22 rfl 0 rfl ?_
      refine gM_get_7 X hK dX12_isTwo_23 ?_
      obtain ⟨q1, hq_, hf⟩ := ot_b hf
      refine gc_Vi (rest := []) X kM_ok hK hA cw12_byteAt (rvM hK) (xm_byteAt hq_) rfl ⟨rfl, rfl, Nat.le_of_ble_eq_true rfl, Nat.le_of_ble_eq_true rfl⟩ rfl (Nat.le_of_ble_eq_true rfl) dX12_isTwo_26 ?_
      refine gr_iload_n X dX12_isTwo_29 rfl 1 rfl ?_
      refine gr_icmp_ne X 51 dX12_isTwo_30 (by decide) (fun hc_ => ?_) (fun hc_ => ?_)
      · replace hf := ot_t hf hc_
        refine gr_iconst (v := 0) X dX12_isTwo_51 (by decide) ?_
        exact gr_zret X dX12_isTwo_52 (by decide) (Option.some.inj hf) rfl
      · replace hf := ot_f hf hc_
        refine gr_aload_n X dX12_isTwo_33 rfl 0 rfl ?_
        refine gr_aload_n X dX12_isTwo_34 rfl 0 rfl ?_
        refine gM_get_7 X hK dX12_isTwo_35 ?_
        refine gr_iconst (v := 1) X dX12_isTwo_38 (by decide) ?_
        refine gr_iadd X dX12_isTwo_39 ?_
        obtain ⟨q2, hq_, hf⟩ := ot_b hf
        refine gc_Vi (rest := []) X kM_ok hK hA cw12_byteAt (rvM hK) (xm_byteAt hq_) rfl ⟨rfl, rfl, Nat.le_of_ble_eq_true rfl, Nat.le_of_ble_eq_true rfl⟩ rfl (Nat.le_of_ble_eq_true rfl) dX12_isTwo_40 ?_
        refine gr_iload_n X dX12_isTwo_43 rfl 2 rfl ?_
        refine gr_icmp_ne X 51 dX12_isTwo_44 (by decide) (fun hc_ => ?_) (fun hc_ => ?_)
        · replace hf := ot_t hf hc_
          refine gr_iconst (v := 0) X dX12_isTwo_51 (by decide) ?_
          exact gr_zret X dX12_isTwo_52 (by decide) (Option.some.inj hf) rfl
        · replace hf := ot_f hf hc_
          refine gr_iconst (v := 1) X dX12_isTwo_47 (by decide) ?_
          refine gr_goto X 52 dX12_isTwo_48 (by decide) ?_
          exact gr_zret X dX12_isTwo_52 (by decide) (Option.some.inj hf) rfl
abbrev rm_steps : Room := { frames := 0, cells := 0, slots := 0, locals := 0 }
def fm_steps (x1 : Int32) (x2 : Int32) (x3 : Int32) (σ : SM) : Option SM := (if ¬ (σ 10 0) = 0 then (some σ) else (oc (hin ((130 : Int32) + ((3 : Int32) * (σ 0 7))) 580) (hl (sf σ 0 (upd (σ 0) (Int32.toNatClampNeg ((130 : Int32) + ((3 : Int32) * (σ 0 7)))) x1)) fun σ1 => (oc (hin (((130 : Int32) + ((3 : Int32) * (σ1 0 7))) + (1 : Int32)) 580) (hl (sf σ1 0 (upd (σ1 0) (Int32.toNatClampNeg (((130 : Int32) + ((3 : Int32) * (σ1 0 7))) + (1 : Int32))) x2)) fun σ2 => (oc (hin (((130 : Int32) + ((3 : Int32) * (σ2 0 7))) + (2 : Int32)) 580) (hl (sf σ2 0 (upd (σ2 0) (Int32.toNatClampNeg (((130 : Int32) + ((3 : Int32) * (σ2 0 7))) + (2 : Int32))) x3)) fun σ3 => (hl (sf σ3 0 (upd (σ3 0) 7 ((σ3 0 7) + (1 : Int32)))) fun σ4 => (some σ4)))))))))
set_option maxHeartbeats 4000000 in
set_option maxRecDepth 100000 in
theorem xm_steps {l : Launch} {D : va_G} {cA : ClassId} {h : Nat} {ad : Nat → Nat} {σ : SM} {x1 : Int32} {x2 : Int32} {x3 : Int32} {τ : SM} (hf : fm_steps x1 x2 x3 σ = some τ) : ctV l (wM h ad cA) D vwCl (kM D cA) yX12_steps cX12_steps 4 rm_steps [.ref h, .int x1, .int x2, .int x3] σ τ := by
  refine ct_V RX12 (by decide +kernel) rfl (Nat.le_of_ble_eq_true rfl) ?_
  intro p e s m args below meth c A X hK hA
  refine gr_eqL (L2 := [(0, .ref h), (1, .int x1), (2, .int x2), (3, .int x3)]) rfl ?_
  unfold fm_steps at hf
  refine gr_aload_n X dX12_steps_0 rfl 0 rfl ?_
  refine gM_get_10 X hK dX12_steps_1 ?_
  refine gr_if_ne X 79 dX12_steps_4 (by decide) (fun hc_ => ?_) (fun hc_ => ?_)
  · replace hf := ot_t hf hc_
    exact gr_vret X dX12_steps_79 (Option.some.inj hf)
  · replace hf := ot_f hf hc_
    refine gr_aload_n X dX12_steps_7 rfl 0 rfl ?_
    refine gM_get_0 X hK dX12_steps_8 ?_
    refine gr_sipush (v := 130) X dX12_steps_11 (by decide) ?_
    refine gr_iconst (v := 3) X dX12_steps_14 (by decide) ?_
    refine gr_aload_n X dX12_steps_15 rfl 0 rfl ?_
    refine gM_get_0 X hK dX12_steps_16 ?_
    refine gr_bipush (v := 7) X dX12_steps_19 (by decide) ?_
    refine gM_ald_0 X hK 7 (by decide) (by decide) dX12_steps_21 ?_
    refine gr_imul X dX12_steps_22 ?_
    refine gr_iadd X dX12_steps_23 ?_
    refine gr_iload_n X dX12_steps_24 rfl 1 rfl ?_
    have hi_ := oc_1 hf
    replace hf := oc_2 hf
    refine gM_ast_0 X hK (Int32.toNatClampNeg ((130 : Int32) + ((3 : Int32) * (σ 0 7)))) hi_ rfl dX12_steps_25 ?_
    refine gM_gen (fun σ1 e_σ1 => ?_)
    replace hf := ot_l hf e_σ1
    refine gr_aload_n X dX12_steps_26 rfl 0 rfl ?_
    refine gM_get_0 X hK dX12_steps_27 ?_
    refine gr_sipush (v := 130) X dX12_steps_30 (by decide) ?_
    refine gr_iconst (v := 3) X dX12_steps_33 (by decide) ?_
    refine gr_aload_n X dX12_steps_34 rfl 0 rfl ?_
    refine gM_get_0 X hK dX12_steps_35 ?_
    refine gr_bipush (v := 7) X dX12_steps_38 (by decide) ?_
    refine gM_ald_0 X hK 7 (by decide) (by decide) dX12_steps_40 ?_
    refine gr_imul X dX12_steps_41 ?_
    refine gr_iadd X dX12_steps_42 ?_
    refine gr_iconst (v := 1) X dX12_steps_43 (by decide) ?_
    refine gr_iadd X dX12_steps_44 ?_
    refine gr_iload_n X dX12_steps_45 rfl 2 rfl ?_
    have hi_ := oc_1 hf
    replace hf := oc_2 hf
    refine gM_ast_0 X hK (Int32.toNatClampNeg (((130 : Int32) + ((3 : Int32) * (σ1 0 7))) + (1 : Int32))) hi_ rfl dX12_steps_46 ?_
    refine gM_gen (fun σ2 e_σ2 => ?_)
    replace hf := ot_l hf e_σ2
    refine gr_aload_n X dX12_steps_47 rfl 0 rfl ?_
    refine gM_get_0 X hK dX12_steps_48 ?_
    refine gr_sipush (v := 130) X dX12_steps_51 (by decide) ?_
    refine gr_iconst (v := 3) X dX12_steps_54 (by decide) ?_
    refine gr_aload_n X dX12_steps_55 rfl 0 rfl ?_
    refine gM_get_0 X hK dX12_steps_56 ?_
    refine gr_bipush (v := 7) X dX12_steps_59 (by decide) ?_
    refine gM_ald_0 X hK 7 (by decide) (by decide) dX12_steps_61 ?_
    refine gr_imul X dX12_steps_62 ?_
    refine gr_iadd X dX12_steps_63 ?_
    refine gr_iconst (v := 2) X dX12_steps_64 (by decide) ?_
    refine gr_iadd X dX12_steps_65 ?_
    refine gr_iload_n X dX12_steps_66 rfl 3 rfl ?_
    have hi_ := oc_1 hf
    replace hf := oc_2 hf
    refine gM_ast_0 X hK (Int32.toNatClampNeg (((130 : Int32) + ((3 : Int32) * (σ2 0 7))) + (2 : Int32))) hi_ rfl dX12_steps_67 ?_
    refine gM_gen (fun σ3 e_σ3 => ?_)
    replace hf := ot_l hf e_σ3
    refine gr_aload_n X dX12_steps_68 rfl 0 rfl ?_
    refine gM_get_0 X hK dX12_steps_69 ?_
    refine gr_bipush (v := 7) X dX12_steps_72 (by decide) ?_
    refine gr_dup2 X dX12_steps_74 rfl rfl ?_
    refine gM_ald_0 X hK 7 (by decide) (by decide) dX12_steps_75 ?_
    refine gr_iconst (v := 1) X dX12_steps_76 (by decide) ?_
    refine gr_iadd X dX12_steps_77 ?_
    refine gM_ast_0 X hK 7 (by decide) (by decide) dX12_steps_78 ?_
    refine gM_gen (fun σ4 e_σ4 => ?_)
    replace hf := ot_l hf e_σ4
    exact gr_vret X dX12_steps_79 (Option.some.inj hf)
abbrev rm_valueHere : Room := { frames := 3, cells := 0, slots := 0, locals := 66 }
def fm_valueHere_b21 (x1 : Int32) (y0 : Int32) (σ : SM) : Option (Int32 × SM) := (if 0 ≤ x1 then (Option.bind (fm_needs (1 : Int32) σ) fun σ3 => (some (y0, σ3))) else (if ¬ (σ 6 0) = (2 : Int32) then (Option.bind (fm_needs (0 : Int32) σ) fun σ5 => (some (y0, σ5))) else (if (4 : Int32) < ((σ 8 0) - (σ 7 0)) then (Option.bind (fm_needs (0 : Int32) σ) fun σ7 => (some (y0, σ7))) else (Option.bind (fm_needs (1 : Int32) σ) fun σ9 => (some (y0, σ9))))))
def fm_valueHere (σ : SM) : Option (Int32 × SM) := (Option.bind (fm_factHere σ) fun q1 => (if q1 < 0 then (fm_valueHere_b21 q1 (σ 9 0) σ) else (fm_valueHere_b21 q1 ((10000 : Int32) + q1) σ)))
set_option maxHeartbeats 4000000 in
set_option maxRecDepth 100000 in
theorem wm_valueHere_b21 {p : Program} {l : Launch} {e : Env} {s : State} {m : MethodId} {args : Array Value} {below : List Frame} {meth : Method} {c : Code} {A : Nat → Prop} {D : va_G} {cA : ClassId} {h : Nat} {ad : Nat → Nat} {r : Int32} {τ : SM} (X : hc p s m args meth c RX12 cX12_valueHere 3 (some .int)) (hK : kM D cA A s) (hA : ∀ q, s.heap.size ≤ q → A q)   (x1 : Int32) (y0 : Int32) (σ : SM) (hf : fm_valueHere_b21 x1 y0 σ = some (r, τ)) : gg p l e rm_valueHere s m args below meth c (wM h ad cA) D vwCl A 3 (QI below args s (wM h ad cA) D vwCl A r τ) 21 [(0, .ref h), (1, .int x1)] [.int y0] σ := by
  unfold fm_valueHere_b21 at hf
  refine gr_istore_n (L2 := [(2, .int y0), (0, .ref h), (1, .int x1)]) X dX12_valueHere_21 rfl (by decide) rfl ?_
  refine gr_aload_n X dX12_valueHere_22 rfl 1 rfl ?_
  refine gr_iload_n X dX12_valueHere_23 rfl 2 rfl ?_
  refine gr_if_ge X 48 dX12_valueHere_24 (by decide) (fun hc_ => ?_) (fun hc_ => ?_)
  · replace hf := ot_t hf hc_
    refine gr_iconst (v := 1) X dX12_valueHere_48 (by decide) ?_
    refine gr_goto X 53 dX12_valueHere_49 (by decide) ?_
    obtain ⟨σ3, hq_, hf⟩ := ot_b hf
    refine gc_Vv (rest := []) X kM_ok hK hA cw12_needs (rvM hK) (xm_needs hq_) rfl ⟨rfl, rfl, Nat.le_of_ble_eq_true rfl, Nat.le_of_ble_eq_true rfl⟩ rfl (Nat.le_of_ble_eq_true rfl) dX12_valueHere_53 ?_
    refine gr_iload_n X dX12_valueHere_56 rfl 0 rfl ?_
    exact gr_iret X dX12_valueHere_57 (Prod.mk.inj (Option.some.inj hf)).1 (Prod.mk.inj (Option.some.inj hf)).2
  · replace hf := ot_f hf hc_
    refine gr_aload_n X dX12_valueHere_27 rfl 1 rfl ?_
    refine gM_get_6 X hK dX12_valueHere_28 ?_
    refine gr_iconst (v := 2) X dX12_valueHere_31 (by decide) ?_
    refine gr_icmp_ne X 52 dX12_valueHere_32 (by decide) (fun hc_ => ?_) (fun hc_ => ?_)
    · replace hf := ot_t hf hc_
      refine gr_iconst (v := 0) X dX12_valueHere_52 (by decide) ?_
      obtain ⟨σ5, hq_, hf⟩ := ot_b hf
      refine gc_Vv (rest := []) X kM_ok hK hA cw12_needs (rvM hK) (xm_needs hq_) rfl ⟨rfl, rfl, Nat.le_of_ble_eq_true rfl, Nat.le_of_ble_eq_true rfl⟩ rfl (Nat.le_of_ble_eq_true rfl) dX12_valueHere_53 ?_
      refine gr_iload_n X dX12_valueHere_56 rfl 0 rfl ?_
      exact gr_iret X dX12_valueHere_57 (Prod.mk.inj (Option.some.inj hf)).1 (Prod.mk.inj (Option.some.inj hf)).2
    · replace hf := ot_f hf hc_
      refine gr_aload_n X dX12_valueHere_35 rfl 1 rfl ?_
      refine gM_get_8 X hK dX12_valueHere_36 ?_
      refine gr_aload_n X dX12_valueHere_39 rfl 1 rfl ?_
      refine gM_get_7 X hK dX12_valueHere_40 ?_
      refine gr_isub X dX12_valueHere_43 ?_
      refine gr_iconst (v := 4) X dX12_valueHere_44 (by decide) ?_
      refine gr_icmp_gt X 52 dX12_valueHere_45 (by decide) (fun hc_ => ?_) (fun hc_ => ?_)
      · replace hf := ot_t hf hc_
        refine gr_iconst (v := 0) X dX12_valueHere_52 (by decide) ?_
        obtain ⟨σ7, hq_, hf⟩ := ot_b hf
        refine gc_Vv (rest := []) X kM_ok hK hA cw12_needs (rvM hK) (xm_needs hq_) rfl ⟨rfl, rfl, Nat.le_of_ble_eq_true rfl, Nat.le_of_ble_eq_true rfl⟩ rfl (Nat.le_of_ble_eq_true rfl) dX12_valueHere_53 ?_
        refine gr_iload_n X dX12_valueHere_56 rfl 0 rfl ?_
        exact gr_iret X dX12_valueHere_57 (Prod.mk.inj (Option.some.inj hf)).1 (Prod.mk.inj (Option.some.inj hf)).2
      · replace hf := ot_f hf hc_
        refine gr_iconst (v := 1) X dX12_valueHere_48 (by decide) ?_
        refine gr_goto X 53 dX12_valueHere_49 (by decide) ?_
        obtain ⟨σ9, hq_, hf⟩ := ot_b hf
        refine gc_Vv (rest := []) X kM_ok hK hA cw12_needs (rvM hK) (xm_needs hq_) rfl ⟨rfl, rfl, Nat.le_of_ble_eq_true rfl, Nat.le_of_ble_eq_true rfl⟩ rfl (Nat.le_of_ble_eq_true rfl) dX12_valueHere_53 ?_
        refine gr_iload_n X dX12_valueHere_56 rfl 0 rfl ?_
        exact gr_iret X dX12_valueHere_57 (Prod.mk.inj (Option.some.inj hf)).1 (Prod.mk.inj (Option.some.inj hf)).2
set_option maxHeartbeats 4000000 in
set_option maxRecDepth 100000 in
theorem xm_valueHere {l : Launch} {D : va_G} {cA : ClassId} {h : Nat} {ad : Nat → Nat} {σ : SM} {r : Int32} {τ : SM} (hf : fm_valueHere σ = some (r, τ)) : ctI l (wM h ad cA) D vwCl (kM D cA) yX12_valueHere cX12_valueHere 3 .int rm_valueHere [.ref h] σ r τ := by
  refine ct_I RX12 (by decide +kernel) rfl (Nat.le_of_ble_eq_true rfl) ?_
  intro p e s m args below meth c A X hK hA
  refine gr_eqL (L2 := [(0, .ref h)]) rfl ?_
  unfold fm_valueHere at hf
  refine gr_aload_n X dX12_valueHere_0 rfl 0 rfl ?_
  obtain ⟨q1, hq_, hf⟩ := ot_b hf
  refine gc_Vi (rest := []) X kM_ok hK hA cw12_factHere (rvM hK) (xm_factHere hq_) rfl ⟨rfl, rfl, Nat.le_of_ble_eq_true rfl, Nat.le_of_ble_eq_true rfl⟩ rfl (Nat.le_of_ble_eq_true rfl) dX12_valueHere_1 ?_
  refine gr_istore_n (L2 := [(1, .int q1), (0, .ref h)]) X dX12_valueHere_4 rfl (by decide) rfl ?_
  refine gr_iload_n X dX12_valueHere_5 rfl 0 rfl ?_
  refine gr_if_lt X 17 dX12_valueHere_6 (by decide) (fun hc_ => ?_) (fun hc_ => ?_)
  · replace hf := ot_t hf hc_
    refine gr_aload_n X dX12_valueHere_17 rfl 1 rfl ?_
    refine gM_get_9 X hK dX12_valueHere_18 ?_
    refine gr_sub [1, 0] rfl ?_
    exact wm_valueHere_b21 X hK hA _ _ _ hf
  · replace hf := ot_f hf hc_
    refine gr_sipush (v := 10000) X dX12_valueHere_9 (by decide) ?_
    refine gr_iload_n X dX12_valueHere_12 rfl 0 rfl ?_
    refine gr_iadd X dX12_valueHere_13 ?_
    refine gr_goto X 21 dX12_valueHere_14 (by decide) ?_
    refine gr_sub [1, 0] rfl ?_
    exact wm_valueHere_b21 X hK hA _ _ _ hf
abbrev rm_comparesHere : Room := { frames := 4, cells := 0, slots := 0, locals := 88 }
def fm_comparesHere_b66 (x1 : Int32) (x2 : Int32) (y0 : Int32) (σ : SM) : Option SM := (Option.bind (fm_needs y0 σ) fun σ7 => (Option.bind (fm_valueHere σ7) fun p_ => hl p_.1 fun q8 => hl p_.2 fun σ9 => (Option.bind (fm_steps x2 x1 q8 σ9) fun σ11 => (some σ11))))
def fm_comparesHere_b61 (x1 : Int32) (x2 : Int32) (σ : SM) : Option SM := (fm_comparesHere_b66 x1 x2 (1 : Int32) σ)
def fm_comparesHere_b32 (x1 : Int32) (y0 : Int32) (σ : SM) : Option SM := (Option.bind (fm_isByte σ (60 : Int32)) fun q5 => (if ¬ q5 = 0 then (fm_comparesHere_b61 x1 y0 σ) else (Option.bind (fm_isByte σ (61 : Int32)) fun q12 => (if ¬ q12 = 0 then (fm_comparesHere_b61 x1 y0 σ) else (Option.bind (fm_isByte σ (62 : Int32)) fun q13 => (if q13 = 0 then (fm_comparesHere_b66 x1 y0 (0 : Int32) σ) else (fm_comparesHere_b61 x1 y0 σ)))))))
def fm_comparesHere (σ : SM) : Option SM := (Option.bind (fm_valueHere σ) fun p_ => hl p_.1 fun q1 => hl p_.2 fun σ2 => (Option.bind (fm_isByte σ2 (60 : Int32)) fun q3 => (if q3 = 0 then (Option.bind (fm_isByte σ2 (61 : Int32)) fun q4 => (if q4 = 0 then (fm_comparesHere_b32 q1 (2 : Int32) σ2) else (fm_comparesHere_b32 q1 (1 : Int32) σ2))) else (fm_comparesHere_b32 q1 (0 : Int32) σ2))))
set_option maxHeartbeats 4000000 in
set_option maxRecDepth 100000 in
theorem wm_comparesHere_b66 {p : Program} {l : Launch} {e : Env} {s : State} {m : MethodId} {args : Array Value} {below : List Frame} {meth : Method} {c : Code} {A : Nat → Prop} {D : va_G} {cA : ClassId} {h : Nat} {ad : Nat → Nat} {τ : SM} (X : hc p s m args meth c RX12 cX12_comparesHere 4 none) (hK : kM D cA A s) (hA : ∀ q, s.heap.size ≤ q → A q)   (x1 : Int32) (x2 : Int32) (y0 : Int32) (σ : SM) (hf : fm_comparesHere_b66 x1 x2 y0 σ = some τ) : gg p l e rm_comparesHere s m args below meth c (wM h ad cA) D vwCl A 4 (QV below args s (wM h ad cA) D vwCl A τ) 66 [(0, .ref h), (1, .int x1), (2, .int x2)] [.int y0, .ref h] σ := by
  unfold fm_comparesHere_b66 at hf
  obtain ⟨σ7, hq_, hf⟩ := ot_b hf
  refine gc_Vv (rest := []) X kM_ok hK hA cw12_needs (rvM hK) (xm_needs hq_) rfl ⟨rfl, rfl, Nat.le_of_ble_eq_true rfl, Nat.le_of_ble_eq_true rfl⟩ rfl (Nat.le_of_ble_eq_true rfl) dX12_comparesHere_66 ?_
  refine gr_aload_n X dX12_comparesHere_69 rfl 0 rfl ?_
  obtain ⟨⟨q8, σ9⟩, hq_, hf⟩ := ot_b hf
  replace hf := ot_l (y := q8) hf rfl
  replace hf := ot_l (y := σ9) hf rfl
  refine gc_Vi (rest := []) X kM_ok hK hA cw12_valueHere (rvM hK) (xm_valueHere hq_) rfl ⟨rfl, rfl, Nat.le_of_ble_eq_true rfl, Nat.le_of_ble_eq_true rfl⟩ rfl (Nat.le_of_ble_eq_true rfl) dX12_comparesHere_70 ?_
  refine gr_istore_n (L2 := [(3, .int q8), (0, .ref h), (1, .int x1), (2, .int x2)]) X dX12_comparesHere_73 rfl (by decide) rfl ?_
  refine gr_aload_n X dX12_comparesHere_74 rfl 1 rfl ?_
  refine gr_iload_n X dX12_comparesHere_75 rfl 3 rfl ?_
  refine gr_iload_n X dX12_comparesHere_76 rfl 2 rfl ?_
  refine gr_iload_n X dX12_comparesHere_77 rfl 0 rfl ?_
  obtain ⟨σ11, hq_, hf⟩ := ot_b hf
  refine gc_Vv (rest := []) X kM_ok hK hA cw12_steps (rvM hK) (xm_steps hq_) rfl ⟨rfl, rfl, Nat.le_of_ble_eq_true rfl, Nat.le_of_ble_eq_true rfl⟩ rfl (Nat.le_of_ble_eq_true rfl) dX12_comparesHere_78 ?_
  exact gr_vret X dX12_comparesHere_81 (Option.some.inj hf)
set_option maxHeartbeats 4000000 in
set_option maxRecDepth 100000 in
theorem wm_comparesHere_b61 {p : Program} {l : Launch} {e : Env} {s : State} {m : MethodId} {args : Array Value} {below : List Frame} {meth : Method} {c : Code} {A : Nat → Prop} {D : va_G} {cA : ClassId} {h : Nat} {ad : Nat → Nat} {τ : SM} (X : hc p s m args meth c RX12 cX12_comparesHere 4 none) (hK : kM D cA A s) (hA : ∀ q, s.heap.size ≤ q → A q)   (x1 : Int32) (x2 : Int32) (σ : SM) (hf : fm_comparesHere_b61 x1 x2 σ = some τ) : gg p l e rm_comparesHere s m args below meth c (wM h ad cA) D vwCl A 4 (QV below args s (wM h ad cA) D vwCl A τ) 61 [(0, .ref h), (1, .int x1), (2, .int x2)] [.ref h] σ := by
  unfold fm_comparesHere_b61 at hf
  refine gr_iconst (v := 1) X dX12_comparesHere_61 (by decide) ?_
  refine gr_goto X 66 dX12_comparesHere_62 (by decide) ?_
  refine gr_sub [0, 1, 2] rfl ?_
  exact wm_comparesHere_b66 X hK hA _ _ _ _ hf
set_option maxHeartbeats 4000000 in
set_option maxRecDepth 100000 in
theorem wm_comparesHere_b32 {p : Program} {l : Launch} {e : Env} {s : State} {m : MethodId} {args : Array Value} {below : List Frame} {meth : Method} {c : Code} {A : Nat → Prop} {D : va_G} {cA : ClassId} {h : Nat} {ad : Nat → Nat} {τ : SM} (X : hc p s m args meth c RX12 cX12_comparesHere 4 none) (hK : kM D cA A s) (hA : ∀ q, s.heap.size ≤ q → A q)   (x1 : Int32) (y0 : Int32) (σ : SM) (hf : fm_comparesHere_b32 x1 y0 σ = some τ) : gg p l e rm_comparesHere s m args below meth c (wM h ad cA) D vwCl A 4 (QV below args s (wM h ad cA) D vwCl A τ) 32 [(0, .ref h), (1, .int x1)] [.int y0] σ := by
  unfold fm_comparesHere_b32 at hf
  refine gr_istore_n (L2 := [(2, .int y0), (0, .ref h), (1, .int x1)]) X dX12_comparesHere_32 rfl (by decide) rfl ?_
  refine gr_aload_n X dX12_comparesHere_33 rfl 1 rfl ?_
  refine gr_aload_n X dX12_comparesHere_34 rfl 1 rfl ?_
  refine gr_bipush (v := 60) X dX12_comparesHere_35 (by decide) ?_
  obtain ⟨q5, hq_, hf⟩ := ot_b hf
  refine gc_Vi (rest := [.ref h]) X kM_ok hK hA cw12_isByte (rvM hK) (xm_isByte hq_) rfl ⟨rfl, rfl, Nat.le_of_ble_eq_true rfl, Nat.le_of_ble_eq_true rfl⟩ rfl (Nat.le_of_ble_eq_true rfl) dX12_comparesHere_37 ?_
  refine gr_if_ne X 61 dX12_comparesHere_40 (by decide) (fun hc_ => ?_) (fun hc_ => ?_)
  · replace hf := ot_t hf hc_
    refine gr_sub [1, 2, 0] rfl ?_
    exact wm_comparesHere_b61 X hK hA _ _ _ hf
  · replace hf := ot_f hf hc_
    refine gr_aload_n X dX12_comparesHere_43 rfl 1 rfl ?_
    refine gr_bipush (v := 61) X dX12_comparesHere_44 (by decide) ?_
    obtain ⟨q12, hq_, hf⟩ := ot_b hf
    refine gc_Vi (rest := [.ref h]) X kM_ok hK hA cw12_isByte (rvM hK) (xm_isByte hq_) rfl ⟨rfl, rfl, Nat.le_of_ble_eq_true rfl, Nat.le_of_ble_eq_true rfl⟩ rfl (Nat.le_of_ble_eq_true rfl) dX12_comparesHere_46 ?_
    refine gr_if_ne X 61 dX12_comparesHere_49 (by decide) (fun hc_ => ?_) (fun hc_ => ?_)
    · replace hf := ot_t hf hc_
      refine gr_sub [1, 2, 0] rfl ?_
      exact wm_comparesHere_b61 X hK hA _ _ _ hf
    · replace hf := ot_f hf hc_
      refine gr_aload_n X dX12_comparesHere_52 rfl 1 rfl ?_
      refine gr_bipush (v := 62) X dX12_comparesHere_53 (by decide) ?_
      obtain ⟨q13, hq_, hf⟩ := ot_b hf
      refine gc_Vi (rest := [.ref h]) X kM_ok hK hA cw12_isByte (rvM hK) (xm_isByte hq_) rfl ⟨rfl, rfl, Nat.le_of_ble_eq_true rfl, Nat.le_of_ble_eq_true rfl⟩ rfl (Nat.le_of_ble_eq_true rfl) dX12_comparesHere_55 ?_
      refine gr_if_eq X 65 dX12_comparesHere_58 (by decide) (fun hc_ => ?_) (fun hc_ => ?_)
      · replace hf := ot_t hf hc_
        refine gr_iconst (v := 0) X dX12_comparesHere_65 (by decide) ?_
        refine gr_sub [1, 2, 0] rfl ?_
        exact wm_comparesHere_b66 X hK hA _ _ _ _ hf
      · replace hf := ot_f hf hc_
        refine gr_sub [1, 2, 0] rfl ?_
        exact wm_comparesHere_b61 X hK hA _ _ _ hf
set_option maxHeartbeats 4000000 in
set_option maxRecDepth 100000 in
theorem xm_comparesHere {l : Launch} {D : va_G} {cA : ClassId} {h : Nat} {ad : Nat → Nat} {σ : SM} {τ : SM} (hf : fm_comparesHere σ = some τ) : ctV l (wM h ad cA) D vwCl (kM D cA) yX12_comparesHere cX12_comparesHere 4 rm_comparesHere [.ref h] σ τ := by
  refine ct_V RX12 (by decide +kernel) rfl (Nat.le_of_ble_eq_true rfl) ?_
  intro p e s m args below meth c A X hK hA
  refine gr_eqL (L2 := [(0, .ref h)]) rfl ?_
  unfold fm_comparesHere at hf
  refine gr_aload_n X dX12_comparesHere_0 rfl 0 rfl ?_
  obtain ⟨⟨q1, σ2⟩, hq_, hf⟩ := ot_b hf
  replace hf := ot_l (y := q1) hf rfl
  replace hf := ot_l (y := σ2) hf rfl
  refine gc_Vi (rest := []) X kM_ok hK hA cw12_valueHere (rvM hK) (xm_valueHere hq_) rfl ⟨rfl, rfl, Nat.le_of_ble_eq_true rfl, Nat.le_of_ble_eq_true rfl⟩ rfl (Nat.le_of_ble_eq_true rfl) dX12_comparesHere_1 ?_
  refine gr_istore_n (L2 := [(1, .int q1), (0, .ref h)]) X dX12_comparesHere_4 rfl (by decide) rfl ?_
  refine gr_aload_n X dX12_comparesHere_5 rfl 1 rfl ?_
  refine gr_bipush (v := 60) X dX12_comparesHere_6 (by decide) ?_
  obtain ⟨q3, hq_, hf⟩ := ot_b hf
  refine gc_Vi (rest := []) X kM_ok hK hA cw12_isByte (rvM hK) (xm_isByte hq_) rfl ⟨rfl, rfl, Nat.le_of_ble_eq_true rfl, Nat.le_of_ble_eq_true rfl⟩ rfl (Nat.le_of_ble_eq_true rfl) dX12_comparesHere_8 ?_
  refine gr_if_eq X 18 dX12_comparesHere_11 (by decide) (fun hc_ => ?_) (fun hc_ => ?_)
  · replace hf := ot_t hf hc_
    refine gr_aload_n X dX12_comparesHere_18 rfl 1 rfl ?_
    refine gr_bipush (v := 61) X dX12_comparesHere_19 (by decide) ?_
    obtain ⟨q4, hq_, hf⟩ := ot_b hf
    refine gc_Vi (rest := []) X kM_ok hK hA cw12_isByte (rvM hK) (xm_isByte hq_) rfl ⟨rfl, rfl, Nat.le_of_ble_eq_true rfl, Nat.le_of_ble_eq_true rfl⟩ rfl (Nat.le_of_ble_eq_true rfl) dX12_comparesHere_21 ?_
    refine gr_if_eq X 31 dX12_comparesHere_24 (by decide) (fun hc_ => ?_) (fun hc_ => ?_)
    · replace hf := ot_t hf hc_
      refine gr_iconst (v := 2) X dX12_comparesHere_31 (by decide) ?_
      refine gr_sub [1, 0] rfl ?_
      exact wm_comparesHere_b32 X hK hA _ _ _ hf
    · replace hf := ot_f hf hc_
      refine gr_iconst (v := 1) X dX12_comparesHere_27 (by decide) ?_
      refine gr_goto X 32 dX12_comparesHere_28 (by decide) ?_
      refine gr_sub [1, 0] rfl ?_
      exact wm_comparesHere_b32 X hK hA _ _ _ hf
  · replace hf := ot_f hf hc_
    refine gr_iconst (v := 0) X dX12_comparesHere_14 (by decide) ?_
    refine gr_goto X 32 dX12_comparesHere_15 (by decide) ?_
    refine gr_sub [1, 0] rfl ?_
    exact wm_comparesHere_b32 X hK hA _ _ _ hf
def rm_oneHere (rq : Room) : Room := { frames := rq.frames + 6, cells := 0, slots := 0, locals := rq.locals + 131 }
def fm_oneHere_l2 (Rc : SM → Option SM) (K35 : Int32 → SM → Option SM) : Nat → Int32 → SM → Option SM
  | 0, _, _ => none
  | n + 1, x1, σ => (if ¬ (σ 10 0) = 0 then (K35 x1 σ) else (Option.bind (fm_isName σ (3 : Int32) (110 : Int32) (111 : Int32) (116 : Int32) (116 : Int32)) fun q1 => (if q1 = 0 then (K35 x1 σ) else (Option.bind (fm_nextToken σ) fun σ3 => ((fm_oneHere_l2 Rc K35 n) (x1 + (1 : Int32)) σ3)))))
def fm_oneHere_b116 (Rc : SM → Option SM) (x1 : Int32) (σ : SM) : Option SM := (if ¬ (hrem x1 (2 : Int32)) = (1 : Int32) then (some σ) else (Option.bind (fm_steps (3 : Int32) (0 : Int32) (0 : Int32) σ) fun σ5 => (some σ5)))
def fm_oneHere_b105 (Rc : SM → Option SM) (x1 : Int32) (σ : SM) : Option SM := (if ¬ (σ 10 0) = 0 then (fm_oneHere_b116 Rc x1 σ) else (Option.bind (fm_comparesHere σ) fun σ7 => (fm_oneHere_b116 Rc x1 σ7)))
def fm_oneHere_b65 (Rc : SM → Option SM) (x1 : Int32) (y0 : Int32) (σ : SM) : Option SM := (Option.bind (fm_needs y0 σ) fun σ10 => (hl (sf σ10 11 (fun _ => ((σ10 11 0) + (1 : Int32)))) fun σ11 => (Option.bind (Rc σ11) fun σ13 => (Option.bind (fm_isByte σ13 (41 : Int32)) fun q14 => (Option.bind (fm_needs q14 σ13) fun σ16 => (hl (sf σ16 11 (fun _ => ((σ16 11 0) - (1 : Int32)))) fun σ17 => (fm_oneHere_b116 Rc x1 σ17)))))))
def fm_oneHere_b35 (Rc : SM → Option SM) (x1 : Int32) (σ : SM) : Option SM := (if ¬ (σ 10 0) = 0 then (fm_oneHere_b105 Rc x1 σ) else (Option.bind (fm_isByte σ (40 : Int32)) fun q8 => (if q8 = 0 then (fm_oneHere_b105 Rc x1 σ) else (if (3 : Int32) ≤ (σ 11 0) then (fm_oneHere_b65 Rc x1 (0 : Int32) σ) else (fm_oneHere_b65 Rc x1 (1 : Int32) σ)))))
def fm_oneHere (Rc : SM → Option SM) (σ : SM) : Option SM := (fm_oneHere_l2 Rc (fun x1 σ => (fm_oneHere_b35 Rc x1 σ)) hFU (0 : Int32) σ)
set_option maxHeartbeats 4000000 in
set_option maxRecDepth 100000 in
theorem wm_oneHere_l2 {p : Program} {l : Launch} {e : Env} {s : State} {m : MethodId} {args : Array Value} {below : List Frame} {meth : Method} {c : Code} {A : Nat → Prop} {D : va_G} {cA : ClassId} {h : Nat} {ad : Nat → Nat} {τ : SM} {rq : Room} {Rc : SM → Option SM} {K35 : Int32 → SM → Option SM} (X : hc p s m args meth c RX12 cX12_oneHere 2 none) (hK : kM D cA A s) (hA : ∀ q, s.heap.size ≤ q → A q) (hq0 : rq.cells = 0 ∧ rq.slots = 0) (hRc : ∀ (σ : SM) (τ : SM), Rc  σ = some τ → ctV l (wM h ad cA) D vwCl (kM D cA) yX12_condHere cX12_condHere 1 rq [.ref h] σ τ) (hK35 : (∀ (x1 : Int32) (σ : SM), K35 x1 σ = some τ → gg p l e (rm_oneHere rq) s m args below meth c (wM h ad cA) D vwCl A 2 (QV below args s (wM h ad cA) D vwCl A τ) 35 [(0, .ref h), (1, .int x1)] [] σ)) : ∀ (n : Nat) (x1 : Int32) (σ : SM), fm_oneHere_l2 Rc K35 n x1 σ = some τ → gg p l e (rm_oneHere rq) s m args below meth c (wM h ad cA) D vwCl A 2 (QV below args s (wM h ad cA) D vwCl A τ) 2 [(0, .ref h), (1, .int x1)] [] σ := by
  intro n
  induction n with
  | zero =>
    intro x1 σ hf
    cases (show (none : Option SM) = some τ from hf)
  | succ n ih =>
    intro x1 σ hf
    unfold fm_oneHere_l2 at hf
    refine gr_aload_n X dX12_oneHere_2 rfl 0 rfl ?_
    refine gM_get_10 X hK dX12_oneHere_3 ?_
    refine gr_if_ne X 35 dX12_oneHere_6 (by decide) (fun hc_ => ?_) (fun hc_ => ?_)
    · replace hf := ot_t hf hc_
      refine gr_sub [0, 1] rfl ?_
      exact hK35 _ _ hf
    · replace hf := ot_f hf hc_
      refine gr_aload_n X dX12_oneHere_9 rfl 0 rfl ?_
      refine gr_iconst (v := 3) X dX12_oneHere_10 (by decide) ?_
      refine gr_bipush (v := 110) X dX12_oneHere_11 (by decide) ?_
      refine gr_bipush (v := 111) X dX12_oneHere_13 (by decide) ?_
      refine gr_bipush (v := 116) X dX12_oneHere_15 (by decide) ?_
      refine gr_bipush (v := 116) X dX12_oneHere_17 (by decide) ?_
      obtain ⟨q1, hq_, hf⟩ := ot_b hf
      refine gc_Vi (rest := []) X kM_ok hK hA cw12_isName (rvM hK) (xm_isName hq_) rfl ⟨rfl, rfl, by simp only [rm_oneHere, rm_isName]; omega, by simp only [rm_oneHere, rm_isName]; omega⟩ rfl (Nat.le_of_ble_eq_true rfl) dX12_oneHere_19 ?_
      refine gr_if_eq X 35 dX12_oneHere_22 (by decide) (fun hc_ => ?_) (fun hc_ => ?_)
      · replace hf := ot_t hf hc_
        refine gr_sub [0, 1] rfl ?_
        exact hK35 _ _ hf
      · replace hf := ot_f hf hc_
        refine gr_iinc (k := 1) (v := 1) (L2 := [(1, .int (x1 + (1 : Int32))), (0, .ref h)]) X dX12_oneHere_25 rfl (by decide) (by decide) rfl ?_
        refine gr_aload_n X dX12_oneHere_28 rfl 1 rfl ?_
        obtain ⟨σ3, hq_, hf⟩ := ot_b hf
        refine gc_Vv (rest := []) X kM_ok hK hA cw12_nextToken (rvM hK) (xm_nextToken hq_) rfl ⟨rfl, rfl, by simp only [rm_oneHere, rm_nextToken]; omega, by simp only [rm_oneHere, rm_nextToken]; omega⟩ rfl (Nat.le_of_ble_eq_true rfl) dX12_oneHere_29 ?_
        refine gr_goto X 2 dX12_oneHere_32 (by decide) ?_
        refine gr_sub [1, 0] rfl ?_
        exact ih _ _ hf
set_option maxHeartbeats 4000000 in
set_option maxRecDepth 100000 in
theorem wm_oneHere_b116 {p : Program} {l : Launch} {e : Env} {s : State} {m : MethodId} {args : Array Value} {below : List Frame} {meth : Method} {c : Code} {A : Nat → Prop} {D : va_G} {cA : ClassId} {h : Nat} {ad : Nat → Nat} {τ : SM} {rq : Room} {Rc : SM → Option SM} (X : hc p s m args meth c RX12 cX12_oneHere 2 none) (hK : kM D cA A s) (hA : ∀ q, s.heap.size ≤ q → A q) (hq0 : rq.cells = 0 ∧ rq.slots = 0) (hRc : ∀ (σ : SM) (τ : SM), Rc  σ = some τ → ctV l (wM h ad cA) D vwCl (kM D cA) yX12_condHere cX12_condHere 1 rq [.ref h] σ τ)   (x1 : Int32) (σ : SM) (hf : fm_oneHere_b116 Rc x1 σ = some τ) : gg p l e (rm_oneHere rq) s m args below meth c (wM h ad cA) D vwCl A 2 (QV below args s (wM h ad cA) D vwCl A τ) 116 [(0, .ref h), (1, .int x1)] [] σ := by
  unfold fm_oneHere_b116 at hf
  refine gr_iload_n X dX12_oneHere_116 rfl 1 rfl ?_
  refine gr_iconst (v := 2) X dX12_oneHere_117 (by decide) ?_
  refine gr_irem X dX12_oneHere_118 (by decide) ?_
  refine gr_iconst (v := 1) X dX12_oneHere_119 (by decide) ?_
  refine gr_icmp_ne X 130 dX12_oneHere_120 (by decide) (fun hc_ => ?_) (fun hc_ => ?_)
  · replace hf := ot_t hf hc_
    exact gr_vret X dX12_oneHere_130 (Option.some.inj hf)
  · replace hf := ot_f hf hc_
    refine gr_aload_n X dX12_oneHere_123 rfl 0 rfl ?_
    refine gr_iconst (v := 3) X dX12_oneHere_124 (by decide) ?_
    refine gr_iconst (v := 0) X dX12_oneHere_125 (by decide) ?_
    refine gr_iconst (v := 0) X dX12_oneHere_126 (by decide) ?_
    obtain ⟨σ5, hq_, hf⟩ := ot_b hf
    refine gc_Vv (rest := []) X kM_ok hK hA cw12_steps (rvM hK) (xm_steps hq_) rfl ⟨rfl, rfl, by simp only [rm_oneHere, rm_steps]; omega, by simp only [rm_oneHere, rm_steps]; omega⟩ rfl (Nat.le_of_ble_eq_true rfl) dX12_oneHere_127 ?_
    exact gr_vret X dX12_oneHere_130 (Option.some.inj hf)
set_option maxHeartbeats 4000000 in
set_option maxRecDepth 100000 in
theorem wm_oneHere_b105 {p : Program} {l : Launch} {e : Env} {s : State} {m : MethodId} {args : Array Value} {below : List Frame} {meth : Method} {c : Code} {A : Nat → Prop} {D : va_G} {cA : ClassId} {h : Nat} {ad : Nat → Nat} {τ : SM} {rq : Room} {Rc : SM → Option SM} (X : hc p s m args meth c RX12 cX12_oneHere 2 none) (hK : kM D cA A s) (hA : ∀ q, s.heap.size ≤ q → A q) (hq0 : rq.cells = 0 ∧ rq.slots = 0) (hRc : ∀ (σ : SM) (τ : SM), Rc  σ = some τ → ctV l (wM h ad cA) D vwCl (kM D cA) yX12_condHere cX12_condHere 1 rq [.ref h] σ τ)   (x1 : Int32) (σ : SM) (hf : fm_oneHere_b105 Rc x1 σ = some τ) : gg p l e (rm_oneHere rq) s m args below meth c (wM h ad cA) D vwCl A 2 (QV below args s (wM h ad cA) D vwCl A τ) 105 [(0, .ref h), (1, .int x1)] [] σ := by
  unfold fm_oneHere_b105 at hf
  refine gr_aload_n X dX12_oneHere_105 rfl 0 rfl ?_
  refine gM_get_10 X hK dX12_oneHere_106 ?_
  refine gr_if_ne X 116 dX12_oneHere_109 (by decide) (fun hc_ => ?_) (fun hc_ => ?_)
  · replace hf := ot_t hf hc_
    refine gr_sub [0, 1] rfl ?_
    exact wm_oneHere_b116 X hK hA hq0 hRc _ _ hf
  · replace hf := ot_f hf hc_
    refine gr_aload_n X dX12_oneHere_112 rfl 0 rfl ?_
    obtain ⟨σ7, hq_, hf⟩ := ot_b hf
    refine gc_Vv (rest := []) X kM_ok hK hA cw12_comparesHere (rvM hK) (xm_comparesHere hq_) rfl ⟨rfl, rfl, by simp only [rm_oneHere, rm_comparesHere]; omega, by simp only [rm_oneHere, rm_comparesHere]; omega⟩ rfl (Nat.le_of_ble_eq_true rfl) dX12_oneHere_113 ?_
    refine gr_sub [0, 1] rfl ?_
    exact wm_oneHere_b116 X hK hA hq0 hRc _ _ hf
set_option maxHeartbeats 4000000 in
set_option maxRecDepth 100000 in
theorem wm_oneHere_b65 {p : Program} {l : Launch} {e : Env} {s : State} {m : MethodId} {args : Array Value} {below : List Frame} {meth : Method} {c : Code} {A : Nat → Prop} {D : va_G} {cA : ClassId} {h : Nat} {ad : Nat → Nat} {τ : SM} {rq : Room} {Rc : SM → Option SM} (X : hc p s m args meth c RX12 cX12_oneHere 2 none) (hK : kM D cA A s) (hA : ∀ q, s.heap.size ≤ q → A q) (hq0 : rq.cells = 0 ∧ rq.slots = 0) (hRc : ∀ (σ : SM) (τ : SM), Rc  σ = some τ → ctV l (wM h ad cA) D vwCl (kM D cA) yX12_condHere cX12_condHere 1 rq [.ref h] σ τ)   (x1 : Int32) (y0 : Int32) (σ : SM) (hf : fm_oneHere_b65 Rc x1 y0 σ = some τ) : gg p l e (rm_oneHere rq) s m args below meth c (wM h ad cA) D vwCl A 2 (QV below args s (wM h ad cA) D vwCl A τ) 65 [(0, .ref h), (1, .int x1)] [.int y0, .ref h] σ := by
  unfold fm_oneHere_b65 at hf
  obtain ⟨σ10, hq_, hf⟩ := ot_b hf
  refine gc_Vv (rest := []) X kM_ok hK hA cw12_needs (rvM hK) (xm_needs hq_) rfl ⟨rfl, rfl, by simp only [rm_oneHere, rm_needs]; omega, by simp only [rm_oneHere, rm_needs]; omega⟩ rfl (Nat.le_of_ble_eq_true rfl) dX12_oneHere_65 ?_
  refine gr_aload_n X dX12_oneHere_68 rfl 0 rfl ?_
  refine gr_dup X dX12_oneHere_69 rfl ?_
  refine gM_get_11 X hK dX12_oneHere_70 ?_
  refine gr_iconst (v := 1) X dX12_oneHere_73 (by decide) ?_
  refine gr_iadd X dX12_oneHere_74 ?_
  refine gM_put_11 X hK dX12_oneHere_75 ?_
  refine gM_gen (fun σ11 e_σ11 => ?_)
  replace hf := ot_l hf e_σ11
  refine gr_aload_n X dX12_oneHere_78 rfl 0 rfl ?_
  obtain ⟨σ13, hq_, hf⟩ := ot_b hf
  refine gc_Vv (rest := []) X kM_ok hK hA cw12_condHere (rvM hK) (hRc _ _ hq_) rfl ⟨hq0.1, hq0.2, by simp only [rm_oneHere]; omega, by simp only [rm_oneHere]; omega⟩ rfl (Nat.le_of_ble_eq_true rfl) dX12_oneHere_79 ?_
  refine gr_aload_n X dX12_oneHere_82 rfl 0 rfl ?_
  refine gr_aload_n X dX12_oneHere_83 rfl 0 rfl ?_
  refine gr_bipush (v := 41) X dX12_oneHere_84 (by decide) ?_
  obtain ⟨q14, hq_, hf⟩ := ot_b hf
  refine gc_Vi (rest := [.ref h]) X kM_ok hK hA cw12_isByte (rvM hK) (xm_isByte hq_) rfl ⟨rfl, rfl, by simp only [rm_oneHere, rm_isByte]; omega, by simp only [rm_oneHere, rm_isByte]; omega⟩ rfl (Nat.le_of_ble_eq_true rfl) dX12_oneHere_86 ?_
  obtain ⟨σ16, hq_, hf⟩ := ot_b hf
  refine gc_Vv (rest := []) X kM_ok hK hA cw12_needs (rvM hK) (xm_needs hq_) rfl ⟨rfl, rfl, by simp only [rm_oneHere, rm_needs]; omega, by simp only [rm_oneHere, rm_needs]; omega⟩ rfl (Nat.le_of_ble_eq_true rfl) dX12_oneHere_89 ?_
  refine gr_aload_n X dX12_oneHere_92 rfl 0 rfl ?_
  refine gr_dup X dX12_oneHere_93 rfl ?_
  refine gM_get_11 X hK dX12_oneHere_94 ?_
  refine gr_iconst (v := 1) X dX12_oneHere_97 (by decide) ?_
  refine gr_isub X dX12_oneHere_98 ?_
  refine gM_put_11 X hK dX12_oneHere_99 ?_
  refine gM_gen (fun σ17 e_σ17 => ?_)
  replace hf := ot_l hf e_σ17
  refine gr_goto X 116 dX12_oneHere_102 (by decide) ?_
  refine gr_sub [0, 1] rfl ?_
  exact wm_oneHere_b116 X hK hA hq0 hRc _ _ hf
set_option maxHeartbeats 4000000 in
set_option maxRecDepth 100000 in
theorem wm_oneHere_b35 {p : Program} {l : Launch} {e : Env} {s : State} {m : MethodId} {args : Array Value} {below : List Frame} {meth : Method} {c : Code} {A : Nat → Prop} {D : va_G} {cA : ClassId} {h : Nat} {ad : Nat → Nat} {τ : SM} {rq : Room} {Rc : SM → Option SM} (X : hc p s m args meth c RX12 cX12_oneHere 2 none) (hK : kM D cA A s) (hA : ∀ q, s.heap.size ≤ q → A q) (hq0 : rq.cells = 0 ∧ rq.slots = 0) (hRc : ∀ (σ : SM) (τ : SM), Rc  σ = some τ → ctV l (wM h ad cA) D vwCl (kM D cA) yX12_condHere cX12_condHere 1 rq [.ref h] σ τ)   (x1 : Int32) (σ : SM) (hf : fm_oneHere_b35 Rc x1 σ = some τ) : gg p l e (rm_oneHere rq) s m args below meth c (wM h ad cA) D vwCl A 2 (QV below args s (wM h ad cA) D vwCl A τ) 35 [(0, .ref h), (1, .int x1)] [] σ := by
  unfold fm_oneHere_b35 at hf
  refine gr_aload_n X dX12_oneHere_35 rfl 0 rfl ?_
  refine gM_get_10 X hK dX12_oneHere_36 ?_
  refine gr_if_ne X 105 dX12_oneHere_39 (by decide) (fun hc_ => ?_) (fun hc_ => ?_)
  · replace hf := ot_t hf hc_
    refine gr_sub [0, 1] rfl ?_
    exact wm_oneHere_b105 X hK hA hq0 hRc _ _ hf
  · replace hf := ot_f hf hc_
    refine gr_aload_n X dX12_oneHere_42 rfl 0 rfl ?_
    refine gr_bipush (v := 40) X dX12_oneHere_43 (by decide) ?_
    obtain ⟨q8, hq_, hf⟩ := ot_b hf
    refine gc_Vi (rest := []) X kM_ok hK hA cw12_isByte (rvM hK) (xm_isByte hq_) rfl ⟨rfl, rfl, by simp only [rm_oneHere, rm_isByte]; omega, by simp only [rm_oneHere, rm_isByte]; omega⟩ rfl (Nat.le_of_ble_eq_true rfl) dX12_oneHere_45 ?_
    refine gr_if_eq X 105 dX12_oneHere_48 (by decide) (fun hc_ => ?_) (fun hc_ => ?_)
    · replace hf := ot_t hf hc_
      refine gr_sub [0, 1] rfl ?_
      exact wm_oneHere_b105 X hK hA hq0 hRc _ _ hf
    · replace hf := ot_f hf hc_
      refine gr_aload_n X dX12_oneHere_51 rfl 0 rfl ?_
      refine gr_aload_n X dX12_oneHere_52 rfl 0 rfl ?_
      refine gM_get_11 X hK dX12_oneHere_53 ?_
      refine gr_iconst (v := 3) X dX12_oneHere_56 (by decide) ?_
      refine gr_icmp_ge X 64 dX12_oneHere_57 (by decide) (fun hc_ => ?_) (fun hc_ => ?_)
      · replace hf := ot_t hf hc_
        refine gr_iconst (v := 0) X dX12_oneHere_64 (by decide) ?_
        refine gr_sub [0, 1] rfl ?_
        exact wm_oneHere_b65 X hK hA hq0 hRc _ _ _ hf
      · replace hf := ot_f hf hc_
        refine gr_iconst (v := 1) X dX12_oneHere_60 (by decide) ?_
        refine gr_goto X 65 dX12_oneHere_61 (by decide) ?_
        refine gr_sub [0, 1] rfl ?_
        exact wm_oneHere_b65 X hK hA hq0 hRc _ _ _ hf
set_option maxHeartbeats 4000000 in
set_option maxRecDepth 100000 in
theorem xm_oneHere {l : Launch} {D : va_G} {cA : ClassId} {h : Nat} {ad : Nat → Nat} {σ : SM} {τ : SM} {rq : Room} {Rc : SM → Option SM} (hq0 : rq.cells = 0 ∧ rq.slots = 0) (hRc : ∀ (σ : SM) (τ : SM), Rc  σ = some τ → ctV l (wM h ad cA) D vwCl (kM D cA) yX12_condHere cX12_condHere 1 rq [.ref h] σ τ) (hf : fm_oneHere Rc σ = some τ) : ctV l (wM h ad cA) D vwCl (kM D cA) yX12_oneHere cX12_oneHere 2 (rm_oneHere rq) [.ref h] σ τ := by
  refine ct_V RX12 (by decide +kernel) rfl (Nat.le_of_ble_eq_true rfl) ?_
  intro p e s m args below meth c A X hK hA
  refine gr_eqL (L2 := [(0, .ref h)]) rfl ?_
  unfold fm_oneHere at hf
  refine gr_iconst (v := 0) X dX12_oneHere_0 (by decide) ?_
  refine gr_istore_n (L2 := [(1, .int (0 : Int32)), (0, .ref h)]) X dX12_oneHere_1 rfl (by decide) rfl ?_
  refine gr_sub [1, 0] rfl ?_
  refine wm_oneHere_l2 X hK hA hq0 hRc (fun x1 σ hf => ?_) hFU _ _ hf
  refine gr_sub [0, 1] rfl ?_
  exact wm_oneHere_b35 X hK hA hq0 hRc _ _ hf
