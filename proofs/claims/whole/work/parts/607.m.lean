abbrev rm_game : Room := { frames := 73, cells := 0, slots := 0, locals := 1699 }
def fm_game (x1 : Int32) (σ : SM) : Option (Int32 × SM) := (Option.bind (fm_isIn (Int32.toInt64 x1) (1 : Int64) (4 : Int64)) fun q1 => (if q1 = 0 then (some ((-1 : Int32), σ)) else (Option.bind (fm_valueFromD 8 (0 : Int32) x1 σ) fun p_ => hl p_.1 fun q2 => hl p_.2 fun σ3 => (some (q2, σ3)))))
set_option maxHeartbeats 4000000 in
set_option maxRecDepth 100000 in
theorem xm_game {l : Launch} {D : va_G} {cA : ClassId} {h : Nat} {ad : Nat → Nat} {σ : SM} {x1 : Int32} {r : Int32} {τ : SM} (hf : fm_game x1 σ = some (r, τ)) : ctI l (wM h ad cA) D vwCl (kM D cA) yX12_game cX12_game 2 .int rm_game [.ref h, .int x1] σ r τ := by
  refine ct_I RX12 (by decide +kernel) rfl (Nat.le_of_ble_eq_true rfl) ?_
  intro p e s m args below meth c A X hK hA
  refine gr_eqL (L2 := [(0, .ref h), (1, .int x1)]) rfl ?_
  unfold fm_game at hf
  refine gr_iload_n X dX12_game_0 rfl 1 rfl ?_
  refine gr_i2l X dX12_game_1 ?_
  refine gr_lconst (v := 1) X dX12_game_2 (by decide) ?_
  refine gr_ldc2_w X ck12_297 dX12_game_3 ?_
  obtain ⟨q1, hq_, hf⟩ := ot_b hf
  refine gc_Si (rest := []) X kM_ok hK hA cw12_isIn (xm_isIn hq_) rfl ⟨rfl, rfl, Nat.le_of_ble_eq_true rfl, Nat.le_of_ble_eq_true rfl⟩ rfl (Nat.le_of_ble_eq_true rfl) dX12_game_6 ?_
  refine gr_if_eq X 21 dX12_game_9 (by decide) (fun hc_ => ?_) (fun hc_ => ?_)
  · replace hf := ot_t hf hc_
    refine gr_iconst (v := -1) X dX12_game_21 (by decide) ?_
    exact gr_iret X dX12_game_22 (Prod.mk.inj (Option.some.inj hf)).1 (Prod.mk.inj (Option.some.inj hf)).2
  · replace hf := ot_f hf hc_
    refine gr_aload_n X dX12_game_12 rfl 0 rfl ?_
    refine gr_iconst (v := 0) X dX12_game_13 (by decide) ?_
    refine gr_iload_n X dX12_game_14 rfl 1 rfl ?_
    obtain ⟨⟨q2, σ3⟩, hq_, hf⟩ := ot_b hf
    replace hf := ot_l (y := q2) hf rfl
    replace hf := ot_l (y := σ3) hf rfl
    refine gc_Vi (rest := []) X kM_ok hK hA cw12_valueFrom (rvM hK) (xm_valueFromA 8 _ _ _ _ _ hq_) rfl ⟨rfl, rfl, Nat.le_of_ble_eq_true rfl, Nat.le_of_ble_eq_true rfl⟩ rfl (Nat.le_of_ble_eq_true rfl) dX12_game_15 ?_
    refine gr_goto X 22 dX12_game_18 (by decide) ?_
    exact gr_iret X dX12_game_22 (Prod.mk.inj (Option.some.inj hf)).1 (Prod.mk.inj (Option.some.inj hf)).2
abbrev rm_play : Room := { frames := 73, cells := 0, slots := 0, locals := 1699 }
def fm_play (x1 : Int32) (σ : SM) : Option (Int32 × SM) := (Option.bind (fm_isIn (Int32.toInt64 x1) (1 : Int64) (4 : Int64)) fun q1 => (if ¬ q1 = 0 then (Option.bind (fm_isOver σ) fun q2 => (if q2 = 0 then (Option.bind (fm_valueFromD 8 (0 : Int32) x1 σ) fun p_ => hl p_.1 fun q3 => hl p_.2 fun σ4 => (some ((σ4 21 0), σ4))) else (some ((-3 : Int32), σ)))) else (some ((-1 : Int32), σ))))
set_option maxHeartbeats 4000000 in
set_option maxRecDepth 100000 in
theorem xm_play {l : Launch} {D : va_G} {cA : ClassId} {h : Nat} {ad : Nat → Nat} {σ : SM} {x1 : Int32} {r : Int32} {τ : SM} (hf : fm_play x1 σ = some (r, τ)) : ctI l (wM h ad cA) D vwCl (kM D cA) yX12_play cX12_play 3 .int rm_play [.ref h, .int x1] σ r τ := by
  refine ct_I RX12 (by decide +kernel) rfl (Nat.le_of_ble_eq_true rfl) ?_
  intro p e s m args below meth c A X hK hA
  refine gr_eqL (L2 := [(0, .ref h), (1, .int x1)]) rfl ?_
  unfold fm_play at hf
  refine gr_iload_n X dX12_play_0 rfl 1 rfl ?_
  refine gr_i2l X dX12_play_1 ?_
  refine gr_lconst (v := 1) X dX12_play_2 (by decide) ?_
  refine gr_ldc2_w X ck12_297 dX12_play_3 ?_
  obtain ⟨q1, hq_, hf⟩ := ot_b hf
  refine gc_Si (rest := []) X kM_ok hK hA cw12_isIn (xm_isIn hq_) rfl ⟨rfl, rfl, Nat.le_of_ble_eq_true rfl, Nat.le_of_ble_eq_true rfl⟩ rfl (Nat.le_of_ble_eq_true rfl) dX12_play_6 ?_
  refine gr_if_ne X 14 dX12_play_9 (by decide) (fun hc_ => ?_) (fun hc_ => ?_)
  · replace hf := ot_t hf hc_
    refine gr_aload_n X dX12_play_14 rfl 0 rfl ?_
    obtain ⟨q2, hq_, hf⟩ := ot_b hf
    refine gc_Vi (rest := []) X kM_ok hK hA cw12_isOver (rvM hK) (xm_isOver hq_) rfl ⟨rfl, rfl, Nat.le_of_ble_eq_true rfl, Nat.le_of_ble_eq_true rfl⟩ rfl (Nat.le_of_ble_eq_true rfl) dX12_play_15 ?_
    refine gr_if_eq X 24 dX12_play_18 (by decide) (fun hc_ => ?_) (fun hc_ => ?_)
    · replace hf := ot_t hf hc_
      refine gr_aload_n X dX12_play_24 rfl 0 rfl ?_
      refine gr_iconst (v := 0) X dX12_play_25 (by decide) ?_
      refine gr_iload_n X dX12_play_26 rfl 1 rfl ?_
      obtain ⟨⟨q3, σ4⟩, hq_, hf⟩ := ot_b hf
      replace hf := ot_l (y := q3) hf rfl
      replace hf := ot_l (y := σ4) hf rfl
      refine gc_Vi (rest := []) X kM_ok hK hA cw12_valueFrom (rvM hK) (xm_valueFromA 8 _ _ _ _ _ hq_) rfl ⟨rfl, rfl, Nat.le_of_ble_eq_true rfl, Nat.le_of_ble_eq_true rfl⟩ rfl (Nat.le_of_ble_eq_true rfl) dX12_play_27 ?_
      refine gr_istore_n (L2 := [(2, .int q3), (0, .ref h), (1, .int x1)]) X dX12_play_30 rfl (by decide) rfl ?_
      refine gr_aload_n X dX12_play_31 rfl 1 rfl ?_
      refine gM_get_21 X hK dX12_play_32 ?_
      exact gr_iret X dX12_play_35 (Prod.mk.inj (Option.some.inj hf)).1 (Prod.mk.inj (Option.some.inj hf)).2
    · replace hf := ot_f hf hc_
      refine gr_bipush (v := -3) X dX12_play_21 (by decide) ?_
      exact gr_iret X dX12_play_23 (Prod.mk.inj (Option.some.inj hf)).1 (Prod.mk.inj (Option.some.inj hf)).2
  · replace hf := ot_f hf hc_
    refine gr_iconst (v := -1) X dX12_play_12 (by decide) ?_
    exact gr_iret X dX12_play_13 (Prod.mk.inj (Option.some.inj hf)).1 (Prod.mk.inj (Option.some.inj hf)).2
abbrev rm_report : Room := { frames := 1, cells := 0, slots := 0, locals := 25 }
def fm_report_b62 (x1 : Int32) (x2 : Int32) (x3 : Int32) (x4 : Int32) (y0 : Int64) (y1 : Int64) (y2 : Int64) (σ : SM) : Option (Int32 × SM) := (Option.bind (fm_isIn y2 y1 y0) fun q4 => (if ¬ q4 = 0 then (if ¬ (σ 0 6) = (6 : Int32) then (hl ((106 : Int32) + ((4 : Int32) * (σ 0 6))) fun v5 => (oc (hin v5 580) (hl (sf σ 0 (upd (σ 0) (Int32.toNatClampNeg v5) x1)) fun σ6 => (oc (hin (v5 + (1 : Int32)) 580) (hl (sf σ6 0 (upd (σ6 0) (Int32.toNatClampNeg (v5 + (1 : Int32))) x2)) fun σ7 => (oc (hin (v5 + (2 : Int32)) 580) (hl (sf σ7 0 (upd (σ7 0) (Int32.toNatClampNeg (v5 + (2 : Int32))) x3)) fun σ8 => (oc (hin (v5 + (3 : Int32)) 580) (hl (sf σ8 0 (upd (σ8 0) (Int32.toNatClampNeg (v5 + (3 : Int32))) x4)) fun σ9 => (hl (sf σ9 0 (upd (σ9 0) 6 ((σ9 0 6) + (1 : Int32)))) fun σ10 => (some (((σ10 0 6) - (1 : Int32)), σ10)))))))))))) else (some ((-2 : Int32), σ))) else (some ((-1 : Int32), σ))))
def fm_report_b38 (x1 : Int32) (x2 : Int32) (x3 : Int32) (x4 : Int32) (y0 : Int64) (y1 : Int64) (y2 : Int64) (σ : SM) : Option (Int32 × SM) := (Option.bind (fm_isIn y2 y1 y0) fun q3 => (if q3 = 0 then (some ((-1 : Int32), σ)) else (if ¬ x2 = 0 then (fm_report_b62 x1 x2 x3 x4 (9 : Int64) (Int32.toInt64 x3) (Int32.toInt64 x4) σ) else (fm_report_b62 x1 x2 x3 x4 (99 : Int64) (Int32.toInt64 x3) (Int32.toInt64 x4) σ))))
def fm_report (x1 : Int32) (x2 : Int32) (x3 : Int32) (x4 : Int32) (σ : SM) : Option (Int32 × SM) := (Option.bind (fm_isIn (Int32.toInt64 x1) (0 : Int64) (15 : Int64)) fun q1 => (if q1 = 0 then (some ((-1 : Int32), σ)) else (Option.bind (fm_isIn (Int32.toInt64 x2) (0 : Int64) (1 : Int64)) fun q2 => (if q2 = 0 then (some ((-1 : Int32), σ)) else (if ¬ x2 = 0 then (fm_report_b38 x1 x2 x3 x4 (9 : Int64) (0 : Int64) (Int32.toInt64 x3) σ) else (fm_report_b38 x1 x2 x3 x4 (99 : Int64) (0 : Int64) (Int32.toInt64 x3) σ))))))
set_option maxHeartbeats 4000000 in
set_option maxRecDepth 100000 in
theorem wm_report_b62 {p : Program} {l : Launch} {e : Env} {s : State} {m : MethodId} {args : Array Value} {below : List Frame} {meth : Method} {c : Code} {A : Nat → Prop} {D : va_G} {cA : ClassId} {h : Nat} {ad : Nat → Nat} {r : Int32} {τ : SM} (X : hc p s m args meth c RX12 cX12_report 6 (some .int)) (hK : kM D cA A s) (hA : ∀ q, s.heap.size ≤ q → A q)   (x1 : Int32) (x2 : Int32) (x3 : Int32) (x4 : Int32) (y0 : Int64) (y1 : Int64) (y2 : Int64) (σ : SM) (hf : fm_report_b62 x1 x2 x3 x4 y0 y1 y2 σ = some (r, τ)) : gg p l e rm_report s m args below meth c (wM h ad cA) D vwCl A 6 (QI below args s (wM h ad cA) D vwCl A r τ) 62 [(0, .ref h), (1, .int x1), (2, .int x2), (3, .int x3), (4, .int x4)] [.long y0, .long y1, .long y2] σ := by
  unfold fm_report_b62 at hf
  obtain ⟨q4, hq_, hf⟩ := ot_b hf
  refine gc_Si (rest := []) X kM_ok hK hA cw12_isIn (xm_isIn hq_) rfl ⟨rfl, rfl, Nat.le_of_ble_eq_true rfl, Nat.le_of_ble_eq_true rfl⟩ rfl (Nat.le_of_ble_eq_true rfl) dX12_report_62 ?_
  refine gr_if_ne X 70 dX12_report_65 (by decide) (fun hc_ => ?_) (fun hc_ => ?_)
  · replace hf := ot_t hf hc_
    refine gr_aload_n X dX12_report_70 rfl 0 rfl ?_
    refine gM_get_0 X hK dX12_report_71 ?_
    refine gr_bipush (v := 6) X dX12_report_74 (by decide) ?_
    refine gM_ald_0 X hK 6 (by decide) (by decide) dX12_report_76 ?_
    refine gr_bipush (v := 6) X dX12_report_77 (by decide) ?_
    refine gr_icmp_ne X 85 dX12_report_79 (by decide) (fun hc_ => ?_) (fun hc_ => ?_)
    · replace hf := ot_t hf hc_
      refine gr_bipush (v := 106) X dX12_report_85 (by decide) ?_
      refine gr_iconst (v := 4) X dX12_report_87 (by decide) ?_
      refine gr_aload_n X dX12_report_88 rfl 0 rfl ?_
      refine gM_get_0 X hK dX12_report_89 ?_
      refine gr_bipush (v := 6) X dX12_report_92 (by decide) ?_
      refine gM_ald_0 X hK 6 (by decide) (by decide) dX12_report_94 ?_
      refine gr_imul X dX12_report_95 ?_
      refine gr_iadd X dX12_report_96 ?_
      refine gM_top (fun v5 e_v5 => ?_)
      replace hf := ot_l hf e_v5
      refine gr_istore (L2 := [(5, .int v5), (0, .ref h), (1, .int x1), (2, .int x2), (3, .int x3), (4, .int x4)]) X dX12_report_97 (by decide) rfl ?_
      refine gr_aload_n X dX12_report_99 rfl 1 rfl ?_
      refine gM_get_0 X hK dX12_report_100 ?_
      refine gr_iload X dX12_report_103 0 rfl ?_
      refine gr_iload_n X dX12_report_105 rfl 2 rfl ?_
      have hi_ := oc_1 hf
      replace hf := oc_2 hf
      refine gM_ast_0 X hK (Int32.toNatClampNeg v5) hi_ rfl dX12_report_106 ?_
      refine gM_gen (fun σ6 e_σ6 => ?_)
      replace hf := ot_l hf e_σ6
      refine gr_aload_n X dX12_report_107 rfl 1 rfl ?_
      refine gM_get_0 X hK dX12_report_108 ?_
      refine gr_iload X dX12_report_111 0 rfl ?_
      refine gr_iconst (v := 1) X dX12_report_113 (by decide) ?_
      refine gr_iadd X dX12_report_114 ?_
      refine gr_iload_n X dX12_report_115 rfl 3 rfl ?_
      have hi_ := oc_1 hf
      replace hf := oc_2 hf
      refine gM_ast_0 X hK (Int32.toNatClampNeg (v5 + (1 : Int32))) hi_ rfl dX12_report_116 ?_
      refine gM_gen (fun σ7 e_σ7 => ?_)
      replace hf := ot_l hf e_σ7
      refine gr_aload_n X dX12_report_117 rfl 1 rfl ?_
      refine gM_get_0 X hK dX12_report_118 ?_
      refine gr_iload X dX12_report_121 0 rfl ?_
      refine gr_iconst (v := 2) X dX12_report_123 (by decide) ?_
      refine gr_iadd X dX12_report_124 ?_
      refine gr_iload_n X dX12_report_125 rfl 4 rfl ?_
      have hi_ := oc_1 hf
      replace hf := oc_2 hf
      refine gM_ast_0 X hK (Int32.toNatClampNeg (v5 + (2 : Int32))) hi_ rfl dX12_report_126 ?_
      refine gM_gen (fun σ8 e_σ8 => ?_)
      replace hf := ot_l hf e_σ8
      refine gr_aload_n X dX12_report_127 rfl 1 rfl ?_
      refine gM_get_0 X hK dX12_report_128 ?_
      refine gr_iload X dX12_report_131 0 rfl ?_
      refine gr_iconst (v := 3) X dX12_report_133 (by decide) ?_
      refine gr_iadd X dX12_report_134 ?_
      refine gr_iload X dX12_report_135 5 rfl ?_
      have hi_ := oc_1 hf
      replace hf := oc_2 hf
      refine gM_ast_0 X hK (Int32.toNatClampNeg (v5 + (3 : Int32))) hi_ rfl dX12_report_137 ?_
      refine gM_gen (fun σ9 e_σ9 => ?_)
      replace hf := ot_l hf e_σ9
      refine gr_aload_n X dX12_report_138 rfl 1 rfl ?_
      refine gM_get_0 X hK dX12_report_139 ?_
      refine gr_bipush (v := 6) X dX12_report_142 (by decide) ?_
      refine gr_dup2 X dX12_report_144 rfl rfl ?_
      refine gM_ald_0 X hK 6 (by decide) (by decide) dX12_report_145 ?_
      refine gr_iconst (v := 1) X dX12_report_146 (by decide) ?_
      refine gr_iadd X dX12_report_147 ?_
      refine gM_ast_0 X hK 6 (by decide) (by decide) dX12_report_148 ?_
      refine gM_gen (fun σ10 e_σ10 => ?_)
      replace hf := ot_l hf e_σ10
      refine gr_aload_n X dX12_report_149 rfl 1 rfl ?_
      refine gM_get_0 X hK dX12_report_150 ?_
      refine gr_bipush (v := 6) X dX12_report_153 (by decide) ?_
      refine gM_ald_0 X hK 6 (by decide) (by decide) dX12_report_155 ?_
      refine gr_iconst (v := 1) X dX12_report_156 (by decide) ?_
      refine gr_isub X dX12_report_157 ?_
      exact gr_iret X dX12_report_158 (Prod.mk.inj (Option.some.inj hf)).1 (Prod.mk.inj (Option.some.inj hf)).2
    · replace hf := ot_f hf hc_
      refine gr_bipush (v := -2) X dX12_report_82 (by decide) ?_
      exact gr_iret X dX12_report_84 (Prod.mk.inj (Option.some.inj hf)).1 (Prod.mk.inj (Option.some.inj hf)).2
  · replace hf := ot_f hf hc_
    refine gr_iconst (v := -1) X dX12_report_68 (by decide) ?_
    exact gr_iret X dX12_report_69 (Prod.mk.inj (Option.some.inj hf)).1 (Prod.mk.inj (Option.some.inj hf)).2
set_option maxHeartbeats 4000000 in
set_option maxRecDepth 100000 in
theorem wm_report_b38 {p : Program} {l : Launch} {e : Env} {s : State} {m : MethodId} {args : Array Value} {below : List Frame} {meth : Method} {c : Code} {A : Nat → Prop} {D : va_G} {cA : ClassId} {h : Nat} {ad : Nat → Nat} {r : Int32} {τ : SM} (X : hc p s m args meth c RX12 cX12_report 6 (some .int)) (hK : kM D cA A s) (hA : ∀ q, s.heap.size ≤ q → A q)   (x1 : Int32) (x2 : Int32) (x3 : Int32) (x4 : Int32) (y0 : Int64) (y1 : Int64) (y2 : Int64) (σ : SM) (hf : fm_report_b38 x1 x2 x3 x4 y0 y1 y2 σ = some (r, τ)) : gg p l e rm_report s m args below meth c (wM h ad cA) D vwCl A 6 (QI below args s (wM h ad cA) D vwCl A r τ) 38 [(0, .ref h), (1, .int x1), (2, .int x2), (3, .int x3), (4, .int x4)] [.long y0, .long y1, .long y2] σ := by
  unfold fm_report_b38 at hf
  obtain ⟨q3, hq_, hf⟩ := ot_b hf
  refine gc_Si (rest := []) X kM_ok hK hA cw12_isIn (xm_isIn hq_) rfl ⟨rfl, rfl, Nat.le_of_ble_eq_true rfl, Nat.le_of_ble_eq_true rfl⟩ rfl (Nat.le_of_ble_eq_true rfl) dX12_report_38 ?_
  refine gr_if_eq X 68 dX12_report_41 (by decide) (fun hc_ => ?_) (fun hc_ => ?_)
  · replace hf := ot_t hf hc_
    refine gr_iconst (v := -1) X dX12_report_68 (by decide) ?_
    exact gr_iret X dX12_report_69 (Prod.mk.inj (Option.some.inj hf)).1 (Prod.mk.inj (Option.some.inj hf)).2
  · replace hf := ot_f hf hc_
    refine gr_iload X dX12_report_44 4 rfl ?_
    refine gr_i2l X dX12_report_46 ?_
    refine gr_iload_n X dX12_report_47 rfl 3 rfl ?_
    refine gr_i2l X dX12_report_48 ?_
    refine gr_iload_n X dX12_report_49 rfl 2 rfl ?_
    refine gr_if_ne X 59 dX12_report_50 (by decide) (fun hc_ => ?_) (fun hc_ => ?_)
    · replace hf := ot_t hf hc_
      refine gr_ldc2_w X ck12_69 dX12_report_59 ?_
      refine gr_sub [0, 1, 2, 3, 4] rfl ?_
      exact wm_report_b62 X hK hA _ _ _ _ _ _ _ _ hf
    · replace hf := ot_f hf hc_
      refine gr_ldc2_w X ck12_132 dX12_report_53 ?_
      refine gr_goto X 62 dX12_report_56 (by decide) ?_
      refine gr_sub [0, 1, 2, 3, 4] rfl ?_
      exact wm_report_b62 X hK hA _ _ _ _ _ _ _ _ hf
set_option maxHeartbeats 4000000 in
set_option maxRecDepth 100000 in
theorem xm_report {l : Launch} {D : va_G} {cA : ClassId} {h : Nat} {ad : Nat → Nat} {σ : SM} {x1 : Int32} {x2 : Int32} {x3 : Int32} {x4 : Int32} {r : Int32} {τ : SM} (hf : fm_report x1 x2 x3 x4 σ = some (r, τ)) : ctI l (wM h ad cA) D vwCl (kM D cA) yX12_report cX12_report 6 .int rm_report [.ref h, .int x1, .int x2, .int x3, .int x4] σ r τ := by
  refine ct_I RX12 (by decide +kernel) rfl (Nat.le_of_ble_eq_true rfl) ?_
  intro p e s m args below meth c A X hK hA
  refine gr_eqL (L2 := [(0, .ref h), (1, .int x1), (2, .int x2), (3, .int x3), (4, .int x4)]) rfl ?_
  unfold fm_report at hf
  refine gr_iload_n X dX12_report_0 rfl 1 rfl ?_
  refine gr_i2l X dX12_report_1 ?_
  refine gr_lconst (v := 0) X dX12_report_2 (by decide) ?_
  refine gr_ldc2_w X ck12_128 dX12_report_3 ?_
  obtain ⟨q1, hq_, hf⟩ := ot_b hf
  refine gc_Si (rest := []) X kM_ok hK hA cw12_isIn (xm_isIn hq_) rfl ⟨rfl, rfl, Nat.le_of_ble_eq_true rfl, Nat.le_of_ble_eq_true rfl⟩ rfl (Nat.le_of_ble_eq_true rfl) dX12_report_6 ?_
  refine gr_if_eq X 68 dX12_report_9 (by decide) (fun hc_ => ?_) (fun hc_ => ?_)
  · replace hf := ot_t hf hc_
    refine gr_iconst (v := -1) X dX12_report_68 (by decide) ?_
    exact gr_iret X dX12_report_69 (Prod.mk.inj (Option.some.inj hf)).1 (Prod.mk.inj (Option.some.inj hf)).2
  · replace hf := ot_f hf hc_
    refine gr_iload_n X dX12_report_12 rfl 2 rfl ?_
    refine gr_i2l X dX12_report_13 ?_
    refine gr_lconst (v := 0) X dX12_report_14 (by decide) ?_
    refine gr_lconst (v := 1) X dX12_report_15 (by decide) ?_
    obtain ⟨q2, hq_, hf⟩ := ot_b hf
    refine gc_Si (rest := []) X kM_ok hK hA cw12_isIn (xm_isIn hq_) rfl ⟨rfl, rfl, Nat.le_of_ble_eq_true rfl, Nat.le_of_ble_eq_true rfl⟩ rfl (Nat.le_of_ble_eq_true rfl) dX12_report_16 ?_
    refine gr_if_eq X 68 dX12_report_19 (by decide) (fun hc_ => ?_) (fun hc_ => ?_)
    · replace hf := ot_t hf hc_
      refine gr_iconst (v := -1) X dX12_report_68 (by decide) ?_
      exact gr_iret X dX12_report_69 (Prod.mk.inj (Option.some.inj hf)).1 (Prod.mk.inj (Option.some.inj hf)).2
    · replace hf := ot_f hf hc_
      refine gr_iload_n X dX12_report_22 rfl 3 rfl ?_
      refine gr_i2l X dX12_report_23 ?_
      refine gr_lconst (v := 0) X dX12_report_24 (by decide) ?_
      refine gr_iload_n X dX12_report_25 rfl 2 rfl ?_
      refine gr_if_ne X 35 dX12_report_26 (by decide) (fun hc_ => ?_) (fun hc_ => ?_)
      · replace hf := ot_t hf hc_
        refine gr_ldc2_w X ck12_69 dX12_report_35 ?_
        refine gr_sub [0, 1, 2, 3, 4] rfl ?_
        exact wm_report_b38 X hK hA _ _ _ _ _ _ _ _ hf
      · replace hf := ot_f hf hc_
        refine gr_ldc2_w X ck12_132 dX12_report_29 ?_
        refine gr_goto X 38 dX12_report_32 (by decide) ?_
        refine gr_sub [0, 1, 2, 3, 4] rfl ?_
        exact wm_report_b38 X hK hA _ _ _ _ _ _ _ _ hf
abbrev rm_forget : Room := { frames := 1, cells := 0, slots := 0, locals := 23 }
def fm_forget (σ : SM) : Option (Int32 × SM) := (Option.bind (fm_becomes (6 : Int32) (0 : Int32) σ) fun p_ => hl p_.1 fun q1 => hl p_.2 fun σ2 => (some (q1, σ2)))
set_option maxHeartbeats 4000000 in
set_option maxRecDepth 100000 in
theorem xm_forget {l : Launch} {D : va_G} {cA : ClassId} {h : Nat} {ad : Nat → Nat} {σ : SM} {r : Int32} {τ : SM} (hf : fm_forget σ = some (r, τ)) : ctI l (wM h ad cA) D vwCl (kM D cA) yX12_forget cX12_forget 1 .int rm_forget [.ref h] σ r τ := by
  refine ct_I RX12 (by decide +kernel) rfl (Nat.le_of_ble_eq_true rfl) ?_
  intro p e s m args below meth c A X hK hA
  refine gr_eqL (L2 := [(0, .ref h)]) rfl ?_
  unfold fm_forget at hf
  refine gr_aload_n X dX12_forget_0 rfl 0 rfl ?_
  refine gr_bipush (v := 6) X dX12_forget_1 (by decide) ?_
  refine gr_iconst (v := 0) X dX12_forget_3 (by decide) ?_
  obtain ⟨⟨q1, σ2⟩, hq_, hf⟩ := ot_b hf
  replace hf := ot_l (y := q1) hf rfl
  replace hf := ot_l (y := σ2) hf rfl
  refine gc_Vi (rest := []) X kM_ok hK hA cw12_becomes (rvM hK) (xm_becomes hq_) rfl ⟨rfl, rfl, Nat.le_of_ble_eq_true rfl, Nat.le_of_ble_eq_true rfl⟩ rfl (Nat.le_of_ble_eq_true rfl) dX12_forget_4 ?_
  exact gr_iret X dX12_forget_7 (Prod.mk.inj (Option.some.inj hf)).1 (Prod.mk.inj (Option.some.inj hf)).2
abbrev rm_calledOnBy : Room := { frames := 2, cells := 0, slots := 0, locals := 44 }
def fm_calledOnBy_b79 (K17 : Int32 → Int32 → Int32 → SM → Option SM) (x1 : Int32) (x2 : Int32) (x4 : Int32) (y0 : Int32) (y1 : Int32) (σ : SM) : Option SM := (oc (hin y1 16) (hl (sf σ 22 (upd (σ 22) (Int32.toNatClampNeg y1) y0)) fun σ4 => (oc (hin x4 16) (oc (hin (x4 + (1 : Int32)) 16) (Option.bind (fm_least (99 : Int32) (((σ4 23 (Int32.toNatClampNeg x4)) + (6 : Int32)) - ((σ4 22 (Int32.toNatClampNeg (x4 + (1 : Int32)))) / (2 : Int32)))) fun q5 => (oc (hin (x4 + (1 : Int32)) 16) (hl (sf σ4 23 (upd (σ4 23) (Int32.toNatClampNeg (x4 + (1 : Int32))) q5)) fun σ6 => (K17 x1 x2 (x4 + (1 : Int32)) σ6))))))))
def fm_calledOnBy_l17 : Nat → Int32 → Int32 → Int32 → SM → Option SM
  | 0, _, _, _, _ => none
  | n + 1, x1, x2, x4, σ => (if (15 : Int32) ≤ x4 then (some σ) else (oc (hin x4 16) (oc (hin ((58 : Int32) + x4) 580) (Option.bind (fm_told (σ 22 (Int32.toNatClampNeg x4)) (σ 0 (Int32.toNatClampNeg ((58 : Int32) + x4)))) fun q3 => (if ¬ (hrem x4 (2 : Int32)) = 0 then (fm_calledOnBy_b79 (fm_calledOnBy_l17 n) x1 x2 x4 q3 (x4 + (1 : Int32)) σ) else (Option.bind (fm_cheersBy x1 x2 x4) fun q7 => (Option.bind (fm_within (q3 + q7)) fun q8 => (fm_calledOnBy_b79 (fm_calledOnBy_l17 n) x1 x2 x4 q8 (x4 + (1 : Int32)) σ))))))))
def fm_calledOnBy (x1 : Int32) (x2 : Int32) (x3 : Int32) (σ : SM) : Option SM := (hl (sf σ 22 (upd (σ 22) 0 x3)) fun σ1 => (hl (sf σ1 23 (upd (σ1 23) 0 (0 : Int32))) fun σ2 => (fm_calledOnBy_l17 hFU x1 x2 (0 : Int32) σ2)))
set_option maxHeartbeats 4000000 in
set_option maxRecDepth 100000 in
theorem wm_calledOnBy_b79 {p : Program} {l : Launch} {e : Env} {s : State} {m : MethodId} {args : Array Value} {below : List Frame} {meth : Method} {c : Code} {A : Nat → Prop} {D : va_G} {cA : ClassId} {h : Nat} {ad : Nat → Nat} {τ : SM} {K17 : Int32 → Int32 → Int32 → SM → Option SM} (X : hc p s m args meth c RX12 cX12_calledOnBy 6 none) (hK : kM D cA A s) (hA : ∀ q, s.heap.size ≤ q → A q) (hK17 : (∀ (x1 : Int32) (x2 : Int32) (x4 : Int32) (σ : SM), K17 x1 x2 x4 σ = some τ → gg p l e rm_calledOnBy s m args below meth c (wM h ad cA) D vwCl A 6 (QV below args s (wM h ad cA) D vwCl A τ) 17 [(0, .ref h), (1, .int x1), (2, .int x2), (4, .int x4)] [] σ))  (x1 : Int32) (x2 : Int32) (x4 : Int32) (y0 : Int32) (y1 : Int32) (σ : SM) (hf : fm_calledOnBy_b79 K17 x1 x2 x4 y0 y1 σ = some τ) : gg p l e rm_calledOnBy s m args below meth c (wM h ad cA) D vwCl A 6 (QV below args s (wM h ad cA) D vwCl A τ) 79 [(0, .ref h), (1, .int x1), (2, .int x2), (4, .int x4)] [.int y0, .int y1, .ref (ad 22)] σ := by
  unfold fm_calledOnBy_b79 at hf
  have hi_ := oc_1 hf
  replace hf := oc_2 hf
  refine gM_ast_22 X hK (Int32.toNatClampNeg y1) hi_ rfl dX12_calledOnBy_79 ?_
  refine gM_gen (fun σ4 e_σ4 => ?_)
  replace hf := ot_l hf e_σ4
  refine gr_aload_n X dX12_calledOnBy_80 rfl 0 rfl ?_
  refine gM_get_23 X hK dX12_calledOnBy_81 ?_
  refine gr_iload X dX12_calledOnBy_84 3 rfl ?_
  refine gr_iconst (v := 1) X dX12_calledOnBy_86 (by decide) ?_
  refine gr_iadd X dX12_calledOnBy_87 ?_
  refine gr_bipush (v := 99) X dX12_calledOnBy_88 (by decide) ?_
  refine gr_aload_n X dX12_calledOnBy_90 rfl 0 rfl ?_
  refine gM_get_23 X hK dX12_calledOnBy_91 ?_
  refine gr_iload X dX12_calledOnBy_94 3 rfl ?_
  have hi_ := oc_1 hf
  replace hf := oc_2 hf
  refine gM_ald_23 X hK (Int32.toNatClampNeg x4) hi_ rfl dX12_calledOnBy_96 ?_
  refine gr_bipush (v := 6) X dX12_calledOnBy_97 (by decide) ?_
  refine gr_iadd X dX12_calledOnBy_99 ?_
  refine gr_aload_n X dX12_calledOnBy_100 rfl 0 rfl ?_
  refine gM_get_22 X hK dX12_calledOnBy_101 ?_
  refine gr_iload X dX12_calledOnBy_104 3 rfl ?_
  refine gr_iconst (v := 1) X dX12_calledOnBy_106 (by decide) ?_
  refine gr_iadd X dX12_calledOnBy_107 ?_
  have hi_ := oc_1 hf
  replace hf := oc_2 hf
  refine gM_ald_22 X hK (Int32.toNatClampNeg (x4 + (1 : Int32))) hi_ rfl dX12_calledOnBy_108 ?_
  refine gr_iconst (v := 2) X dX12_calledOnBy_109 (by decide) ?_
  refine gr_idiv X dX12_calledOnBy_110 (by decide) ?_
  refine gr_isub X dX12_calledOnBy_111 ?_
  obtain ⟨q5, hq_, hf⟩ := ot_b hf
  refine gc_Si (rest := [.int (x4 + (1 : Int32)), .ref (ad 23)]) X kM_ok hK hA cw12_least (xm_least hq_) rfl ⟨rfl, rfl, Nat.le_of_ble_eq_true rfl, Nat.le_of_ble_eq_true rfl⟩ rfl (Nat.le_of_ble_eq_true rfl) dX12_calledOnBy_112 ?_
  have hi_ := oc_1 hf
  replace hf := oc_2 hf
  refine gM_ast_23 X hK (Int32.toNatClampNeg (x4 + (1 : Int32))) hi_ rfl dX12_calledOnBy_115 ?_
  refine gM_gen (fun σ6 e_σ6 => ?_)
  replace hf := ot_l hf e_σ6
  refine gr_iinc (k := 3) (v := 1) (L2 := [(4, .int (x4 + (1 : Int32))), (0, .ref h), (1, .int x1), (2, .int x2)]) X dX12_calledOnBy_116 rfl (by decide) (by decide) rfl ?_
  refine gr_goto X 17 dX12_calledOnBy_119 (by decide) ?_
  refine gr_sub [1, 2, 3, 0] rfl ?_
  exact hK17 _ _ _ _ hf
set_option maxHeartbeats 4000000 in
set_option maxRecDepth 100000 in
theorem wm_calledOnBy_l17 {p : Program} {l : Launch} {e : Env} {s : State} {m : MethodId} {args : Array Value} {below : List Frame} {meth : Method} {c : Code} {A : Nat → Prop} {D : va_G} {cA : ClassId} {h : Nat} {ad : Nat → Nat} {τ : SM} (X : hc p s m args meth c RX12 cX12_calledOnBy 6 none) (hK : kM D cA A s) (hA : ∀ q, s.heap.size ≤ q → A q)  : ∀ (n : Nat) (x1 : Int32) (x2 : Int32) (x4 : Int32) (σ : SM), fm_calledOnBy_l17 n x1 x2 x4 σ = some τ → gg p l e rm_calledOnBy s m args below meth c (wM h ad cA) D vwCl A 6 (QV below args s (wM h ad cA) D vwCl A τ) 17 [(0, .ref h), (1, .int x1), (2, .int x2), (4, .int x4)] [] σ := by
  intro n
  induction n with
  | zero =>
    intro x1 x2 x4 σ hf
    cases (show (none : Option SM) = some τ from hf)
  | succ n ih =>
    intro x1 x2 x4 σ hf
    unfold fm_calledOnBy_l17 at hf
    refine gr_iload X dX12_calledOnBy_17 3 rfl ?_
    refine gr_bipush (v := 15) X dX12_calledOnBy_19 (by decide) ?_
    refine gr_icmp_ge X 122 dX12_calledOnBy_21 (by decide) (fun hc_ => ?_) (fun hc_ => ?_)
    · replace hf := ot_t hf hc_
      exact gr_vret X dX12_calledOnBy_122 (Option.some.inj hf)
    · replace hf := ot_f hf hc_
      refine gr_aload_n X dX12_calledOnBy_24 rfl 0 rfl ?_
      refine gM_get_22 X hK dX12_calledOnBy_25 ?_
      refine gr_iload X dX12_calledOnBy_28 3 rfl ?_
      have hi_ := oc_1 hf
      replace hf := oc_2 hf
      refine gM_ald_22 X hK (Int32.toNatClampNeg x4) hi_ rfl dX12_calledOnBy_30 ?_
      refine gr_aload_n X dX12_calledOnBy_31 rfl 0 rfl ?_
      refine gM_get_0 X hK dX12_calledOnBy_32 ?_
      refine gr_bipush (v := 58) X dX12_calledOnBy_35 (by decide) ?_
      refine gr_iload X dX12_calledOnBy_37 3 rfl ?_
      refine gr_iadd X dX12_calledOnBy_39 ?_
      have hi_ := oc_1 hf
      replace hf := oc_2 hf
      refine gM_ald_0 X hK (Int32.toNatClampNeg ((58 : Int32) + x4)) hi_ rfl dX12_calledOnBy_40 ?_
      obtain ⟨q3, hq_, hf⟩ := ot_b hf
      refine gc_Si (rest := []) X kM_ok hK hA cw12_told (xm_told hq_) rfl ⟨rfl, rfl, Nat.le_of_ble_eq_true rfl, Nat.le_of_ble_eq_true rfl⟩ rfl (Nat.le_of_ble_eq_true rfl) dX12_calledOnBy_41 ?_
      refine gr_istore (L2 := [(5, .int q3), (0, .ref h), (1, .int x1), (2, .int x2), (4, .int x4)]) X dX12_calledOnBy_44 (by decide) rfl ?_
      refine gr_aload_n X dX12_calledOnBy_46 rfl 1 rfl ?_
      refine gM_get_22 X hK dX12_calledOnBy_47 ?_
      refine gr_iload X dX12_calledOnBy_50 4 rfl ?_
      refine gr_iconst (v := 1) X dX12_calledOnBy_52 (by decide) ?_
      refine gr_iadd X dX12_calledOnBy_53 ?_
      refine gr_iload X dX12_calledOnBy_54 4 rfl ?_
      refine gr_iconst (v := 2) X dX12_calledOnBy_56 (by decide) ?_
      refine gr_irem X dX12_calledOnBy_57 (by decide) ?_
      refine gr_if_ne X 77 dX12_calledOnBy_58 (by decide) (fun hc_ => ?_) (fun hc_ => ?_)
      · replace hf := ot_t hf hc_
        refine gr_iload X dX12_calledOnBy_77 0 rfl ?_
        refine gr_sub [1, 2, 3, 4] rfl ?_
        exact wm_calledOnBy_b79 X hK hA ih _ _ _ _ _ _ hf
      · replace hf := ot_f hf hc_
        refine gr_iload X dX12_calledOnBy_61 0 rfl ?_
        refine gr_iload_n X dX12_calledOnBy_63 rfl 2 rfl ?_
        refine gr_iload_n X dX12_calledOnBy_64 rfl 3 rfl ?_
        refine gr_iload X dX12_calledOnBy_65 4 rfl ?_
        obtain ⟨q7, hq_, hf⟩ := ot_b hf
        refine gc_Si (rest := [.int q3, .int (x4 + (1 : Int32)), .ref (ad 22)]) X kM_ok hK hA cw12_cheersBy (xm_cheersBy hq_) rfl ⟨rfl, rfl, Nat.le_of_ble_eq_true rfl, Nat.le_of_ble_eq_true rfl⟩ rfl (Nat.le_of_ble_eq_true rfl) dX12_calledOnBy_67 ?_
        refine gr_iadd X dX12_calledOnBy_70 ?_
        obtain ⟨q8, hq_, hf⟩ := ot_b hf
        refine gc_Si (rest := [.int (x4 + (1 : Int32)), .ref (ad 22)]) X kM_ok hK hA cw12_within (xm_within hq_) rfl ⟨rfl, rfl, Nat.le_of_ble_eq_true rfl, Nat.le_of_ble_eq_true rfl⟩ rfl (Nat.le_of_ble_eq_true rfl) dX12_calledOnBy_71 ?_
        refine gr_goto X 79 dX12_calledOnBy_74 (by decide) ?_
        refine gr_sub [1, 2, 3, 4] rfl ?_
        exact wm_calledOnBy_b79 X hK hA ih _ _ _ _ _ _ hf
set_option maxHeartbeats 4000000 in
set_option maxRecDepth 100000 in
theorem xm_calledOnBy {l : Launch} {D : va_G} {cA : ClassId} {h : Nat} {ad : Nat → Nat} {σ : SM} {x1 : Int32} {x2 : Int32} {x3 : Int32} {τ : SM} (hf : fm_calledOnBy x1 x2 x3 σ = some τ) : ctV l (wM h ad cA) D vwCl (kM D cA) yX12_calledOnBy cX12_calledOnBy 6 rm_calledOnBy [.ref h, .int x1, .int x2, .int x3] σ τ := by
  refine ct_V RX12 (by decide +kernel) rfl (Nat.le_of_ble_eq_true rfl) ?_
  intro p e s m args below meth c A X hK hA
  refine gr_eqL (L2 := [(0, .ref h), (1, .int x1), (2, .int x2), (3, .int x3)]) rfl ?_
  unfold fm_calledOnBy at hf
  refine gr_aload_n X dX12_calledOnBy_0 rfl 0 rfl ?_
  refine gM_get_22 X hK dX12_calledOnBy_1 ?_
  refine gr_iconst (v := 0) X dX12_calledOnBy_4 (by decide) ?_
  refine gr_iload_n X dX12_calledOnBy_5 rfl 3 rfl ?_
  refine gM_ast_22 X hK 0 (by decide) (by decide) dX12_calledOnBy_6 ?_
  refine gM_gen (fun σ1 e_σ1 => ?_)
  replace hf := ot_l hf e_σ1
  refine gr_aload_n X dX12_calledOnBy_7 rfl 0 rfl ?_
  refine gM_get_23 X hK dX12_calledOnBy_8 ?_
  refine gr_iconst (v := 0) X dX12_calledOnBy_11 (by decide) ?_
  refine gr_iconst (v := 0) X dX12_calledOnBy_12 (by decide) ?_
  refine gM_ast_23 X hK 0 (by decide) (by decide) dX12_calledOnBy_13 ?_
  refine gM_gen (fun σ2 e_σ2 => ?_)
  replace hf := ot_l hf e_σ2
  refine gr_iconst (v := 0) X dX12_calledOnBy_14 (by decide) ?_
  refine gr_istore (L2 := [(4, .int (0 : Int32)), (0, .ref h), (1, .int x1), (2, .int x2), (3, .int x3)]) X dX12_calledOnBy_15 (by decide) rfl ?_
  refine gr_sub [1, 2, 3, 0] rfl ?_
  refine wm_calledOnBy_l17 X hK hA  hFU _ _ _ _ hf
abbrev rm_isFit : Room := { frames := 1, cells := 0, slots := 0, locals := 25 }
def fm_isFit_b104 (σ : SM) (K4 : Int32 → Int32 → Int32 → Option Int32) (x1 : Int32) (x3 : Int32) (y0 : Int32) (y1 : Int32) : Option Int32 := (hl (y1 &&& y0) fun v2 => (K4 x1 v2 (x3 + (1 : Int32))))
def fm_isFit_b99 (σ : SM) (K4 : Int32 → Int32 → Int32 → Option Int32) (x1 : Int32) (x3 : Int32) (y0 : Int32) : Option Int32 := (fm_isFit_b104 σ K4 x1 x3 (1 : Int32) y0)
def fm_isFit_b62 (σ : SM) (K4 : Int32 → Int32 → Int32 → Option Int32) (x1 : Int32) (x2 : Int32) (x3 : Int32) (x4 : Int32) (y0 : Int32) : Option Int32 := (if x3 = x1 then (fm_isFit_b99 σ K4 x1 x3 x2) else (oc (hin (x4 + (2 : Int32)) 580) (oc (hin (x4 + (3 : Int32)) 580) (Option.bind (fm_isIn (Int32.toInt64 y0) (Int32.toInt64 (σ 0 (Int32.toNatClampNeg (x4 + (2 : Int32))))) (Int32.toInt64 (σ 0 (Int32.toNatClampNeg (x4 + (3 : Int32)))))) fun q3 => (if q3 = 0 then (fm_isFit_b104 σ K4 x1 x3 (0 : Int32) x2) else (fm_isFit_b99 σ K4 x1 x3 x2))))))
def fm_isFit_l4 (σ : SM) : Nat → Int32 → Int32 → Int32 → Option Int32
  | 0, _, _, _ => none
  | n + 1, x1, x2, x3 => (if (σ 0 6) ≤ x3 then (oc (hz x2) (some x2)) else (hl ((106 : Int32) + ((4 : Int32) * x3)) fun v1 => (oc (hin (v1 + (1 : Int32)) 580) (if ¬ (σ 0 (Int32.toNatClampNeg (v1 + (1 : Int32)))) = 0 then (oc (hin v1 580) (oc (hin (σ 0 (Int32.toNatClampNeg v1)) 16) (fm_isFit_b62 σ (fm_isFit_l4 σ n) x1 x2 x3 v1 (σ 22 (Int32.toNatClampNeg (σ 0 (Int32.toNatClampNeg v1))))))) else (oc (hin v1 580) (oc (hin (σ 0 (Int32.toNatClampNeg v1)) 16) (fm_isFit_b62 σ (fm_isFit_l4 σ n) x1 x2 x3 v1 (σ 23 (Int32.toNatClampNeg (σ 0 (Int32.toNatClampNeg v1)))))))))))
def fm_isFit (σ : SM) (x1 : Int32) : Option Int32 := (fm_isFit_l4 σ hFU x1 (1 : Int32) (0 : Int32))
set_option maxHeartbeats 4000000 in
set_option maxRecDepth 100000 in
theorem wm_isFit_b104 {p : Program} {l : Launch} {e : Env} {s : State} {m : MethodId} {args : Array Value} {below : List Frame} {meth : Method} {c : Code} {A : Nat → Prop} {D : va_G} {cA : ClassId} {h : Nat} {ad : Nat → Nat} {r : Int32} {σ : SM} {K4 : Int32 → Int32 → Int32 → Option Int32} (X : hc p s m args meth c RX12 cX12_isFit 6 (some .boolean)) (hK : kM D cA A s) (hA : ∀ q, s.heap.size ≤ q → A q) (hK4 : (∀ (x1 : Int32) (x2 : Int32) (x3 : Int32), K4 x1 x2 x3 = some r → gg p l e rm_isFit s m args below meth c (wM h ad cA) D vwCl A 6 (QI below args s (wM h ad cA) D vwCl A r σ) 4 [(0, .ref h), (1, .int x1), (2, .int x2), (3, .int x3)] [] σ))  (x1 : Int32) (x3 : Int32) (y0 : Int32) (y1 : Int32) (hf : fm_isFit_b104 σ K4 x1 x3 y0 y1 = some r) : gg p l e rm_isFit s m args below meth c (wM h ad cA) D vwCl A 6 (QI below args s (wM h ad cA) D vwCl A r σ) 104 [(0, .ref h), (1, .int x1), (3, .int x3)] [.int y0, .int y1] σ := by
  unfold fm_isFit_b104 at hf
  refine gr_iand X dX12_isFit_104 ?_
  refine gM_top (fun v2 e_v2 => ?_)
  replace hf := ot_l hf e_v2
  refine gr_istore_n (L2 := [(2, .int v2), (0, .ref h), (1, .int x1), (3, .int x3)]) X dX12_isFit_105 rfl (by decide) rfl ?_
  refine gr_iinc (k := 3) (v := 1) (L2 := [(3, .int (x3 + (1 : Int32))), (2, .int v2), (0, .ref h), (1, .int x1)]) X dX12_isFit_106 rfl (by decide) (by decide) rfl ?_
  refine gr_goto X 4 dX12_isFit_109 (by decide) ?_
  refine gr_sub [2, 3, 1, 0] rfl ?_
  exact hK4 _ _ _ hf
set_option maxHeartbeats 4000000 in
set_option maxRecDepth 100000 in
theorem wm_isFit_b99 {p : Program} {l : Launch} {e : Env} {s : State} {m : MethodId} {args : Array Value} {below : List Frame} {meth : Method} {c : Code} {A : Nat → Prop} {D : va_G} {cA : ClassId} {h : Nat} {ad : Nat → Nat} {r : Int32} {σ : SM} {K4 : Int32 → Int32 → Int32 → Option Int32} (X : hc p s m args meth c RX12 cX12_isFit 6 (some .boolean)) (hK : kM D cA A s) (hA : ∀ q, s.heap.size ≤ q → A q) (hK4 : (∀ (x1 : Int32) (x2 : Int32) (x3 : Int32), K4 x1 x2 x3 = some r → gg p l e rm_isFit s m args below meth c (wM h ad cA) D vwCl A 6 (QI below args s (wM h ad cA) D vwCl A r σ) 4 [(0, .ref h), (1, .int x1), (2, .int x2), (3, .int x3)] [] σ))  (x1 : Int32) (x3 : Int32) (y0 : Int32) (hf : fm_isFit_b99 σ K4 x1 x3 y0 = some r) : gg p l e rm_isFit s m args below meth c (wM h ad cA) D vwCl A 6 (QI below args s (wM h ad cA) D vwCl A r σ) 99 [(0, .ref h), (1, .int x1), (3, .int x3)] [.int y0] σ := by
  unfold fm_isFit_b99 at hf
  refine gr_iconst (v := 1) X dX12_isFit_99 (by decide) ?_
  refine gr_goto X 104 dX12_isFit_100 (by decide) ?_
  refine gr_sub [0, 1, 2] rfl ?_
  exact wm_isFit_b104 X hK hA hK4 _ _ _ _ hf
set_option maxHeartbeats 4000000 in
set_option maxRecDepth 100000 in
theorem wm_isFit_b62 {p : Program} {l : Launch} {e : Env} {s : State} {m : MethodId} {args : Array Value} {below : List Frame} {meth : Method} {c : Code} {A : Nat → Prop} {D : va_G} {cA : ClassId} {h : Nat} {ad : Nat → Nat} {r : Int32} {σ : SM} {K4 : Int32 → Int32 → Int32 → Option Int32} (X : hc p s m args meth c RX12 cX12_isFit 6 (some .boolean)) (hK : kM D cA A s) (hA : ∀ q, s.heap.size ≤ q → A q) (hK4 : (∀ (x1 : Int32) (x2 : Int32) (x3 : Int32), K4 x1 x2 x3 = some r → gg p l e rm_isFit s m args below meth c (wM h ad cA) D vwCl A 6 (QI below args s (wM h ad cA) D vwCl A r σ) 4 [(0, .ref h), (1, .int x1), (2, .int x2), (3, .int x3)] [] σ))  (x1 : Int32) (x2 : Int32) (x3 : Int32) (x4 : Int32) (y0 : Int32) (hf : fm_isFit_b62 σ K4 x1 x2 x3 x4 y0 = some r) : gg p l e rm_isFit s m args below meth c (wM h ad cA) D vwCl A 6 (QI below args s (wM h ad cA) D vwCl A r σ) 62 [(0, .ref h), (1, .int x1), (2, .int x2), (3, .int x3), (4, .int x4)] [.int y0] σ := by
  unfold fm_isFit_b62 at hf
  refine gr_istore (L2 := [(5, .int y0), (0, .ref h), (1, .int x1), (2, .int x2), (3, .int x3), (4, .int x4)]) X dX12_isFit_62 (by decide) rfl ?_
  refine gr_iload_n X dX12_isFit_64 rfl 3 rfl ?_
  refine gr_iload_n X dX12_isFit_65 rfl 4 rfl ?_
  refine gr_iload_n X dX12_isFit_66 rfl 2 rfl ?_
  refine gr_icmp_eq X 99 dX12_isFit_67 (by decide) (fun hc_ => ?_) (fun hc_ => ?_)
  · replace hf := ot_t hf hc_
    refine gr_sub [1, 2, 4] rfl ?_
    exact wm_isFit_b99 X hK hA hK4 _ _ _ hf
  · replace hf := ot_f hf hc_
    refine gr_iload X dX12_isFit_70 0 rfl ?_
    refine gr_i2l X dX12_isFit_72 ?_
    refine gr_aload_n X dX12_isFit_73 rfl 1 rfl ?_
    refine gM_get_0 X hK dX12_isFit_74 ?_
    refine gr_iload X dX12_isFit_77 5 rfl ?_
    refine gr_iconst (v := 2) X dX12_isFit_79 (by decide) ?_
    refine gr_iadd X dX12_isFit_80 ?_
    have hi_ := oc_1 hf
    replace hf := oc_2 hf
    refine gM_ald_0 X hK (Int32.toNatClampNeg (x4 + (2 : Int32))) hi_ rfl dX12_isFit_81 ?_
    refine gr_i2l X dX12_isFit_82 ?_
    refine gr_aload_n X dX12_isFit_83 rfl 1 rfl ?_
    refine gM_get_0 X hK dX12_isFit_84 ?_
    refine gr_iload X dX12_isFit_87 5 rfl ?_
    refine gr_iconst (v := 3) X dX12_isFit_89 (by decide) ?_
    refine gr_iadd X dX12_isFit_90 ?_
    have hi_ := oc_1 hf
    replace hf := oc_2 hf
    refine gM_ald_0 X hK (Int32.toNatClampNeg (x4 + (3 : Int32))) hi_ rfl dX12_isFit_91 ?_
    refine gr_i2l X dX12_isFit_92 ?_
    obtain ⟨q3, hq_, hf⟩ := ot_b hf
    refine gc_Si (rest := [.int x2]) X kM_ok hK hA cw12_isIn (xm_isIn hq_) rfl ⟨rfl, rfl, Nat.le_of_ble_eq_true rfl, Nat.le_of_ble_eq_true rfl⟩ rfl (Nat.le_of_ble_eq_true rfl) dX12_isFit_93 ?_
    refine gr_if_eq X 103 dX12_isFit_96 (by decide) (fun hc_ => ?_) (fun hc_ => ?_)
    · replace hf := ot_t hf hc_
      refine gr_iconst (v := 0) X dX12_isFit_103 (by decide) ?_
      refine gr_sub [1, 2, 4] rfl ?_
      exact wm_isFit_b104 X hK hA hK4 _ _ _ _ hf
    · replace hf := ot_f hf hc_
      refine gr_sub [1, 2, 4] rfl ?_
      exact wm_isFit_b99 X hK hA hK4 _ _ _ hf
set_option maxHeartbeats 4000000 in
set_option maxRecDepth 100000 in
theorem wm_isFit_l4 {p : Program} {l : Launch} {e : Env} {s : State} {m : MethodId} {args : Array Value} {below : List Frame} {meth : Method} {c : Code} {A : Nat → Prop} {D : va_G} {cA : ClassId} {h : Nat} {ad : Nat → Nat} {r : Int32} {σ : SM} (X : hc p s m args meth c RX12 cX12_isFit 6 (some .boolean)) (hK : kM D cA A s) (hA : ∀ q, s.heap.size ≤ q → A q)  : ∀ (n : Nat) (x1 : Int32) (x2 : Int32) (x3 : Int32), fm_isFit_l4 σ n x1 x2 x3 = some r → gg p l e rm_isFit s m args below meth c (wM h ad cA) D vwCl A 6 (QI below args s (wM h ad cA) D vwCl A r σ) 4 [(0, .ref h), (1, .int x1), (2, .int x2), (3, .int x3)] [] σ := by
  intro n
  induction n with
  | zero =>
    intro x1 x2 x3 hf
    cases (show (none : Option Int32) = some r from hf)
  | succ n ih =>
    intro x1 x2 x3 hf
    unfold fm_isFit_l4 at hf
    refine gr_iload_n X dX12_isFit_4 rfl 3 rfl ?_
    refine gr_aload_n X dX12_isFit_5 rfl 0 rfl ?_
    refine gM_get_0 X hK dX12_isFit_6 ?_
    refine gr_bipush (v := 6) X dX12_isFit_9 (by decide) ?_
    refine gM_ald_0 X hK 6 (by decide) (by decide) dX12_isFit_11 ?_
    refine gr_icmp_ge X 112 dX12_isFit_12 (by decide) (fun hc_ => ?_) (fun hc_ => ?_)
    · replace hf := ot_t hf hc_
      refine gr_iload_n X dX12_isFit_112 rfl 2 rfl ?_
      have hz_ := oc_1 hf
      replace hf := oc_2 hf
      exact gr_zret X dX12_isFit_113 hz_ (Option.some.inj hf) rfl
    · replace hf := ot_f hf hc_
      refine gr_bipush (v := 106) X dX12_isFit_15 (by decide) ?_
      refine gr_iconst (v := 4) X dX12_isFit_17 (by decide) ?_
      refine gr_iload_n X dX12_isFit_18 rfl 3 rfl ?_
      refine gr_imul X dX12_isFit_19 ?_
      refine gr_iadd X dX12_isFit_20 ?_
      refine gM_top (fun v1 e_v1 => ?_)
      replace hf := ot_l hf e_v1
      refine gr_istore (L2 := [(4, .int v1), (0, .ref h), (1, .int x1), (2, .int x2), (3, .int x3)]) X dX12_isFit_21 (by decide) rfl ?_
      refine gr_aload_n X dX12_isFit_23 rfl 1 rfl ?_
      refine gM_get_0 X hK dX12_isFit_24 ?_
      refine gr_iload X dX12_isFit_27 0 rfl ?_
      refine gr_iconst (v := 1) X dX12_isFit_29 (by decide) ?_
      refine gr_iadd X dX12_isFit_30 ?_
      have hi_ := oc_1 hf
      replace hf := oc_2 hf
      refine gM_ald_0 X hK (Int32.toNatClampNeg (v1 + (1 : Int32))) hi_ rfl dX12_isFit_31 ?_
      refine gr_if_ne X 50 dX12_isFit_32 (by decide) (fun hc_ => ?_) (fun hc_ => ?_)
      · replace hf := ot_t hf hc_
        refine gr_aload_n X dX12_isFit_50 rfl 1 rfl ?_
        refine gM_get_22 X hK dX12_isFit_51 ?_
        refine gr_aload_n X dX12_isFit_54 rfl 1 rfl ?_
        refine gM_get_0 X hK dX12_isFit_55 ?_
        refine gr_iload X dX12_isFit_58 0 rfl ?_
        have hi_ := oc_1 hf
        replace hf := oc_2 hf
        refine gM_ald_0 X hK (Int32.toNatClampNeg v1) hi_ rfl dX12_isFit_60 ?_
        have hi_ := oc_1 hf
        replace hf := oc_2 hf
        refine gM_ald_22 X hK (Int32.toNatClampNeg (σ 0 (Int32.toNatClampNeg v1))) hi_ rfl dX12_isFit_61 ?_
        refine gr_sub [1, 2, 3, 4, 0] rfl ?_
        exact wm_isFit_b62 X hK hA ih _ _ _ _ _ hf
      · replace hf := ot_f hf hc_
        refine gr_aload_n X dX12_isFit_35 rfl 1 rfl ?_
        refine gM_get_23 X hK dX12_isFit_36 ?_
        refine gr_aload_n X dX12_isFit_39 rfl 1 rfl ?_
        refine gM_get_0 X hK dX12_isFit_40 ?_
        refine gr_iload X dX12_isFit_43 0 rfl ?_
        have hi_ := oc_1 hf
        replace hf := oc_2 hf
        refine gM_ald_0 X hK (Int32.toNatClampNeg v1) hi_ rfl dX12_isFit_45 ?_
        have hi_ := oc_1 hf
        replace hf := oc_2 hf
        refine gM_ald_23 X hK (Int32.toNatClampNeg (σ 0 (Int32.toNatClampNeg v1))) hi_ rfl dX12_isFit_46 ?_
        refine gr_goto X 62 dX12_isFit_47 (by decide) ?_
        refine gr_sub [1, 2, 3, 4, 0] rfl ?_
        exact wm_isFit_b62 X hK hA ih _ _ _ _ _ hf
set_option maxHeartbeats 4000000 in
set_option maxRecDepth 100000 in
theorem xm_isFit {l : Launch} {D : va_G} {cA : ClassId} {h : Nat} {ad : Nat → Nat} {σ : SM} {x1 : Int32} {r : Int32} (hf : fm_isFit σ x1 = some r) : ctI l (wM h ad cA) D vwCl (kM D cA) yX12_isFit cX12_isFit 6 .boolean rm_isFit [.ref h, .int x1] σ r σ := by
  refine ct_I RX12 (by decide +kernel) rfl (Nat.le_of_ble_eq_true rfl) ?_
  intro p e s m args below meth c A X hK hA
  refine gr_eqL (L2 := [(0, .ref h), (1, .int x1)]) rfl ?_
  unfold fm_isFit at hf
  refine gr_iconst (v := 1) X dX12_isFit_0 (by decide) ?_
  refine gr_istore_n (L2 := [(2, .int (1 : Int32)), (0, .ref h), (1, .int x1)]) X dX12_isFit_1 rfl (by decide) rfl ?_
  refine gr_iconst (v := 0) X dX12_isFit_2 (by decide) ?_
  refine gr_istore_n (L2 := [(3, .int (0 : Int32)), (2, .int (1 : Int32)), (0, .ref h), (1, .int x1)]) X dX12_isFit_3 rfl (by decide) rfl ?_
  refine gr_sub [2, 3, 1, 0] rfl ?_
  refine wm_isFit_l4 X hK hA  hFU _ _ _ hf
abbrev rm_findsFits : Room := { frames := 3, cells := 0, slots := 0, locals := 69 }
def fm_findsFits_b77 (K14 : Int32 → Int32 → SM → Option SM) (x1 : Int32) (x2 : Int32) (σ : SM) : Option SM := (K14 x1 (x2 + (1 : Int32)) σ)
def fm_findsFits_b64 (K14 : Int32 → Int32 → SM → Option SM) (x1 : Int32) (x2 : Int32) (y0 : Int32) (σ : SM) : Option SM := (hl (sf σ 25 (fun _ => y0)) fun σ6 => (hl (sf σ6 24 (fun _ => ((σ6 24 0) + (1 : Int32)))) fun σ7 => (fm_findsFits_b77 K14 x1 x2 σ7)))
def fm_findsFits_l14 : Nat → Int32 → Int32 → SM → Option SM
  | 0, _, _, _ => none
  | n + 1, x1, x2, σ => (if (600 : Int32) ≤ x2 then (some σ) else (Option.bind (fm_calledOnBy (x2 / (100 : Int32)) (hrem (x2 / (10 : Int32)) (10 : Int32)) (hrem x2 (10 : Int32)) σ) fun σ4 => (Option.bind (fm_isFit σ4 x1) fun q5 => (if q5 = 0 then (fm_findsFits_b77 (fm_findsFits_l14 n) x1 x2 σ4) else (if ¬ (σ4 24 0) = 0 then (fm_findsFits_b64 (fm_findsFits_l14 n) x1 x2 (σ4 25 0) σ4) else (fm_findsFits_b64 (fm_findsFits_l14 n) x1 x2 x2 σ4))))))
def fm_findsFits (x1 : Int32) (σ : SM) : Option SM := (hl (sf σ 24 (fun _ => (0 : Int32))) fun σ1 => (hl (sf σ1 25 (fun _ => (-3 : Int32))) fun σ2 => (fm_findsFits_l14 hFU x1 (100 : Int32) σ2)))
set_option maxHeartbeats 4000000 in
set_option maxRecDepth 100000 in
theorem wm_findsFits_b77 {p : Program} {l : Launch} {e : Env} {s : State} {m : MethodId} {args : Array Value} {below : List Frame} {meth : Method} {c : Code} {A : Nat → Prop} {D : va_G} {cA : ClassId} {h : Nat} {ad : Nat → Nat} {τ : SM} {K14 : Int32 → Int32 → SM → Option SM} (X : hc p s m args meth c RX12 cX12_findsFits 3 none) (hK : kM D cA A s) (hA : ∀ q, s.heap.size ≤ q → A q) (hK14 : (∀ (x1 : Int32) (x2 : Int32) (σ : SM), K14 x1 x2 σ = some τ → gg p l e rm_findsFits s m args below meth c (wM h ad cA) D vwCl A 3 (QV below args s (wM h ad cA) D vwCl A τ) 14 [(0, .ref h), (1, .int x1), (2, .int x2)] [] σ))  (x1 : Int32) (x2 : Int32) (σ : SM) (hf : fm_findsFits_b77 K14 x1 x2 σ = some τ) : gg p l e rm_findsFits s m args below meth c (wM h ad cA) D vwCl A 3 (QV below args s (wM h ad cA) D vwCl A τ) 77 [(0, .ref h), (1, .int x1), (2, .int x2)] [] σ := by
  unfold fm_findsFits_b77 at hf
  refine gr_iinc (k := 2) (v := 1) (L2 := [(2, .int (x2 + (1 : Int32))), (0, .ref h), (1, .int x1)]) X dX12_findsFits_77 rfl (by decide) (by decide) rfl ?_
  refine gr_goto X 14 dX12_findsFits_80 (by decide) ?_
  refine gr_sub [1, 2, 0] rfl ?_
  exact hK14 _ _ _ hf
set_option maxHeartbeats 4000000 in
set_option maxRecDepth 100000 in
theorem wm_findsFits_b64 {p : Program} {l : Launch} {e : Env} {s : State} {m : MethodId} {args : Array Value} {below : List Frame} {meth : Method} {c : Code} {A : Nat → Prop} {D : va_G} {cA : ClassId} {h : Nat} {ad : Nat → Nat} {τ : SM} {K14 : Int32 → Int32 → SM → Option SM} (X : hc p s m args meth c RX12 cX12_findsFits 3 none) (hK : kM D cA A s) (hA : ∀ q, s.heap.size ≤ q → A q) (hK14 : (∀ (x1 : Int32) (x2 : Int32) (σ : SM), K14 x1 x2 σ = some τ → gg p l e rm_findsFits s m args below meth c (wM h ad cA) D vwCl A 3 (QV below args s (wM h ad cA) D vwCl A τ) 14 [(0, .ref h), (1, .int x1), (2, .int x2)] [] σ))  (x1 : Int32) (x2 : Int32) (y0 : Int32) (σ : SM) (hf : fm_findsFits_b64 K14 x1 x2 y0 σ = some τ) : gg p l e rm_findsFits s m args below meth c (wM h ad cA) D vwCl A 3 (QV below args s (wM h ad cA) D vwCl A τ) 64 [(0, .ref h), (1, .int x1), (2, .int x2)] [.int y0, .ref h] σ := by
  unfold fm_findsFits_b64 at hf
  refine gM_put_25 X hK dX12_findsFits_64 ?_
  refine gM_gen (fun σ6 e_σ6 => ?_)
  replace hf := ot_l hf e_σ6
  refine gr_aload_n X dX12_findsFits_67 rfl 0 rfl ?_
  refine gr_dup X dX12_findsFits_68 rfl ?_
  refine gM_get_24 X hK dX12_findsFits_69 ?_
  refine gr_iconst (v := 1) X dX12_findsFits_72 (by decide) ?_
  refine gr_iadd X dX12_findsFits_73 ?_
  refine gM_put_24 X hK dX12_findsFits_74 ?_
  refine gM_gen (fun σ7 e_σ7 => ?_)
  replace hf := ot_l hf e_σ7
  refine gr_sub [0, 1, 2] rfl ?_
  exact wm_findsFits_b77 X hK hA hK14 _ _ _ hf
set_option maxHeartbeats 4000000 in
set_option maxRecDepth 100000 in
theorem wm_findsFits_l14 {p : Program} {l : Launch} {e : Env} {s : State} {m : MethodId} {args : Array Value} {below : List Frame} {meth : Method} {c : Code} {A : Nat → Prop} {D : va_G} {cA : ClassId} {h : Nat} {ad : Nat → Nat} {τ : SM} (X : hc p s m args meth c RX12 cX12_findsFits 3 none) (hK : kM D cA A s) (hA : ∀ q, s.heap.size ≤ q → A q)  : ∀ (n : Nat) (x1 : Int32) (x2 : Int32) (σ : SM), fm_findsFits_l14 n x1 x2 σ = some τ → gg p l e rm_findsFits s m args below meth c (wM h ad cA) D vwCl A 3 (QV below args s (wM h ad cA) D vwCl A τ) 14 [(0, .ref h), (1, .int x1), (2, .int x2)] [] σ := by
  intro n
  induction n with
  | zero =>
    intro x1 x2 σ hf
    cases (show (none : Option SM) = some τ from hf)
  | succ n ih =>
    intro x1 x2 σ hf
    unfold fm_findsFits_l14 at hf
    refine gr_iload_n X dX12_findsFits_14 rfl 2 rfl ?_
    refine gr_sipush (v := 600) X dX12_findsFits_15 (by decide) ?_
    refine gr_icmp_ge X 83 dX12_findsFits_18 (by decide) (fun hc_ => ?_) (fun hc_ => ?_)
    · replace hf := ot_t hf hc_
      exact gr_vret X dX12_findsFits_83 (Option.some.inj hf)
    · replace hf := ot_f hf hc_
      refine gr_aload_n X dX12_findsFits_21 rfl 0 rfl ?_
      refine gr_iload_n X dX12_findsFits_22 rfl 2 rfl ?_
      refine gr_bipush (v := 100) X dX12_findsFits_23 (by decide) ?_
      refine gr_idiv X dX12_findsFits_25 (by decide) ?_
      refine gr_iload_n X dX12_findsFits_26 rfl 2 rfl ?_
      refine gr_bipush (v := 10) X dX12_findsFits_27 (by decide) ?_
      refine gr_idiv X dX12_findsFits_29 (by decide) ?_
      refine gr_bipush (v := 10) X dX12_findsFits_30 (by decide) ?_
      refine gr_irem X dX12_findsFits_32 (by decide) ?_
      refine gr_iload_n X dX12_findsFits_33 rfl 2 rfl ?_
      refine gr_bipush (v := 10) X dX12_findsFits_34 (by decide) ?_
      refine gr_irem X dX12_findsFits_36 (by decide) ?_
      obtain ⟨σ4, hq_, hf⟩ := ot_b hf
      refine gc_Vv (rest := []) X kM_ok hK hA cw12_calledOnBy (rvM hK) (xm_calledOnBy hq_) rfl ⟨rfl, rfl, Nat.le_of_ble_eq_true rfl, Nat.le_of_ble_eq_true rfl⟩ rfl (Nat.le_of_ble_eq_true rfl) dX12_findsFits_37 ?_
      refine gr_aload_n X dX12_findsFits_40 rfl 0 rfl ?_
      refine gr_iload_n X dX12_findsFits_41 rfl 1 rfl ?_
      obtain ⟨q5, hq_, hf⟩ := ot_b hf
      refine gc_Vi (rest := []) X kM_ok hK hA cw12_isFit (rvM hK) (xm_isFit hq_) rfl ⟨rfl, rfl, Nat.le_of_ble_eq_true rfl, Nat.le_of_ble_eq_true rfl⟩ rfl (Nat.le_of_ble_eq_true rfl) dX12_findsFits_42 ?_
      refine gr_if_eq X 77 dX12_findsFits_45 (by decide) (fun hc_ => ?_) (fun hc_ => ?_)
      · replace hf := ot_t hf hc_
        refine gr_sub [0, 1, 2] rfl ?_
        exact wm_findsFits_b77 X hK hA ih _ _ _ hf
      · replace hf := ot_f hf hc_
        refine gr_aload_n X dX12_findsFits_48 rfl 0 rfl ?_
        refine gr_aload_n X dX12_findsFits_49 rfl 0 rfl ?_
        refine gM_get_24 X hK dX12_findsFits_50 ?_
        refine gr_if_ne X 60 dX12_findsFits_53 (by decide) (fun hc_ => ?_) (fun hc_ => ?_)
        · replace hf := ot_t hf hc_
          refine gr_aload_n X dX12_findsFits_60 rfl 0 rfl ?_
          refine gM_get_25 X hK dX12_findsFits_61 ?_
          refine gr_sub [0, 1, 2] rfl ?_
          exact wm_findsFits_b64 X hK hA ih _ _ _ _ hf
        · replace hf := ot_f hf hc_
          refine gr_iload_n X dX12_findsFits_56 rfl 2 rfl ?_
          refine gr_goto X 64 dX12_findsFits_57 (by decide) ?_
          refine gr_sub [0, 1, 2] rfl ?_
          exact wm_findsFits_b64 X hK hA ih _ _ _ _ hf
set_option maxHeartbeats 4000000 in
set_option maxRecDepth 100000 in
theorem xm_findsFits {l : Launch} {D : va_G} {cA : ClassId} {h : Nat} {ad : Nat → Nat} {σ : SM} {x1 : Int32} {τ : SM} (hf : fm_findsFits x1 σ = some τ) : ctV l (wM h ad cA) D vwCl (kM D cA) yX12_findsFits cX12_findsFits 3 rm_findsFits [.ref h, .int x1] σ τ := by
  refine ct_V RX12 (by decide +kernel) rfl (Nat.le_of_ble_eq_true rfl) ?_
  intro p e s m args below meth c A X hK hA
  refine gr_eqL (L2 := [(0, .ref h), (1, .int x1)]) rfl ?_
  unfold fm_findsFits at hf
  refine gr_aload_n X dX12_findsFits_0 rfl 0 rfl ?_
  refine gr_iconst (v := 0) X dX12_findsFits_1 (by decide) ?_
  refine gM_put_24 X hK dX12_findsFits_2 ?_
  refine gM_gen (fun σ1 e_σ1 => ?_)
  replace hf := ot_l hf e_σ1
  refine gr_aload_n X dX12_findsFits_5 rfl 0 rfl ?_
  refine gr_bipush (v := -3) X dX12_findsFits_6 (by decide) ?_
  refine gM_put_25 X hK dX12_findsFits_8 ?_
  refine gM_gen (fun σ2 e_σ2 => ?_)
  replace hf := ot_l hf e_σ2
  refine gr_bipush (v := 100) X dX12_findsFits_11 (by decide) ?_
  refine gr_istore_n (L2 := [(2, .int (100 : Int32)), (0, .ref h), (1, .int x1)]) X dX12_findsFits_13 rfl (by decide) rfl ?_
  refine gr_sub [1, 2, 0] rfl ?_
  refine wm_findsFits_l14 X hK hA  hFU _ _ _ hf
abbrev rm_cause : Room := { frames := 4, cells := 0, slots := 0, locals := 91 }
def fm_cause_b30 (x1 : Int32) (σ : SM) : Option (Int32 × SM) := (if ¬ x1 = 0 then (some ((-3 : Int32), σ)) else (some ((σ 24 0), σ)))
def fm_cause (x1 : Int32) (σ : SM) : Option (Int32 × SM) := (Option.bind (fm_isIn (Int32.toInt64 x1) (0 : Int64) (3 : Int64)) fun q1 => (if ¬ q1 = 0 then (Option.bind (fm_findsFits (-1 : Int32) σ) fun σ3 => (if x1 = 0 then (fm_cause_b30 x1 σ3) else (if ¬ (σ3 24 0) = 0 then (if ¬ x1 = (1 : Int32) then (if ¬ x1 = (2 : Int32) then (some ((hrem (σ3 25 0) (10 : Int32)), σ3)) else (some ((hrem ((σ3 25 0) / (10 : Int32)) (10 : Int32)), σ3))) else (some (((σ3 25 0) / (100 : Int32)), σ3))) else (fm_cause_b30 x1 σ3)))) else (some ((-1 : Int32), σ))))
set_option maxHeartbeats 4000000 in
set_option maxRecDepth 100000 in
theorem wm_cause_b30 {p : Program} {l : Launch} {e : Env} {s : State} {m : MethodId} {args : Array Value} {below : List Frame} {meth : Method} {c : Code} {A : Nat → Prop} {D : va_G} {cA : ClassId} {h : Nat} {ad : Nat → Nat} {r : Int32} {τ : SM} (X : hc p s m args meth c RX12 cX12_cause 2 (some .int)) (hK : kM D cA A s) (hA : ∀ q, s.heap.size ≤ q → A q)   (x1 : Int32) (σ : SM) (hf : fm_cause_b30 x1 σ = some (r, τ)) : gg p l e rm_cause s m args below meth c (wM h ad cA) D vwCl A 2 (QI below args s (wM h ad cA) D vwCl A r τ) 30 [(0, .ref h), (1, .int x1)] [] σ := by
  unfold fm_cause_b30 at hf
  refine gr_iload_n X dX12_cause_30 rfl 1 rfl ?_
  refine gr_if_ne X 41 dX12_cause_31 (by decide) (fun hc_ => ?_) (fun hc_ => ?_)
  · replace hf := ot_t hf hc_
    refine gr_bipush (v := -3) X dX12_cause_41 (by decide) ?_
    exact gr_iret X dX12_cause_43 (Prod.mk.inj (Option.some.inj hf)).1 (Prod.mk.inj (Option.some.inj hf)).2
  · replace hf := ot_f hf hc_
    refine gr_aload_n X dX12_cause_34 rfl 0 rfl ?_
    refine gM_get_24 X hK dX12_cause_35 ?_
    refine gr_goto X 43 dX12_cause_38 (by decide) ?_
    exact gr_iret X dX12_cause_43 (Prod.mk.inj (Option.some.inj hf)).1 (Prod.mk.inj (Option.some.inj hf)).2
set_option maxHeartbeats 4000000 in
set_option maxRecDepth 100000 in
theorem xm_cause {l : Launch} {D : va_G} {cA : ClassId} {h : Nat} {ad : Nat → Nat} {σ : SM} {x1 : Int32} {r : Int32} {τ : SM} (hf : fm_cause x1 σ = some (r, τ)) : ctI l (wM h ad cA) D vwCl (kM D cA) yX12_cause cX12_cause 2 .int rm_cause [.ref h, .int x1] σ r τ := by
  refine ct_I RX12 (by decide +kernel) rfl (Nat.le_of_ble_eq_true rfl) ?_
  intro p e s m args below meth c A X hK hA
  refine gr_eqL (L2 := [(0, .ref h), (1, .int x1)]) rfl ?_
  unfold fm_cause at hf
  refine gr_iload_n X dX12_cause_0 rfl 1 rfl ?_
  refine gr_i2l X dX12_cause_1 ?_
  refine gr_lconst (v := 0) X dX12_cause_2 (by decide) ?_
  refine gr_ldc2_w X ck12_306 dX12_cause_3 ?_
  obtain ⟨q1, hq_, hf⟩ := ot_b hf
  refine gc_Si (rest := []) X kM_ok hK hA cw12_isIn (xm_isIn hq_) rfl ⟨rfl, rfl, Nat.le_of_ble_eq_true rfl, Nat.le_of_ble_eq_true rfl⟩ rfl (Nat.le_of_ble_eq_true rfl) dX12_cause_6 ?_
  refine gr_if_ne X 14 dX12_cause_9 (by decide) (fun hc_ => ?_) (fun hc_ => ?_)
  · replace hf := ot_t hf hc_
    refine gr_aload_n X dX12_cause_14 rfl 0 rfl ?_
    refine gr_iconst (v := -1) X dX12_cause_15 (by decide) ?_
    obtain ⟨σ3, hq_, hf⟩ := ot_b hf
    refine gc_Vv (rest := []) X kM_ok hK hA cw12_findsFits (rvM hK) (xm_findsFits hq_) rfl ⟨rfl, rfl, Nat.le_of_ble_eq_true rfl, Nat.le_of_ble_eq_true rfl⟩ rfl (Nat.le_of_ble_eq_true rfl) dX12_cause_16 ?_
    refine gr_iload_n X dX12_cause_19 rfl 1 rfl ?_
    refine gr_if_eq X 30 dX12_cause_20 (by decide) (fun hc_ => ?_) (fun hc_ => ?_)
    · replace hf := ot_t hf hc_
      refine gr_sub [0, 1] rfl ?_
      exact wm_cause_b30 X hK hA _ _ hf
    · replace hf := ot_f hf hc_
      refine gr_aload_n X dX12_cause_23 rfl 0 rfl ?_
      refine gM_get_24 X hK dX12_cause_24 ?_
      refine gr_if_ne X 44 dX12_cause_27 (by decide) (fun hc_ => ?_) (fun hc_ => ?_)
      · replace hf := ot_t hf hc_
        refine gr_iload_n X dX12_cause_44 rfl 1 rfl ?_
        refine gr_iconst (v := 1) X dX12_cause_45 (by decide) ?_
        refine gr_icmp_ne X 59 dX12_cause_46 (by decide) (fun hc_ => ?_) (fun hc_ => ?_)
        · replace hf := ot_t hf hc_
          refine gr_iload_n X dX12_cause_59 rfl 1 rfl ?_
          refine gr_iconst (v := 2) X dX12_cause_60 (by decide) ?_
          refine gr_icmp_ne X 77 dX12_cause_61 (by decide) (fun hc_ => ?_) (fun hc_ => ?_)
          · replace hf := ot_t hf hc_
            refine gr_aload_n X dX12_cause_77 rfl 0 rfl ?_
            refine gM_get_25 X hK dX12_cause_78 ?_
            refine gr_bipush (v := 10) X dX12_cause_81 (by decide) ?_
            refine gr_irem X dX12_cause_83 (by decide) ?_
            exact gr_iret X dX12_cause_84 (Prod.mk.inj (Option.some.inj hf)).1 (Prod.mk.inj (Option.some.inj hf)).2
          · replace hf := ot_f hf hc_
            refine gr_aload_n X dX12_cause_64 rfl 0 rfl ?_
            refine gM_get_25 X hK dX12_cause_65 ?_
            refine gr_bipush (v := 10) X dX12_cause_68 (by decide) ?_
            refine gr_idiv X dX12_cause_70 (by decide) ?_
            refine gr_bipush (v := 10) X dX12_cause_71 (by decide) ?_
            refine gr_irem X dX12_cause_73 (by decide) ?_
            refine gr_goto X 84 dX12_cause_74 (by decide) ?_
            exact gr_iret X dX12_cause_84 (Prod.mk.inj (Option.some.inj hf)).1 (Prod.mk.inj (Option.some.inj hf)).2
        · replace hf := ot_f hf hc_
          refine gr_aload_n X dX12_cause_49 rfl 0 rfl ?_
          refine gM_get_25 X hK dX12_cause_50 ?_
          refine gr_bipush (v := 100) X dX12_cause_53 (by decide) ?_
          refine gr_idiv X dX12_cause_55 (by decide) ?_
          refine gr_goto X 84 dX12_cause_56 (by decide) ?_
          exact gr_iret X dX12_cause_84 (Prod.mk.inj (Option.some.inj hf)).1 (Prod.mk.inj (Option.some.inj hf)).2
      · replace hf := ot_f hf hc_
        refine gr_sub [0, 1] rfl ?_
        exact wm_cause_b30 X hK hA _ _ hf
  · replace hf := ot_f hf hc_
    refine gr_iconst (v := -1) X dX12_cause_12 (by decide) ?_
    exact gr_iret X dX12_cause_13 (Prod.mk.inj (Option.some.inj hf)).1 (Prod.mk.inj (Option.some.inj hf)).2
abbrev rm_liar : Room := { frames := 4, cells := 0, slots := 0, locals := 91 }
def fm_liar_b60 (K23 : Int32 → Int32 → Int32 → SM → Option (Int32 × SM)) (x2 : Int32) (x3 : Int32) (y0 : Int32) (σ : SM) : Option (Int32 × SM) := (K23 y0 x2 (x3 + (1 : Int32)) σ)
def fm_liar_l23 : Nat → Int32 → Int32 → Int32 → SM → Option (Int32 × SM)
  | 0, _, _, _, _ => none
  | n + 1, x1, x2, x3, σ => (if (σ 0 6) ≤ x3 then (some (x1, σ)) else (if x2 = 0 then (some (x1, σ)) else (if 0 ≤ x1 then (some (x1, σ)) else (Option.bind (fm_findsFits x3 σ) fun σ4 => (if (σ4 24 0) ≤ 0 then (fm_liar_b60 (fm_liar_l23 n) x2 x3 (-3 : Int32) σ4) else (fm_liar_b60 (fm_liar_l23 n) x2 x3 x3 σ4))))))
def fm_liar_b20 (x1 : Int32) (y0 : Int32) (σ : SM) : Option (Int32 × SM) := (fm_liar_l23 hFU x1 y0 (0 : Int32) σ)
def fm_liar (σ : SM) : Option (Int32 × SM) := (Option.bind (fm_findsFits (-1 : Int32) σ) fun σ2 => (if ¬ (σ2 24 0) = 0 then (fm_liar_b20 (-3 : Int32) (0 : Int32) σ2) else (fm_liar_b20 (-3 : Int32) (1 : Int32) σ2)))
set_option maxHeartbeats 4000000 in
set_option maxRecDepth 100000 in
theorem wm_liar_b60 {p : Program} {l : Launch} {e : Env} {s : State} {m : MethodId} {args : Array Value} {below : List Frame} {meth : Method} {c : Code} {A : Nat → Prop} {D : va_G} {cA : ClassId} {h : Nat} {ad : Nat → Nat} {r : Int32} {τ : SM} {K23 : Int32 → Int32 → Int32 → SM → Option (Int32 × SM)} (X : hc p s m args meth c RX12 cX12_liar 4 (some .int)) (hK : kM D cA A s) (hA : ∀ q, s.heap.size ≤ q → A q) (hK23 : (∀ (x1 : Int32) (x2 : Int32) (x3 : Int32) (σ : SM), K23 x1 x2 x3 σ = some (r, τ) → gg p l e rm_liar s m args below meth c (wM h ad cA) D vwCl A 4 (QI below args s (wM h ad cA) D vwCl A r τ) 23 [(0, .ref h), (1, .int x1), (2, .int x2), (3, .int x3)] [] σ))  (x2 : Int32) (x3 : Int32) (y0 : Int32) (σ : SM) (hf : fm_liar_b60 K23 x2 x3 y0 σ = some (r, τ)) : gg p l e rm_liar s m args below meth c (wM h ad cA) D vwCl A 4 (QI below args s (wM h ad cA) D vwCl A r τ) 60 [(0, .ref h), (2, .int x2), (3, .int x3)] [.int y0] σ := by
  unfold fm_liar_b60 at hf
  refine gr_istore_n (L2 := [(1, .int y0), (0, .ref h), (2, .int x2), (3, .int x3)]) X dX12_liar_60 rfl (by decide) rfl ?_
  refine gr_iinc (k := 3) (v := 1) (L2 := [(3, .int (x3 + (1 : Int32))), (1, .int y0), (0, .ref h), (2, .int x2)]) X dX12_liar_61 rfl (by decide) (by decide) rfl ?_
  refine gr_goto X 23 dX12_liar_64 (by decide) ?_
  refine gr_sub [2, 1, 3, 0] rfl ?_
  exact hK23 _ _ _ _ hf
set_option maxHeartbeats 4000000 in
set_option maxRecDepth 100000 in
theorem wm_liar_l23 {p : Program} {l : Launch} {e : Env} {s : State} {m : MethodId} {args : Array Value} {below : List Frame} {meth : Method} {c : Code} {A : Nat → Prop} {D : va_G} {cA : ClassId} {h : Nat} {ad : Nat → Nat} {r : Int32} {τ : SM} (X : hc p s m args meth c RX12 cX12_liar 4 (some .int)) (hK : kM D cA A s) (hA : ∀ q, s.heap.size ≤ q → A q)  : ∀ (n : Nat) (x1 : Int32) (x2 : Int32) (x3 : Int32) (σ : SM), fm_liar_l23 n x1 x2 x3 σ = some (r, τ) → gg p l e rm_liar s m args below meth c (wM h ad cA) D vwCl A 4 (QI below args s (wM h ad cA) D vwCl A r τ) 23 [(0, .ref h), (1, .int x1), (2, .int x2), (3, .int x3)] [] σ := by
  intro n
  induction n with
  | zero =>
    intro x1 x2 x3 σ hf
    cases (show (none : Option (Int32 × SM)) = some (r, τ) from hf)
  | succ n ih =>
    intro x1 x2 x3 σ hf
    unfold fm_liar_l23 at hf
    refine gr_iload_n X dX12_liar_23 rfl 3 rfl ?_
    refine gr_aload_n X dX12_liar_24 rfl 0 rfl ?_
    refine gM_get_0 X hK dX12_liar_25 ?_
    refine gr_bipush (v := 6) X dX12_liar_28 (by decide) ?_
    refine gM_ald_0 X hK 6 (by decide) (by decide) dX12_liar_30 ?_
    refine gr_icmp_ge X 67 dX12_liar_31 (by decide) (fun hc_ => ?_) (fun hc_ => ?_)
    · replace hf := ot_t hf hc_
      refine gr_iload_n X dX12_liar_67 rfl 1 rfl ?_
      exact gr_iret X dX12_liar_68 (Prod.mk.inj (Option.some.inj hf)).1 (Prod.mk.inj (Option.some.inj hf)).2
    · replace hf := ot_f hf hc_
      refine gr_iload_n X dX12_liar_34 rfl 2 rfl ?_
      refine gr_if_eq X 67 dX12_liar_35 (by decide) (fun hc_ => ?_) (fun hc_ => ?_)
      · replace hf := ot_t hf hc_
        refine gr_iload_n X dX12_liar_67 rfl 1 rfl ?_
        exact gr_iret X dX12_liar_68 (Prod.mk.inj (Option.some.inj hf)).1 (Prod.mk.inj (Option.some.inj hf)).2
      · replace hf := ot_f hf hc_
        refine gr_iload_n X dX12_liar_38 rfl 1 rfl ?_
        refine gr_if_ge X 67 dX12_liar_39 (by decide) (fun hc_ => ?_) (fun hc_ => ?_)
        · replace hf := ot_t hf hc_
          refine gr_iload_n X dX12_liar_67 rfl 1 rfl ?_
          exact gr_iret X dX12_liar_68 (Prod.mk.inj (Option.some.inj hf)).1 (Prod.mk.inj (Option.some.inj hf)).2
        · replace hf := ot_f hf hc_
          refine gr_aload_n X dX12_liar_42 rfl 0 rfl ?_
          refine gr_iload_n X dX12_liar_43 rfl 3 rfl ?_
          obtain ⟨σ4, hq_, hf⟩ := ot_b hf
          refine gc_Vv (rest := []) X kM_ok hK hA cw12_findsFits (rvM hK) (xm_findsFits hq_) rfl ⟨rfl, rfl, Nat.le_of_ble_eq_true rfl, Nat.le_of_ble_eq_true rfl⟩ rfl (Nat.le_of_ble_eq_true rfl) dX12_liar_44 ?_
          refine gr_aload_n X dX12_liar_47 rfl 0 rfl ?_
          refine gM_get_24 X hK dX12_liar_48 ?_
          refine gr_if_le X 58 dX12_liar_51 (by decide) (fun hc_ => ?_) (fun hc_ => ?_)
          · replace hf := ot_t hf hc_
            refine gr_bipush (v := -3) X dX12_liar_58 (by decide) ?_
            refine gr_sub [0, 2, 3] rfl ?_
            exact wm_liar_b60 X hK hA ih _ _ _ _ hf
          · replace hf := ot_f hf hc_
            refine gr_iload_n X dX12_liar_54 rfl 3 rfl ?_
            refine gr_goto X 60 dX12_liar_55 (by decide) ?_
            refine gr_sub [0, 2, 3] rfl ?_
            exact wm_liar_b60 X hK hA ih _ _ _ _ hf
set_option maxHeartbeats 4000000 in
set_option maxRecDepth 100000 in
theorem wm_liar_b20 {p : Program} {l : Launch} {e : Env} {s : State} {m : MethodId} {args : Array Value} {below : List Frame} {meth : Method} {c : Code} {A : Nat → Prop} {D : va_G} {cA : ClassId} {h : Nat} {ad : Nat → Nat} {r : Int32} {τ : SM} (X : hc p s m args meth c RX12 cX12_liar 4 (some .int)) (hK : kM D cA A s) (hA : ∀ q, s.heap.size ≤ q → A q)   (x1 : Int32) (y0 : Int32) (σ : SM) (hf : fm_liar_b20 x1 y0 σ = some (r, τ)) : gg p l e rm_liar s m args below meth c (wM h ad cA) D vwCl A 4 (QI below args s (wM h ad cA) D vwCl A r τ) 20 [(0, .ref h), (1, .int x1)] [.int y0] σ := by
  unfold fm_liar_b20 at hf
  refine gr_istore_n (L2 := [(2, .int y0), (0, .ref h), (1, .int x1)]) X dX12_liar_20 rfl (by decide) rfl ?_
  refine gr_iconst (v := 0) X dX12_liar_21 (by decide) ?_
  refine gr_istore_n (L2 := [(3, .int (0 : Int32)), (2, .int y0), (0, .ref h), (1, .int x1)]) X dX12_liar_22 rfl (by decide) rfl ?_
  refine gr_sub [2, 3, 1, 0] rfl ?_
  refine wm_liar_l23 X hK hA  hFU _ _ _ _ hf
set_option maxHeartbeats 4000000 in
set_option maxRecDepth 100000 in
theorem xm_liar {l : Launch} {D : va_G} {cA : ClassId} {h : Nat} {ad : Nat → Nat} {σ : SM} {r : Int32} {τ : SM} (hf : fm_liar σ = some (r, τ)) : ctI l (wM h ad cA) D vwCl (kM D cA) yX12_liar cX12_liar 4 .int rm_liar [.ref h] σ r τ := by
  refine ct_I RX12 (by decide +kernel) rfl (Nat.le_of_ble_eq_true rfl) ?_
  intro p e s m args below meth c A X hK hA
  refine gr_eqL (L2 := [(0, .ref h)]) rfl ?_
  unfold fm_liar at hf
  refine gr_aload_n X dX12_liar_0 rfl 0 rfl ?_
  refine gr_iconst (v := -1) X dX12_liar_1 (by decide) ?_
  obtain ⟨σ2, hq_, hf⟩ := ot_b hf
  refine gc_Vv (rest := []) X kM_ok hK hA cw12_findsFits (rvM hK) (xm_findsFits hq_) rfl ⟨rfl, rfl, Nat.le_of_ble_eq_true rfl, Nat.le_of_ble_eq_true rfl⟩ rfl (Nat.le_of_ble_eq_true rfl) dX12_liar_2 ?_
  refine gr_bipush (v := -3) X dX12_liar_5 (by decide) ?_
  refine gr_istore_n (L2 := [(1, .int (-3 : Int32)), (0, .ref h)]) X dX12_liar_7 rfl (by decide) rfl ?_
  refine gr_aload_n X dX12_liar_8 rfl 1 rfl ?_
  refine gM_get_24 X hK dX12_liar_9 ?_
  refine gr_if_ne X 19 dX12_liar_12 (by decide) (fun hc_ => ?_) (fun hc_ => ?_)
  · replace hf := ot_t hf hc_
    refine gr_iconst (v := 0) X dX12_liar_19 (by decide) ?_
    refine gr_sub [1, 0] rfl ?_
    exact wm_liar_b20 X hK hA _ _ _ hf
  · replace hf := ot_f hf hc_
    refine gr_iconst (v := 1) X dX12_liar_15 (by decide) ?_
    refine gr_goto X 20 dX12_liar_16 (by decide) ?_
    refine gr_sub [1, 0] rfl ?_
    exact wm_liar_b20 X hK hA _ _ _ hf
