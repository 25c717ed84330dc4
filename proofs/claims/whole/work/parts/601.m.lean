abbrev rm_holds : Room := { frames := 4, cells := 0, slots := 0, locals := 86 }
def fm_holds_b229 (σ : SM) (K235 : Int64 → Option Int32) (K17 : Int32 → Int32 → Int64 → Int32 → Option Int32) (x1 : Int32) (x2 : Int32) (x3 : Int64) (x5 : Int32) : Option Int32 := (K17 x1 x2 x3 (x5 + (1 : Int32)))
def fm_holds_b228 (σ : SM) (K235 : Int64 → Option Int32) (K17 : Int32 → Int32 → Int64 → Int32 → Option Int32) (x1 : Int32) (x2 : Int32) (x5 : Int32) (y0 : Int64) : Option Int32 := (fm_holds_b229 σ K235 K17 x1 x2 y0 x5)
def fm_holds_b170 (σ : SM) (K235 : Int64 → Option Int32) (K17 : Int32 → Int32 → Int64 → Int32 → Option Int32) (x1 : Int32) (x2 : Int32) (x5 : Int32) (y0 : Int64) (y1 : Int64) : Option Int32 := (hl (y1 + y0) fun v8 => (fm_holds_b229 σ K235 K17 x1 x2 v8 x5))
def fm_holds_b153 (σ : SM) (K235 : Int64 → Option Int32) (K17 : Int32 → Int32 → Int64 → Int32 → Option Int32) (x1 : Int32) (x2 : Int32) (x3 : Int64) (x5 : Int32) (y0 : Int32) : Option Int32 := (if y0 = 0 then (fm_holds_b170 σ K235 K17 x1 x2 x5 (0 : Int64) ((2 : Int64) * x3)) else (fm_holds_b170 σ K235 K17 x1 x2 x5 (1 : Int64) ((2 : Int64) * x3)))
def fm_holds_l17 (σ : SM) (K235 : Int64 → Option Int32) : Nat → Int32 → Int32 → Int64 → Int32 → Option Int32
  | 0, _, _, _, _ => none
  | n + 1, x1, x2, x3, x5 => (oc (hin (((74 : Int32) + ((4 : Int32) * x1)) + (3 : Int32)) 580) (if (σ 0 (Int32.toNatClampNeg (((74 : Int32) + ((4 : Int32) * x1)) + (3 : Int32)))) ≤ x5 then (K235 x3) else (oc (hin ((130 : Int32) + ((3 : Int32) * x5)) 580) (hl (σ 0 (Int32.toNatClampNeg ((130 : Int32) + ((3 : Int32) * x5)))) fun v2 => (if (3 : Int32) ≤ v2 then (if ¬ v2 = (3 : Int32) then (hl (x3 &&& (1 : Int64)) fun v3 => (hl (x3 / (2 : Int64)) fun v4 => (if v2 = (4 : Int32) then (if ¬ (lg_cmp v3 (1 : Int64)) = 0 then (fm_holds_b228 σ K235 (fm_holds_l17 σ K235 n) x1 x2 x5 (v4 &&& (-2 : Int64))) else (fm_holds_b228 σ K235 (fm_holds_l17 σ K235 n) x1 x2 x5 v4)) else (fm_holds_b228 σ K235 (fm_holds_l17 σ K235 n) x1 x2 x5 (v4 ||| v3))))) else (hl (x3 ^^^ (1 : Int64)) fun v5 => (fm_holds_b229 σ K235 (fm_holds_l17 σ K235 n) x1 x2 v5 x5))) else (oc (hin (((130 : Int32) + ((3 : Int32) * x5)) + (1 : Int32)) 580) (Option.bind (fm_valueOf σ (σ 0 (Int32.toNatClampNeg (((130 : Int32) + ((3 : Int32) * x5)) + (1 : Int32)))) x2) fun q6 => (oc (hin (((130 : Int32) + ((3 : Int32) * x5)) + (2 : Int32)) 580) (Option.bind (fm_valueOf σ (σ 0 (Int32.toNatClampNeg (((130 : Int32) + ((3 : Int32) * x5)) + (2 : Int32)))) x2) fun q7 => (if ¬ v2 = 0 then (if ¬ v2 = (1 : Int32) then (if q6 ≤ q7 then (fm_holds_b153 σ K235 (fm_holds_l17 σ K235 n) x1 x2 x3 x5 (0 : Int32)) else (fm_holds_b153 σ K235 (fm_holds_l17 σ K235 n) x1 x2 x3 x5 (1 : Int32))) else (if ¬ q6 = q7 then (fm_holds_b153 σ K235 (fm_holds_l17 σ K235 n) x1 x2 x3 x5 (0 : Int32)) else (fm_holds_b153 σ K235 (fm_holds_l17 σ K235 n) x1 x2 x3 x5 (1 : Int32)))) else (if q7 ≤ q6 then (fm_holds_b153 σ K235 (fm_holds_l17 σ K235 n) x1 x2 x3 x5 (0 : Int32)) else (fm_holds_b153 σ K235 (fm_holds_l17 σ K235 n) x1 x2 x3 x5 (1 : Int32)))))))))))))
def fm_holds (σ : SM) (x1 : Int32) (x2 : Int32) : Option Int32 := (oc (hin (((74 : Int32) + ((4 : Int32) * x1)) + (2 : Int32)) 580) (hl (σ 0 (Int32.toNatClampNeg (((74 : Int32) + ((4 : Int32) * x1)) + (2 : Int32)))) fun v1 => (fm_holds_l17 σ (fun x3 => (if ¬ (lg_cmp (hlrem x3 (2 : Int64)) (1 : Int64)) = 0 then (some (0 : Int32)) else (some (1 : Int32)))) hFU x1 x2 (1 : Int64) v1)))
set_option maxHeartbeats 4000000 in
set_option maxRecDepth 100000 in
theorem wm_holds_b229 {p : Program} {l : Launch} {e : Env} {s : State} {m : MethodId} {args : Array Value} {below : List Frame} {meth : Method} {c : Code} {A : Nat → Prop} {D : va_G} {cA : ClassId} {h : Nat} {ad : Nat → Nat} {r : Int32} {σ : SM} {K235 : Int64 → Option Int32} {K17 : Int32 → Int32 → Int64 → Int32 → Option Int32} (X : hc p s m args meth c RX12 cX12_holds 10 (some .boolean)) (hK : kM D cA A s) (hA : ∀ q, s.heap.size ≤ q → A q) (hK235 : (∀ (x3 : Int64), K235 x3 = some r → gg p l e rm_holds s m args below meth c (wM h ad cA) D vwCl A 10 (QI below args s (wM h ad cA) D vwCl A r σ) 235 [(3, .long x3)] [] σ)) (hK17 : (∀ (x1 : Int32) (x2 : Int32) (x3 : Int64) (x5 : Int32), K17 x1 x2 x3 x5 = some r → gg p l e rm_holds s m args below meth c (wM h ad cA) D vwCl A 10 (QI below args s (wM h ad cA) D vwCl A r σ) 17 [(0, .ref h), (1, .int x1), (2, .int x2), (3, .long x3), (5, .int x5)] [] σ))  (x1 : Int32) (x2 : Int32) (x3 : Int64) (x5 : Int32) (hf : fm_holds_b229 σ K235 K17 x1 x2 x3 x5 = some r) : gg p l e rm_holds s m args below meth c (wM h ad cA) D vwCl A 10 (QI below args s (wM h ad cA) D vwCl A r σ) 229 [(0, .ref h), (1, .int x1), (2, .int x2), (3, .long x3), (5, .int x5)] [] σ := by
  unfold fm_holds_b229 at hf
  refine gr_iinc (k := 4) (v := 1) (L2 := [(5, .int (x5 + (1 : Int32))), (0, .ref h), (1, .int x1), (2, .int x2), (3, .long x3)]) X dX12_holds_229 rfl (by decide) (by decide) rfl ?_
  refine gr_goto X 17 dX12_holds_232 (by decide) ?_
  refine gr_sub [1, 2, 3, 4, 0] rfl ?_
  exact hK17 _ _ _ _ hf
set_option maxHeartbeats 4000000 in
set_option maxRecDepth 100000 in
theorem wm_holds_b228 {p : Program} {l : Launch} {e : Env} {s : State} {m : MethodId} {args : Array Value} {below : List Frame} {meth : Method} {c : Code} {A : Nat → Prop} {D : va_G} {cA : ClassId} {h : Nat} {ad : Nat → Nat} {r : Int32} {σ : SM} {K235 : Int64 → Option Int32} {K17 : Int32 → Int32 → Int64 → Int32 → Option Int32} (X : hc p s m args meth c RX12 cX12_holds 10 (some .boolean)) (hK : kM D cA A s) (hA : ∀ q, s.heap.size ≤ q → A q) (hK235 : (∀ (x3 : Int64), K235 x3 = some r → gg p l e rm_holds s m args below meth c (wM h ad cA) D vwCl A 10 (QI below args s (wM h ad cA) D vwCl A r σ) 235 [(3, .long x3)] [] σ)) (hK17 : (∀ (x1 : Int32) (x2 : Int32) (x3 : Int64) (x5 : Int32), K17 x1 x2 x3 x5 = some r → gg p l e rm_holds s m args below meth c (wM h ad cA) D vwCl A 10 (QI below args s (wM h ad cA) D vwCl A r σ) 17 [(0, .ref h), (1, .int x1), (2, .int x2), (3, .long x3), (5, .int x5)] [] σ))  (x1 : Int32) (x2 : Int32) (x5 : Int32) (y0 : Int64) (hf : fm_holds_b228 σ K235 K17 x1 x2 x5 y0 = some r) : gg p l e rm_holds s m args below meth c (wM h ad cA) D vwCl A 10 (QI below args s (wM h ad cA) D vwCl A r σ) 228 [(0, .ref h), (1, .int x1), (2, .int x2), (5, .int x5)] [.long y0] σ := by
  unfold fm_holds_b228 at hf
  refine gr_lstore_n (L2 := [(3, .long y0), (0, .ref h), (1, .int x1), (2, .int x2), (5, .int x5)]) X dX12_holds_228 rfl (by decide) rfl ?_
  refine gr_sub [1, 2, 3, 0, 4] rfl ?_
  exact wm_holds_b229 X hK hA hK235 hK17 _ _ _ _ hf
set_option maxHeartbeats 4000000 in
set_option maxRecDepth 100000 in
theorem wm_holds_b170 {p : Program} {l : Launch} {e : Env} {s : State} {m : MethodId} {args : Array Value} {below : List Frame} {meth : Method} {c : Code} {A : Nat → Prop} {D : va_G} {cA : ClassId} {h : Nat} {ad : Nat → Nat} {r : Int32} {σ : SM} {K235 : Int64 → Option Int32} {K17 : Int32 → Int32 → Int64 → Int32 → Option Int32} (X : hc p s m args meth c RX12 cX12_holds 10 (some .boolean)) (hK : kM D cA A s) (hA : ∀ q, s.heap.size ≤ q → A q) (hK235 : (∀ (x3 : Int64), K235 x3 = some r → gg p l e rm_holds s m args below meth c (wM h ad cA) D vwCl A 10 (QI below args s (wM h ad cA) D vwCl A r σ) 235 [(3, .long x3)] [] σ)) (hK17 : (∀ (x1 : Int32) (x2 : Int32) (x3 : Int64) (x5 : Int32), K17 x1 x2 x3 x5 = some r → gg p l e rm_holds s m args below meth c (wM h ad cA) D vwCl A 10 (QI below args s (wM h ad cA) D vwCl A r σ) 17 [(0, .ref h), (1, .int x1), (2, .int x2), (3, .long x3), (5, .int x5)] [] σ))  (x1 : Int32) (x2 : Int32) (x5 : Int32) (y0 : Int64) (y1 : Int64) (hf : fm_holds_b170 σ K235 K17 x1 x2 x5 y0 y1 = some r) : gg p l e rm_holds s m args below meth c (wM h ad cA) D vwCl A 10 (QI below args s (wM h ad cA) D vwCl A r σ) 170 [(0, .ref h), (1, .int x1), (2, .int x2), (5, .int x5)] [.long y0, .long y1] σ := by
  unfold fm_holds_b170 at hf
  refine gr_ladd X dX12_holds_170 ?_
  refine gM_topl (fun v8 e_v8 => ?_)
  replace hf := ot_l hf e_v8
  refine gr_lstore_n (L2 := [(3, .long v8), (0, .ref h), (1, .int x1), (2, .int x2), (5, .int x5)]) X dX12_holds_171 rfl (by decide) rfl ?_
  refine gr_goto X 229 dX12_holds_172 (by decide) ?_
  refine gr_sub [1, 2, 3, 0, 4] rfl ?_
  exact wm_holds_b229 X hK hA hK235 hK17 _ _ _ _ hf
set_option maxHeartbeats 4000000 in
set_option maxRecDepth 100000 in
theorem wm_holds_b153 {p : Program} {l : Launch} {e : Env} {s : State} {m : MethodId} {args : Array Value} {below : List Frame} {meth : Method} {c : Code} {A : Nat → Prop} {D : va_G} {cA : ClassId} {h : Nat} {ad : Nat → Nat} {r : Int32} {σ : SM} {K235 : Int64 → Option Int32} {K17 : Int32 → Int32 → Int64 → Int32 → Option Int32} (X : hc p s m args meth c RX12 cX12_holds 10 (some .boolean)) (hK : kM D cA A s) (hA : ∀ q, s.heap.size ≤ q → A q) (hK235 : (∀ (x3 : Int64), K235 x3 = some r → gg p l e rm_holds s m args below meth c (wM h ad cA) D vwCl A 10 (QI below args s (wM h ad cA) D vwCl A r σ) 235 [(3, .long x3)] [] σ)) (hK17 : (∀ (x1 : Int32) (x2 : Int32) (x3 : Int64) (x5 : Int32), K17 x1 x2 x3 x5 = some r → gg p l e rm_holds s m args below meth c (wM h ad cA) D vwCl A 10 (QI below args s (wM h ad cA) D vwCl A r σ) 17 [(0, .ref h), (1, .int x1), (2, .int x2), (3, .long x3), (5, .int x5)] [] σ))  (x1 : Int32) (x2 : Int32) (x3 : Int64) (x5 : Int32) (y0 : Int32) (hf : fm_holds_b153 σ K235 K17 x1 x2 x3 x5 y0 = some r) : gg p l e rm_holds s m args below meth c (wM h ad cA) D vwCl A 10 (QI below args s (wM h ad cA) D vwCl A r σ) 153 [(0, .ref h), (1, .int x1), (2, .int x2), (3, .long x3), (5, .int x5)] [.int y0] σ := by
  unfold fm_holds_b153 at hf
  refine gr_istore (L2 := [(9, .int y0), (0, .ref h), (1, .int x1), (2, .int x2), (3, .long x3), (5, .int x5)]) X dX12_holds_153 (by decide) rfl ?_
  refine gr_ldc2_w X ck12_99 dX12_holds_155 ?_
  refine gr_lload_n X dX12_holds_158 rfl 4 rfl ?_
  refine gr_lmul X dX12_holds_159 ?_
  refine gr_iload X dX12_holds_160 0 rfl ?_
  refine gr_if_eq X 169 dX12_holds_162 (by decide) (fun hc_ => ?_) (fun hc_ => ?_)
  · replace hf := ot_t hf hc_
    refine gr_lconst (v := 0) X dX12_holds_169 (by decide) ?_
    refine gr_sub [1, 2, 3, 5] rfl ?_
    exact wm_holds_b170 X hK hA hK235 hK17 _ _ _ _ _ hf
  · replace hf := ot_f hf hc_
    refine gr_lconst (v := 1) X dX12_holds_165 (by decide) ?_
    refine gr_goto X 170 dX12_holds_166 (by decide) ?_
    refine gr_sub [1, 2, 3, 5] rfl ?_
    exact wm_holds_b170 X hK hA hK235 hK17 _ _ _ _ _ hf
set_option maxHeartbeats 4000000 in
set_option maxRecDepth 100000 in
theorem wm_holds_l17 {p : Program} {l : Launch} {e : Env} {s : State} {m : MethodId} {args : Array Value} {below : List Frame} {meth : Method} {c : Code} {A : Nat → Prop} {D : va_G} {cA : ClassId} {h : Nat} {ad : Nat → Nat} {r : Int32} {σ : SM} {K235 : Int64 → Option Int32} (X : hc p s m args meth c RX12 cX12_holds 10 (some .boolean)) (hK : kM D cA A s) (hA : ∀ q, s.heap.size ≤ q → A q) (hK235 : (∀ (x3 : Int64), K235 x3 = some r → gg p l e rm_holds s m args below meth c (wM h ad cA) D vwCl A 10 (QI below args s (wM h ad cA) D vwCl A r σ) 235 [(3, .long x3)] [] σ)) : ∀ (n : Nat) (x1 : Int32) (x2 : Int32) (x3 : Int64) (x5 : Int32), fm_holds_l17 σ K235 n x1 x2 x3 x5 = some r → gg p l e rm_holds s m args below meth c (wM h ad cA) D vwCl A 10 (QI below args s (wM h ad cA) D vwCl A r σ) 17 [(0, .ref h), (1, .int x1), (2, .int x2), (3, .long x3), (5, .int x5)] [] σ := by
  intro n
  induction n with
  | zero =>
    intro x1 x2 x3 x5 hf
    cases (show (none : Option Int32) = some r from hf)
  | succ n ih =>
    intro x1 x2 x3 x5 hf
    unfold fm_holds_l17 at hf
    refine gr_iload X dX12_holds_17 4 rfl ?_
    refine gr_aload_n X dX12_holds_19 rfl 0 rfl ?_
    refine gM_get_0 X hK dX12_holds_20 ?_
    refine gr_bipush (v := 74) X dX12_holds_23 (by decide) ?_
    refine gr_iconst (v := 4) X dX12_holds_25 (by decide) ?_
    refine gr_iload_n X dX12_holds_26 rfl 1 rfl ?_
    refine gr_imul X dX12_holds_27 ?_
    refine gr_iadd X dX12_holds_28 ?_
    refine gr_iconst (v := 3) X dX12_holds_29 (by decide) ?_
    refine gr_iadd X dX12_holds_30 ?_
    have hi_ := oc_1 hf
    replace hf := oc_2 hf
    refine gM_ald_0 X hK (Int32.toNatClampNeg (((74 : Int32) + ((4 : Int32) * x1)) + (3 : Int32))) hi_ rfl dX12_holds_31 ?_
    refine gr_icmp_ge X 235 dX12_holds_32 (by decide) (fun hc_ => ?_) (fun hc_ => ?_)
    · replace hf := ot_t hf hc_
      refine gr_sub [3] rfl ?_
      exact hK235 _ hf
    · replace hf := ot_f hf hc_
      refine gr_aload_n X dX12_holds_35 rfl 0 rfl ?_
      refine gM_get_0 X hK dX12_holds_36 ?_
      refine gr_sipush (v := 130) X dX12_holds_39 (by decide) ?_
      refine gr_iconst (v := 3) X dX12_holds_42 (by decide) ?_
      refine gr_iload X dX12_holds_43 4 rfl ?_
      refine gr_imul X dX12_holds_45 ?_
      refine gr_iadd X dX12_holds_46 ?_
      have hi_ := oc_1 hf
      replace hf := oc_2 hf
      refine gM_ald_0 X hK (Int32.toNatClampNeg ((130 : Int32) + ((3 : Int32) * x5))) hi_ rfl dX12_holds_47 ?_
      refine gM_top (fun v2 e_v2 => ?_)
      replace hf := ot_l hf e_v2
      refine gr_istore (L2 := [(6, .int v2), (0, .ref h), (1, .int x1), (2, .int x2), (3, .long x3), (5, .int x5)]) X dX12_holds_48 (by decide) rfl ?_
      refine gr_iload X dX12_holds_50 0 rfl ?_
      refine gr_iconst (v := 3) X dX12_holds_52 (by decide) ?_
      refine gr_icmp_ge X 175 dX12_holds_53 (by decide) (fun hc_ => ?_) (fun hc_ => ?_)
      · replace hf := ot_t hf hc_
        refine gr_iload X dX12_holds_175 0 rfl ?_
        refine gr_iconst (v := 3) X dX12_holds_177 (by decide) ?_
        refine gr_icmp_ne X 188 dX12_holds_178 (by decide) (fun hc_ => ?_) (fun hc_ => ?_)
        · replace hf := ot_t hf hc_
          refine gr_lload_n X dX12_holds_188 rfl 4 rfl ?_
          refine gr_lconst (v := 1) X dX12_holds_189 (by decide) ?_
          refine gr_land X dX12_holds_190 ?_
          refine gM_topl (fun v3 e_v3 => ?_)
          replace hf := ot_l hf e_v3
          refine gr_lstore (L2 := [(7, .long v3), (6, .int v2), (0, .ref h), (1, .int x1), (2, .int x2), (3, .long x3), (5, .int x5)]) X dX12_holds_191 (by decide) rfl ?_
          refine gr_lload_n X dX12_holds_193 rfl 5 rfl ?_
          refine gr_ldc2_w X ck12_99 dX12_holds_194 ?_
          refine gr_ldiv X dX12_holds_197 (by decide) ?_
          refine gM_topl (fun v4 e_v4 => ?_)
          replace hf := ot_l hf e_v4
          refine gr_lstore_n (L2 := [(3, .long v4), (7, .long v3), (6, .int v2), (0, .ref h), (1, .int x1), (2, .int x2), (5, .int x5)]) X dX12_holds_198 rfl (by decide) rfl ?_
          refine gr_iload X dX12_holds_199 2 rfl ?_
          refine gr_iconst (v := 4) X dX12_holds_201 (by decide) ?_
          refine gr_icmp_eq X 212 dX12_holds_202 (by decide) (fun hc_ => ?_) (fun hc_ => ?_)
          · replace hf := ot_t hf hc_
            refine gr_lload X dX12_holds_212 1 rfl ?_
            refine gr_lconst (v := 1) X dX12_holds_214 (by decide) ?_
            refine gr_lcmp X dX12_holds_215 ?_
            refine gr_if_ne X 223 dX12_holds_216 (by decide) (fun hc_ => ?_) (fun hc_ => ?_)
            · replace hf := ot_t hf hc_
              refine gr_lload_n X dX12_holds_223 rfl 0 rfl ?_
              refine gr_ldc2_w X ck12_101 dX12_holds_224 ?_
              refine gr_land X dX12_holds_227 ?_
              refine gr_sub [3, 4, 5, 6] rfl ?_
              exact wm_holds_b228 X hK hA hK235 ih _ _ _ _ hf
            · replace hf := ot_f hf hc_
              refine gr_lload_n X dX12_holds_219 rfl 0 rfl ?_
              refine gr_goto X 228 dX12_holds_220 (by decide) ?_
              refine gr_sub [3, 4, 5, 6] rfl ?_
              exact wm_holds_b228 X hK hA hK235 ih _ _ _ _ hf
          · replace hf := ot_f hf hc_
            refine gr_lload_n X dX12_holds_205 rfl 0 rfl ?_
            refine gr_lload X dX12_holds_206 1 rfl ?_
            refine gr_lor X dX12_holds_208 ?_
            refine gr_goto X 228 dX12_holds_209 (by decide) ?_
            refine gr_sub [3, 4, 5, 6] rfl ?_
            exact wm_holds_b228 X hK hA hK235 ih _ _ _ _ hf
        · replace hf := ot_f hf hc_
          refine gr_lload_n X dX12_holds_181 rfl 4 rfl ?_
          refine gr_lconst (v := 1) X dX12_holds_182 (by decide) ?_
          refine gr_lxor X dX12_holds_183 ?_
          refine gM_topl (fun v5 e_v5 => ?_)
          replace hf := ot_l hf e_v5
          refine gr_lstore_n (L2 := [(3, .long v5), (6, .int v2), (0, .ref h), (1, .int x1), (2, .int x2), (5, .int x5)]) X dX12_holds_184 rfl (by decide) rfl ?_
          refine gr_goto X 229 dX12_holds_185 (by decide) ?_
          refine gr_sub [2, 3, 4, 0, 5] rfl ?_
          exact wm_holds_b229 X hK hA hK235 ih _ _ _ _ hf
      · replace hf := ot_f hf hc_
        refine gr_aload_n X dX12_holds_56 rfl 1 rfl ?_
        refine gr_aload_n X dX12_holds_57 rfl 1 rfl ?_
        refine gM_get_0 X hK dX12_holds_58 ?_
        refine gr_sipush (v := 130) X dX12_holds_61 (by decide) ?_
        refine gr_iconst (v := 3) X dX12_holds_64 (by decide) ?_
        refine gr_iload X dX12_holds_65 5 rfl ?_
        refine gr_imul X dX12_holds_67 ?_
        refine gr_iadd X dX12_holds_68 ?_
        refine gr_iconst (v := 1) X dX12_holds_69 (by decide) ?_
        refine gr_iadd X dX12_holds_70 ?_
        have hi_ := oc_1 hf
        replace hf := oc_2 hf
        refine gM_ald_0 X hK (Int32.toNatClampNeg (((130 : Int32) + ((3 : Int32) * x5)) + (1 : Int32))) hi_ rfl dX12_holds_71 ?_
        refine gr_iload_n X dX12_holds_72 rfl 3 rfl ?_
        obtain ⟨q6, hq_, hf⟩ := ot_b hf
        refine gc_Vi (rest := []) X kM_ok hK hA cw12_valueOf (rvM hK) (xm_valueOf hq_) rfl ⟨rfl, rfl, Nat.le_of_ble_eq_true rfl, Nat.le_of_ble_eq_true rfl⟩ rfl (Nat.le_of_ble_eq_true rfl) dX12_holds_73 ?_
        refine gr_istore (L2 := [(7, .int q6), (6, .int v2), (0, .ref h), (1, .int x1), (2, .int x2), (3, .long x3), (5, .int x5)]) X dX12_holds_76 (by decide) rfl ?_
        refine gr_aload_n X dX12_holds_78 rfl 2 rfl ?_
        refine gr_aload_n X dX12_holds_79 rfl 2 rfl ?_
        refine gM_get_0 X hK dX12_holds_80 ?_
        refine gr_sipush (v := 130) X dX12_holds_83 (by decide) ?_
        refine gr_iconst (v := 3) X dX12_holds_86 (by decide) ?_
        refine gr_iload X dX12_holds_87 6 rfl ?_
        refine gr_imul X dX12_holds_89 ?_
        refine gr_iadd X dX12_holds_90 ?_
        refine gr_iconst (v := 2) X dX12_holds_91 (by decide) ?_
        refine gr_iadd X dX12_holds_92 ?_
        have hi_ := oc_1 hf
        replace hf := oc_2 hf
        refine gM_ald_0 X hK (Int32.toNatClampNeg (((130 : Int32) + ((3 : Int32) * x5)) + (2 : Int32))) hi_ rfl dX12_holds_93 ?_
        refine gr_iload_n X dX12_holds_94 rfl 4 rfl ?_
        obtain ⟨q7, hq_, hf⟩ := ot_b hf
        refine gc_Vi (rest := []) X kM_ok hK hA cw12_valueOf (rvM hK) (xm_valueOf hq_) rfl ⟨rfl, rfl, Nat.le_of_ble_eq_true rfl, Nat.le_of_ble_eq_true rfl⟩ rfl (Nat.le_of_ble_eq_true rfl) dX12_holds_95 ?_
        refine gr_istore (L2 := [(8, .int q7), (7, .int q6), (6, .int v2), (0, .ref h), (1, .int x1), (2, .int x2), (3, .long x3), (5, .int x5)]) X dX12_holds_98 (by decide) rfl ?_
        refine gr_iload X dX12_holds_100 2 rfl ?_
        refine gr_if_ne X 120 dX12_holds_102 (by decide) (fun hc_ => ?_) (fun hc_ => ?_)
        · replace hf := ot_t hf hc_
          refine gr_iload X dX12_holds_120 2 rfl ?_
          refine gr_iconst (v := 1) X dX12_holds_122 (by decide) ?_
          refine gr_icmp_ne X 141 dX12_holds_123 (by decide) (fun hc_ => ?_) (fun hc_ => ?_)
          · replace hf := ot_t hf hc_
            refine gr_iload X dX12_holds_141 1 rfl ?_
            refine gr_iload X dX12_holds_143 0 rfl ?_
            refine gr_icmp_le X 152 dX12_holds_145 (by decide) (fun hc_ => ?_) (fun hc_ => ?_)
            · replace hf := ot_t hf hc_
              refine gr_iconst (v := 0) X dX12_holds_152 (by decide) ?_
              refine gr_sub [3, 4, 5, 6, 7] rfl ?_
              exact wm_holds_b153 X hK hA hK235 ih _ _ _ _ _ hf
            · replace hf := ot_f hf hc_
              refine gr_iconst (v := 1) X dX12_holds_148 (by decide) ?_
              refine gr_goto X 153 dX12_holds_149 (by decide) ?_
              refine gr_sub [3, 4, 5, 6, 7] rfl ?_
              exact wm_holds_b153 X hK hA hK235 ih _ _ _ _ _ hf
          · replace hf := ot_f hf hc_
            refine gr_iload X dX12_holds_126 1 rfl ?_
            refine gr_iload X dX12_holds_128 0 rfl ?_
            refine gr_icmp_ne X 137 dX12_holds_130 (by decide) (fun hc_ => ?_) (fun hc_ => ?_)
            · replace hf := ot_t hf hc_
              refine gr_iconst (v := 0) X dX12_holds_137 (by decide) ?_
              refine gr_goto X 153 dX12_holds_138 (by decide) ?_
              refine gr_sub [3, 4, 5, 6, 7] rfl ?_
              exact wm_holds_b153 X hK hA hK235 ih _ _ _ _ _ hf
            · replace hf := ot_f hf hc_
              refine gr_iconst (v := 1) X dX12_holds_133 (by decide) ?_
              refine gr_goto X 153 dX12_holds_134 (by decide) ?_
              refine gr_sub [3, 4, 5, 6, 7] rfl ?_
              exact wm_holds_b153 X hK hA hK235 ih _ _ _ _ _ hf
        · replace hf := ot_f hf hc_
          refine gr_iload X dX12_holds_105 1 rfl ?_
          refine gr_iload X dX12_holds_107 0 rfl ?_
          refine gr_icmp_ge X 116 dX12_holds_109 (by decide) (fun hc_ => ?_) (fun hc_ => ?_)
          · replace hf := ot_t hf hc_
            refine gr_iconst (v := 0) X dX12_holds_116 (by decide) ?_
            refine gr_goto X 153 dX12_holds_117 (by decide) ?_
            refine gr_sub [3, 4, 5, 6, 7] rfl ?_
            exact wm_holds_b153 X hK hA hK235 ih _ _ _ _ _ hf
          · replace hf := ot_f hf hc_
            refine gr_iconst (v := 1) X dX12_holds_112 (by decide) ?_
            refine gr_goto X 153 dX12_holds_113 (by decide) ?_
            refine gr_sub [3, 4, 5, 6, 7] rfl ?_
            exact wm_holds_b153 X hK hA hK235 ih _ _ _ _ _ hf
set_option maxHeartbeats 4000000 in
set_option maxRecDepth 100000 in
theorem xm_holds {l : Launch} {D : va_G} {cA : ClassId} {h : Nat} {ad : Nat → Nat} {σ : SM} {x1 : Int32} {x2 : Int32} {r : Int32} (hf : fm_holds σ x1 x2 = some r) : ctI l (wM h ad cA) D vwCl (kM D cA) yX12_holds cX12_holds 10 .boolean rm_holds [.ref h, .int x1, .int x2] σ r σ := by
  refine ct_I RX12 (by decide +kernel) rfl (Nat.le_of_ble_eq_true rfl) ?_
  intro p e s m args below meth c A X hK hA
  refine gr_eqL (L2 := [(0, .ref h), (1, .int x1), (2, .int x2)]) rfl ?_
  unfold fm_holds at hf
  refine gr_lconst (v := 1) X dX12_holds_0 (by decide) ?_
  refine gr_lstore_n (L2 := [(3, .long (1 : Int64)), (0, .ref h), (1, .int x1), (2, .int x2)]) X dX12_holds_1 rfl (by decide) rfl ?_
  refine gr_aload_n X dX12_holds_2 rfl 1 rfl ?_
  refine gM_get_0 X hK dX12_holds_3 ?_
  refine gr_bipush (v := 74) X dX12_holds_6 (by decide) ?_
  refine gr_iconst (v := 4) X dX12_holds_8 (by decide) ?_
  refine gr_iload_n X dX12_holds_9 rfl 2 rfl ?_
  refine gr_imul X dX12_holds_10 ?_
  refine gr_iadd X dX12_holds_11 ?_
  refine gr_iconst (v := 2) X dX12_holds_12 (by decide) ?_
  refine gr_iadd X dX12_holds_13 ?_
  have hi_ := oc_1 hf
  replace hf := oc_2 hf
  refine gM_ald_0 X hK (Int32.toNatClampNeg (((74 : Int32) + ((4 : Int32) * x1)) + (2 : Int32))) hi_ rfl dX12_holds_14 ?_
  refine gM_top (fun v1 e_v1 => ?_)
  replace hf := ot_l hf e_v1
  refine gr_istore (L2 := [(5, .int v1), (3, .long (1 : Int64)), (0, .ref h), (1, .int x1), (2, .int x2)]) X dX12_holds_15 (by decide) rfl ?_
  refine gr_sub [2, 3, 4, 1, 0] rfl ?_
  refine wm_holds_l17 X hK hA (fun x3 hf => ?_) hFU _ _ _ _ hf
  refine gr_lload_n X dX12_holds_235 rfl 0 rfl ?_
  refine gr_ldc2_w X ck12_99 dX12_holds_236 ?_
  refine gr_lrem X dX12_holds_239 (by decide) ?_
  refine gr_lconst (v := 1) X dX12_holds_240 (by decide) ?_
  refine gr_lcmp X dX12_holds_241 ?_
  refine gr_if_ne X 249 dX12_holds_242 (by decide) (fun hc_ => ?_) (fun hc_ => ?_)
  · replace hf := ot_t hf hc_
    refine gr_iconst (v := 0) X dX12_holds_249 (by decide) ?_
    exact gr_zret X dX12_holds_250 (by decide) (Option.some.inj hf) rfl
  · replace hf := ot_f hf hc_
    refine gr_iconst (v := 1) X dX12_holds_245 (by decide) ?_
    refine gr_goto X 250 dX12_holds_246 (by decide) ?_
    exact gr_zret X dX12_holds_250 (by decide) (Option.some.inj hf) rfl
abbrev rm_will : Room := { frames := 5, cells := 0, slots := 0, locals := 115 }
def fm_will_b58 (σ : SM) (K2 : Int32 → Int32 → Option Int32) (x1 : Int32) (x2 : Int32) : Option Int32 := (K2 x1 (x2 + (1 : Int32)))
def fm_will_l2 (σ : SM) : Nat → Int32 → Int32 → Option Int32
  | 0, _, _ => none
  | n + 1, x1, x2 => (if (σ 0 5) ≤ x2 then (some (0 : Int32)) else (Option.bind (fm_its σ x1 (0 : Int32)) fun q1 => (oc (hin ((74 : Int32) + ((4 : Int32) * x2)) 580) (Option.bind (fm_isUnder q1 (σ 0 (Int32.toNatClampNeg ((74 : Int32) + ((4 : Int32) * x2))))) fun q2 => (if q2 = 0 then (fm_will_b58 σ (fm_will_l2 σ n) x1 x2) else (Option.bind (fm_holds σ x2 x1) fun q3 => (if q3 = 0 then (fm_will_b58 σ (fm_will_l2 σ n) x1 x2) else (oc (hin (((74 : Int32) + ((4 : Int32) * x2)) + (1 : Int32)) 580) (some (σ 0 (Int32.toNatClampNeg (((74 : Int32) + ((4 : Int32) * x2)) + (1 : Int32)))))))))))))
def fm_will (σ : SM) (x1 : Int32) : Option Int32 := (fm_will_l2 σ hFU x1 (0 : Int32))
set_option maxHeartbeats 4000000 in
set_option maxRecDepth 100000 in
theorem wm_will_b58 {p : Program} {l : Launch} {e : Env} {s : State} {m : MethodId} {args : Array Value} {below : List Frame} {meth : Method} {c : Code} {A : Nat → Prop} {D : va_G} {cA : ClassId} {h : Nat} {ad : Nat → Nat} {r : Int32} {σ : SM} {K2 : Int32 → Int32 → Option Int32} (X : hc p s m args meth c RX12 cX12_will 3 (some .int)) (hK : kM D cA A s) (hA : ∀ q, s.heap.size ≤ q → A q) (hK2 : (∀ (x1 : Int32) (x2 : Int32), K2 x1 x2 = some r → gg p l e rm_will s m args below meth c (wM h ad cA) D vwCl A 3 (QI below args s (wM h ad cA) D vwCl A r σ) 2 [(0, .ref h), (1, .int x1), (2, .int x2)] [] σ))  (x1 : Int32) (x2 : Int32) (hf : fm_will_b58 σ K2 x1 x2 = some r) : gg p l e rm_will s m args below meth c (wM h ad cA) D vwCl A 3 (QI below args s (wM h ad cA) D vwCl A r σ) 58 [(0, .ref h), (1, .int x1), (2, .int x2)] [] σ := by
  unfold fm_will_b58 at hf
  refine gr_iinc (k := 2) (v := 1) (L2 := [(2, .int (x2 + (1 : Int32))), (0, .ref h), (1, .int x1)]) X dX12_will_58 rfl (by decide) (by decide) rfl ?_
  refine gr_goto X 2 dX12_will_61 (by decide) ?_
  refine gr_sub [1, 2, 0] rfl ?_
  exact hK2 _ _ hf
set_option maxHeartbeats 4000000 in
set_option maxRecDepth 100000 in
theorem wm_will_l2 {p : Program} {l : Launch} {e : Env} {s : State} {m : MethodId} {args : Array Value} {below : List Frame} {meth : Method} {c : Code} {A : Nat → Prop} {D : va_G} {cA : ClassId} {h : Nat} {ad : Nat → Nat} {r : Int32} {σ : SM} (X : hc p s m args meth c RX12 cX12_will 3 (some .int)) (hK : kM D cA A s) (hA : ∀ q, s.heap.size ≤ q → A q)  : ∀ (n : Nat) (x1 : Int32) (x2 : Int32), fm_will_l2 σ n x1 x2 = some r → gg p l e rm_will s m args below meth c (wM h ad cA) D vwCl A 3 (QI below args s (wM h ad cA) D vwCl A r σ) 2 [(0, .ref h), (1, .int x1), (2, .int x2)] [] σ := by
  intro n
  induction n with
  | zero =>
    intro x1 x2 hf
    cases (show (none : Option Int32) = some r from hf)
  | succ n ih =>
    intro x1 x2 hf
    unfold fm_will_l2 at hf
    refine gr_iload_n X dX12_will_2 rfl 2 rfl ?_
    refine gr_aload_n X dX12_will_3 rfl 0 rfl ?_
    refine gM_get_0 X hK dX12_will_4 ?_
    refine gr_iconst (v := 5) X dX12_will_7 (by decide) ?_
    refine gM_ald_0 X hK 5 (by decide) (by decide) dX12_will_8 ?_
    refine gr_icmp_ge X 64 dX12_will_9 (by decide) (fun hc_ => ?_) (fun hc_ => ?_)
    · replace hf := ot_t hf hc_
      refine gr_iconst (v := 0) X dX12_will_64 (by decide) ?_
      exact gr_iret X dX12_will_65 (Option.some.inj hf) rfl
    · replace hf := ot_f hf hc_
      refine gr_aload_n X dX12_will_12 rfl 0 rfl ?_
      refine gr_iload_n X dX12_will_13 rfl 1 rfl ?_
      refine gr_iconst (v := 0) X dX12_will_14 (by decide) ?_
      obtain ⟨q1, hq_, hf⟩ := ot_b hf
      refine gc_Vi (rest := []) X kM_ok hK hA cw12_its (rvM hK) (xm_its hq_) rfl ⟨rfl, rfl, Nat.le_of_ble_eq_true rfl, Nat.le_of_ble_eq_true rfl⟩ rfl (Nat.le_of_ble_eq_true rfl) dX12_will_15 ?_
      refine gr_aload_n X dX12_will_18 rfl 0 rfl ?_
      refine gM_get_0 X hK dX12_will_19 ?_
      refine gr_bipush (v := 74) X dX12_will_22 (by decide) ?_
      refine gr_iconst (v := 4) X dX12_will_24 (by decide) ?_
      refine gr_iload_n X dX12_will_25 rfl 2 rfl ?_
      refine gr_imul X dX12_will_26 ?_
      refine gr_iadd X dX12_will_27 ?_
      have hi_ := oc_1 hf
      replace hf := oc_2 hf
      refine gM_ald_0 X hK (Int32.toNatClampNeg ((74 : Int32) + ((4 : Int32) * x2))) hi_ rfl dX12_will_28 ?_
      obtain ⟨q2, hq_, hf⟩ := ot_b hf
      refine gc_Si (rest := []) X kM_ok hK hA cw12_isUnder (xm_isUnder hq_) rfl ⟨rfl, rfl, Nat.le_of_ble_eq_true rfl, Nat.le_of_ble_eq_true rfl⟩ rfl (Nat.le_of_ble_eq_true rfl) dX12_will_29 ?_
      refine gr_if_eq X 58 dX12_will_32 (by decide) (fun hc_ => ?_) (fun hc_ => ?_)
      · replace hf := ot_t hf hc_
        refine gr_sub [0, 1, 2] rfl ?_
        exact wm_will_b58 X hK hA ih _ _ hf
      · replace hf := ot_f hf hc_
        refine gr_aload_n X dX12_will_35 rfl 0 rfl ?_
        refine gr_iload_n X dX12_will_36 rfl 2 rfl ?_
        refine gr_iload_n X dX12_will_37 rfl 1 rfl ?_
        obtain ⟨q3, hq_, hf⟩ := ot_b hf
        refine gc_Vi (rest := []) X kM_ok hK hA cw12_holds (rvM hK) (xm_holds hq_) rfl ⟨rfl, rfl, Nat.le_of_ble_eq_true rfl, Nat.le_of_ble_eq_true rfl⟩ rfl (Nat.le_of_ble_eq_true rfl) dX12_will_38 ?_
        refine gr_if_eq X 58 dX12_will_41 (by decide) (fun hc_ => ?_) (fun hc_ => ?_)
        · replace hf := ot_t hf hc_
          refine gr_sub [0, 1, 2] rfl ?_
          exact wm_will_b58 X hK hA ih _ _ hf
        · replace hf := ot_f hf hc_
          refine gr_aload_n X dX12_will_44 rfl 0 rfl ?_
          refine gM_get_0 X hK dX12_will_45 ?_
          refine gr_bipush (v := 74) X dX12_will_48 (by decide) ?_
          refine gr_iconst (v := 4) X dX12_will_50 (by decide) ?_
          refine gr_iload_n X dX12_will_51 rfl 2 rfl ?_
          refine gr_imul X dX12_will_52 ?_
          refine gr_iadd X dX12_will_53 ?_
          refine gr_iconst (v := 1) X dX12_will_54 (by decide) ?_
          refine gr_iadd X dX12_will_55 ?_
          have hi_ := oc_1 hf
          replace hf := oc_2 hf
          refine gM_ald_0 X hK (Int32.toNatClampNeg (((74 : Int32) + ((4 : Int32) * x2)) + (1 : Int32))) hi_ rfl dX12_will_56 ?_
          exact gr_iret X dX12_will_57 (Option.some.inj hf) rfl
set_option maxHeartbeats 4000000 in
set_option maxRecDepth 100000 in
theorem xm_will {l : Launch} {D : va_G} {cA : ClassId} {h : Nat} {ad : Nat → Nat} {σ : SM} {x1 : Int32} {r : Int32} (hf : fm_will σ x1 = some r) : ctI l (wM h ad cA) D vwCl (kM D cA) yX12_will cX12_will 3 .int rm_will [.ref h, .int x1] σ r σ := by
  refine ct_I RX12 (by decide +kernel) rfl (Nat.le_of_ble_eq_true rfl) ?_
  intro p e s m args below meth c A X hK hA
  refine gr_eqL (L2 := [(0, .ref h), (1, .int x1)]) rfl ?_
  unfold fm_will at hf
  refine gr_iconst (v := 0) X dX12_will_0 (by decide) ?_
  refine gr_istore_n (L2 := [(2, .int (0 : Int32)), (0, .ref h), (1, .int x1)]) X dX12_will_1 rfl (by decide) rfl ?_
  refine gr_sub [1, 2, 0] rfl ?_
  refine wm_will_l2 X hK hA  hFU _ _ hf
abbrev rm_guildOf : Room := { frames := 6, cells := 0, slots := 0, locals := 137 }
def fm_guildOf (σ : SM) (x1 : Int32) (x2 : Int32) : Option Int32 := (Option.bind (fm_isOne σ x1) fun q1 => (if q1 = 0 then (some (-1 : Int32)) else (Option.bind (fm_isIn (Int32.toInt64 x2) (0 : Int64) (9 : Int64)) fun q2 => (if ¬ q2 = 0 then (if x2 = 6 then (Option.bind (fm_cheers σ x1) fun q3 => (some ((10 : Int32) + q3))) else (if x2 = 7 then (Option.bind (fm_pays σ x1) fun q4 => (some q4)) else (if x2 = 8 then (Option.bind (fm_will σ x1) fun q5 => (some q5)) else (if x2 = 9 then (Option.bind (fm_late σ x1) fun q6 => (some q6)) else (Option.bind (fm_its σ x1 x2) fun q7 => (some q7)))))) else (some (-1 : Int32))))))
set_option maxHeartbeats 4000000 in
set_option maxRecDepth 100000 in
theorem xm_guildOf {l : Launch} {D : va_G} {cA : ClassId} {h : Nat} {ad : Nat → Nat} {σ : SM} {x1 : Int32} {x2 : Int32} {r : Int32} (hf : fm_guildOf σ x1 x2 = some r) : ctI l (wM h ad cA) D vwCl (kM D cA) yX12_guildOf cX12_guildOf 3 .int rm_guildOf [.ref h, .int x1, .int x2] σ r σ := by
  refine ct_I RX12 (by decide +kernel) rfl (Nat.le_of_ble_eq_true rfl) ?_
  intro p e s m args below meth c A X hK hA
  refine gr_eqL (L2 := [(0, .ref h), (1, .int x1), (2, .int x2)]) rfl ?_
  unfold fm_guildOf at hf
  refine gr_aload_n X dX12_guildOf_0 rfl 0 rfl ?_
  refine gr_iload_n X dX12_guildOf_1 rfl 1 rfl ?_
  obtain ⟨q1, hq_, hf⟩ := ot_b hf
  refine gc_Vi (rest := []) X kM_ok hK hA cw12_isOne (rvM hK) (xm_isOne hq_) rfl ⟨rfl, rfl, Nat.le_of_ble_eq_true rfl, Nat.le_of_ble_eq_true rfl⟩ rfl (Nat.le_of_ble_eq_true rfl) dX12_guildOf_2 ?_
  refine gr_if_eq X 20 dX12_guildOf_5 (by decide) (fun hc_ => ?_) (fun hc_ => ?_)
  · replace hf := ot_t hf hc_
    refine gr_iconst (v := -1) X dX12_guildOf_20 (by decide) ?_
    exact gr_iret X dX12_guildOf_21 (Option.some.inj hf) rfl
  · replace hf := ot_f hf hc_
    refine gr_iload_n X dX12_guildOf_8 rfl 2 rfl ?_
    refine gr_i2l X dX12_guildOf_9 ?_
    refine gr_lconst (v := 0) X dX12_guildOf_10 (by decide) ?_
    refine gr_ldc2_w X ck12_69 dX12_guildOf_11 ?_
    obtain ⟨q2, hq_, hf⟩ := ot_b hf
    refine gc_Si (rest := []) X kM_ok hK hA cw12_isIn (xm_isIn hq_) rfl ⟨rfl, rfl, Nat.le_of_ble_eq_true rfl, Nat.le_of_ble_eq_true rfl⟩ rfl (Nat.le_of_ble_eq_true rfl) dX12_guildOf_14 ?_
    refine gr_if_ne X 22 dX12_guildOf_17 (by decide) (fun hc_ => ?_) (fun hc_ => ?_)
    · replace hf := ot_t hf hc_
      refine gr_iload_n X dX12_guildOf_22 rfl 2 rfl ?_
      by_cases hs0 : x2 = 6
      · replace hf := ot_t hf hs0
        refine gr_tin X (6) 52 dX12_guildOf_23 (by rw [hs0]; decide) (by decide) (by decide) rfl (by decide) ?_
        refine gr_bipush (v := 10) X dX12_guildOf_52 (by decide) ?_
        refine gr_aload_n X dX12_guildOf_54 rfl 0 rfl ?_
        refine gr_iload_n X dX12_guildOf_55 rfl 1 rfl ?_
        obtain ⟨q3, hq_, hf⟩ := ot_b hf
        refine gc_Vi (rest := [.int (10 : Int32)]) X kM_ok hK hA cw12_cheers (rvM hK) (xm_cheers hq_) rfl ⟨rfl, rfl, Nat.le_of_ble_eq_true rfl, Nat.le_of_ble_eq_true rfl⟩ rfl (Nat.le_of_ble_eq_true rfl) dX12_guildOf_56 ?_
        refine gr_iadd X dX12_guildOf_59 ?_
        exact gr_iret X dX12_guildOf_60 (Option.some.inj hf) rfl
      replace hf := ot_f hf hs0
      by_cases hs1 : x2 = 7
      · replace hf := ot_t hf hs1
        refine gr_tin X (7) 61 dX12_guildOf_23 (by rw [hs1]; decide) (by decide) (by decide) rfl (by decide) ?_
        refine gr_aload_n X dX12_guildOf_61 rfl 0 rfl ?_
        refine gr_iload_n X dX12_guildOf_62 rfl 1 rfl ?_
        obtain ⟨q4, hq_, hf⟩ := ot_b hf
        refine gc_Vi (rest := []) X kM_ok hK hA cw12_pays (rvM hK) (xm_pays hq_) rfl ⟨rfl, rfl, Nat.le_of_ble_eq_true rfl, Nat.le_of_ble_eq_true rfl⟩ rfl (Nat.le_of_ble_eq_true rfl) dX12_guildOf_63 ?_
        exact gr_iret X dX12_guildOf_66 (Option.some.inj hf) rfl
      replace hf := ot_f hf hs1
      by_cases hs2 : x2 = 8
      · replace hf := ot_t hf hs2
        refine gr_tin X (8) 67 dX12_guildOf_23 (by rw [hs2]; decide) (by decide) (by decide) rfl (by decide) ?_
        refine gr_aload_n X dX12_guildOf_67 rfl 0 rfl ?_
        refine gr_iload_n X dX12_guildOf_68 rfl 1 rfl ?_
        obtain ⟨q5, hq_, hf⟩ := ot_b hf
        refine gc_Vi (rest := []) X kM_ok hK hA cw12_will (rvM hK) (xm_will hq_) rfl ⟨rfl, rfl, Nat.le_of_ble_eq_true rfl, Nat.le_of_ble_eq_true rfl⟩ rfl (Nat.le_of_ble_eq_true rfl) dX12_guildOf_69 ?_
        exact gr_iret X dX12_guildOf_72 (Option.some.inj hf) rfl
      replace hf := ot_f hf hs2
      by_cases hs3 : x2 = 9
      · replace hf := ot_t hf hs3
        refine gr_tin X (9) 73 dX12_guildOf_23 (by rw [hs3]; decide) (by decide) (by decide) rfl (by decide) ?_
        refine gr_aload_n X dX12_guildOf_73 rfl 0 rfl ?_
        refine gr_iload_n X dX12_guildOf_74 rfl 1 rfl ?_
        obtain ⟨q6, hq_, hf⟩ := ot_b hf
        refine gc_Vi (rest := []) X kM_ok hK hA cw12_late (rvM hK) (xm_late hq_) rfl ⟨rfl, rfl, Nat.le_of_ble_eq_true rfl, Nat.le_of_ble_eq_true rfl⟩ rfl (Nat.le_of_ble_eq_true rfl) dX12_guildOf_75 ?_
        exact gr_iret X dX12_guildOf_78 (Option.some.inj hf) rfl
      replace hf := ot_f hf hs3
      refine gr_tout X 79 dX12_guildOf_23 (by have := lv_neT hs0 (show (6 : Int32).toInt = 6 by decide); have := lv_neT hs1 (show (7 : Int32).toInt = 7 by decide); have := lv_neT hs2 (show (8 : Int32).toInt = 8 by decide); have := lv_neT hs3 (show (9 : Int32).toInt = 9 by decide); omega) (by decide) ?_
      refine gr_aload_n X dX12_guildOf_79 rfl 0 rfl ?_
      refine gr_iload_n X dX12_guildOf_80 rfl 1 rfl ?_
      refine gr_iload_n X dX12_guildOf_81 rfl 2 rfl ?_
      obtain ⟨q7, hq_, hf⟩ := ot_b hf
      refine gc_Vi (rest := []) X kM_ok hK hA cw12_its (rvM hK) (xm_its hq_) rfl ⟨rfl, rfl, Nat.le_of_ble_eq_true rfl, Nat.le_of_ble_eq_true rfl⟩ rfl (Nat.le_of_ble_eq_true rfl) dX12_guildOf_82 ?_
      exact gr_iret X dX12_guildOf_85 (Option.some.inj hf) rfl
    · replace hf := ot_f hf hc_
      refine gr_iconst (v := -1) X dX12_guildOf_20 (by decide) ?_
      exact gr_iret X dX12_guildOf_21 (Option.some.inj hf) rfl
abbrev rm_greatestOf : Room := { frames := 0, cells := 0, slots := 0, locals := 0 }
def fm_greatestOf (x0 : Int32) : Option Int32 := (if ¬ x0 = (1 : Int32) then (if ¬ x0 = (2 : Int32) then (if ¬ x0 = (3 : Int32) then (some (1 : Int32)) else (some (5 : Int32))) else (some (9 : Int32))) else (some (60 : Int32)))
set_option maxHeartbeats 4000000 in
set_option maxRecDepth 100000 in
theorem xm_greatestOf {l : Launch} {D : va_G} {cA : ClassId} {h : Nat} {ad : Nat → Nat} {σ : SM} {x0 : Int32} {r : Int32} (hf : fm_greatestOf x0 = some r) : ctI l (wM h ad cA) D vwCl (kM D cA) yX12_greatestOf cX12_greatestOf 1 .int rm_greatestOf [.int x0] σ r σ := by
  refine ct_I RX12 (by decide +kernel) rfl (Nat.le_of_ble_eq_true rfl) ?_
  intro p e s m args below meth c A X hK hA
  refine gr_eqL (L2 := [(0, .int x0)]) rfl ?_
  unfold fm_greatestOf at hf
  refine gr_iload_n X dX12_greatestOf_0 rfl 0 rfl ?_
  refine gr_iconst (v := 1) X dX12_greatestOf_1 (by decide) ?_
  refine gr_icmp_ne X 10 dX12_greatestOf_2 (by decide) (fun hc_ => ?_) (fun hc_ => ?_)
  · replace hf := ot_t hf hc_
    refine gr_iload_n X dX12_greatestOf_10 rfl 0 rfl ?_
    refine gr_iconst (v := 2) X dX12_greatestOf_11 (by decide) ?_
    refine gr_icmp_ne X 20 dX12_greatestOf_12 (by decide) (fun hc_ => ?_) (fun hc_ => ?_)
    · replace hf := ot_t hf hc_
      refine gr_iload_n X dX12_greatestOf_20 rfl 0 rfl ?_
      refine gr_iconst (v := 3) X dX12_greatestOf_21 (by decide) ?_
      refine gr_icmp_ne X 29 dX12_greatestOf_22 (by decide) (fun hc_ => ?_) (fun hc_ => ?_)
      · replace hf := ot_t hf hc_
        refine gr_iconst (v := 1) X dX12_greatestOf_29 (by decide) ?_
        exact gr_iret X dX12_greatestOf_30 (Option.some.inj hf) rfl
      · replace hf := ot_f hf hc_
        refine gr_iconst (v := 5) X dX12_greatestOf_25 (by decide) ?_
        refine gr_goto X 30 dX12_greatestOf_26 (by decide) ?_
        exact gr_iret X dX12_greatestOf_30 (Option.some.inj hf) rfl
    · replace hf := ot_f hf hc_
      refine gr_bipush (v := 9) X dX12_greatestOf_15 (by decide) ?_
      refine gr_goto X 30 dX12_greatestOf_17 (by decide) ?_
      exact gr_iret X dX12_greatestOf_30 (Option.some.inj hf) rfl
  · replace hf := ot_f hf hc_
    refine gr_bipush (v := 60) X dX12_greatestOf_5 (by decide) ?_
    refine gr_goto X 30 dX12_greatestOf_7 (by decide) ?_
    exact gr_iret X dX12_greatestOf_30 (Option.some.inj hf) rfl
abbrev rm_change : Room := { frames := 1, cells := 0, slots := 0, locals := 25 }
def fm_change_b39 (x1 : Int32) (x2 : Int32) (x3 : Int32) (y0 : Int32) (σ : SM) : Option (Int32 × SM) := (if y0 = 0 then (some ((-1 : Int32), σ)) else (Option.bind (fm_becomes (((10 : Int32) + ((6 : Int32) * x1)) + x2) x3 σ) fun p_ => hl p_.1 fun q2 => hl p_.2 fun σ3 => (some (q2, σ3))))
def fm_change_b38 (x1 : Int32) (x2 : Int32) (x3 : Int32) (σ : SM) : Option (Int32 × SM) := (fm_change_b39 x1 x2 x3 (0 : Int32) σ)
def fm_change (x1 : Int32) (x2 : Int32) (x3 : Int32) (σ : SM) : Option (Int32 × SM) := (Option.bind (fm_isOne σ x1) fun q1 => (if q1 = 0 then (fm_change_b38 x1 x2 x3 σ) else (Option.bind (fm_isIn (Int32.toInt64 x2) (1 : Int64) (5 : Int64)) fun q4 => (if q4 = 0 then (fm_change_b38 x1 x2 x3 σ) else (Option.bind (fm_greatestOf x2) fun q5 => (Option.bind (fm_isIn (Int32.toInt64 x3) (0 : Int64) (Int32.toInt64 q5)) fun q6 => (if q6 = 0 then (fm_change_b38 x1 x2 x3 σ) else (fm_change_b39 x1 x2 x3 (1 : Int32) σ))))))))
set_option maxHeartbeats 4000000 in
set_option maxRecDepth 100000 in
theorem wm_change_b39 {p : Program} {l : Launch} {e : Env} {s : State} {m : MethodId} {args : Array Value} {below : List Frame} {meth : Method} {c : Code} {A : Nat → Prop} {D : va_G} {cA : ClassId} {h : Nat} {ad : Nat → Nat} {r : Int32} {τ : SM} (X : hc p s m args meth c RX12 cX12_change 5 (some .int)) (hK : kM D cA A s) (hA : ∀ q, s.heap.size ≤ q → A q)   (x1 : Int32) (x2 : Int32) (x3 : Int32) (y0 : Int32) (σ : SM) (hf : fm_change_b39 x1 x2 x3 y0 σ = some (r, τ)) : gg p l e rm_change s m args below meth c (wM h ad cA) D vwCl A 5 (QI below args s (wM h ad cA) D vwCl A r τ) 39 [(0, .ref h), (1, .int x1), (2, .int x2), (3, .int x3)] [.int y0] σ := by
  unfold fm_change_b39 at hf
  refine gr_istore (L2 := [(4, .int y0), (0, .ref h), (1, .int x1), (2, .int x2), (3, .int x3)]) X dX12_change_39 (by decide) rfl ?_
  refine gr_iload X dX12_change_41 0 rfl ?_
  refine gr_if_eq X 63 dX12_change_43 (by decide) (fun hc_ => ?_) (fun hc_ => ?_)
  · replace hf := ot_t hf hc_
    refine gr_iconst (v := -1) X dX12_change_63 (by decide) ?_
    exact gr_iret X dX12_change_64 (Prod.mk.inj (Option.some.inj hf)).1 (Prod.mk.inj (Option.some.inj hf)).2
  · replace hf := ot_f hf hc_
    refine gr_aload_n X dX12_change_46 rfl 1 rfl ?_
    refine gr_bipush (v := 10) X dX12_change_47 (by decide) ?_
    refine gr_bipush (v := 6) X dX12_change_49 (by decide) ?_
    refine gr_iload_n X dX12_change_51 rfl 2 rfl ?_
    refine gr_imul X dX12_change_52 ?_
    refine gr_iadd X dX12_change_53 ?_
    refine gr_iload_n X dX12_change_54 rfl 3 rfl ?_
    refine gr_iadd X dX12_change_55 ?_
    refine gr_iload_n X dX12_change_56 rfl 4 rfl ?_
    obtain ⟨⟨q2, σ3⟩, hq_, hf⟩ := ot_b hf
    replace hf := ot_l (y := q2) hf rfl
    replace hf := ot_l (y := σ3) hf rfl
    refine gc_Vi (rest := []) X kM_ok hK hA cw12_becomes (rvM hK) (xm_becomes hq_) rfl ⟨rfl, rfl, Nat.le_of_ble_eq_true rfl, Nat.le_of_ble_eq_true rfl⟩ rfl (Nat.le_of_ble_eq_true rfl) dX12_change_57 ?_
    refine gr_goto X 64 dX12_change_60 (by decide) ?_
    exact gr_iret X dX12_change_64 (Prod.mk.inj (Option.some.inj hf)).1 (Prod.mk.inj (Option.some.inj hf)).2
set_option maxHeartbeats 4000000 in
set_option maxRecDepth 100000 in
theorem wm_change_b38 {p : Program} {l : Launch} {e : Env} {s : State} {m : MethodId} {args : Array Value} {below : List Frame} {meth : Method} {c : Code} {A : Nat → Prop} {D : va_G} {cA : ClassId} {h : Nat} {ad : Nat → Nat} {r : Int32} {τ : SM} (X : hc p s m args meth c RX12 cX12_change 5 (some .int)) (hK : kM D cA A s) (hA : ∀ q, s.heap.size ≤ q → A q)   (x1 : Int32) (x2 : Int32) (x3 : Int32) (σ : SM) (hf : fm_change_b38 x1 x2 x3 σ = some (r, τ)) : gg p l e rm_change s m args below meth c (wM h ad cA) D vwCl A 5 (QI below args s (wM h ad cA) D vwCl A r τ) 38 [(0, .ref h), (1, .int x1), (2, .int x2), (3, .int x3)] [] σ := by
  unfold fm_change_b38 at hf
  refine gr_iconst (v := 0) X dX12_change_38 (by decide) ?_
  refine gr_sub [0, 1, 2, 3] rfl ?_
  exact wm_change_b39 X hK hA _ _ _ _ _ hf
set_option maxHeartbeats 4000000 in
set_option maxRecDepth 100000 in
theorem xm_change {l : Launch} {D : va_G} {cA : ClassId} {h : Nat} {ad : Nat → Nat} {σ : SM} {x1 : Int32} {x2 : Int32} {x3 : Int32} {r : Int32} {τ : SM} (hf : fm_change x1 x2 x3 σ = some (r, τ)) : ctI l (wM h ad cA) D vwCl (kM D cA) yX12_change cX12_change 5 .int rm_change [.ref h, .int x1, .int x2, .int x3] σ r τ := by
  refine ct_I RX12 (by decide +kernel) rfl (Nat.le_of_ble_eq_true rfl) ?_
  intro p e s m args below meth c A X hK hA
  refine gr_eqL (L2 := [(0, .ref h), (1, .int x1), (2, .int x2), (3, .int x3)]) rfl ?_
  unfold fm_change at hf
  refine gr_aload_n X dX12_change_0 rfl 0 rfl ?_
  refine gr_iload_n X dX12_change_1 rfl 1 rfl ?_
  obtain ⟨q1, hq_, hf⟩ := ot_b hf
  refine gc_Vi (rest := []) X kM_ok hK hA cw12_isOne (rvM hK) (xm_isOne hq_) rfl ⟨rfl, rfl, Nat.le_of_ble_eq_true rfl, Nat.le_of_ble_eq_true rfl⟩ rfl (Nat.le_of_ble_eq_true rfl) dX12_change_2 ?_
  refine gr_if_eq X 38 dX12_change_5 (by decide) (fun hc_ => ?_) (fun hc_ => ?_)
  · replace hf := ot_t hf hc_
    refine gr_sub [0, 1, 2, 3] rfl ?_
    exact wm_change_b38 X hK hA _ _ _ _ hf
  · replace hf := ot_f hf hc_
    refine gr_iload_n X dX12_change_8 rfl 2 rfl ?_
    refine gr_i2l X dX12_change_9 ?_
    refine gr_lconst (v := 1) X dX12_change_10 (by decide) ?_
    refine gr_ldc2_w X ck12_61 dX12_change_11 ?_
    obtain ⟨q4, hq_, hf⟩ := ot_b hf
    refine gc_Si (rest := []) X kM_ok hK hA cw12_isIn (xm_isIn hq_) rfl ⟨rfl, rfl, Nat.le_of_ble_eq_true rfl, Nat.le_of_ble_eq_true rfl⟩ rfl (Nat.le_of_ble_eq_true rfl) dX12_change_14 ?_
    refine gr_if_eq X 38 dX12_change_17 (by decide) (fun hc_ => ?_) (fun hc_ => ?_)
    · replace hf := ot_t hf hc_
      refine gr_sub [0, 1, 2, 3] rfl ?_
      exact wm_change_b38 X hK hA _ _ _ _ hf
    · replace hf := ot_f hf hc_
      refine gr_iload_n X dX12_change_20 rfl 3 rfl ?_
      refine gr_i2l X dX12_change_21 ?_
      refine gr_lconst (v := 0) X dX12_change_22 (by decide) ?_
      refine gr_iload_n X dX12_change_23 rfl 2 rfl ?_
      obtain ⟨q5, hq_, hf⟩ := ot_b hf
      refine gc_Si (rest := [.long (0 : Int64), .long (Int32.toInt64 x3)]) X kM_ok hK hA cw12_greatestOf (xm_greatestOf hq_) rfl ⟨rfl, rfl, Nat.le_of_ble_eq_true rfl, Nat.le_of_ble_eq_true rfl⟩ rfl (Nat.le_of_ble_eq_true rfl) dX12_change_24 ?_
      refine gr_i2l X dX12_change_27 ?_
      obtain ⟨q6, hq_, hf⟩ := ot_b hf
      refine gc_Si (rest := []) X kM_ok hK hA cw12_isIn (xm_isIn hq_) rfl ⟨rfl, rfl, Nat.le_of_ble_eq_true rfl, Nat.le_of_ble_eq_true rfl⟩ rfl (Nat.le_of_ble_eq_true rfl) dX12_change_28 ?_
      refine gr_if_eq X 38 dX12_change_31 (by decide) (fun hc_ => ?_) (fun hc_ => ?_)
      · replace hf := ot_t hf hc_
        refine gr_sub [0, 1, 2, 3] rfl ?_
        exact wm_change_b38 X hK hA _ _ _ _ hf
      · replace hf := ot_f hf hc_
        refine gr_iconst (v := 1) X dX12_change_34 (by decide) ?_
        refine gr_goto X 39 dX12_change_35 (by decide) ?_
        refine gr_sub [0, 1, 2, 3] rfl ?_
        exact wm_change_b39 X hK hA _ _ _ _ _ hf
abbrev rm_remake : Room := { frames := 1, cells := 0, slots := 0, locals := 25 }
def fm_remake (x1 : Int32) (x2 : Int32) (σ : SM) : Option (Int32 × SM) := (Option.bind (fm_isOne σ x1) fun q1 => (if q1 = 0 then (some ((-1 : Int32), σ)) else (Option.bind (fm_isIn (Int32.toInt64 x2) (1 : Int64) (5 : Int64)) fun q2 => (if q2 = 0 then (some ((-1 : Int32), σ)) else (Option.bind (fm_becomes ((10 : Int32) + ((6 : Int32) * x1)) x2 σ) fun p_ => hl p_.1 fun q3 => hl p_.2 fun σ4 => (some (q3, σ4)))))))
set_option maxHeartbeats 4000000 in
set_option maxRecDepth 100000 in
theorem xm_remake {l : Launch} {D : va_G} {cA : ClassId} {h : Nat} {ad : Nat → Nat} {σ : SM} {x1 : Int32} {x2 : Int32} {r : Int32} {τ : SM} (hf : fm_remake x1 x2 σ = some (r, τ)) : ctI l (wM h ad cA) D vwCl (kM D cA) yX12_remake cX12_remake 3 .int rm_remake [.ref h, .int x1, .int x2] σ r τ := by
  refine ct_I RX12 (by decide +kernel) rfl (Nat.le_of_ble_eq_true rfl) ?_
  intro p e s m args below meth c A X hK hA
  refine gr_eqL (L2 := [(0, .ref h), (1, .int x1), (2, .int x2)]) rfl ?_
  unfold fm_remake at hf
  refine gr_aload_n X dX12_remake_0 rfl 0 rfl ?_
  refine gr_iload_n X dX12_remake_1 rfl 1 rfl ?_
  obtain ⟨q1, hq_, hf⟩ := ot_b hf
  refine gc_Vi (rest := []) X kM_ok hK hA cw12_isOne (rvM hK) (xm_isOne hq_) rfl ⟨rfl, rfl, Nat.le_of_ble_eq_true rfl, Nat.le_of_ble_eq_true rfl⟩ rfl (Nat.le_of_ble_eq_true rfl) dX12_remake_2 ?_
  refine gr_if_eq X 35 dX12_remake_5 (by decide) (fun hc_ => ?_) (fun hc_ => ?_)
  · replace hf := ot_t hf hc_
    refine gr_iconst (v := -1) X dX12_remake_35 (by decide) ?_
    exact gr_iret X dX12_remake_36 (Prod.mk.inj (Option.some.inj hf)).1 (Prod.mk.inj (Option.some.inj hf)).2
  · replace hf := ot_f hf hc_
    refine gr_iload_n X dX12_remake_8 rfl 2 rfl ?_
    refine gr_i2l X dX12_remake_9 ?_
    refine gr_lconst (v := 1) X dX12_remake_10 (by decide) ?_
    refine gr_ldc2_w X ck12_61 dX12_remake_11 ?_
    obtain ⟨q2, hq_, hf⟩ := ot_b hf
    refine gc_Si (rest := []) X kM_ok hK hA cw12_isIn (xm_isIn hq_) rfl ⟨rfl, rfl, Nat.le_of_ble_eq_true rfl, Nat.le_of_ble_eq_true rfl⟩ rfl (Nat.le_of_ble_eq_true rfl) dX12_remake_14 ?_
    refine gr_if_eq X 35 dX12_remake_17 (by decide) (fun hc_ => ?_) (fun hc_ => ?_)
    · replace hf := ot_t hf hc_
      refine gr_iconst (v := -1) X dX12_remake_35 (by decide) ?_
      exact gr_iret X dX12_remake_36 (Prod.mk.inj (Option.some.inj hf)).1 (Prod.mk.inj (Option.some.inj hf)).2
    · replace hf := ot_f hf hc_
      refine gr_aload_n X dX12_remake_20 rfl 0 rfl ?_
      refine gr_bipush (v := 10) X dX12_remake_21 (by decide) ?_
      refine gr_bipush (v := 6) X dX12_remake_23 (by decide) ?_
      refine gr_iload_n X dX12_remake_25 rfl 1 rfl ?_
      refine gr_imul X dX12_remake_26 ?_
      refine gr_iadd X dX12_remake_27 ?_
      refine gr_iload_n X dX12_remake_28 rfl 2 rfl ?_
      obtain ⟨⟨q3, σ4⟩, hq_, hf⟩ := ot_b hf
      replace hf := ot_l (y := q3) hf rfl
      replace hf := ot_l (y := σ4) hf rfl
      refine gc_Vi (rest := []) X kM_ok hK hA cw12_becomes (rvM hK) (xm_becomes hq_) rfl ⟨rfl, rfl, Nat.le_of_ble_eq_true rfl, Nat.le_of_ble_eq_true rfl⟩ rfl (Nat.le_of_ble_eq_true rfl) dX12_remake_29 ?_
      refine gr_goto X 36 dX12_remake_32 (by decide) ?_
      exact gr_iret X dX12_remake_36 (Prod.mk.inj (Option.some.inj hf)).1 (Prod.mk.inj (Option.some.inj hf)).2
abbrev rm_news : Room := { frames := 1, cells := 0, slots := 0, locals := 25 }
def fm_news (x1 : Int32) (x2 : Int32) (σ : SM) : Option (Int32 × SM) := (Option.bind (fm_isIn (Int32.toInt64 x1) (0 : Int64) (15 : Int64)) fun q1 => (if q1 = 0 then (some ((-1 : Int32), σ)) else (Option.bind (fm_isIn (Int32.toInt64 x2) (0 : Int64) (15 : Int64)) fun q2 => (if q2 = 0 then (some ((-1 : Int32), σ)) else (Option.bind (fm_becomes ((58 : Int32) + x1) x2 σ) fun p_ => hl p_.1 fun q3 => hl p_.2 fun σ4 => (some (q3, σ4)))))))
set_option maxHeartbeats 4000000 in
set_option maxRecDepth 100000 in
theorem xm_news {l : Launch} {D : va_G} {cA : ClassId} {h : Nat} {ad : Nat → Nat} {σ : SM} {x1 : Int32} {x2 : Int32} {r : Int32} {τ : SM} (hf : fm_news x1 x2 σ = some (r, τ)) : ctI l (wM h ad cA) D vwCl (kM D cA) yX12_news cX12_news 3 .int rm_news [.ref h, .int x1, .int x2] σ r τ := by
  refine ct_I RX12 (by decide +kernel) rfl (Nat.le_of_ble_eq_true rfl) ?_
  intro p e s m args below meth c A X hK hA
  refine gr_eqL (L2 := [(0, .ref h), (1, .int x1), (2, .int x2)]) rfl ?_
  unfold fm_news at hf
  refine gr_iload_n X dX12_news_0 rfl 1 rfl ?_
  refine gr_i2l X dX12_news_1 ?_
  refine gr_lconst (v := 0) X dX12_news_2 (by decide) ?_
  refine gr_ldc2_w X ck12_128 dX12_news_3 ?_
  obtain ⟨q1, hq_, hf⟩ := ot_b hf
  refine gc_Si (rest := []) X kM_ok hK hA cw12_isIn (xm_isIn hq_) rfl ⟨rfl, rfl, Nat.le_of_ble_eq_true rfl, Nat.le_of_ble_eq_true rfl⟩ rfl (Nat.le_of_ble_eq_true rfl) dX12_news_6 ?_
  refine gr_if_eq X 36 dX12_news_9 (by decide) (fun hc_ => ?_) (fun hc_ => ?_)
  · replace hf := ot_t hf hc_
    refine gr_iconst (v := -1) X dX12_news_36 (by decide) ?_
    exact gr_iret X dX12_news_37 (Prod.mk.inj (Option.some.inj hf)).1 (Prod.mk.inj (Option.some.inj hf)).2
  · replace hf := ot_f hf hc_
    refine gr_iload_n X dX12_news_12 rfl 2 rfl ?_
    refine gr_i2l X dX12_news_13 ?_
    refine gr_lconst (v := 0) X dX12_news_14 (by decide) ?_
    refine gr_ldc2_w X ck12_128 dX12_news_15 ?_
    obtain ⟨q2, hq_, hf⟩ := ot_b hf
    refine gc_Si (rest := []) X kM_ok hK hA cw12_isIn (xm_isIn hq_) rfl ⟨rfl, rfl, Nat.le_of_ble_eq_true rfl, Nat.le_of_ble_eq_true rfl⟩ rfl (Nat.le_of_ble_eq_true rfl) dX12_news_18 ?_
    refine gr_if_eq X 36 dX12_news_21 (by decide) (fun hc_ => ?_) (fun hc_ => ?_)
    · replace hf := ot_t hf hc_
      refine gr_iconst (v := -1) X dX12_news_36 (by decide) ?_
      exact gr_iret X dX12_news_37 (Prod.mk.inj (Option.some.inj hf)).1 (Prod.mk.inj (Option.some.inj hf)).2
    · replace hf := ot_f hf hc_
      refine gr_aload_n X dX12_news_24 rfl 0 rfl ?_
      refine gr_bipush (v := 58) X dX12_news_25 (by decide) ?_
      refine gr_iload_n X dX12_news_27 rfl 1 rfl ?_
      refine gr_iadd X dX12_news_28 ?_
      refine gr_iload_n X dX12_news_29 rfl 2 rfl ?_
      obtain ⟨⟨q3, σ4⟩, hq_, hf⟩ := ot_b hf
      replace hf := ot_l (y := q3) hf rfl
      replace hf := ot_l (y := σ4) hf rfl
      refine gc_Vi (rest := []) X kM_ok hK hA cw12_becomes (rvM hK) (xm_becomes hq_) rfl ⟨rfl, rfl, Nat.le_of_ble_eq_true rfl, Nat.le_of_ble_eq_true rfl⟩ rfl (Nat.le_of_ble_eq_true rfl) dX12_news_30 ?_
      refine gr_goto X 37 dX12_news_33 (by decide) ?_
      exact gr_iret X dX12_news_37 (Prod.mk.inj (Option.some.inj hf)).1 (Prod.mk.inj (Option.some.inj hf)).2
abbrev rm_street : Room := { frames := 1, cells := 0, slots := 0, locals := 25 }
def fm_street_b33 (x1 : Int32) (x2 : Int32) (x3 : Int32) (y0 : Int64) (y1 : Int64) (y2 : Int64) (σ : SM) : Option (Int32 × SM) := (Option.bind (fm_isIn y2 y1 y0) fun q3 => (if ¬ q3 = 0 then (if ¬ x2 = 0 then (Option.bind (fm_becomes ((52 : Int32) + x1) x3 σ) fun p_ => hl p_.1 fun q4 => hl p_.2 fun σ5 => (some (q4, σ5))) else (Option.bind (fm_becomes ((46 : Int32) + x1) x3 σ) fun p_ => hl p_.1 fun q6 => hl p_.2 fun σ7 => (some (q6, σ7)))) else (some ((-1 : Int32), σ))))
def fm_street (x1 : Int32) (x2 : Int32) (x3 : Int32) (σ : SM) : Option (Int32 × SM) := (Option.bind (fm_isStreet x1) fun q1 => (if q1 = 0 then (some ((-1 : Int32), σ)) else (Option.bind (fm_isIn (Int32.toInt64 x2) (0 : Int64) (1 : Int64)) fun q2 => (if q2 = 0 then (some ((-1 : Int32), σ)) else (if ¬ x2 = 0 then (fm_street_b33 x1 x2 x3 (14 : Int64) (0 : Int64) (Int32.toInt64 x3) σ) else (fm_street_b33 x1 x2 x3 (9 : Int64) (0 : Int64) (Int32.toInt64 x3) σ))))))
set_option maxHeartbeats 4000000 in
set_option maxRecDepth 100000 in
theorem wm_street_b33 {p : Program} {l : Launch} {e : Env} {s : State} {m : MethodId} {args : Array Value} {below : List Frame} {meth : Method} {c : Code} {A : Nat → Prop} {D : va_G} {cA : ClassId} {h : Nat} {ad : Nat → Nat} {r : Int32} {τ : SM} (X : hc p s m args meth c RX12 cX12_street 4 (some .int)) (hK : kM D cA A s) (hA : ∀ q, s.heap.size ≤ q → A q)   (x1 : Int32) (x2 : Int32) (x3 : Int32) (y0 : Int64) (y1 : Int64) (y2 : Int64) (σ : SM) (hf : fm_street_b33 x1 x2 x3 y0 y1 y2 σ = some (r, τ)) : gg p l e rm_street s m args below meth c (wM h ad cA) D vwCl A 4 (QI below args s (wM h ad cA) D vwCl A r τ) 33 [(0, .ref h), (1, .int x1), (2, .int x2), (3, .int x3)] [.long y0, .long y1, .long y2] σ := by
  unfold fm_street_b33 at hf
  obtain ⟨q3, hq_, hf⟩ := ot_b hf
  refine gc_Si (rest := []) X kM_ok hK hA cw12_isIn (xm_isIn hq_) rfl ⟨rfl, rfl, Nat.le_of_ble_eq_true rfl, Nat.le_of_ble_eq_true rfl⟩ rfl (Nat.le_of_ble_eq_true rfl) dX12_street_33 ?_
  refine gr_if_ne X 41 dX12_street_36 (by decide) (fun hc_ => ?_) (fun hc_ => ?_)
  · replace hf := ot_t hf hc_
    refine gr_aload_n X dX12_street_41 rfl 0 rfl ?_
    refine gr_iload_n X dX12_street_42 rfl 2 rfl ?_
    refine gr_if_ne X 51 dX12_street_43 (by decide) (fun hc_ => ?_) (fun hc_ => ?_)
    · replace hf := ot_t hf hc_
      refine gr_bipush (v := 52) X dX12_street_51 (by decide) ?_
      refine gr_iload_n X dX12_street_53 rfl 1 rfl ?_
      refine gr_iadd X dX12_street_54 ?_
      refine gr_iload_n X dX12_street_55 rfl 3 rfl ?_
      obtain ⟨⟨q4, σ5⟩, hq_, hf⟩ := ot_b hf
      replace hf := ot_l (y := q4) hf rfl
      replace hf := ot_l (y := σ5) hf rfl
      refine gc_Vi (rest := []) X kM_ok hK hA cw12_becomes (rvM hK) (xm_becomes hq_) rfl ⟨rfl, rfl, Nat.le_of_ble_eq_true rfl, Nat.le_of_ble_eq_true rfl⟩ rfl (Nat.le_of_ble_eq_true rfl) dX12_street_56 ?_
      exact gr_iret X dX12_street_59 (Prod.mk.inj (Option.some.inj hf)).1 (Prod.mk.inj (Option.some.inj hf)).2
    · replace hf := ot_f hf hc_
      refine gr_bipush (v := 46) X dX12_street_46 (by decide) ?_
      refine gr_goto X 53 dX12_street_48 (by decide) ?_
      refine gr_iload_n X dX12_street_53 rfl 1 rfl ?_
      refine gr_iadd X dX12_street_54 ?_
      refine gr_iload_n X dX12_street_55 rfl 3 rfl ?_
      obtain ⟨⟨q6, σ7⟩, hq_, hf⟩ := ot_b hf
      replace hf := ot_l (y := q6) hf rfl
      replace hf := ot_l (y := σ7) hf rfl
      refine gc_Vi (rest := []) X kM_ok hK hA cw12_becomes (rvM hK) (xm_becomes hq_) rfl ⟨rfl, rfl, Nat.le_of_ble_eq_true rfl, Nat.le_of_ble_eq_true rfl⟩ rfl (Nat.le_of_ble_eq_true rfl) dX12_street_56 ?_
      exact gr_iret X dX12_street_59 (Prod.mk.inj (Option.some.inj hf)).1 (Prod.mk.inj (Option.some.inj hf)).2
  · replace hf := ot_f hf hc_
    refine gr_iconst (v := -1) X dX12_street_39 (by decide) ?_
    exact gr_iret X dX12_street_40 (Prod.mk.inj (Option.some.inj hf)).1 (Prod.mk.inj (Option.some.inj hf)).2
set_option maxHeartbeats 4000000 in
set_option maxRecDepth 100000 in
theorem xm_street {l : Launch} {D : va_G} {cA : ClassId} {h : Nat} {ad : Nat → Nat} {σ : SM} {x1 : Int32} {x2 : Int32} {x3 : Int32} {r : Int32} {τ : SM} (hf : fm_street x1 x2 x3 σ = some (r, τ)) : ctI l (wM h ad cA) D vwCl (kM D cA) yX12_street cX12_street 4 .int rm_street [.ref h, .int x1, .int x2, .int x3] σ r τ := by
  refine ct_I RX12 (by decide +kernel) rfl (Nat.le_of_ble_eq_true rfl) ?_
  intro p e s m args below meth c A X hK hA
  refine gr_eqL (L2 := [(0, .ref h), (1, .int x1), (2, .int x2), (3, .int x3)]) rfl ?_
  unfold fm_street at hf
  refine gr_iload_n X dX12_street_0 rfl 1 rfl ?_
  obtain ⟨q1, hq_, hf⟩ := ot_b hf
  refine gc_Si (rest := []) X kM_ok hK hA cw12_isStreet (xm_isStreet hq_) rfl ⟨rfl, rfl, Nat.le_of_ble_eq_true rfl, Nat.le_of_ble_eq_true rfl⟩ rfl (Nat.le_of_ble_eq_true rfl) dX12_street_1 ?_
  refine gr_if_eq X 39 dX12_street_4 (by decide) (fun hc_ => ?_) (fun hc_ => ?_)
  · replace hf := ot_t hf hc_
    refine gr_iconst (v := -1) X dX12_street_39 (by decide) ?_
    exact gr_iret X dX12_street_40 (Prod.mk.inj (Option.some.inj hf)).1 (Prod.mk.inj (Option.some.inj hf)).2
  · replace hf := ot_f hf hc_
    refine gr_iload_n X dX12_street_7 rfl 2 rfl ?_
    refine gr_i2l X dX12_street_8 ?_
    refine gr_lconst (v := 0) X dX12_street_9 (by decide) ?_
    refine gr_lconst (v := 1) X dX12_street_10 (by decide) ?_
    obtain ⟨q2, hq_, hf⟩ := ot_b hf
    refine gc_Si (rest := []) X kM_ok hK hA cw12_isIn (xm_isIn hq_) rfl ⟨rfl, rfl, Nat.le_of_ble_eq_true rfl, Nat.le_of_ble_eq_true rfl⟩ rfl (Nat.le_of_ble_eq_true rfl) dX12_street_11 ?_
    refine gr_if_eq X 39 dX12_street_14 (by decide) (fun hc_ => ?_) (fun hc_ => ?_)
    · replace hf := ot_t hf hc_
      refine gr_iconst (v := -1) X dX12_street_39 (by decide) ?_
      exact gr_iret X dX12_street_40 (Prod.mk.inj (Option.some.inj hf)).1 (Prod.mk.inj (Option.some.inj hf)).2
    · replace hf := ot_f hf hc_
      refine gr_iload_n X dX12_street_17 rfl 3 rfl ?_
      refine gr_i2l X dX12_street_18 ?_
      refine gr_lconst (v := 0) X dX12_street_19 (by decide) ?_
      refine gr_iload_n X dX12_street_20 rfl 2 rfl ?_
      refine gr_if_ne X 30 dX12_street_21 (by decide) (fun hc_ => ?_) (fun hc_ => ?_)
      · replace hf := ot_t hf hc_
        refine gr_ldc2_w X ck12_130 dX12_street_30 ?_
        refine gr_sub [0, 1, 2, 3] rfl ?_
        exact wm_street_b33 X hK hA _ _ _ _ _ _ _ hf
      · replace hf := ot_f hf hc_
        refine gr_ldc2_w X ck12_69 dX12_street_24 ?_
        refine gr_goto X 33 dX12_street_27 (by decide) ?_
        refine gr_sub [0, 1, 2, 3] rfl ?_
        exact wm_street_b33 X hK hA _ _ _ _ _ _ _ hf
abbrev rm_streetOf : Room := { frames := 1, cells := 0, slots := 0, locals := 25 }
def fm_streetOf (σ : SM) (x1 : Int32) (x2 : Int32) : Option Int32 := (Option.bind (fm_isStreet x1) fun q1 => (if q1 = 0 then (some (-1 : Int32)) else (Option.bind (fm_isIn (Int32.toInt64 x2) (0 : Int64) (1 : Int64)) fun q2 => (if ¬ q2 = 0 then (if ¬ x2 = 0 then (oc (hin ((52 : Int32) + x1) 580) (some (σ 0 (Int32.toNatClampNeg ((52 : Int32) + x1))))) else (oc (hin ((46 : Int32) + x1) 580) (some (σ 0 (Int32.toNatClampNeg ((46 : Int32) + x1)))))) else (some (-1 : Int32))))))
set_option maxHeartbeats 4000000 in
set_option maxRecDepth 100000 in
theorem xm_streetOf {l : Launch} {D : va_G} {cA : ClassId} {h : Nat} {ad : Nat → Nat} {σ : SM} {x1 : Int32} {x2 : Int32} {r : Int32} (hf : fm_streetOf σ x1 x2 = some r) : ctI l (wM h ad cA) D vwCl (kM D cA) yX12_streetOf cX12_streetOf 3 .int rm_streetOf [.ref h, .int x1, .int x2] σ r σ := by
  refine ct_I RX12 (by decide +kernel) rfl (Nat.le_of_ble_eq_true rfl) ?_
  intro p e s m args below meth c A X hK hA
  refine gr_eqL (L2 := [(0, .ref h), (1, .int x1), (2, .int x2)]) rfl ?_
  unfold fm_streetOf at hf
  refine gr_iload_n X dX12_streetOf_0 rfl 1 rfl ?_
  obtain ⟨q1, hq_, hf⟩ := ot_b hf
  refine gc_Si (rest := []) X kM_ok hK hA cw12_isStreet (xm_isStreet hq_) rfl ⟨rfl, rfl, Nat.le_of_ble_eq_true rfl, Nat.le_of_ble_eq_true rfl⟩ rfl (Nat.le_of_ble_eq_true rfl) dX12_streetOf_1 ?_
  refine gr_if_eq X 17 dX12_streetOf_4 (by decide) (fun hc_ => ?_) (fun hc_ => ?_)
  · replace hf := ot_t hf hc_
    refine gr_iconst (v := -1) X dX12_streetOf_17 (by decide) ?_
    exact gr_iret X dX12_streetOf_18 (Option.some.inj hf) rfl
  · replace hf := ot_f hf hc_
    refine gr_iload_n X dX12_streetOf_7 rfl 2 rfl ?_
    refine gr_i2l X dX12_streetOf_8 ?_
    refine gr_lconst (v := 0) X dX12_streetOf_9 (by decide) ?_
    refine gr_lconst (v := 1) X dX12_streetOf_10 (by decide) ?_
    obtain ⟨q2, hq_, hf⟩ := ot_b hf
    refine gc_Si (rest := []) X kM_ok hK hA cw12_isIn (xm_isIn hq_) rfl ⟨rfl, rfl, Nat.le_of_ble_eq_true rfl, Nat.le_of_ble_eq_true rfl⟩ rfl (Nat.le_of_ble_eq_true rfl) dX12_streetOf_11 ?_
    refine gr_if_ne X 19 dX12_streetOf_14 (by decide) (fun hc_ => ?_) (fun hc_ => ?_)
    · replace hf := ot_t hf hc_
      refine gr_aload_n X dX12_streetOf_19 rfl 0 rfl ?_
      refine gM_get_0 X hK dX12_streetOf_20 ?_
      refine gr_iload_n X dX12_streetOf_23 rfl 2 rfl ?_
      refine gr_if_ne X 32 dX12_streetOf_24 (by decide) (fun hc_ => ?_) (fun hc_ => ?_)
      · replace hf := ot_t hf hc_
        refine gr_bipush (v := 52) X dX12_streetOf_32 (by decide) ?_
        refine gr_iload_n X dX12_streetOf_34 rfl 1 rfl ?_
        refine gr_iadd X dX12_streetOf_35 ?_
        have hi_ := oc_1 hf
        replace hf := oc_2 hf
        refine gM_ald_0 X hK (Int32.toNatClampNeg ((52 : Int32) + x1)) hi_ rfl dX12_streetOf_36 ?_
        exact gr_iret X dX12_streetOf_37 (Option.some.inj hf) rfl
      · replace hf := ot_f hf hc_
        refine gr_bipush (v := 46) X dX12_streetOf_27 (by decide) ?_
        refine gr_goto X 34 dX12_streetOf_29 (by decide) ?_
        refine gr_iload_n X dX12_streetOf_34 rfl 1 rfl ?_
        refine gr_iadd X dX12_streetOf_35 ?_
        have hi_ := oc_1 hf
        replace hf := oc_2 hf
        refine gM_ald_0 X hK (Int32.toNatClampNeg ((46 : Int32) + x1)) hi_ rfl dX12_streetOf_36 ?_
        exact gr_iret X dX12_streetOf_37 (Option.some.inj hf) rfl
    · replace hf := ot_f hf hc_
      refine gr_iconst (v := -1) X dX12_streetOf_17 (by decide) ?_
      exact gr_iret X dX12_streetOf_18 (Option.some.inj hf) rfl
abbrev rm_heart : Room := { frames := 1, cells := 0, slots := 0, locals := 25 }
def fm_heart_b26 (x1 : Int32) (x2 : Int32) (y0 : Int64) (y1 : Int64) (y2 : Int64) (σ : SM) : Option (Int32 × SM) := (Option.bind (fm_isIn y2 y1 y0) fun q2 => (if q2 = 0 then (some ((-1 : Int32), σ)) else (Option.bind (fm_becomes ((8 : Int32) + x1) x2 σ) fun p_ => hl p_.1 fun q3 => hl p_.2 fun σ4 => (some (q3, σ4)))))
def fm_heart (x1 : Int32) (x2 : Int32) (σ : SM) : Option (Int32 × SM) := (Option.bind (fm_isIn (Int32.toInt64 x1) (0 : Int64) (1 : Int64)) fun q1 => (if q1 = 0 then (some ((-1 : Int32), σ)) else (if ¬ x1 = 0 then (fm_heart_b26 x1 x2 (99 : Int64) (0 : Int64) (Int32.toInt64 x2) σ) else (fm_heart_b26 x1 x2 (9 : Int64) (0 : Int64) (Int32.toInt64 x2) σ))))
set_option maxHeartbeats 4000000 in
set_option maxRecDepth 100000 in
theorem wm_heart_b26 {p : Program} {l : Launch} {e : Env} {s : State} {m : MethodId} {args : Array Value} {below : List Frame} {meth : Method} {c : Code} {A : Nat → Prop} {D : va_G} {cA : ClassId} {h : Nat} {ad : Nat → Nat} {r : Int32} {τ : SM} (X : hc p s m args meth c RX12 cX12_heart 3 (some .int)) (hK : kM D cA A s) (hA : ∀ q, s.heap.size ≤ q → A q)   (x1 : Int32) (x2 : Int32) (y0 : Int64) (y1 : Int64) (y2 : Int64) (σ : SM) (hf : fm_heart_b26 x1 x2 y0 y1 y2 σ = some (r, τ)) : gg p l e rm_heart s m args below meth c (wM h ad cA) D vwCl A 3 (QI below args s (wM h ad cA) D vwCl A r τ) 26 [(0, .ref h), (1, .int x1), (2, .int x2)] [.long y0, .long y1, .long y2] σ := by
  unfold fm_heart_b26 at hf
  obtain ⟨q2, hq_, hf⟩ := ot_b hf
  refine gc_Si (rest := []) X kM_ok hK hA cw12_isIn (xm_isIn hq_) rfl ⟨rfl, rfl, Nat.le_of_ble_eq_true rfl, Nat.le_of_ble_eq_true rfl⟩ rfl (Nat.le_of_ble_eq_true rfl) dX12_heart_26 ?_
  refine gr_if_eq X 44 dX12_heart_29 (by decide) (fun hc_ => ?_) (fun hc_ => ?_)
  · replace hf := ot_t hf hc_
    refine gr_iconst (v := -1) X dX12_heart_44 (by decide) ?_
    exact gr_iret X dX12_heart_45 (Prod.mk.inj (Option.some.inj hf)).1 (Prod.mk.inj (Option.some.inj hf)).2
  · replace hf := ot_f hf hc_
    refine gr_aload_n X dX12_heart_32 rfl 0 rfl ?_
    refine gr_bipush (v := 8) X dX12_heart_33 (by decide) ?_
    refine gr_iload_n X dX12_heart_35 rfl 1 rfl ?_
    refine gr_iadd X dX12_heart_36 ?_
    refine gr_iload_n X dX12_heart_37 rfl 2 rfl ?_
    obtain ⟨⟨q3, σ4⟩, hq_, hf⟩ := ot_b hf
    replace hf := ot_l (y := q3) hf rfl
    replace hf := ot_l (y := σ4) hf rfl
    refine gc_Vi (rest := []) X kM_ok hK hA cw12_becomes (rvM hK) (xm_becomes hq_) rfl ⟨rfl, rfl, Nat.le_of_ble_eq_true rfl, Nat.le_of_ble_eq_true rfl⟩ rfl (Nat.le_of_ble_eq_true rfl) dX12_heart_38 ?_
    refine gr_goto X 45 dX12_heart_41 (by decide) ?_
    exact gr_iret X dX12_heart_45 (Prod.mk.inj (Option.some.inj hf)).1 (Prod.mk.inj (Option.some.inj hf)).2
set_option maxHeartbeats 4000000 in
set_option maxRecDepth 100000 in
theorem xm_heart {l : Launch} {D : va_G} {cA : ClassId} {h : Nat} {ad : Nat → Nat} {σ : SM} {x1 : Int32} {x2 : Int32} {r : Int32} {τ : SM} (hf : fm_heart x1 x2 σ = some (r, τ)) : ctI l (wM h ad cA) D vwCl (kM D cA) yX12_heart cX12_heart 3 .int rm_heart [.ref h, .int x1, .int x2] σ r τ := by
  refine ct_I RX12 (by decide +kernel) rfl (Nat.le_of_ble_eq_true rfl) ?_
  intro p e s m args below meth c A X hK hA
  refine gr_eqL (L2 := [(0, .ref h), (1, .int x1), (2, .int x2)]) rfl ?_
  unfold fm_heart at hf
  refine gr_iload_n X dX12_heart_0 rfl 1 rfl ?_
  refine gr_i2l X dX12_heart_1 ?_
  refine gr_lconst (v := 0) X dX12_heart_2 (by decide) ?_
  refine gr_lconst (v := 1) X dX12_heart_3 (by decide) ?_
  obtain ⟨q1, hq_, hf⟩ := ot_b hf
  refine gc_Si (rest := []) X kM_ok hK hA cw12_isIn (xm_isIn hq_) rfl ⟨rfl, rfl, Nat.le_of_ble_eq_true rfl, Nat.le_of_ble_eq_true rfl⟩ rfl (Nat.le_of_ble_eq_true rfl) dX12_heart_4 ?_
  refine gr_if_eq X 44 dX12_heart_7 (by decide) (fun hc_ => ?_) (fun hc_ => ?_)
  · replace hf := ot_t hf hc_
    refine gr_iconst (v := -1) X dX12_heart_44 (by decide) ?_
    exact gr_iret X dX12_heart_45 (Prod.mk.inj (Option.some.inj hf)).1 (Prod.mk.inj (Option.some.inj hf)).2
  · replace hf := ot_f hf hc_
    refine gr_iload_n X dX12_heart_10 rfl 2 rfl ?_
    refine gr_i2l X dX12_heart_11 ?_
    refine gr_lconst (v := 0) X dX12_heart_12 (by decide) ?_
    refine gr_iload_n X dX12_heart_13 rfl 1 rfl ?_
    refine gr_if_ne X 23 dX12_heart_14 (by decide) (fun hc_ => ?_) (fun hc_ => ?_)
    · replace hf := ot_t hf hc_
      refine gr_ldc2_w X ck12_132 dX12_heart_23 ?_
      refine gr_sub [0, 1, 2] rfl ?_
      exact wm_heart_b26 X hK hA _ _ _ _ _ _ hf
    · replace hf := ot_f hf hc_
      refine gr_ldc2_w X ck12_69 dX12_heart_17 ?_
      refine gr_goto X 26 dX12_heart_20 (by decide) ?_
      refine gr_sub [0, 1, 2] rfl ?_
      exact wm_heart_b26 X hK hA _ _ _ _ _ _ hf
