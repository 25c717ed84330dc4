/-! THE CLAIM OUT OF ONE WALK OF THE LAW'S BODY. Your part is whole_start (and what it stands on); all else here is the same for every law, but numbers. -/
def R_law : String := "HeartHoursLaw"
def lw_P (b : Addr) (xs : List Int32) (args : Array Value) (s : State) : Prop := args = #[.ref b] ∧ s.IntsAt b xs ∧ xs.length ≤ 2560 ∧ (Jvm.Cond.and given_1 narrow_1).before args s = true
def lw_Q (_ : Array Value) (s : State) (o : Outcome) (t : State) : Prop := o = .returned (some (.int 1)) ∧ Framed s o t [] 600000 7302250
def lw_Z (below : List Frame) (a : Array Value) (s : State) : State → Prop := fun t => ∃ o, t.status = .running ∧ Ended t below o ∧ lw_Q a s o t
/-- the law's own end, with 1 on the stack, nothing written that was there before, its room as the claim has it -/
theorem lw_ret {p : Program} {l : Launch} {e : Env} {s : State} {m : MethodId} {below : List Frame} {meth : Method} {c : Code} {b : Nat} (hx : p.tables.exec = Jvm.exec) (hb : c.code = code) (hr : meth.sig.returnType = ret) (hlocks : meth.locks = false) {pc : Nat} {H : Heap} {ls : Array Slot} (hdg : decode code pc = .ok (.ireturn, 1)) : W p l e room_1 s m #[Value.ref b] below meth c H [] 600000 7302250 (lw_Z below #[Value.ref b] s) (F0 m pc ls [.int 1]) := by
  intro T hT X
  obtain ⟨fs, hret, hrun, hended, hW, hframe⟩ := X.leave (v := some (.int 1)) (hlocks := hlocks) (fun h => by rw [hr] at h; cases h)
  have hmeth' : T.vm.method? m = some meth := X.method'
  refine ⟨T.setFrames fs, ?_, .returned (some (.int 1)), hrun, hended, rfl, ⟨_, rfl⟩, hW, hframe⟩
  jvm_step X.here [X.here.top, hx, hb, hdg, hmeth', hr, ret, narrow_b1]
  (try refine ⟨rfl, ?_⟩); (try refine ⟨rfl, ?_⟩)
  first | (intro acts; rw [hret _ acts rfl rfl rfl]) | rw [hret _ _ rfl rfl rfl]
  exact Steps.refl _
/-- what holds at the law's entry: the machine, the code, the tables' words (any of lw_tbl by 'hts w (by decide +kernel)'), the script of L ints xs at the cell b, what the Statement gives of the start (any of its parts by flat_of_before) -/
def lw_At (p : Program) (s : State) (m : MethodId) (meth : Method) (c : Code) (b L : Nat) (xs : Nat → Int32) : Prop :=
  p.tables.exec = Jvm.exec ∧ c.code = code ∧ meth.sig.returnType = ret ∧ c.maxLocals = 4 ∧ s.vm.findClass R_law = some m.cls ∧ (∀ w ∈ lw_tbl, w.before #[Value.ref b] s = true) ∧ va_X b L xs s s.heap ∧ b < s.heap.size ∧ meth.locks = false ∧ (Jvm.Cond.and given_1 narrow_1).before #[Value.ref b] s = true

/-! THE JUDGEMENT gs: as gg, with cells and slots made so far (kc, ks) -/
def gs {T : Type} (kc ks : Nat) (p : Program) (l : Launch) (e : Env) (R : Room) (s : State) (m : MethodId) (args : Array Value) (below : List Frame) (meth : Method) (c : Code) (wf : T → va_W) (D : va_G) (cl : List vw_C) (A : Nat → Prop) (nL : Nat) (Q : State → Prop) (pc : Nat) (L : List (Nat × Value)) (st : List Value) (σ : T) : Prop :=
  ∀ (H : Heap) (locs : List Loc) (ls : Array Slot), va_P D cl (wf σ) H → va_D A (wf σ) → va_S A s.heap H locs → lv_has ls nL L → W p l e R s m args below meth c H locs kc ks Q (F0 m pc ls st)
section GS
variable {p : Program} {l : Launch} {e : Env} {R : Room} {s : State} {m : MethodId} {args : Array Value} {below : List Frame} {meth : Method} {c : Code}
variable {T : Type} {wf : T → va_W} {D : va_G} {cl : List vw_C} {A : Nat → Prop} {nL : Nat} {Q : State → Prop}
variable {own : String} {cc : ByteArray} {ret : Option FieldType} {pc : Nat} {L : List (Nat × Value)} {st : List Value} {σ : T}
variable {kc ks : Nat}
theorem gs_iconst (X : hc p s m args meth c own cc nL ret) {n : Int} {v : Int32} (hdg : decode cc pc = .ok (.iconst n, 1)) (hv : Int32.ofInt n = v) (kk : gs kc ks p l e R s m args below meth c wf D cl A nL Q (pc + 1) (L) (.int v :: st) σ) : gs kc ks p l e R s m args below meth c wf D cl A nL Q (pc) (L) (st) σ := fun H locs ls hP hD hS h => lv_iconst X.1 X.2.1 hdg hv (kk H locs ls hP hD hS h)
theorem gs_bipush (X : hc p s m args meth c own cc nL ret) {n : Int} {v : Int32} (hdg : decode cc pc = .ok (.bipush n, 2)) (hv : (Int8.ofInt n).toInt32 = v) (kk : gs kc ks p l e R s m args below meth c wf D cl A nL Q (pc + 2) (L) (.int v :: st) σ) : gs kc ks p l e R s m args below meth c wf D cl A nL Q (pc) (L) (st) σ := fun H locs ls hP hD hS h => lv_bipush X.1 X.2.1 hdg hv (kk H locs ls hP hD hS h)
theorem gs_iload_n (X : hc p s m args meth c own cc nL ret) {k : Fin 4} {i : Nat} {x : Int32} (hdg : decode cc pc = .ok (.iload_n k, 1)) (hi : (k : Nat) = i) (j : Nat) (hl : L[j]? = some (i, .int x)) (kk : gs kc ks p l e R s m args below meth c wf D cl A nL Q (pc + 1) (L) (.int x :: st) σ) : gs kc ks p l e R s m args below meth c wf D cl A nL Q (pc) (L) (st) σ := fun H locs ls hP hD hS h => lv_iload_n X.1 X.2.1 hdg hi (lv_at h j hl) (kk H locs ls hP hD hS h)
theorem gs_aload_n (X : hc p s m args meth c own cc nL ret) {k : Fin 4} {i : Nat} {x : Nat} (hdg : decode cc pc = .ok (.aload_n k, 1)) (hi : (k : Nat) = i) (j : Nat) (hl : L[j]? = some (i, .ref x)) (kk : gs kc ks p l e R s m args below meth c wf D cl A nL Q (pc + 1) (L) (.ref x :: st) σ) : gs kc ks p l e R s m args below meth c wf D cl A nL Q (pc) (L) (st) σ := fun H locs ls hP hD hS h => lv_aload_n X.1 X.2.1 hdg hi (lv_at h j hl) (kk H locs ls hP hD hS h)
theorem gs_iadd (X : hc p s m args meth c own cc nL ret) {x y : Int32} (hdg : decode cc pc = .ok (.iadd, 1)) (kk : gs kc ks p l e R s m args below meth c wf D cl A nL Q (pc + 1) (L) (.int (x + y) :: st) σ) : gs kc ks p l e R s m args below meth c wf D cl A nL Q (pc) (L) (.int y :: .int x :: st) σ := fun H locs ls hP hD hS h => lv_iadd X.1 X.2.1 hdg (kk H locs ls hP hD hS h)
theorem gs_isub (X : hc p s m args meth c own cc nL ret) {x y : Int32} (hdg : decode cc pc = .ok (.isub, 1)) (kk : gs kc ks p l e R s m args below meth c wf D cl A nL Q (pc + 1) (L) (.int (x - y) :: st) σ) : gs kc ks p l e R s m args below meth c wf D cl A nL Q (pc) (L) (.int y :: .int x :: st) σ := fun H locs ls hP hD hS h => lv_isub X.1 X.2.1 hdg (kk H locs ls hP hD hS h)
theorem gs_iand (X : hc p s m args meth c own cc nL ret) {x y : Int32} (hdg : decode cc pc = .ok (.iand, 1)) (kk : gs kc ks p l e R s m args below meth c wf D cl A nL Q (pc + 1) (L) (.int (x &&& y) :: st) σ) : gs kc ks p l e R s m args below meth c wf D cl A nL Q (pc) (L) (.int y :: .int x :: st) σ := fun H locs ls hP hD hS h => lv_iand X.1 X.2.1 hdg (kk H locs ls hP hD hS h)
theorem gs_land (X : hc p s m args meth c own cc nL ret) {x y : Int64} (hdg : decode cc pc = .ok (.land, 1)) (kk : gs kc ks p l e R s m args below meth c wf D cl A nL Q (pc + 1) (L) (.long (x &&& y) :: st) σ) : gs kc ks p l e R s m args below meth c wf D cl A nL Q (pc) (L) (.long y :: .long x :: st) σ := fun H locs ls hP hD hS h => lv_land X.1 X.2.1 hdg (kk H locs ls hP hD hS h)
theorem gs_lor (X : hc p s m args meth c own cc nL ret) {x y : Int64} (hdg : decode cc pc = .ok (.lor, 1)) (kk : gs kc ks p l e R s m args below meth c wf D cl A nL Q (pc + 1) (L) (.long (x ||| y) :: st) σ) : gs kc ks p l e R s m args below meth c wf D cl A nL Q (pc) (L) (.long y :: .long x :: st) σ := fun H locs ls hP hD hS h => lv_lor X.1 X.2.1 hdg (kk H locs ls hP hD hS h)
theorem gs_i2l (X : hc p s m args meth c own cc nL ret) {x : Int32} (hdg : decode cc pc = .ok (.i2l, 1)) (kk : gs kc ks p l e R s m args below meth c wf D cl A nL Q (pc + 1) (L) (.long x.toInt64 :: st) σ) : gs kc ks p l e R s m args below meth c wf D cl A nL Q (pc) (L) (.int x :: st) σ := fun H locs ls hP hD hS h => lv_i2l X.1 X.2.1 hdg rfl (kk H locs ls hP hD hS h)
theorem gs_ldc2_w (X : hc p s m args meth c own cc nL ret) {index : Nat} {v : Int64} (hm : Jvm.Cond.constantLong own index v ∈ hu_G) (hdg : decode cc pc = .ok (.ldc2_w index, 3)) (kk : gs kc ks p l e R s m args below meth c wf D cl A nL Q (pc + 3) (L) (.long v :: st) σ) : gs kc ks p l e R s m args below meth c wf D cl A nL Q (pc) (L) (st) σ := fun H locs ls hP hD hS h => lv_ldc2 X.1 X.2.1 X.2.2.2.1 (X.2.2.2.2.1 _ hm) hdg (kk H locs ls hP hD hS h)
theorem gs_lshl (X : hc p s m args meth c own cc nL ret) {x : Int64} {y : Int32} (hdg : decode cc pc = .ok (.lshl, 1)) (kk : gs kc ks p l e R s m args below meth c wf D cl A nL Q (pc + 1) (L) (.long (hlshl x y) :: st) σ) : gs kc ks p l e R s m args below meth c wf D cl A nL Q (pc) (L) (.int y :: .long x :: st) σ := fun H locs ls hP hD hS h => lv_lshl X.1 X.2.1 hdg (v := hlshl x y) rfl (kk H locs ls hP hD hS h)
theorem gs_istore_n (X : hc p s m args meth c own cc nL ret) {k : Fin 4} {i : Nat} {x : Int32} {L2 : List (Nat × Value)} (hdg : decode cc pc = .ok (.istore_n k, 1)) (hi : (k : Nat) = i) (hn : i < nL) (hl : (i, Value.int x) :: L.filter (fun q => !(q.1 == i) && !(q.1 + 1 == i && q.2.category == 2)) = L2) (kk : gs kc ks p l e R s m args below meth c wf D cl A nL Q (pc + 1) (L2) (st) σ) : gs kc ks p l e R s m args below meth c wf D cl A nL Q (pc) (L) (.int x :: st) σ := fun H locs ls hP hD hS h => lv_istore_n X.1 X.2.1 hdg hi h hn hl (fun ls2 h2 => kk H locs ls2 hP hD hS h2)
theorem gs_astore_n (X : hc p s m args meth c own cc nL ret) {k : Fin 4} {i : Nat} {x : Nat} {L2 : List (Nat × Value)} (hdg : decode cc pc = .ok (.astore_n k, 1)) (hi : (k : Nat) = i) (hn : i < nL) (hl : (i, Value.ref x) :: L.filter (fun q => !(q.1 == i) && !(q.1 + 1 == i && q.2.category == 2)) = L2) (kk : gs kc ks p l e R s m args below meth c wf D cl A nL Q (pc + 1) (L2) (st) σ) : gs kc ks p l e R s m args below meth c wf D cl A nL Q (pc) (L) (.ref x :: st) σ := fun H locs ls hP hD hS h => lv_astore_n X.1 X.2.1 hdg hi h hn hl (fun ls2 h2 => kk H locs ls2 hP hD hS h2)
theorem gs_iinc (X : hc p s m args meth c own cc nL ret) {i k : Nat} {n : Int} {x v : Int32} {L2 : List (Nat × Value)} (hdg : decode cc pc = .ok (.iinc i n, 3)) (hk : L[k]? = some (i, .int x)) (hv : Int32.ofInt n = v) (hn : i < nL) (hl : (i, Value.int (x + v)) :: L.filter (fun q => !(q.1 == i) && !(q.1 + 1 == i && q.2.category == 2)) = L2) (kk : gs kc ks p l e R s m args below meth c wf D cl A nL Q (pc + 3) (L2) (st) σ) : gs kc ks p l e R s m args below meth c wf D cl A nL Q (pc) (L) (st) σ := fun H locs ls hP hD hS h => lv_iinc X.1 X.2.1 hdg h hk (by rw [hv]) hn hl (fun ls2 h2 => kk H locs ls2 hP hD hS h2)
theorem gs_sub (kz : List Nat) {L2 : List (Nat × Value)} (hl : lv_pick L kz = L2) (kk : gs kc ks p l e R s m args below meth c wf D cl A nL Q (pc) (L2) (st) σ) : gs kc ks p l e R s m args below meth c wf D cl A nL Q (pc) (L) (st) σ := fun H locs ls hP hD hS h => kk H locs ls hP hD hS (lv_sub h kz hl)
theorem gs_eqL {L2 : List (Nat × Value)} (hl : L = L2) (kk : gs kc ks p l e R s m args below meth c wf D cl A nL Q (pc) (L2) (st) σ) : gs kc ks p l e R s m args below meth c wf D cl A nL Q (pc) (L) (st) σ := hl ▸ kk
theorem gs_icmp_gt (X : hc p s m args meth c own cc nL ret) {x y : Int32} {off : Int} (tgt : Nat) (hdg : decode cc pc = .ok (.if_icmp .gt off, 3)) (ht : (pc : Int) + off = (tgt : Int)) (kt : y < x → gs kc ks p l e R s m args below meth c wf D cl A nL Q (tgt) (L) (st) σ) (kf : ¬ (y < x) → gs kc ks p l e R s m args below meth c wf D cl A nL Q (pc + 3) (L) (st) σ) : gs kc ks p l e R s m args below meth c wf D cl A nL Q (pc) (L) (.int y :: .int x :: st) σ := fun H locs ls hP hD hS h => lv_icmp_gt X.1 X.2.1 hdg ht (fun q => kt q H locs ls hP hD hS h) (fun q => kf (by first | exact q | exact fun z => z q) H locs ls hP hD hS h)
theorem gs_icmp_eq (X : hc p s m args meth c own cc nL ret) {x y : Int32} {off : Int} (tgt : Nat) (hdg : decode cc pc = .ok (.if_icmp .eq off, 3)) (ht : (pc : Int) + off = (tgt : Int)) (kt : x = y → gs kc ks p l e R s m args below meth c wf D cl A nL Q (tgt) (L) (st) σ) (kf : ¬ (x = y) → gs kc ks p l e R s m args below meth c wf D cl A nL Q (pc + 3) (L) (st) σ) : gs kc ks p l e R s m args below meth c wf D cl A nL Q (pc) (L) (.int y :: .int x :: st) σ := fun H locs ls hP hD hS h => lv_icmp_eq X.1 X.2.1 hdg ht (fun q => kt q H locs ls hP hD hS h) (fun q => kf (by first | exact q | exact fun z => z q) H locs ls hP hD hS h)
theorem gs_goto (X : hc p s m args meth c own cc nL ret) {off : Int} (tgt : Nat) (hdg : decode cc pc = .ok (.goto off, 3)) (ht : (pc : Int) + off = (tgt : Int)) (kk : gs kc ks p l e R s m args below meth c wf D cl A nL Q (tgt) (L) (st) σ) : gs kc ks p l e R s m args below meth c wf D cl A nL Q (pc) (L) (st) σ := fun H locs ls hP hD hS h => lv_goto X.1 X.2.1 hdg ht (kk H locs ls hP hD hS h)
theorem gs_tout (X : hc p s m args meth c own cc nL ret) {dflt lo hi : Int} {offs : Array Int} {len : Nat} {x : Int32} (tgt : Nat) (hdg : decode cc pc = .ok (.tableswitch dflt lo hi offs, len)) (hr : x.toInt < lo ∨ hi < x.toInt) (ht : (pc : Int) + dflt = (tgt : Int)) (kk : gs kc ks p l e R s m args below meth c wf D cl A nL Q (tgt) (L) (st) σ) : gs kc ks p l e R s m args below meth c wf D cl A nL Q (pc) (L) (.int x :: st) σ := fun H locs ls hP hD hS h => lv_tableOut X.1 X.2.1 hdg hr ht (kk H locs ls hP hD hS h)
theorem gs_tin (X : hc p s m args meth c own cc nL ret) {dflt lo hi : Int} {offs : Array Int} {len : Nat} {x : Int32} {off : Int} (z : Int) (tgt : Nat) (hdg : decode cc pc = .ok (.tableswitch dflt lo hi offs, len)) (hx : x.toInt = z) (h1 : ¬ z < lo) (h2 : ¬ hi < z) (ho : offs[(z - lo).toNat]? = some off) (ht : (pc : Int) + off = (tgt : Int)) (kk : gs kc ks p l e R s m args below meth c wf D cl A nL Q (tgt) (L) (st) σ) : gs kc ks p l e R s m args below meth c wf D cl A nL Q (pc) (L) (.int x :: st) σ := fun H locs ls hP hD hS h => lv_tableIn X.1 X.2.1 hdg (by rw [hx]; exact h1) (by rw [hx]; exact h2) (by rw [hx]; exact ho) ht (kk H locs ls hP hD hS h)
theorem gs_dup (X : hc p s m args meth c own cc nL ret) {va : Value} (hdg : decode cc pc = .ok (.dup, 1)) (hva : va.category = 1) (kk : gs kc ks p l e R s m args below meth c wf D cl A nL Q (pc + 1) (L) (va :: va :: st) σ) : gs kc ks p l e R s m args below meth c wf D cl A nL Q (pc) (L) (va :: st) σ := fun H locs ls hP hD hS h => lv_dup X.1 X.2.1 hdg hva (kk H locs ls hP hD hS h)
end GS
theorem lj_P1 {D : va_G} {cl : List vw_C} {w1 w2 : va_W} {H : Heap} (h : va_P D cl (w1 ++ w2) H) : va_P D cl w1 H := fun k q hk => h k q (by rw [List.getElem?_append_left (List.getElem?_eq_some_iff.mp hk).1]; exact hk)
theorem lj_P2 {D : va_G} {cl : List vw_C} {w1 w2 : va_W} {H : Heap} (h : va_P D cl (w1 ++ w2) H) : va_P D cl w2 H := fun k q hk => h (w1.length + k) q (by rw [List.getElem?_append_right (by omega)]; rw [show w1.length + k - w1.length = k by omega]; exact hk)
theorem lj_i1 {w1 w2 : va_W} {k : Nat} {q : Nat × va_E} (hk : w1[k]? = some q) : (w1 ++ w2)[k]? = some q := by rw [List.getElem?_append_left (List.getElem?_eq_some_iff.mp hk).1]; exact hk
theorem lj_i2 {w1 w2 : va_W} {k : Nat} {q : Nat × va_E} (hk : w2[k]? = some q) : (w1 ++ w2)[w1.length + k]? = some q := by rw [List.getElem?_append_right (by omega), show w1.length + k - w1.length = k by omega]; exact hk
theorem lj_D1 {A : Nat → Prop} {w1 w2 : va_W} (h : va_D A (w1 ++ w2)) : va_D A w1 := ⟨fun i j p q hi hj => h.1 i j p q (lj_i1 hi) (lj_i1 hj), fun k q hk => h.2 k q (lj_i1 hk)⟩
theorem lj_D2 {A : Nat → Prop} {w1 w2 : va_W} (h : va_D A (w1 ++ w2)) : va_D A w2 := ⟨fun i j p q hi hj e => by have := h.1 _ _ p q (lj_i2 (w1 := w1) hi) (lj_i2 (w1 := w1) hj) e; omega, fun k q hk => h.2 _ q (lj_i2 (w1 := w1) hk)⟩
theorem lj_ap {A : Nat → Prop} {w1 w2 : va_W} (h : va_D A (w1 ++ w2)) {i j : Nat} {p q : Nat × va_E} (hi : w1[i]? = some p) (hj : w2[j]? = some q) : p.1 ≠ q.1 := fun e => by
  have h1 := h.1 _ _ p q (lj_i1 (w2 := w2) hi) (lj_i2 (w1 := w1) hj) e
  have := (List.getElem?_eq_some_iff.mp hi).1
  omega
/-- behind a call of the left side -/
theorem lj_l {A : Nat → Prop} {D : va_G} {cl : List vw_C} {w1 w2 v1 : va_W} {H H1 : Heap} (hP : va_P D cl (w1 ++ w2) H) (hD : va_D A (w1 ++ w2)) (hF : ∀ q, va_A w1 H.size q → A q) (hk : ∀ q : Nat, q < H.size → ¬ va_A w1 H.size q → H1[q]? = H[q]?) (hP1 : va_P D cl v1 H1) (hD1 : va_D (va_A w1 H.size) v1) : va_P D cl (v1 ++ w2) H1 ∧ va_D A (v1 ++ w2) := by
  have out : ∀ (k : Nat) (q : Nat × va_E), w2[k]? = some q → q.1 < H.size ∧ ¬ va_A w1 H.size q.1 := by
    intro k q hq
    have hl := (lj_P2 hP k q hq).lt
    refine ⟨hl, fun h => ?_⟩
    rcases h with ⟨k2, e, h⟩ | h
    · exact lj_ap hD h hq rfl
    · omega
  refine ⟨va_P.app hP1 (fun k q hq => (lj_P2 hP k q hq).kept (hk q.1 (out k q hq).1 (out k q hq).2)), va_D.app (hD1.weaken (fun k q _ h => hF q.1 h)) (lj_D2 hD) (fun i j x y hx hy e => (out j y hy).2 (by rw [← e]; exact hD1.2 i x hx))⟩
theorem lj_r {A : Nat → Prop} {D : va_G} {cl : List vw_C} {w1 w2 v2 : va_W} {H H1 : Heap} (hP : va_P D cl (w1 ++ w2) H) (hD : va_D A (w1 ++ w2)) (hF : ∀ q, va_A w2 H.size q → A q) (hk : ∀ q : Nat, q < H.size → ¬ va_A w2 H.size q → H1[q]? = H[q]?) (hP1 : va_P D cl v2 H1) (hD1 : va_D (va_A w2 H.size) v2) : va_P D cl (w1 ++ v2) H1 ∧ va_D A (w1 ++ v2) := by
  have out : ∀ (k : Nat) (q : Nat × va_E), w1[k]? = some q → q.1 < H.size ∧ ¬ va_A w2 H.size q.1 := by
    intro k q hq
    have hl := (lj_P1 hP k q hq).lt
    refine ⟨hl, fun h => ?_⟩
    rcases h with ⟨k2, e, h⟩ | h
    · exact lj_ap hD hq h rfl
    · omega
  refine ⟨va_P.app (fun k q hq => (lj_P1 hP k q hq).kept (hk q.1 (out k q hq).1 (out k q hq).2)) hP1, va_D.app (lj_D1 hD) (hD1.weaken (fun k q _ h => hF q.1 h)) (fun i j x y hx hy e => (out i x hx).2 (by rw [e]; exact hD1.2 j y hy))⟩
abbrev SL : Type := SC × SM
def wL (ad : Nat → Nat) (cs : Nat → ClassId) (h : Nat) (am : Nat → Nat) (cA : ClassId) (ρ : SL) : va_W := wC ad cs ρ.1 ++ wM h am cA ρ.2
section GL
variable {p : Program} {l : Launch} {e : Env} {R : Room} {s : State} {m : MethodId} {args : Array Value} {below : List Frame} {meth : Method} {c : Code}
variable {D : va_G} {cs : Nat → ClassId} {sK sV : Nat → Nat} {tA : Nat} {ad am : Nat → Nat} {h : Nat} {cA : ClassId} {A : Nat → Prop} {nL kc ks : Nat} {Q : State → Prop}
variable {own : String} {cc : ByteArray} {ret : Option FieldType} {pc : Nat} {L : List (Nat × Value)} {st st0 rest As : List Value} {ρ : SL} {y : MethodName} {bytes : ByteArray} {maxL n index : Nat} {rm : Room} {r : Int32}
theorem gs_C (X : hc p s m args meth c own cc nL ret) (hK : kC D cs sK sV tA A s) (hA : ∀ q, s.heap.size ≤ q → A q) {τ' : SC} (hcw : cwM own RX11 index y bytes maxL n (some .int)) (hct : ctI l (wC ad cs) D vwCl (kC D cs sK sV tA) y bytes maxL .int rm (.ref (ad 16) :: As) ρ.1 r τ') (hst : st0 = As.reverse ++ .ref (ad 16) :: rest) (hR : rm.cells = 0 ∧ rm.slots = 0 ∧ rm.frames + 1 ≤ R.frames ∧ 8 + (maxL + 11) + rm.locals ≤ R.locals) (hkc : kc ≤ R.cells ∧ ks ≤ R.slots) (hn : As.length = n) (hcat : (rest.map fun v => v.category).sum ≤ 8) (hdg : decode cc pc = .ok (.invokevirtual index, 3)) (kk : gs kc ks p l e R s m args below meth c (wL ad cs h am cA) D vwCl A nL Q (pc + 3) L (.int r :: rest) (τ', ρ.2)) : gs kc ks p l e R s m args below meth c (wL ad cs h am cA) D vwCl A nL Q pc L st0 ρ := by
  intro H locs ls hP hD hS hh
  have hP0 : va_P D vwCl (wC ad cs ρ.1) H := lj_P1 hP
  have hD0 : va_D A (wC ad cs ρ.1) := lj_D1 hD
  have hF := gc_free (wf := wC ad cs) hA hD0 hS
  have hp := gc_pre (s := s) kC_ok hK hA hP0 hD0 hS (As := .ref (ad 16) :: As)
  refine va_calli (va_runV (As := As) (rest := rest) ⟨X.1, X.2.1, X.2.2.1, X.2.2.2.1, X.2.2.2.2.1⟩ (hct H.size) (cwM_ok X hcw hR.1 hR.2.1 hR.2.2) ⟨hp.1, rvC_HH hK H hP0, hp.2⟩ rfl hn hh.1 hst (lv_room hcat) hdg hkc) hS (fun q _ h => hF q h) hF (fun r2 u t H1 locs1 ht hvm hw hB hz1 hk1 hS1 => ?_)
  obtain ⟨rfl, rfl⟩ := hw
  obtain ⟨hP1, hD1⟩ := hB
  rw [ht] at hP1
  obtain ⟨hP2, hD2⟩ := lj_l hP hD hF hk1 hP1 hD1
  exact kk H1 locs1 ls hP2 hD2 hS1 hh
theorem gs_M (X : hc p s m args meth c own cc nL ret) (hK : kM D cA A s) (hA : ∀ q, s.heap.size ≤ q → A q) {σ' : SM} (hcw : cwM own RX12 index y bytes maxL n (some .int)) (hct : ctI l (wM h am cA) D vwCl (kM D cA) y bytes maxL .int rm (.ref h :: As) ρ.2 r σ') (hst : st0 = As.reverse ++ .ref h :: rest) (hR : rm.cells = 0 ∧ rm.slots = 0 ∧ rm.frames + 1 ≤ R.frames ∧ 8 + (maxL + 11) + rm.locals ≤ R.locals) (hkc : kc ≤ R.cells ∧ ks ≤ R.slots) (hn : As.length = n) (hcat : (rest.map fun v => v.category).sum ≤ 8) (hdg : decode cc pc = .ok (.invokevirtual index, 3)) (kk : gs kc ks p l e R s m args below meth c (wL ad cs h am cA) D vwCl A nL Q (pc + 3) L (.int r :: rest) (ρ.1, σ')) : gs kc ks p l e R s m args below meth c (wL ad cs h am cA) D vwCl A nL Q pc L st0 ρ := by
  intro H locs ls hP hD hS hh
  have hP0 : va_P D vwCl (wM h am cA ρ.2) H := lj_P2 hP
  have hD0 : va_D A (wM h am cA ρ.2) := lj_D2 hD
  have hF := gc_free (wf := wM h am cA) hA hD0 hS
  have hp := gc_pre (s := s) kM_ok hK hA hP0 hD0 hS (As := .ref h :: As)
  refine va_calli (va_runV (As := As) (rest := rest) ⟨X.1, X.2.1, X.2.2.1, X.2.2.2.1, X.2.2.2.2.1⟩ (hct H.size) (cwM_ok X hcw hR.1 hR.2.1 hR.2.2) ⟨hp.1, rvM hK H hP0, hp.2⟩ rfl hn hh.1 hst (lv_room hcat) hdg hkc) hS (fun q _ h => hF q h) hF (fun r2 u t H1 locs1 ht hvm hw hB hz1 hk1 hS1 => ?_)
  obtain ⟨rfl, rfl⟩ := hw
  obtain ⟨hP1, hD1⟩ := hB
  rw [ht] at hP1
  obtain ⟨hP2, hD2⟩ := lj_r hP hD hF hk1 hP1 hD1
  exact kk H1 locs1 ls hP2 hD2 hS1 hh
theorem gs_sld {b Ln : Nat} {xs : Nat → Int32} (X : hc p s m args meth c own cc nL ret) (hX : va_X b Ln xs s s.heap) (hbl : b < s.heap.size) (hbA : ¬ A b) {i : Int32} (hi : hin i Ln = true) (hdg : decode cc pc = .ok (.iaload, 1)) (kk : gs kc ks p l e R s m args below meth c (wL ad cs h am cA) D vwCl A nL Q (pc + 1) L (.int (xs i.toNatClampNeg) :: st) ρ) : gs kc ks p l e R s m args below meth c (wL ad cs h am cA) D vwCl A nL Q pc L (.int i :: .ref b :: st) ρ := fun H locs ls hP hD hS hh => va_sld X.1 X.2.1 hX hbl hbA hS (hin_ok hi) hdg (kk H locs ls hP hD hS hh)
theorem gs_slen {b Ln : Nat} {xs : Nat → Int32} (X : hc p s m args meth c own cc nL ret) (hX : va_X b Ln xs s s.heap) (hbl : b < s.heap.size) (hbA : ¬ A b) (hdg : decode cc pc = .ok (.arraylength, 1)) (kk : gs kc ks p l e R s m args below meth c (wL ad cs h am cA) D vwCl A nL Q (pc + 1) L (.int (nI Ln) :: st) ρ) : gs kc ks p l e R s m args below meth c (wL ad cs h am cA) D vwCl A nL Q pc L (.ref b :: st) ρ := fun H locs ls hP hD hS hh => va_slen X.1 X.2.1 hX hbl hbA hS hdg (kk H locs ls hP hD hS hh)
theorem gs_end {b : Nat} (X : hc p s m #[Value.ref b] meth c RL code 4 ret) (hr : meth.sig.returnType = (some .boolean)) (hAs : ∀ q, A q → s.heap.size ≤ q) (hdg : decode code pc = .ok (.ireturn, 1)) : gs 600000 7302250 p l e room_1 s m #[Value.ref b] below meth c (wL ad cs h am cA) D vwCl A 4 (lw_Z below #[Value.ref b] s) pc L [.int 1] ρ := fun H locs ls hP hD hS hh => va_forget (fun q hq => hAs _ (hS.2.2 q hq)) (lw_ret X.1 X.2.1 hr X.2.2.2.2.2.2 hdg)
end GL
