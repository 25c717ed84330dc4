/-! ROWS FOR THE CONSTRUCTORS: the judgement gs over the list of cells itself -/
abbrev wI : va_W → va_W := fun w => w
/-- what the constructors need of the tables -/
def kN (D : va_G) (cs : Nat → ClassId) (_ : Nat → Prop) (U : State) : Prop := va_K D vwCl (tysC cs) U ∧ (∀ w ∈ nwL, va_Nw w U) ∧ va_AO "HeartHours$Guild" U ∧ (Cond.arrayOver (.array .int)).before #[] U = true
theorem kN_ok {D : va_G} {cs : Nat → ClassId} : hkm (kN D cs) := by
  refine ⟨fun A B s U h hW hAB hq => ?_, fun A U g mk a h => ?_⟩
  · obtain ⟨h1, h2, h3, h4⟩ := h
    refine ⟨va_K.moved hW.alike h1, fun w hw => ?_, va_AO.moved hW.alike h3, over_moved hW.alike h4⟩
    obtain ⟨_, _, _, _, rfl⟩ := nwL_1 w hw
    exact va_Nw.warmM hW (h2 _ hw)
  · obtain ⟨h1, h2, h3, h4⟩ := h
    refine ⟨va_K.moved (u := U) (U := U.calling g mk a) (Vm.Alike.refl U.vm) h1, fun w hw => ?_, va_AO.moved (u := U) (U := U.calling g mk a) (Vm.Alike.refl U.vm) h3, over_moved (u := U) (E := U.calling g mk a) (Vm.Alike.refl U.vm) h4⟩
    obtain ⟨_, _, _, _, rfl⟩ := nwL_1 w hw
    exact va_Nw.same (u := U) (U := U.calling g mk a) rfl rfl (h2 _ hw)
def QN (below : List Frame) (args : Array Value) (s : State) (D : va_G) (A : Nat → Prop) (P : va_W → Prop) (mc ms : Nat) : State → Prop :=
  MQ below (va_Qv P (fun u t => va_P D vwCl u t.heap ∧ va_D A u) A) args s mc ms A
/-- a constructor's contract: from the cells w it comes to cells u of which P holds; it makes mc cells of ms places -/
def ctN (l : Launch) (D : va_G) (cs : Nat → ClassId) (y : MethodName) (bytes : ByteArray) (maxL : Nat) (rm : Room) (As : List Value) (w : va_W) (P : va_W → Prop) (mc ms : Nat) : Prop :=
  ∀ sz : Nat, Met l y (.code y bytes maxL none :: hu_G) rm (va_Pc As (fun U => U.heap.size = sz ∧ va_P D vwCl w U.heap ∧ kN D cs (va_A w sz) U ∧ va_D (fun _ => True) w)) (va_Qv P (fun u t => va_P D vwCl u t.heap ∧ va_D (va_A w sz) u) (va_A w sz)) mc ms (va_A w sz)
theorem ct_N {l : Launch} {D : va_G} {cs : Nat → ClassId} {y : MethodName} {bytes : ByteArray} {maxL : Nat} {rm : Room} {As : List Value} {w : va_W} {P : va_W → Prop} {mc ms : Nat} (own : String) (hy : plainName y.cls = true) (ho : y.cls = own) (hlen : (lg_sl As).length ≤ maxL)
    (h : ∀ (p : Program) (e : Env) (s : State) (m : MethodId) (args : Array Value) (below : List Frame) (meth : Method) (c : Code) (A : Nat → Prop), hc p s m args meth c own bytes maxL none → meth.name = y.name → kN D cs A s → (∀ q, s.heap.size ≤ q → A q) → gs 0 0 p l e rm s m args below meth c wI D vwCl A maxL (QN below args s D A P mc ms) 0 (lv_args 0 As) [] w) : ctN l D cs y bytes maxL rm As w P mc ms := by
  intro sz
  refine Met.ofW (cc := bytes) (maxL := maxL) (ret := none) hy rfl ?_
  intro p e s m args below meth c s₁ B hml hv
  obtain ⟨rfl, hsz, hP, hK, hD0⟩ := hv
  subst hsz
  have hts := atoms_spec (ws := .code y bytes maxL none :: hu_G) B.pre
  have hown : s.vm.findClass own = some m.cls := ho ▸ findClass_of_methodNamed B.named
  have hD := hD0.self (sz := s.heap.size)
  have X : hc p s m As.toArray meth c own bytes maxL none := ⟨B.exec, B.bytes, hml, hown, fun w hw => hts w (List.mem_cons_of_mem _ hw), B.returns, B.notSynchronized⟩
  have hl := lv_entry As (n := maxL) hlen
  rw [lg_entry_eq]
  exact h p e s m As.toArray below meth c (va_A w s.heap.size) X (name_of_methodNamed B.named B.method).1 hK (fun q h => Or.inr h) s.heap [] _ hP hD va_S.rf hl
theorem ws_subst {p : Program} {l : Launch} {e : Env} {R : Room} {s : State} {m : MethodId} {args : Array Value} {below : List Frame} {meth : Method} {c : Code} {D : va_G} {A : Nat → Prop} {nL : Nat} {Q : State → Prop} {pc : Nat} {L : List (Nat × Value)} {st : List Value} {σ σ2 : va_W} {kc ks : Nat} (h : σ = σ2) (kk : gs kc ks p l e R s m args below meth c wI D vwCl A nL Q pc L st σ2) : gs kc ks p l e R s m args below meth c wI D vwCl A nL Q pc L st σ := h ▸ kk
section GNW
variable {p : Program} {l : Launch} {e : Env} {R : Room} {s : State} {m : MethodId} {args : Array Value} {below : List Frame} {meth : Method} {c : Code}
variable {D : va_G} {cs : Nat → ClassId} {A : Nat → Prop} {nL : Nat} {Q : State → Prop}
variable {own : String} {cc : ByteArray} {ret : Option FieldType} {pc : Nat} {L : List (Nat × Value)} {st st0 rest As : List Value} {σ σ0 w1 : va_W}
variable {kc ks mc ms : Nat} {y : MethodName} {bytes : ByteArray} {maxL n index : Nat} {rm : Room} {P : va_W → Prop} {a b : Nat}
theorem gn_sipush (X : hc p s m args meth c own cc nL ret) {n : Int} {v : Int32} (hdg : decode cc pc = .ok (.sipush n, 3)) (hv : (Int16.ofInt n).toInt32 = v) (kk : gs kc ks p l e R s m args below meth c wI D vwCl A nL Q (pc + 3) L (.int v :: st) σ) : gs kc ks p l e R s m args below meth c wI D vwCl A nL Q pc L st σ := fun H locs ls hP hD hS h => lv_sipush X.1 X.2.1 hdg hv (kk H locs ls hP hD hS h)
theorem gn_icmp_ge (X : hc p s m args meth c own cc nL ret) {x y : Int32} {off : Int} (tgt : Nat) (hdg : decode cc pc = .ok (.if_icmp .ge off, 3)) (ht : (pc : Int) + off = (tgt : Int)) (kt : y ≤ x → gs kc ks p l e R s m args below meth c wI D vwCl A nL Q (tgt) (L) (st) σ) (kf : ¬ (y ≤ x) → gs kc ks p l e R s m args below meth c wI D vwCl A nL Q (pc + 3) (L) (st) σ) : gs kc ks p l e R s m args below meth c wI D vwCl A nL Q (pc) (L) (.int y :: .int x :: st) σ := fun H locs ls hP hD hS h => lv_icmp_ge X.1 X.2.1 hdg ht (fun q => kt q H locs ls hP hD hS h) (fun q => kf (by first | exact q | exact fun z => z q) H locs ls hP hD hS h)
theorem gn_oi (X : hc p s m args meth c own cc nL ret) (hl : Cond.methodLink own index Lib.objectInit ∈ hu_G) (hR : 1 ≤ R.frames ∧ 20 ≤ R.locals) (hcat : (st.map fun v => v.category).sum ≤ 8) (hdg : decode cc pc = .ok (.invokespecial index, 3)) (kk : gs kc ks p l e R s m args below meth c wI D vwCl A nL Q (pc + 3) L st σ) : gs kc ks p l e R s m args below meth c wI D vwCl A nL Q pc L (.ref a :: st) σ := by
  intro H locs ls hP hD hS h
  have hw1 : Cond.instanceMethod Lib.objectInit ∈ hu_G := hu_in 28 (by decide +kernel) (by decide +kernel)
  have hw2 : Cond.code Lib.objectInit ⟨#[0xb1]⟩ 1 none ∈ hu_G := hu_in 29 (by decide +kernel) (by decide +kernel)
  refine W.objInit X.1 X.2.1 X.2.2.2.1 (X.2.2.2.2.1 _ hl) (X.2.2.2.2.1 _ hw1) (X.2.2.2.2.1 _ hw2) rfl (h.1.trans X.2.2.1.symm) rfl hdg hR.1 ?_ (kk H locs ls hP hD hS h)
  have := lv_room (m := m) (pc := pc) (ls := ls) (rest := .ref a :: st) hcat
  omega
theorem gn_newa (X : hc p s m args meth c own cc nL ret) (hK : kN D cs A s) (hA : ∀ q, s.heap.size ≤ q → A q) {atype : ArrayType} {ty : FieldType} (t0 : Nat) {cA : ClassId} (ht : (tysC cs)[t0]? = some (cA, ty)) (hw : Cond.arrayClass (newarray.typeOf atype) ∈ hu_G) (hty : newarray.typeOf atype = ty) (hra : ∀ c0 : ClassId, va_RA s c0 ty → s.vm.findClass ("[" ++ ty.toString) = some c0) {n : Int32} {N' : Nat} {a0 : vp_A} (ha : ∀ cA : ClassId, vp_cell cA a0 = arrV cA N' (fun _ => defaultValue ty)) (hn : ¬ n < 0) (hN : n.toNatClampNeg = N') (hby : N' * componentBytes ty ≤ 536870912) (hR : kc + 1 ≤ R.cells ∧ ks + N' ≤ R.slots) (hdg : decode cc pc = .ok (.newarray atype, 2)) (kk : ∀ q : Nat, gs (kc + 1) (ks + N') p l e R s m args below meth c wI D vwCl A nL Q (pc + 2) L (.ref q :: st) (σ ++ [(q, .inl (cA, a0))])) : gs kc ks p l e R s m args below meth c wI D vwCl A nL Q pc L (.int n :: st) σ := by
  intro H locs ls hP hD hS h
  refine va_newa X.1 X.2.1 (X.2.2.2.2.1 _ hw) hty hK.1 hP hD hS hA ha hn hN hby hR.1 hR.2 hdg fun q cB H1 hK1 hP1 hD1 hS1 => ?_
  have e1 := hra _ (hK.1.2 t0 _ ht).2
  have e2 := hra _ (hK1.2 (tysC cs).length (cB, ty) (by rw [List.getElem?_append_right (Nat.le_refl _), Nat.sub_self]; rfl)).2
  have e3 : cB = cA := Option.some.inj (e2.symm.trans e1)
  subst e3
  exact kk q H1 locs ls hP1 hD1 hS1 h
theorem gn_newi (X : hc p s m args meth c own cc nL ret) (hK : kN D cs A s) (hA : ∀ q, s.heap.size ≤ q → A q) {n : Int32} (N' : Nat) (hn : (decide (¬ n < 0) && Nat.beq n.toNatClampNeg N' && Nat.ble (N' * 4) 536870912) = true) (hR : kc + 1 ≤ R.cells ∧ ks + N' ≤ R.slots) (hdg : decode cc pc = .ok (.newarray .int, 2)) (kk : ∀ q : Nat, gs (kc + 1) (ks + N') p l e R s m args below meth c wI D vwCl A nL Q (pc + 2) L (.ref q :: st) (σ ++ [(q, .inl (cs 0, N', .inl (fun _ => 0)))])) : gs kc ks p l e R s m args below meth c wI D vwCl A nL Q pc L (.int n :: st) σ := by
  simp only [Bool.and_eq_true, decide_eq_true_eq] at hn
  exact gn_newa X hK hA (ty := .int) 0 rfl (hu_in 108 (by decide +kernel) (by decide +kernel)) rfl (fun _ h => h) (fun _ => rfl) hn.1.1 (Nat.eq_of_beq_eq_true hn.1.2) (Nat.le_of_ble_eq_true hn.2) hR hdg kk
theorem gn_newb (X : hc p s m args meth c own cc nL ret) (hK : kN D cs A s) (hA : ∀ q, s.heap.size ≤ q → A q) {n : Int32} (N' : Nat) (hn : (decide (¬ n < 0) && Nat.beq n.toNatClampNeg N' && Nat.ble (N' * 1) 536870912) = true) (hR : kc + 1 ≤ R.cells ∧ ks + N' ≤ R.slots) (hdg : decode cc pc = .ok (.newarray .byte, 2)) (kk : ∀ q : Nat, gs (kc + 1) (ks + N') p l e R s m args below meth c wI D vwCl A nL Q (pc + 2) L (.ref q :: st) (σ ++ [(q, .inl (cs 1, N', .inl (fun _ => 0)))])) : gs kc ks p l e R s m args below meth c wI D vwCl A nL Q pc L (.int n :: st) σ := by
  simp only [Bool.and_eq_true, decide_eq_true_eq] at hn
  exact gn_newa X hK hA (ty := .byte) 1 rfl (hu_in 334 (by decide +kernel) (by decide +kernel)) rfl (fun _ h => h) (fun _ => rfl) hn.1.1 (Nat.eq_of_beq_eq_true hn.1.2) (Nat.le_of_ble_eq_true hn.2) hR hdg kk
theorem gn_newl (X : hc p s m args meth c own cc nL ret) (hK : kN D cs A s) (hA : ∀ q, s.heap.size ≤ q → A q) {n : Int32} (N' : Nat) (hn : (decide (¬ n < 0) && Nat.beq n.toNatClampNeg N' && Nat.ble (N' * 8) 536870912) = true) (hR : kc + 1 ≤ R.cells ∧ ks + N' ≤ R.slots) (hdg : decode cc pc = .ok (.newarray .long, 2)) (kk : ∀ q : Nat, gs (kc + 1) (ks + N') p l e R s m args below meth c wI D vwCl A nL Q (pc + 2) L (.ref q :: st) (σ ++ [(q, .inl (cs 2, N', .inr (.inl (fun _ => 0))))])) : gs kc ks p l e R s m args below meth c wI D vwCl A nL Q pc L (.int n :: st) σ := by
  simp only [Bool.and_eq_true, decide_eq_true_eq] at hn
  exact gn_newa X hK hA (ty := .long) 2 rfl (hu_in 335 (by decide +kernel) (by decide +kernel)) rfl (fun _ h => h) (fun _ => rfl) hn.1.1 (Nat.eq_of_beq_eq_true hn.1.2) (Nat.le_of_ble_eq_true hn.2) hR hdg kk
theorem gn_newq (X : hc p s m args meth c own cc nL ret) (hK : kN D cs A s) (hA : ∀ q, s.heap.size ≤ q → A q) {n : Int32} (N' : Nat) (hcl : Cond.classLink own index "HeartHours$Guild" ∈ hu_G) (hn : (decide (¬ n < 0) && Nat.beq n.toNatClampNeg N' && Nat.ble (N' * 4) 536870912) = true) (hR : kc + 1 ≤ R.cells ∧ ks + N' ≤ R.slots) (hdg : decode cc pc = .ok (.anewarray index, 3)) (kk : ∀ q : Nat, gs (kc + 1) (ks + N') p l e R s m args below meth c wI D vwCl A nL Q (pc + 3) L (.ref q :: st) (σ ++ [(q, .inl (cs 3, N', .inr (.inr (.inr (.inr (fun _ => none))))))])) : gs kc ks p l e R s m args below meth c wI D vwCl A nL Q pc L (.int n :: st) σ := by
  simp only [Bool.and_eq_true, decide_eq_true_eq] at hn
  intro H locs ls hP hD hS h
  refine va_newq X.1 X.2.1 X.2.2.2.1 (X.2.2.2.2.1 _ hcl) hK.2.2.1 hK.1 hP hD hS hA hn.1.1 (Nat.eq_of_beq_eq_true hn.1.2) (Nat.le_of_ble_eq_true hn.2) hR.1 hR.2 hdg fun q cB H1 hK1 hP1 hD1 hS1 => ?_
  obtain ⟨_, _, _, _, _, e1⟩ := (hK.1.2 3 (cs 3, .object "HeartHours$Guild") rfl).2
  obtain ⟨_, _, _, _, _, e2⟩ := (hK1.2 (tysC cs).length (cB, .object "HeartHours$Guild") (by rw [List.getElem?_append_right (Nat.le_refl _), Nat.sub_self]; rfl)).2
  have e3 : cB = cs 3 := Option.some.inj (e2.symm.trans e1)
  subst e3
  exact kk q H1 locs ls hP1 hD1 hS1 h
theorem vp_V_range {f : Nat → Value} {N j : Nat} (hj : j < N) : f j = vp_V ((List.range N).map f) j := by
  simp [vp_V, hj]
theorem gn_new (X : hc p s m args meth c own cc nL ret) (hK : kN D cs A s) (hA : ∀ q, s.heap.size ≤ q → A q) (ci : Nat) {C : String} {T : u_T} {N : Nat} (hc : vwCl[ci]? = some (C, T, N)) (hin : ∀ w ∈ u_ws C T N, w ∈ hu_G) {ty : Nat → FieldType} (hty : ∀ k, k < N → parseFieldDescriptor (T k).2.2.1 = some (ty k)) (hw : Cond.classLink own index C ∈ hu_G ∧ Cond.instantiable C N ∈ hu_G ∧ Cond.initialized C ∈ hu_G) {fs : List Value} (hfs : (List.range N).map (fun j => defaultValue (ty j)) = fs) (hR : kc + 1 ≤ R.cells ∧ ks + N ≤ R.slots) (hdg : decode cc pc = .ok (.new index, 3)) (kk : ∀ q : Nat, gs (kc + 1) (ks + N) p l e R s m args below meth c wI D vwCl A nL Q (pc + 3) L (.ref q :: st) (σ ++ [(q, .inr (ci, fs))])) : gs kc ks p l e R s m args below meth c wI D vwCl A nL Q pc L st σ := by
  subst hfs
  intro H locs ls hP hD hS h
  exact va_new X.1 X.2.1 X.2.2.2.2.1 hin ty hty X.2.2.2.1 (X.2.2.2.2.1 _ hw.1) (X.2.2.2.2.1 _ hw.2.1) (X.2.2.2.2.1 _ hw.2.2) hK.1 hP hD hS hA hc (fun j hj => vp_V_range (f := fun j => defaultValue (ty j)) hj) hR.1 hR.2 hdg (fun q H1 hP1 hD1 hS1 => kk q H1 locs ls hP1 hD1 hS1 h)
theorem gn_putF (X : hc p s m args meth c own cc nL ret) (hK : kN D cs A s) (hini : meth.name = "<init>") (ci : Nat) {T : u_T} {N : Nat} (hc : vwCl[ci]? = some (own, T, N)) (hin : ∀ w ∈ u_ws own T N, w ∈ hu_G) {ty : Nat → FieldType} (hty : ∀ k, k < N → parseFieldDescriptor (T k).2.2.1 = some (ty k)) (hnm : ∀ a, a < N → ∀ b, b < N → a ≠ b → (T a).2.1 ≠ (T b).2.1) (k : Nat) (hk : k < N) {fs : List Value} (he : σ[0]? = some (a, .inr (ci, fs))) (hlk : Cond.fieldLink own index own (T k).2.1 (T k).2.2.1 ∈ hu_G) (hdc : (T k).1 = own) (hfin : (T k).2.2.2 = true) {v : Value} (hn : narrow (ty k) v = v) (hfit : fits (ty k) v = true) (hl : k < fs.length) (hdg : decode cc pc = .ok (.putfield index, 3)) (kk : gs kc ks p l e R s m args below meth c wI D vwCl A nL Q (pc + 3) L st (σ.set 0 (a, .inr (ci, fs.set k v)))) : gs kc ks p l e R s m args below meth c wI D vwCl A nL Q pc L (v :: .ref a :: st) σ := fun H locs ls hP hD hS h => va_putF X.1 X.2.1 X.2.2.2.2.1 hin ty hty hnm X.2.2.2.1 hK.1 hP hD hS 0 he hc k hk (X.2.2.2.2.1 _ hlk) (fun _ h9 => by rw [← hdc]; exact h9) hfin hini hdc (hty k hk) hn hfit hl hdg (fun H1 locs1 hP1 hD1 hS1 => kk H1 locs1 ls hP1 hD1 hS1 h)
theorem gn_put (X : hc p s m args meth c own cc nL ret) (hK : kN D cs A s) (ci : Nat) {T : u_T} {N : Nat} (hc : vwCl[ci]? = some (own, T, N)) (hin : ∀ w ∈ u_ws own T N, w ∈ hu_G) {ty : Nat → FieldType} (hty : ∀ k, k < N → parseFieldDescriptor (T k).2.2.1 = some (ty k)) (hnm : ∀ a, a < N → ∀ b, b < N → a ≠ b → (T a).2.1 ≠ (T b).2.1) (k : Nat) (hk : k < N) {fs : List Value} (he : σ[0]? = some (a, .inr (ci, fs))) (hlk : Cond.fieldLink own index own (T k).2.1 (T k).2.2.1 ∈ hu_G) (hdc : (T k).1 = own) (hfin : (T k).2.2.2 = false) {v : Value} (hn : narrow (ty k) v = v) (hfit : fits (ty k) v = true) (hl : k < fs.length) (hdg : decode cc pc = .ok (.putfield index, 3)) (kk : gs kc ks p l e R s m args below meth c wI D vwCl A nL Q (pc + 3) L st (σ.set 0 (a, .inr (ci, fs.set k v)))) : gs kc ks p l e R s m args below meth c wI D vwCl A nL Q pc L (v :: .ref a :: st) σ := fun H locs ls hP hD hS h => va_put X.1 X.2.1 X.2.2.2.2.1 hin ty hty hnm X.2.2.2.1 hK.1 hP hD hS 0 he hc k hk (X.2.2.2.2.1 _ hlk) (fun _ h9 => by rw [← hdc]; exact h9) hfin (hty k hk) hn hfit hl hdg (fun H1 locs1 hP1 hD1 hS1 => kk H1 locs1 ls hP1 hD1 hS1 h)
theorem gn_get (X : hc p s m args meth c own cc nL ret) (hK : kN D cs A s) (ci : Nat) {T : u_T} {N : Nat} (hc : vwCl[ci]? = some (own, T, N)) (hin : ∀ w ∈ u_ws own T N, w ∈ hu_G) (k : Nat) (hk : k < N) {fs : List Value} (he : σ[0]? = some (a, .inr (ci, fs))) (hlk : Cond.fieldLink own index own (T k).2.1 (T k).2.2.1 ∈ hu_G) (hdc : (T k).1 = own) {v : Value} (hv : fs[k]? = some v) (hdg : decode cc pc = .ok (.getfield index, 3)) (kk : gs kc ks p l e R s m args below meth c wI D vwCl A nL Q (pc + 3) L (v :: st) σ) : gs kc ks p l e R s m args below meth c wI D vwCl A nL Q pc L (.ref a :: st) σ := fun H locs ls hP hD hS h => va_get X.1 X.2.1 X.2.2.2.2.1 hin X.2.2.2.1 hK.1 hP 0 he hc k hk (X.2.2.2.2.1 _ hlk) (fun _ h9 => by rw [← hdc]; exact h9) hv hdg (kk H locs ls hP hD hS h)
theorem gn_iast (X : hc p s m args meth c own cc nL ret) (hK : kN D cs A s) (q0 : Nat) {n : Nat} {f : Nat → Int32} (ha : σ[q0]? = some (a, .inl (cs 0, n, .inl f))) {i x : Int32} (j : Nat) (hj : i.toNatClampNeg = j) (hi : hin i n = true) (hdg : decode cc pc = .ok (.iastore, 1)) (kk : gs kc ks p l e R s m args below meth c wI D vwCl A nL Q (pc + 1) L st (σ.set q0 (a, .inl (cs 0, n, .inl (upd f j x))))) : gs kc ks p l e R s m args below meth c wI D vwCl A nL Q pc L (.int x :: .int i :: .ref a :: st) σ := by
  subst hj
  exact fun H locs ls hP hD hS h => va_iast X.1 X.2.1 hK.1 hP hD hS q0 0 ha rfl (hin_ok hi) hdg (fun H1 locs1 hP1 hD1 hS1 => kk H1 locs1 ls hP1 hD1 hS1 h)
theorem gn_alen (X : hc p s m args meth c own cc nL ret) (hK : kN D cs A s) (q0 : Nat) {n : Nat} {f : Nat → Int32} (ha : σ[q0]? = some (a, .inl (cs 0, n, .inl f))) (hdg : decode cc pc = .ok (.arraylength, 1)) (kk : gs kc ks p l e R s m args below meth c wI D vwCl A nL Q (pc + 1) L (.int (nI n) :: st) σ) : gs kc ks p l e R s m args below meth c wI D vwCl A nL Q pc L (.ref a :: st) σ := fun H locs ls hP hD hS h => va_alen X.1 X.2.1 hK.1 hP q0 0 ha rfl rfl hdg (kk H locs ls hP hD hS h)
theorem gn_ast (X : hc p s m args meth c own cc nL ret) (hK : kN D cs A s) (q0 qk ci : Nat) {n v : Nat} {f : Nat → Option Nat} {vs : List Value} {r : vw_C} (ha : σ[q0]? = some (a, .inl (cs 3, n, .inr (.inr (.inr (.inr f)))))) (hv : σ[qk]? = some (v, .inr (ci, vs))) (hc : vwCl[ci]? = some r) (hasg : ∀ comp c0 : ClassId, s.vm.findClass "HeartHours$Guild" = some comp → s.vm.findClass r.1 = some c0 → s.vm.assignable c0 comp = true) {i : Int32} (j : Nat) (hj : i.toNatClampNeg = j) (hi : hin i n = true) (hdg : decode cc pc = .ok (.aastore, 1)) (kk : gs kc ks p l e R s m args below meth c wI D vwCl A nL Q (pc + 1) L st (σ.set q0 (a, .inl (cs 3, n, .inr (.inr (.inr (.inr (va_up f j (some v))))))))) : gs kc ks p l e R s m args below meth c wI D vwCl A nL Q pc L (.ref v :: .int i :: .ref a :: st) σ := by
  subst hj
  exact fun H locs ls hP hD hS h => va_astqM X.1 X.2.1 hK.1 hP hD hS q0 3 ha rfl (va_rAny hK.1 hP hv hc hasg) (hin_ok hi) hdg (fun H1 locs1 hP1 hD1 hS1 => kk H1 locs1 ls hP1 hD1 hS1 h)
theorem gn_ret (X : hc p s m args meth c own cc nL none) (hkc : kc = mc ∧ ks = ms) (hp : P σ) (hdg : decode cc pc = .ok (.return_, 1)) : gs kc ks p l e R s m args below meth c wI D vwCl A nL (QN below args s D A P mc ms) pc L [] σ := by
  obtain ⟨rfl, rfl⟩ := hkc
  exact fun H locs ls hP hD hS h => W.vret X.1 X.2.1 X.2.2.2.2.2.1 (fun t ht _ => ⟨⟨σ, rfl, hp, by rw [ht]; exact hP, hD⟩, hS.F ht⟩) hS.2.2 hdg (hlocks := X.2.2.2.2.2.2)
/-- the same cells in another order -/
theorem gn_perm (is : List Nat) {σ2 : va_W} (hn : va_nd is = true) (hs : is.map (fun i => σ[i]?) = σ2.map some) (kk : gs kc ks p l e R s m args below meth c wI D vwCl A nL Q pc L st σ2) : gs kc ks p l e R s m args below meth c wI D vwCl A nL Q pc L st σ := by
  intro H locs ls hP hD hS h
  refine kk H locs ls (fun k q hq => ?_) (hD.sub is hn hs) hS h
  have h1 : (is.map (fun i => σ[i]?))[k]? = some (some q) := by rw [hs, List.getElem?_map]; show (σ2[k]?).map some = _; rw [show σ2[k]? = some q from hq]; rfl
  rw [List.getElem?_map] at h1
  cases hi : is[k]? with
  | none => rw [hi] at h1; cases h1
  | some i => rw [hi] at h1; exact hP i q (Option.some.inj h1)
/-- a row of references named otherwise -/
theorem gn_fn (q0 : Nat) {cA : ClassId} {n : Nat} {f g : Nat → Option Nat} (ha : σ[q0]? = some (a, .inl (cA, n, .inr (.inr (.inr (.inr f)))))) (hfg : ∀ j, j < n → f j = g j) (kk : gs kc ks p l e R s m args below meth c wI D vwCl A nL Q pc L st (σ.set q0 (a, .inl (cA, n, .inr (.inr (.inr (.inr g))))))) : gs kc ks p l e R s m args below meth c wI D vwCl A nL Q pc L st σ := by
  intro H locs ls hP hD hS h
  refine kk H locs ls (va_P.set hP hD ha ?_ (fun _ _ => rfl)) (hD.set ha) hS h
  have h0 := hP q0 _ ha
  show H[a]? = some (vp_cell _ _)
  rw [show H[a]? = some (vp_cell cA (n, .inr (.inr (.inr (.inr f))))) from h0, vp_cell_q, vp_cell_q]
  congr 1
  unfold arrV
  congr 1
  apply Array.ext
  · simp
  · intro i h1 h2
    simp at h1 h2 ⊢
    rw [hfg i h1]
/-- behind a call that wrote one cell -/
theorem lk_set {k : Nat} {e0 e1 : va_E} {H H1 : Heap} (hP : va_P D vwCl σ H) (hD : va_D A σ) (hk : σ[k]? = some (b, e0)) (ho : ∀ q : Nat, q < H.size → ¬ va_A [(b, e0)] H.size q → H1[q]? = H[q]?) (hP1 : va_P D vwCl [(b, e1)] H1) : va_P D vwCl (σ.set k (b, e1)) H1 ∧ va_D A (σ.set k (b, e1)) := by
  refine ⟨fun i q hq => ?_, hD.set hk⟩
  rw [List.getElem?_set] at hq
  by_cases hi : k = i
  · rw [if_pos hi] at hq
    split at hq
    · cases hq; exact hP1 0 _ rfl
    · cases hq
  · rw [if_neg hi] at hq
    have hl := (hP i q hq).lt
    refine (hP i q hq).kept (ho q.1 hl fun h => ?_)
    rcases h with ⟨k2, e2, h⟩ | h
    · have hz : k2 < 1 := (List.getElem?_eq_some_iff.mp h).1
      rw [show k2 = 0 by omega] at h
      have hb : b = q.1 := by cases h; rfl
      exact hi (hD.1 k i _ _ hk hq hb)
    · omega
def cwK (y : MethodName) (bytes : ByteArray) (maxL n : Nat) : Prop := Cond.code y bytes maxL none ∈ hu_G ∧ Cond.instanceMethod y ∈ hu_G ∧ Cond.initialized y.cls ∈ hu_G ∧ y.name = "<init>" ∧ (y.cls ≠ "java/lang/invoke/MethodHandle" ∧ y.cls ≠ "java/lang/invoke/VarHandle" ∧ (parseMethodDescriptor y.desc).map (fun d => d.parameters.length) = some n)
theorem gn_callI (X : hc p s m args meth c own cc nL ret) (hK : kN D cs A s) (hA : ∀ q, s.heap.size ≤ q → A q) (hσ : σ = σ0 ++ w1) (hct : ctN l D cs y bytes maxL rm (.ref b :: As) w1 P mc ms) (hcw : cwK y bytes maxL n) (hl : Cond.methodLink own index y ∈ hu_G) (hst : st0 = As.reverse ++ .ref b :: rest) (hR : rm.cells = mc ∧ rm.slots = ms ∧ rm.frames + 1 ≤ R.frames ∧ 8 + (maxL + 11) + rm.locals ≤ R.locals) (hkc : kc + mc ≤ R.cells ∧ ks + ms ≤ R.slots) (hn : As.length = n) (hcat : (rest.map fun v => v.category).sum ≤ 8) (hdg : decode cc pc = .ok (.invokespecial index, 3)) (kk : ∀ u : va_W, P u → gs (kc + mc) (ks + ms) p l e R s m args below meth c wI D vwCl A nL Q (pc + 3) L rest (σ0 ++ u)) : gs kc ks p l e R s m args below meth c wI D vwCl A nL Q pc L st0 σ := by
  subst hσ
  intro H locs ls hP hD hS h
  have hP0 : va_P D vwCl (wI w1) H := lj_P2 hP
  have hD0 : va_D A (wI w1) := lj_D2 hD
  have hF := gc_free (wf := wI) hA hD0 hS
  have hp := gc_pre (s := s) kN_ok hK hA hP0 hD0 hS (As := .ref b :: As)
  refine va_callv (va_runI (As := As) (rest := rest) ⟨X.1, X.2.1, X.2.2.1, X.2.2.2.1, X.2.2.2.2.1⟩ (hct H.size) ⟨callB_of n X.2.2.2.2.1 (hu_callG hcw.1) rfl hR.1 hR.2.1 (X.2.2.2.2.1 _ hcw.2.2.1) (X.2.2.2.2.1 _ hl) hcw.2.2.2.2 hR.2.2, hcw.2.2.2.1, X.2.2.2.2.1 _ hcw.2.1⟩ hp rfl hn h.1 hst (lv_room hcat) hdg hkc) hS (fun q _ h => hF q h) hF (fun u t H1 locs1 ht hvm hw hB hz1 hk1 hS1 => ?_)
  obtain ⟨hP1, hD1⟩ := hB
  rw [ht] at hP1
  obtain ⟨hP2, hD2⟩ := lj_r hP hD hF hk1 hP1 hD1
  exact kk u hw H1 locs1 ls hP2 hD2 hS1 h
theorem gn_callN (X : hc p s m args meth c own cc nL ret) (hK : kN D cs A s) (hA : ∀ q, s.heap.size ≤ q → A q) (hσ : σ = σ0 ++ w1) (hct : ctN l D cs y bytes maxL rm (.ref b :: As) w1 P mc ms) (hcw : cwK y bytes maxL n) (hl : Cond.methodLinkNest own index y "HeartHours" ∈ nwL) (hst : st0 = As.reverse ++ .ref b :: rest) (hR : rm.cells = mc ∧ rm.slots = ms ∧ rm.frames + 1 ≤ R.frames ∧ 8 + (maxL + 11) + rm.locals ≤ R.locals) (hkc : kc + mc ≤ R.cells ∧ ks + ms ≤ R.slots) (hn : As.length = n) (hcat : (rest.map fun v => v.category).sum ≤ 8) (hdg : decode cc pc = .ok (.invokespecial index, 3)) (kk : ∀ u : va_W, P u → gs (kc + mc) (ks + ms) p l e R s m args below meth c wI D vwCl A nL Q (pc + 3) L rest (σ0 ++ u)) : gs kc ks p l e R s m args below meth c wI D vwCl A nL Q pc L st0 σ := by
  subst hσ
  intro H locs ls hP hD hS h
  have hP0 : va_P D vwCl (wI w1) H := lj_P2 hP
  have hD0 : va_D A (wI w1) := lj_D2 hD
  have hF := gc_free (wf := wI) hA hD0 hS
  have hp := gc_pre (s := s) kN_ok hK hA hP0 hD0 hS (As := .ref b :: As)
  refine va_callv (va_runIN (As := As) (rest := rest) ⟨X.1, X.2.1, X.2.2.1, X.2.2.2.1, X.2.2.2.2.1⟩ (hct H.size) ⟨va_cnB n X.2.2.2.2.1 (hu_callG hcw.1) rfl hR.1 hR.2.1 (hK.2.1 _ hl) (X.2.2.2.2.1 _ hcw.2.2.1) hcw.2.2.2.2 hR.2.2, hcw.2.2.2.1, X.2.2.2.2.1 _ hcw.2.1⟩ hp rfl hn h.1 hst (lv_room hcat) hdg hkc) hS (fun q _ h => hF q h) hF (fun u t H1 locs1 ht hvm hw hB hz1 hk1 hS1 => ?_)
  obtain ⟨hP1, hD1⟩ := hB
  rw [ht] at hP1
  obtain ⟨hP2, hD2⟩ := lj_r hP hD hF hk1 hP1 hD1
  exact kk u hw H1 locs1 ls hP2 hD2 hS1 h
/-- a static call that writes one row of ints and makes no cell -/
theorem gn_callF (X : hc p s m args meth c own cc nL ret) (hK : kN D cs A s) (hA : ∀ q, s.heap.size ≤ q → A q) (k : Nat) {e0 e1 : va_E} (hk : σ[k]? = some (b, e0)) (hct : ctN l D cs y bytes maxL rm As [(b, e0)] (fun u => u = [(b, e1)]) 0 0) (hcw : cwT own index y bytes maxL n none) (hst : st0 = As.reverse ++ rest) (hR : rm.cells = 0 ∧ rm.slots = 0 ∧ rm.frames + 1 ≤ R.frames ∧ 8 + (maxL + 11) + rm.locals ≤ R.locals) (hkc : kc + 0 ≤ R.cells ∧ ks + 0 ≤ R.slots) (hn : As.length = n) (hcat : (rest.map fun v => v.category).sum ≤ 8) (hdg : decode cc pc = .ok (.invokestatic index, 3)) (kk : gs kc ks p l e R s m args below meth c wI D vwCl A nL Q (pc + 3) L rest (σ.set k (b, e1))) : gs kc ks p l e R s m args below meth c wI D vwCl A nL Q pc L st0 σ := by
  intro H locs ls hP hD hS h
  have hP0 : va_P D vwCl (wI [(b, e0)]) H := fun i q hq => by
    have hz : i < 1 := (List.getElem?_eq_some_iff.mp hq).1
    rw [show i = 0 by omega] at hq
    cases hq
    exact hP k _ hk
  have hD0 : va_D A (wI [(b, e0)]) := ⟨fun i j p q hi hj _ => by
    have h1 : i < 1 := (List.getElem?_eq_some_iff.mp hi).1
    have h2 : j < 1 := (List.getElem?_eq_some_iff.mp hj).1
    omega, fun i q hq => by
    have hz : i < 1 := (List.getElem?_eq_some_iff.mp hq).1
    rw [show i = 0 by omega] at hq
    cases hq
    exact hD.2 k _ hk⟩
  have hF := gc_free (wf := wI) hA hD0 hS
  have hp := gc_pre (s := s) kN_ok hK hA hP0 hD0 hS (As := As)
  refine va_callv (va_runS (As := As) (rest := rest) ⟨X.1, X.2.1, X.2.2.1, X.2.2.2.1, X.2.2.2.2.1⟩ (hct H.size) (cwT_ok X hcw hR.1 hR.2.1 hR.2.2) hp rfl hn h.1 hst (lv_room hcat) hdg hkc) hS (fun q _ h => hF q h) hF (fun u t H1 locs1 ht hvm hw hB hz1 hk1 hS1 => ?_)
  obtain ⟨hP1, hD1⟩ := hB
  rw [ht] at hP1
  subst hw
  obtain ⟨hP2, hD2⟩ := lk_set hP hD hk hk1 hP1
  exact kk H1 locs1 ls hP2 hD2 hS1 h
theorem arrV_cg {c0 : ClassId} {N : Nat} {f g : Nat → Value} (h : ∀ j, j < N → f j = g j) : arrV c0 N f = arrV c0 N g := by
  unfold arrV
  congr 1
  apply Array.ext
  · simp
  · intro i h1 h2
    simp at h1 h2 ⊢
    rw [h i h1]
/-- five rows of four ints -/
def wQ (cs : Nat → ClassId) (q : Nat) : va_W := (q, .inl (cs 4, 5, .inr (.inr (.inr (.inr (fun j => some (q + 1 + j))))))) :: (List.range 5).map (fun j => (q + 1 + j, .inl (cs 0, 4, .inl (fun _ => 0))))
theorem wQ_at {q k : Nat} {x : Nat × va_E} (h : (wQ cs q)[k]? = some x) : (k = 0 ∧ x = (q, .inl (cs 4, 5, .inr (.inr (.inr (.inr (fun j => some (q + 1 + j)))))))) ∨ ∃ j, j < 5 ∧ k = j + 1 ∧ x = (q + 1 + j, .inl (cs 0, 4, .inl (fun _ => 0))) := by
  cases k with
  | zero => left; exact ⟨rfl, by cases h; rfl⟩
  | succ j =>
    right
    have hj : j < 5 := by
      have := (List.getElem?_eq_some_iff.mp h).1
      simp [wQ] at this
      omega
    refine ⟨j, hj, rfl, ?_⟩
    have h2 : ((List.range 5).map (fun j => ((q + 1 + j, .inl (cs 0, 4, .inl (fun _ => 0))) : Nat × va_E)))[j]? = some x := h
    rw [List.getElem?_map, List.getElem?_range hj] at h2
    exact (Option.some.inj h2).symm
theorem gn_mq (X : hc p s m args meth c own cc nL ret) (hK : kN D cs A s) (hA : ∀ q, s.heap.size ≤ q → A q) (hcl : Cond.classLink own index "[[I" ∈ hu_G) (hR : kc + 6 ≤ R.cells ∧ ks + 25 ≤ R.slots) (hdg : decode cc pc = .ok (.multianewarray index 2, 4)) (kk : ∀ q : Nat, gs (kc + 6) (ks + 25) p l e R s m args below meth c wI D vwCl A nL Q (pc + 4) L (.ref q :: st) (σ ++ wQ cs q)) : gs kc ks p l e R s m args below meth c wI D vwCl A nL Q pc L (.int 4 :: .int 5 :: st) σ := by
  intro H locs ls hP hD hS h
  refine mq_row X.1 X.2.1 X.2.2.2.1 (X.2.2.2.2.1 _ hcl) (over_moved (Vm.Alike.refl s.vm) hK.2.2.2) (X.2.2.2.2.1 _ (hu_in 108 (by decide +kernel) (by decide +kernel))) hR.1 hR.2 hdg (fun H1 cO cI kO kI ci locs1 hcO hcI hkO hkindO hkI hkindI hz hO hI hq hl => ?_)
  have e1 : cO = cs 4 := Option.some.inj (hcO.symm.trans (hK.1.2 4 (cs 4, .array .int) rfl).2)
  have e2 : cI = cs 0 := Option.some.inj (hcI.symm.trans (hK.1.2 0 (cs 0, .int) rfl).2)
  subst e1
  subst e2
  have hk : ∀ (k : Nat) (x : Nat × va_E), σ[k]? = some x → H1[x.1]? = H[x.1]? := fun k x hx => hq x.1 ((hP k x hx).lt)
  refine kk H.size H1 locs1 ls (va_P.app (va_P.kept hP hk) (fun k x hx => ?_)) (va_D.app hD ⟨fun i j x y hx hy e => ?_, fun k x hx => ?_⟩ (fun i j x y hx hy e => ?_)) ⟨Nat.le_trans hS.1 (by omega), fun x h1 h2 => (hq x (Nat.lt_of_lt_of_le h1 hS.1)).trans (hS.2.1 x h1 h2), fun x hx => ?_⟩ h
  · rcases wQ_at hx with ⟨-, rfl⟩ | ⟨j, hj, -, rfl⟩
    · show H1[H.size]? = some (vp_cell _ _)
      rw [hO, vp_cell_q]
      exact congrArg some (arrV_cg (fun j hj => by show va_rf (if j < 5 then _ else _) = _; rw [if_pos hj]))
    · exact hI j hj
  · rcases wQ_at hx with ⟨h1, rfl⟩ | ⟨j1, hj1, h1, rfl⟩ <;> rcases wQ_at hy with ⟨h2, rfl⟩ | ⟨j2, hj2, h2, rfl⟩ <;> simp only at e <;> omega
  · rcases wQ_at hx with ⟨h1, rfl⟩ | ⟨j1, hj1, h1, rfl⟩
    · exact hA _ hS.1
    · exact hA _ (by show s.heap.size ≤ H.size + 1 + j1; have := hS.1; omega)
  · have hlt := (hP i x hx).lt
    rcases wQ_at hy with ⟨h1, rfl⟩ | ⟨j1, hj1, h1, rfl⟩ <;> simp only at e <;> omega
  · rcases hl x hx with h1 | h1
    · exact hS.2.2 x h1
    · rw [h1]; exact hA _ hS.1
end GNW
/-- a class under another may lie in a row of it -/
theorem asg_1 {s : State} {args : Array Value} {C E F : String} (h1 : (Cond.superclass C E).before args s = true) (h2 : (Cond.superclass E F).before args s = true) (comp c0 : ClassId) (hE : s.vm.findClass E = some comp) (hC : s.vm.findClass C = some c0) : s.vm.assignable c0 comp = true := by
  obtain ⟨p1, k, kp, e1, e2, e3, e4, e5, e6, e7⟩ := Cond.superclass_spec hC h1
  obtain ⟨p2, k2, kp2, f1, f2, f3, f4, f5, f6, f7⟩ := Cond.superclass_spec hE h2
  have e8 : p1 = comp := Option.some.inj (e1.symm.trans hE)
  subst e8
  have hsz : 0 < s.vm.classes.size := Nat.lt_of_le_of_lt (Nat.zero_le _) (Array.getElem?_eq_some_iff.mp e2).1
  obtain ⟨N, hN⟩ : ∃ N, s.vm.classes.size = N + 1 := ⟨s.vm.classes.size - 1, by omega⟩
  have hsub : s.vm.isSubclass c0 p1 = true := by
    unfold Vm.isSubclass
    rw [hN]
    simp [Vm.isSubclassAux, e2, e4]
  show s.vm.assignableAux (255 + 1) c0 p1 = true
  rw [Vm.assignableAux]
  simp [e2, f2, e5, f5, f7, hsub]
theorem asg_2 {s : State} {args : Array Value} {C B E F : String} (h1 : (Cond.superclass C B).before args s = true) (h0 : (Cond.superclass B E).before args s = true) (h2 : (Cond.superclass E F).before args s = true) (comp c0 : ClassId) (hE : s.vm.findClass E = some comp) (hC : s.vm.findClass C = some c0) : s.vm.assignable c0 comp = true := by
  obtain ⟨p0, k, kp, e1, e2, e3, e4, e5, e6, e7⟩ := Cond.superclass_spec hC h1
  obtain ⟨p1, k1, kp1, g1, g2, g3, g4, g5, g6, g7⟩ := Cond.superclass_spec e1 h0
  obtain ⟨p2, k2, kp2, f1, f2, f3, f4, f5, f6, f7⟩ := Cond.superclass_spec hE h2
  have e8 : p1 = comp := Option.some.inj (g1.symm.trans hE)
  subst e8
  by_cases hcc : c0 = p1
  · subst hcc; exact va_asg _ _
  have two : ∀ a b k : Nat, a < k → b < k → a ≠ b → 2 ≤ k := fun a b k h1 h2 h3 => by omega
  have hsz := two _ _ _ (Array.getElem?_eq_some_iff.mp e2).1 (Array.getElem?_eq_some_iff.mp f2).1 hcc
  obtain ⟨N, hN⟩ : ∃ N, s.vm.classes.size = N + 1 + 1 := ⟨s.vm.classes.size - 2, by omega⟩
  have hsub : s.vm.isSubclass c0 p1 = true := by
    unfold Vm.isSubclass
    rw [hN]
    simp [Vm.isSubclassAux, e2, e4, g2, g4]
  show s.vm.assignableAux (255 + 1) c0 p1 = true
  rw [Vm.assignableAux]
  simp [e2, f2, e5, f5, f7, hsub]
