def hch (v : Int32) : Bool := decide ((v.toUInt32 % 65536).toInt32 = v)
theorem hch_nar {v : Int32} (h : hch v = true) : narrow .char (.int v) = .int v := by
  have e := of_decide_eq_true h
  rw [← e]
  exact pk_nc v
def hby (v : Int32) : Bool := decide (v.toInt8.toInt32 = v)
theorem hby_nar {v : Int32} (h : hby v = true) : narrow .byte (.int v) = .int v := by
  have e := of_decide_eq_true h
  rw [← e]
  exact pk_nb v
def hi2c (x : Int32) : Int32 := (x.toUInt32 % 65536).toInt32
def QL {T : Type} (below : List Frame) (args : Array Value) (s : State) (wf : T → va_W) (D : va_G) (cl : List vw_C) (A : Nat → Prop) (r : Int64) (σ' : T) : State → Prop :=
  MQ below (va_Ql (fun q (u : T) => q = r ∧ u = σ') (fun u t => va_P D cl (wf u) t.heap ∧ va_D A (wf u)) A) args s 0 0 A
def QA {T : Type} (below : List Frame) (args : Array Value) (s : State) (wf : T → va_W) (D : va_G) (cl : List vw_C) (A : Nat → Prop) (r : Nat) (σ' : T) : State → Prop :=
  MQ below (va_Qr (fun (u : T) => u = σ') (fun u q t => q = r ∧ va_P D cl (wf u) t.heap ∧ va_D A (wf u)) A) args s 0 0 A
def ctL {T : Type} (l : Launch) (wf : T → va_W) (D : va_G) (cl : List vw_C) (KK : (Nat → Prop) → State → Prop) (y : MethodName) (bytes : ByteArray) (maxL : Nat) (rt : FieldType) (rm : Room) (As : List Value) (σ : T) (r : Int64) (σ' : T) : Prop :=
  ∀ sz : Nat, Met l y (.code y bytes maxL (some rt) :: hu_G) rm (va_Pc As (fun U => U.heap.size = sz ∧ va_P D cl (wf σ) U.heap ∧ KK (va_A (wf σ) sz) U ∧ va_D (fun _ => True) (wf σ))) (va_Ql (fun q (u : T) => q = r ∧ u = σ') (fun u t => va_P D cl (wf u) t.heap ∧ va_D (va_A (wf σ) sz) (wf u)) (va_A (wf σ) sz)) 0 0 (va_A (wf σ) sz)
def ctA {T : Type} (l : Launch) (wf : T → va_W) (D : va_G) (cl : List vw_C) (KK : (Nat → Prop) → State → Prop) (y : MethodName) (bytes : ByteArray) (maxL : Nat) (rt : FieldType) (rm : Room) (As : List Value) (σ : T) (r : Nat) (σ' : T) : Prop :=
  ∀ sz : Nat, Met l y (.code y bytes maxL (some rt) :: hu_G) rm (va_Pc As (fun U => U.heap.size = sz ∧ va_P D cl (wf σ) U.heap ∧ KK (va_A (wf σ) sz) U ∧ va_D (fun _ => True) (wf σ))) (va_Qr (fun (u : T) => u = σ') (fun u q t => q = r ∧ va_P D cl (wf u) t.heap ∧ va_D (va_A (wf σ) sz) (wf u)) (va_A (wf σ) sz)) 0 0 (va_A (wf σ) sz)
section GE2
variable {p : Program} {l : Launch} {e : Env} {R : Room} {s : State} {m : MethodId} {args : Array Value} {below : List Frame} {meth : Method} {c : Code}
variable {T : Type} {wf : T → va_W} {D : va_G} {cl : List vw_C} {A : Nat → Prop} {nL : Nat} {Q : State → Prop}
variable {own : String} {cc : ByteArray} {ret : Option FieldType} {pc : Nat} {L : List (Nat × Value)} {st : List Value} {σ : T}
theorem gr_i2c (X : hc p s m args meth c own cc nL ret) {x : Int32} (hdg : decode cc pc = .ok (.i2c, 1)) (kk : gg p l e R s m args below meth c wf D cl A nL Q (pc + 1) (L) (.int (hi2c x) :: st) σ) : gg p l e R s m args below meth c wf D cl A nL Q (pc) (L) (.int x :: st) σ := fun H locs ls hP hD hS h => lv_i2c X.1 X.2.1 hdg rfl (kk H locs ls hP hD hS h)
theorem gr_null (X : hc p s m args meth c own cc nL ret) (hdg : decode cc pc = .ok (.aconst_null, 1)) (kk : gg p l e R s m args below meth c wf D cl A nL Q (pc + 1) (L) (.null :: st) σ) : gg p l e R s m args below meth c wf D cl A nL Q (pc) (L) (st) σ := fun H locs ls hP hD hS h => lv_null X.1 X.2.1 hdg (kk H locs ls hP hD hS h)
theorem gr_cret {r v : Int32} {σ' : T} (X : hc p s m args meth c own cc nL (some .char)) (hdg : decode cc pc = .ok (.ireturn, 1)) (hz : hch v = true) (hv : v = r) (hs : σ = σ') : gg p l e R s m args below meth c wf D cl A nL (QI below args s wf D cl A r σ') pc L [.int v] σ :=
  fun H locs ls hP hD hS h => W.zret (v := v) X.1 X.2.1 X.2.2.2.2.2.1 (hch_nar hz) (fun t ht _ => ⟨⟨v, σ, rfl, ⟨hv, hs⟩, by rw [ht]; exact hP, hD⟩, hS.F ht⟩) hS.2.2 hdg (hlocks := X.2.2.2.2.2.2)
theorem gr_bret {r v : Int32} {σ' : T} (X : hc p s m args meth c own cc nL (some .byte)) (hdg : decode cc pc = .ok (.ireturn, 1)) (hz : hby v = true) (hv : v = r) (hs : σ = σ') : gg p l e R s m args below meth c wf D cl A nL (QI below args s wf D cl A r σ') pc L [.int v] σ :=
  fun H locs ls hP hD hS h => W.zret (v := v) X.1 X.2.1 X.2.2.2.2.2.1 (hby_nar hz) (fun t ht _ => ⟨⟨v, σ, rfl, ⟨hv, hs⟩, by rw [ht]; exact hP, hD⟩, hS.F ht⟩) hS.2.2 hdg (hlocks := X.2.2.2.2.2.2)
theorem gr_lret {r v : Int64} {σ' : T} (X : hc p s m args meth c own cc nL (some .long)) (hdg : decode cc pc = .ok (.lreturn, 1)) (hv : v = r) (hs : σ = σ') : gg p l e R s m args below meth c wf D cl A nL (QL below args s wf D cl A r σ') pc L [.long v] σ :=
  fun H locs ls hP hD hS h => W.lret (v := v) X.1 X.2.1 X.2.2.2.2.2.1 (fun t ht _ => ⟨⟨v, σ, rfl, ⟨hv, hs⟩, by rw [ht]; exact hP, hD⟩, hS.F ht⟩) hS.2.2 hdg (hlocks := X.2.2.2.2.2.2)
theorem gr_aret {r v : Nat} {σ' : T} {cn : String} (X : hc p s m args meth c own cc nL (some (.object cn))) (hdg : decode cc pc = .ok (.areturn, 1)) (hv : v = r) (hs : σ = σ') : gg p l e R s m args below meth c wf D cl A nL (QA below args s wf D cl A r σ') pc L [.ref v] σ :=
  fun H locs ls hP hD hS h => W.aret (v := .ref v) X.1 X.2.1 X.2.2.2.2.2.1 (Or.inl ⟨_, rfl⟩) (Or.inr ⟨_, rfl⟩) (fun t ht _ => ⟨⟨σ, v, rfl, hs, hv, by rw [ht]; exact hP, hD⟩, hS.F ht⟩) hS.2.2 hdg (hlocks := X.2.2.2.2.2.2)
end GE2
section GN2
variable {l : Launch} {T : Type} {wf : T → va_W} {D : va_G} {cl : List vw_C} {KK : (Nat → Prop) → State → Prop} {y : MethodName} {bytes : ByteArray} {maxL : Nat} {rt : FieldType} {rm : Room} {As : List Value} {σ σ' : T}
theorem ct_L {r : Int64} (own : String) (hy : plainName y.cls = true) (ho : y.cls = own) (hlen : (lg_sl As).length ≤ maxL)
    (h : ∀ (p : Program) (e : Env) (s : State) (m : MethodId) (args : Array Value) (below : List Frame) (meth : Method) (c : Code) (A : Nat → Prop), hc p s m args meth c own bytes maxL (some rt) → KK A s → (∀ q, s.heap.size ≤ q → A q) → gg p l e rm s m args below meth c wf D cl A maxL (QL below args s wf D cl A r σ') 0 (lv_args 0 As) [] σ) : ctL l wf D cl KK y bytes maxL rt rm As σ r σ' := by
  intro sz
  refine Met.ofW (cc := bytes) (maxL := maxL) (ret := some rt) hy rfl ?_
  intro p e s m args below meth c s₁ B hml hv
  obtain ⟨rfl, hsz, hP, hK, hD0⟩ := hv
  subst hsz
  have hts := atoms_spec (ws := .code y bytes maxL (some rt) :: hu_G) B.pre
  have hown : s.vm.findClass own = some m.cls := ho ▸ findClass_of_methodNamed B.named
  have hD := hD0.self (sz := s.heap.size)
  have X : hc p s m As.toArray meth c own bytes maxL (some rt) := ⟨B.exec, B.bytes, hml, hown, fun w hw => hts w (List.mem_cons_of_mem _ hw), B.returns, B.notSynchronized⟩
  have hl := lv_entry As (n := maxL) hlen
  rw [lg_entry_eq]
  exact h p e s m As.toArray below meth c (va_A (wf σ) s.heap.size) X hK (fun q h => Or.inr h) s.heap [] _ hP hD va_S.rf hl
theorem ct_A {r : Nat} (own : String) (hy : plainName y.cls = true) (ho : y.cls = own) (hlen : (lg_sl As).length ≤ maxL)
    (h : ∀ (p : Program) (e : Env) (s : State) (m : MethodId) (args : Array Value) (below : List Frame) (meth : Method) (c : Code) (A : Nat → Prop), hc p s m args meth c own bytes maxL (some rt) → KK A s → (∀ q, s.heap.size ≤ q → A q) → gg p l e rm s m args below meth c wf D cl A maxL (QA below args s wf D cl A r σ') 0 (lv_args 0 As) [] σ) : ctA l wf D cl KK y bytes maxL rt rm As σ r σ' := by
  intro sz
  refine Met.ofW (cc := bytes) (maxL := maxL) (ret := some rt) hy rfl ?_
  intro p e s m args below meth c s₁ B hml hv
  obtain ⟨rfl, hsz, hP, hK, hD0⟩ := hv
  subst hsz
  have hts := atoms_spec (ws := .code y bytes maxL (some rt) :: hu_G) B.pre
  have hown : s.vm.findClass own = some m.cls := ho ▸ findClass_of_methodNamed B.named
  have hD := hD0.self (sz := s.heap.size)
  have X : hc p s m As.toArray meth c own bytes maxL (some rt) := ⟨B.exec, B.bytes, hml, hown, fun w hw => hts w (List.mem_cons_of_mem _ hw), B.returns, B.notSynchronized⟩
  have hl := lv_entry As (n := maxL) hlen
  rw [lg_entry_eq]
  exact h p e s m As.toArray below meth c (va_A (wf σ) s.heap.size) X hK (fun q h => Or.inr h) s.heap [] _ hP hD va_S.rf hl
end GN2
section GK3
variable {p : Program} {l : Launch} {e : Env} {R : Room} {s : State} {m : MethodId} {args : Array Value} {below : List Frame} {meth : Method} {c : Code}
variable {T : Type} {wf : T → va_W} {D : va_G} {cl : List vw_C} {A : Nat → Prop} {nL : Nat} {Q : State → Prop}
variable {own : String} {cc : ByteArray} {ret : Option FieldType} {pc : Nat} {L : List (Nat × Value)} {st : List Value} {σ : T}
variable {KK : (Nat → Prop) → State → Prop} {y : MethodName} {bytes : ByteArray} {maxL n index : Nat} {rt : FieldType} {rm : Room} {As rest st0 : List Value} {σ' : T} {b : Nat} {C : String}
theorem gc_SL {r : Int64} (X : hc p s m args meth c own cc nL ret) (hkk : hkm KK) (hK : KK A s) (hA : ∀ q, s.heap.size ≤ q → A q) (hcw : cwT own index y bytes maxL n (some rt)) (hct : ctL l wf D cl KK y bytes maxL rt rm As σ r σ') (hst : st0 = As.reverse ++ rest) (hR : rm.cells = 0 ∧ rm.slots = 0 ∧ rm.frames + 1 ≤ R.frames ∧ 8 + (maxL + 11) + rm.locals ≤ R.locals) (hn : As.length = n) (hcat : (rest.map fun v => v.category).sum ≤ 8) (hdg : decode cc pc = .ok (.invokestatic index, 3)) (kk : gg p l e R s m args below meth c wf D cl A nL Q (pc + 3) L (.long r :: rest) σ') : gg p l e R s m args below meth c wf D cl A nL Q pc L st0 σ := by
  intro H locs ls hP hD hS h
  have hF := gc_free hA hD hS
  have hp := gc_pre (s := s) hkk hK hA hP hD hS (As := As)
  refine va_calll (va_runS (As := As) (rest := rest) ⟨X.1, X.2.1, X.2.2.1, X.2.2.2.1, X.2.2.2.2.1⟩ (hct H.size) (cwT_ok X hcw hR.1 hR.2.1 hR.2.2) hp rfl hn h.1 hst (lv_room hcat) hdg ⟨Nat.zero_le _, Nat.zero_le _⟩) hS (fun q _ h => hF q h) hF (fun r2 u t H1 locs1 ht hvm hw hB hz1 hk1 hS1 => ?_)
  obtain ⟨rfl, rfl⟩ := hw
  obtain ⟨hP1, hD1⟩ := hB
  rw [ht] at hP1
  exact kk H1 locs1 ls hP1 (hD1.weaken (fun k q _ h => hF q.1 h)) hS1 h
theorem gc_SA {r : Nat} (X : hc p s m args meth c own cc nL ret) (hkk : hkm KK) (hK : KK A s) (hA : ∀ q, s.heap.size ≤ q → A q) (hcw : cwT own index y bytes maxL n (some rt)) (hct : ctA l wf D cl KK y bytes maxL rt rm As σ r σ') (hst : st0 = As.reverse ++ rest) (hR : rm.cells = 0 ∧ rm.slots = 0 ∧ rm.frames + 1 ≤ R.frames ∧ 8 + (maxL + 11) + rm.locals ≤ R.locals) (hn : As.length = n) (hcat : (rest.map fun v => v.category).sum ≤ 8) (hdg : decode cc pc = .ok (.invokestatic index, 3)) (kk : gg p l e R s m args below meth c wf D cl A nL Q (pc + 3) L (.ref r :: rest) σ') : gg p l e R s m args below meth c wf D cl A nL Q pc L st0 σ := by
  intro H locs ls hP hD hS h
  have hF := gc_free hA hD hS
  have hp := gc_pre (s := s) hkk hK hA hP hD hS (As := As)
  refine va_callr (va_runS (As := As) (rest := rest) ⟨X.1, X.2.1, X.2.2.1, X.2.2.2.1, X.2.2.2.2.1⟩ (hct H.size) (cwT_ok X hcw hR.1 hR.2.1 hR.2.2) hp rfl hn h.1 hst (lv_room hcat) hdg ⟨Nat.zero_le _, Nat.zero_le _⟩) hS (fun q _ h => hF q h) hF (fun u ra t H1 locs1 ht hvm hw hB hz1 hk1 hS1 => ?_)
  obtain rfl := hw
  obtain ⟨rfl, hP1, hD1⟩ := hB
  rw [ht] at hP1
  exact kk H1 locs1 ls hP1 (hD1.weaken (fun k q _ h => hF q.1 h)) hS1 h
end GK3
