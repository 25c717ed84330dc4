def hmax (x y : Int32) : Int32 := if x < y then y else x
def hmin (x y : Int32) : Int32 := if y < x then y else x
def habs (x : Int32) : Int32 := if 0 ≤ x then x else 0 - x
section GM
variable {p : Program} {l : Launch} {e : Env} {R : Room} {s : State} {m : MethodId} {args : Array Value} {below : List Frame} {meth : Method} {c : Code}
variable {T : Type} {wf : T → va_W} {D : va_G} {cl : List vw_C} {A : Nat → Prop} {nL : Nat} {Q : State → Prop}
variable {own : String} {cc : ByteArray} {ret : Option FieldType} {pc : Nat} {L : List (Nat × Value)} {st : List Value} {σ : T}
theorem gr_mmax (X : hc p s m args meth c own cc nL ret) {index : Nat} {x y : Int32} (hk : Cond.methodLink own index Lib.Math.max.name ∈ hu_G ∧ Cond.static Lib.Math.max.name ∈ hu_G ∧ Cond.initialized "java/lang/Math" ∈ hu_G ∧ Cond.code Lib.Math.max.name Lib.Math.max.code 2 (some .int) ∈ hu_G) (hR : 1 ≤ R.frames ∧ (st.map fun v => v.category).sum + 13 ≤ R.locals) (hdg : decode cc pc = .ok (.invokestatic index, 3)) (kk : gg p l e R s m args below meth c wf D cl A nL Q (pc + 3) (L) (.int (hmax x y) :: st) σ) : gg p l e R s m args below meth c wf D cl A nL Q (pc) (L) (.int y :: .int x :: st) σ := fun H locs ls hP hD hS h => va_mmax X.1 X.2.1 (X.2.2.1.trans h.1.symm) X.2.2.2.1 (X.2.2.2.2.1 _ hk.1) (X.2.2.2.2.1 _ hk.2.1) (X.2.2.2.2.1 _ hk.2.2.1) (X.2.2.2.2.1 _ hk.2.2.2) hR.1 hR.2 (Nat.zero_le _) (Nat.zero_le _) hdg (kk H locs ls hP hD hS h)
theorem gr_mmin (X : hc p s m args meth c own cc nL ret) {index : Nat} {x y : Int32} (hk : Cond.methodLink own index Lib.Math.min.name ∈ hu_G ∧ Cond.static Lib.Math.min.name ∈ hu_G ∧ Cond.initialized "java/lang/Math" ∈ hu_G ∧ Cond.code Lib.Math.min.name Lib.Math.min.code 2 (some .int) ∈ hu_G) (hR : 1 ≤ R.frames ∧ (st.map fun v => v.category).sum + 13 ≤ R.locals) (hdg : decode cc pc = .ok (.invokestatic index, 3)) (kk : gg p l e R s m args below meth c wf D cl A nL Q (pc + 3) (L) (.int (hmin x y) :: st) σ) : gg p l e R s m args below meth c wf D cl A nL Q (pc) (L) (.int y :: .int x :: st) σ := fun H locs ls hP hD hS h => va_mmin X.1 X.2.1 (X.2.2.1.trans h.1.symm) X.2.2.2.1 (X.2.2.2.2.1 _ hk.1) (X.2.2.2.2.1 _ hk.2.1) (X.2.2.2.2.1 _ hk.2.2.1) (X.2.2.2.2.1 _ hk.2.2.2) hR.1 hR.2 (Nat.zero_le _) (Nat.zero_le _) hdg (kk H locs ls hP hD hS h)
theorem gr_mabs (X : hc p s m args meth c own cc nL ret) {index : Nat} {x : Int32} (hk : Cond.methodLink own index Lib.Math.abs.name ∈ hu_G ∧ Cond.static Lib.Math.abs.name ∈ hu_G ∧ Cond.initialized "java/lang/Math" ∈ hu_G ∧ Cond.code Lib.Math.abs.name Lib.Math.abs.code 1 (some .int) ∈ hu_G) (hR : 1 ≤ R.frames ∧ (st.map fun v => v.category).sum + 13 ≤ R.locals) (hdg : decode cc pc = .ok (.invokestatic index, 3)) (kk : gg p l e R s m args below meth c wf D cl A nL Q (pc + 3) (L) (.int (habs x) :: st) σ) : gg p l e R s m args below meth c wf D cl A nL Q (pc) (L) (.int x :: st) σ := fun H locs ls hP hD hS h => va_mabs X.1 X.2.1 (X.2.2.1.trans h.1.symm) X.2.2.2.1 (X.2.2.2.2.1 _ hk.1) (X.2.2.2.2.1 _ hk.2.1) (X.2.2.2.2.1 _ hk.2.2.1) (X.2.2.2.2.1 _ hk.2.2.2) hR.1 hR.2 (Nat.zero_le _) (Nat.zero_le _) hdg (kk H locs ls hP hD hS h)
end GM
section GK2
variable {p : Program} {l : Launch} {e : Env} {R : Room} {s : State} {m : MethodId} {args : Array Value} {below : List Frame} {meth : Method} {c : Code}
variable {T : Type} {wf : T → va_W} {D : va_G} {cl : List vw_C} {A : Nat → Prop} {nL : Nat} {Q : State → Prop}
variable {own : String} {cc : ByteArray} {ret : Option FieldType} {pc : Nat} {L : List (Nat × Value)} {st : List Value} {σ : T}
variable {KK : (Nat → Prop) → State → Prop} {y x : MethodName} {bytes : ByteArray} {maxL n index : Nat} {rt : FieldType} {rm : Room} {As rest st0 : List Value} {σ' : T} {r : Int32} {b : Nat} {C host owner : String}
def cwN (own : String) (index : Nat) (y : MethodName) (bytes : ByteArray) (maxL n : Nat) (ret : Option FieldType) : Prop := Cond.code y bytes maxL ret ∈ hu_G ∧ Cond.static y ∈ hu_G ∧ Cond.initialized y.cls ∈ hu_G ∧ (y.cls ≠ "java/lang/invoke/MethodHandle" ∧ y.cls ≠ "java/lang/invoke/VarHandle" ∧ (parseMethodDescriptor y.desc).map (fun d => d.parameters.length) = some n)
/-- a super method -/
def cwS2 (own : String) (index : Nat) (y : MethodName) (bytes : ByteArray) (maxL n : Nat) (ret : Option FieldType) : Prop := Cond.code y bytes maxL ret ∈ hu_G ∧ (∀ w ∈ ([.methodLink own index y, .sameMethod y.cls y.cls y.name y.desc, .superclass own y.cls, .instanceMethod y, .initialized y.cls] : List Cond), w ∈ hu_G) ∧ (y.name ≠ "<init>" ∧ (parseMethodDescriptor y.desc).map (fun d => d.parameters.length) = some n)
/-- a method that the receiver's class C selects: named x through a class, found in owner, the code is y's -/
def cwU2 (own C owner : String) (index : Nat) (x y : MethodName) (bytes : ByteArray) (maxL n : Nat) (ret : Option FieldType) : Prop := Cond.code y bytes maxL ret ∈ hu_G ∧ (∀ w ∈ ([.methodLink own index x, .sameMethod x.cls owner x.name x.desc, .instanceMethod ⟨owner, x.name, x.desc⟩, .selects C x y, .instanceMethod y, .initialized y.cls] : List Cond), w ∈ hu_G) ∧ (∃ b0 m0 r0, Cond.code ⟨owner, x.name, x.desc⟩ b0 m0 r0 ∈ hu_G) ∧ (owner ≠ "java/lang/invoke/MethodHandle" ∧ owner ≠ "java/lang/invoke/VarHandle" ∧ (parseMethodDescriptor x.desc).map (fun d => d.parameters.length) = some n)
theorem hu_app {a b : List Cond} (ha : ∀ w ∈ a, w ∈ hu_G) (hb : GoodIn hu_G b) : GoodIn hu_G (a ++ b) := fun w h => (List.mem_append.mp h).elim (fun h => ⟨ha w h, hu_good w (ha w h)⟩) (hb w)
theorem gc_Ni (X : hc p s m args meth c own cc nL ret) (hkk : hkm KK) (hK : KK A s) (hA : ∀ q, s.heap.size ≤ q → A q) (hcw : cwN own index y bytes maxL n (some rt)) (hl : va_Nw (.methodLinkNest own index y host) s) (hct : ctI l wf D cl KK y bytes maxL rt rm As σ r σ') (hst : st0 = As.reverse ++ rest) (hR : rm.cells = 0 ∧ rm.slots = 0 ∧ rm.frames + 1 ≤ R.frames ∧ 8 + (maxL + 11) + rm.locals ≤ R.locals) (hn : As.length = n) (hcat : (rest.map fun v => v.category).sum ≤ 8) (hdg : decode cc pc = .ok (.invokestatic index, 3)) (kk : gg p l e R s m args below meth c wf D cl A nL Q (pc + 3) L (.int r :: rest) σ') : gg p l e R s m args below meth c wf D cl A nL Q pc L st0 σ := by
  intro H locs ls hP hD hS h
  have hF := gc_free hA hD hS
  have hp := gc_pre (s := s) hkk hK hA hP hD hS (As := As)
  refine va_calli (va_runSN (As := As) (rest := rest) ⟨X.1, X.2.1, X.2.2.1, X.2.2.2.1, X.2.2.2.2.1⟩ (hct H.size) ⟨va_cnB n X.2.2.2.2.1 (hu_callG hcw.1) rfl hR.1 hR.2.1 hl (X.2.2.2.2.1 _ hcw.2.2.1) hcw.2.2.2 hR.2.2, X.2.2.2.2.1 _ hcw.2.1, trivial⟩ hp rfl hn h.1 hst (lv_room hcat) hdg ⟨Nat.zero_le _, Nat.zero_le _⟩) hS (fun q _ h => hF q h) hF (fun r2 u t H1 locs1 ht hvm hw hB hz1 hk1 hS1 => ?_)
  obtain ⟨rfl, rfl⟩ := hw
  obtain ⟨hP1, hD1⟩ := hB
  rw [ht] at hP1
  exact kk H1 locs1 ls hP1 (hD1.weaken (fun k q _ h => hF q.1 h)) hS1 h
theorem gc_Pi (X : hc p s m args meth c own cc nL ret) (hkk : hkm KK) (hK : KK A s) (hA : ∀ q, s.heap.size ≤ q → A q) (hcw : cwS2 own index y bytes maxL n (some rt)) {cC : ClassId} (hat : ClassAt s C cC) (hrv : ∀ H, va_P D cl (wf σ) H → ∃ cell : Cell, H[b]? = some cell ∧ cell.vm.isStatics = false ∧ s.vm.findClass C = some cell.cls) (hct : ctI l wf D cl KK y bytes maxL rt rm (.ref b :: As) σ r σ') (hst : st0 = As.reverse ++ .ref b :: rest) (hR : rm.cells = 0 ∧ rm.slots = 0 ∧ rm.frames + 1 ≤ R.frames ∧ 8 + (maxL + 11) + rm.locals ≤ R.locals) (hn : As.length = n) (hcat : (rest.map fun v => v.category).sum ≤ 8) (hdg : decode cc pc = .ok (.invokespecial index, 3)) (kk : gg p l e R s m args below meth c wf D cl A nL Q (pc + 3) L (.int r :: rest) σ') : gg p l e R s m args below meth c wf D cl A nL Q pc L st0 σ := by
  intro H locs ls hP hD hS h
  have hF := gc_free hA hD hS
  have hp := gc_pre (s := s) hkk hK hA hP hD hS (As := .ref b :: As)
  refine va_calli (va_runSU (As := As) (rest := rest) hat ⟨X.1, X.2.1, X.2.2.1, X.2.2.2.1, X.2.2.2.2.1⟩ (hct H.size) (va_cwSU n X.2.2.2.2.1 (hu_app hcw.2.1 (hu_callG hcw.1)) rfl hR.1 hR.2.1 hcw.2.2 hR.2.2) ⟨hp.1, hrv H hP, hp.2⟩ rfl hn h.1 hst (lv_room hcat) hdg ⟨Nat.zero_le _, Nat.zero_le _⟩) hS (fun q _ h => hF q h) hF (fun r2 u t H1 locs1 ht hvm hw hB hz1 hk1 hS1 => ?_)
  obtain ⟨rfl, rfl⟩ := hw
  obtain ⟨hP1, hD1⟩ := hB
  rw [ht] at hP1
  exact kk H1 locs1 ls hP1 (hD1.weaken (fun k q _ h => hF q.1 h)) hS1 h
theorem gc_Ui (X : hc p s m args meth c own cc nL ret) (hkk : hkm KK) (hK : KK A s) (hA : ∀ q, s.heap.size ≤ q → A q) (hcw : cwU2 own C owner index x y bytes maxL n (some rt)) (hrv : ∀ H, va_P D cl (wf σ) H → ∃ cell : Cell, H[b]? = some cell ∧ cell.vm.isStatics = false ∧ s.vm.findClass C = some cell.cls) (hct : ctI l wf D cl KK y bytes maxL rt rm (.ref b :: As) σ r σ') (hst : st0 = As.reverse ++ .ref b :: rest) (hR : rm.cells = 0 ∧ rm.slots = 0 ∧ rm.frames + 1 ≤ R.frames ∧ 8 + (maxL + 11) + rm.locals ≤ R.locals) (hn : As.length = n) (hcat : (rest.map fun v => v.category).sum ≤ 8) (hdg : decode cc pc = .ok (.invokevirtual index, 3)) (kk : gg p l e R s m args below meth c wf D cl A nL Q (pc + 3) L (.int r :: rest) σ') : gg p l e R s m args below meth c wf D cl A nL Q pc L st0 σ := by
  intro H locs ls hP hD hS h
  have hF := gc_free hA hD hS
  have hp := gc_pre (s := s) hkk hK hA hP hD hS (As := .ref b :: As)
  obtain ⟨b0, m0, r0, h0⟩ := hcw.2.2.1
  refine va_calli (va_runU (As := As) (rest := rest) ⟨X.1, X.2.1, X.2.2.1, X.2.2.2.1, X.2.2.2.2.1⟩ (hct H.size) (va_cwO n X.2.2.2.2.1 (hu_app hcw.2.1 (hu_callG hcw.1)) rfl hR.1 hR.2.1 h0 hcw.2.2.2 hR.2.2) ⟨hp.1, hrv H hP, hp.2⟩ rfl hn h.1 hst (lv_room hcat) hdg ⟨Nat.zero_le _, Nat.zero_le _⟩) hS (fun q _ h => hF q h) hF (fun r2 u t H1 locs1 ht hvm hw hB hz1 hk1 hS1 => ?_)
  obtain ⟨rfl, rfl⟩ := hw
  obtain ⟨hP1, hD1⟩ := hB
  rw [ht] at hP1
  exact kk H1 locs1 ls hP1 (hD1.weaken (fun k q _ h => hF q.1 h)) hS1 h
theorem gc_Nv (X : hc p s m args meth c own cc nL ret) (hkk : hkm KK) (hK : KK A s) (hA : ∀ q, s.heap.size ≤ q → A q) (hcw : cwN own index y bytes maxL n none) (hl : va_Nw (.methodLinkNest own index y host) s) (hct : ctV l wf D cl KK y bytes maxL rm As σ σ') (hst : st0 = As.reverse ++ rest) (hR : rm.cells = 0 ∧ rm.slots = 0 ∧ rm.frames + 1 ≤ R.frames ∧ 8 + (maxL + 11) + rm.locals ≤ R.locals) (hn : As.length = n) (hcat : (rest.map fun v => v.category).sum ≤ 8) (hdg : decode cc pc = .ok (.invokestatic index, 3)) (kk : gg p l e R s m args below meth c wf D cl A nL Q (pc + 3) L (rest) σ') : gg p l e R s m args below meth c wf D cl A nL Q pc L st0 σ := by
  intro H locs ls hP hD hS h
  have hF := gc_free hA hD hS
  have hp := gc_pre (s := s) hkk hK hA hP hD hS (As := As)
  refine va_callv (va_runSN (As := As) (rest := rest) ⟨X.1, X.2.1, X.2.2.1, X.2.2.2.1, X.2.2.2.2.1⟩ (hct H.size) ⟨va_cnB n X.2.2.2.2.1 (hu_callG hcw.1) rfl hR.1 hR.2.1 hl (X.2.2.2.2.1 _ hcw.2.2.1) hcw.2.2.2 hR.2.2, X.2.2.2.2.1 _ hcw.2.1, trivial⟩ hp rfl hn h.1 hst (lv_room hcat) hdg ⟨Nat.zero_le _, Nat.zero_le _⟩) hS (fun q _ h => hF q h) hF (fun u t H1 locs1 ht hvm hw hB hz1 hk1 hS1 => ?_)
  obtain rfl := hw
  obtain ⟨hP1, hD1⟩ := hB
  rw [ht] at hP1
  exact kk H1 locs1 ls hP1 (hD1.weaken (fun k q _ h => hF q.1 h)) hS1 h
theorem gc_Pv (X : hc p s m args meth c own cc nL ret) (hkk : hkm KK) (hK : KK A s) (hA : ∀ q, s.heap.size ≤ q → A q) (hcw : cwS2 own index y bytes maxL n none) {cC : ClassId} (hat : ClassAt s C cC) (hrv : ∀ H, va_P D cl (wf σ) H → ∃ cell : Cell, H[b]? = some cell ∧ cell.vm.isStatics = false ∧ s.vm.findClass C = some cell.cls) (hct : ctV l wf D cl KK y bytes maxL rm (.ref b :: As) σ σ') (hst : st0 = As.reverse ++ .ref b :: rest) (hR : rm.cells = 0 ∧ rm.slots = 0 ∧ rm.frames + 1 ≤ R.frames ∧ 8 + (maxL + 11) + rm.locals ≤ R.locals) (hn : As.length = n) (hcat : (rest.map fun v => v.category).sum ≤ 8) (hdg : decode cc pc = .ok (.invokespecial index, 3)) (kk : gg p l e R s m args below meth c wf D cl A nL Q (pc + 3) L (rest) σ') : gg p l e R s m args below meth c wf D cl A nL Q pc L st0 σ := by
  intro H locs ls hP hD hS h
  have hF := gc_free hA hD hS
  have hp := gc_pre (s := s) hkk hK hA hP hD hS (As := .ref b :: As)
  refine va_callv (va_runSU (As := As) (rest := rest) hat ⟨X.1, X.2.1, X.2.2.1, X.2.2.2.1, X.2.2.2.2.1⟩ (hct H.size) (va_cwSU n X.2.2.2.2.1 (hu_app hcw.2.1 (hu_callG hcw.1)) rfl hR.1 hR.2.1 hcw.2.2 hR.2.2) ⟨hp.1, hrv H hP, hp.2⟩ rfl hn h.1 hst (lv_room hcat) hdg ⟨Nat.zero_le _, Nat.zero_le _⟩) hS (fun q _ h => hF q h) hF (fun u t H1 locs1 ht hvm hw hB hz1 hk1 hS1 => ?_)
  obtain rfl := hw
  obtain ⟨hP1, hD1⟩ := hB
  rw [ht] at hP1
  exact kk H1 locs1 ls hP1 (hD1.weaken (fun k q _ h => hF q.1 h)) hS1 h
theorem gc_Uv (X : hc p s m args meth c own cc nL ret) (hkk : hkm KK) (hK : KK A s) (hA : ∀ q, s.heap.size ≤ q → A q) (hcw : cwU2 own C owner index x y bytes maxL n none) (hrv : ∀ H, va_P D cl (wf σ) H → ∃ cell : Cell, H[b]? = some cell ∧ cell.vm.isStatics = false ∧ s.vm.findClass C = some cell.cls) (hct : ctV l wf D cl KK y bytes maxL rm (.ref b :: As) σ σ') (hst : st0 = As.reverse ++ .ref b :: rest) (hR : rm.cells = 0 ∧ rm.slots = 0 ∧ rm.frames + 1 ≤ R.frames ∧ 8 + (maxL + 11) + rm.locals ≤ R.locals) (hn : As.length = n) (hcat : (rest.map fun v => v.category).sum ≤ 8) (hdg : decode cc pc = .ok (.invokevirtual index, 3)) (kk : gg p l e R s m args below meth c wf D cl A nL Q (pc + 3) L (rest) σ') : gg p l e R s m args below meth c wf D cl A nL Q pc L st0 σ := by
  intro H locs ls hP hD hS h
  have hF := gc_free hA hD hS
  have hp := gc_pre (s := s) hkk hK hA hP hD hS (As := .ref b :: As)
  obtain ⟨b0, m0, r0, h0⟩ := hcw.2.2.1
  refine va_callv (va_runU (As := As) (rest := rest) ⟨X.1, X.2.1, X.2.2.1, X.2.2.2.1, X.2.2.2.2.1⟩ (hct H.size) (va_cwO n X.2.2.2.2.1 (hu_app hcw.2.1 (hu_callG hcw.1)) rfl hR.1 hR.2.1 h0 hcw.2.2.2 hR.2.2) ⟨hp.1, hrv H hP, hp.2⟩ rfl hn h.1 hst (lv_room hcat) hdg ⟨Nat.zero_le _, Nat.zero_le _⟩) hS (fun q _ h => hF q h) hF (fun u t H1 locs1 ht hvm hw hB hz1 hk1 hS1 => ?_)
  obtain rfl := hw
  obtain ⟨hP1, hD1⟩ := hB
  rw [ht] at hP1
  exact kk H1 locs1 ls hP1 (hD1.weaken (fun k q _ h => hF q.1 h)) hS1 h
end GK2
