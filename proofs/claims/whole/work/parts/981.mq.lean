/-! A ROW OF THIS PLACE: multianewarray, five rows of four ints. One invariant mq_J carries what stands, the frame on top and the heap together; mq_turn is one turn of the loop as a fact of states, mq_step the same as a step of the machine; the five turns are taken one by one. -/
/-- the outer row when i of the five hang in it; an inner row -/
def mq_o (cO : ClassId) (h i : Nat) : Cell := arrV cO 5 (fun j => va_rf (if j < i then some (h + 1 + j) else none))
def mq_i (cI : ClassId) : Cell := arrV cI 4 (fun _ => .int 0)
theorem mq_o0 (cO : ClassId) (h : Nat) : ({ cls := cO, slots := Array.replicate 5 .null, vm := .none } : Cell) = mq_o cO h 0 := by
  rw [arrV_new]
  exact congrArg (arrV cO 5) (funext fun j => by rw [if_neg (Nat.not_lt_zero j)]; rfl)
theorem mq_oS (cO : ClassId) (h i : Nat) : (mq_o cO h i).setSlot i (.ref (h + 1 + i)) = mq_o cO h (i + 1) := by
  refine (arrV_store cO 5 i _ _).trans (congrArg (arrV cO 5) (funext fun j => ?_))
  rcases Nat.lt_trichotomy j i with h1 | h1 | h1
  · rw [updV, if_neg (by omega), if_pos h1, if_pos (by omega)]
  · rw [updV, if_pos h1, if_pos (by omega), h1]; rfl
  · rw [updV, if_neg (by omega), if_neg (by omega), if_neg (by omega)]
/-- one turn, and all five, of states -/
def mq_n (cO cI : ClassId) (h i : Nat) (S : State) : State := (S.pushCell (mq_i cI)).setCell h ((mq_o cO h i).setSlot i (.ref S.heap.size))
def mq_5 (cO cI : ClassId) (h : Nat) (S : State) : State := mq_n cO cI h 4 (mq_n cO cI h 3 (mq_n cO cI h 2 (mq_n cO cI h 1 (mq_n cO cI h 0 (S.pushCell (mq_o cO h 0))))))
theorem mq_at (U : State) (x : Cell) (q : Nat) : (U.pushCell x).heap[q]? = if q = U.heap.size then some x else U.heap[q]? := Array.getElem?_push
section MQ
variable {p : Program} {l : Launch} {e : Env} {R : Room} {s : State} {m : MethodId} {args : Array Value} {below : List Frame} {meth : Method} {c : Code}
def mq_J (p : Program) (l : Launch) (e : Env) (R : Room) (s : State) (m : MethodId) (args : Array Value) (below : List Frame) (meth : Method) (c : Code) (H : Heap) (locs : List Loc) (cells slots : Nat) (vm : Vm) (f : JFrame) (cO cI : ClassId) (i : Nat) (S : State) : Prop :=
  ∃ (U : State) (new : List Loc), S = U.setTop f ∧ U.vm = vm ∧ Stand p l e R s m args below meth c U (locs ++ new) (cells + (1 + i)) (slots + (5 + 4 * i)) ∧ (∀ q ∈ new, q.base = H.size) ∧ U.heap.size = H.size + (1 + i) ∧ U.heap[H.size]? = some (mq_o cO H.size i) ∧ (∀ j, j < i → U.heap[H.size + 1 + j]? = some (mq_i cI)) ∧ ∀ q : Nat, q < H.size → U.heap[q]? = H[q]?
variable {H : Heap} {locs : List Loc} {cells slots : Nat} {vm : Vm} {f : JFrame} {cO cI : ClassId} {i : Nat} {S : State}
theorem mq_begin {T : State} (hT : T.heap = H) (hv : T.vm = vm) (Z : Stand p l e R s m args below meth c T locs cells slots) : mq_J p l e R s m args below meth c H locs cells slots vm f cO cI 0 ((T.setTop f).pushCell (mq_o cO H.size 0)) := by
  subst hT
  refine ⟨T.pushCell (mq_o cO T.heap.size 0), [], rfl, hv, ?_, fun q h => absurd h List.not_mem_nil, size_pushCell _ _, ?_, fun j h => absurd h (Nat.not_lt_zero j), fun q h => ?_⟩
  · have h := Z.pushed (mq_o cO T.heap.size 0)
    rw [show (mq_o cO T.heap.size 0).slots.size = 5 from arrV_size _ _ _] at h
    rw [List.append_nil]
    exact h
  · rw [mq_at, if_pos rfl]
  · rw [mq_at, if_neg (Nat.ne_of_lt h)]
theorem mq_turn (J : mq_J p l e R s m args below meth c H locs cells slots vm f cO cI i S) : S.heap[H.size]? = some (mq_o cO H.size i) ∧ mq_J p l e R s m args below meth c H locs cells slots vm f cO cI (i + 1) (mq_n cO cI H.size i S) := by
  obtain ⟨U, new, rfl, hv, Z, hb, hz, ho, hr, hq⟩ := J
  have there : (U.pushCell (mq_i cI)).heap[H.size]? = some (mq_o cO H.size i) := by
    rw [mq_at, if_neg (by omega)]
    exact ho
  have inside : H.size < (U.pushCell (mq_i cI)).heap.size := (Array.getElem?_eq_some_iff.mp there).1
  have name : U.heap.size = H.size + 1 + i := by omega
  refine ⟨ho, (U.pushCell (mq_i cI)).setCell H.size ((mq_o cO H.size i).setSlot i (.ref U.heap.size)), new ++ [⟨H.size, i⟩], rfl, hv, ?_, fun q h => ?_, ?_, ?_, fun j h => ?_, fun q h => ?_⟩
  · have h := (Z.pushed (mq_i cI)).stored there i (.ref U.heap.size)
    rw [show (mq_i cI).slots.size = 4 from arrV_size _ _ _, List.append_assoc] at h
    rw [show cells + (1 + (i + 1)) = cells + (1 + i) + 1 by omega, show slots + (5 + 4 * (i + 1)) = slots + (5 + 4 * i) + 4 by omega]
    exact h
  · rcases List.mem_append.mp h with h | h
    · exact hb q h
    · rw [List.mem_singleton.mp h]
  · rw [size_setCell, size_pushCell]
    omega
  · rw [heapAt_setCell_self _ inside, name, mq_oS]
  · rw [heapAt_setCell_ne _ (show H.size ≠ H.size + 1 + j by omega), mq_at]
    by_cases last : H.size + 1 + j = U.heap.size
    · rw [if_pos last]
    · rw [if_neg last]
      exact hr j (by omega)
  · rw [heapAt_setCell_ne _ (show H.size ≠ q by omega), mq_at, if_neg (by omega)]
    exact hq q h
theorem mq_all {T : State} (hT : T.heap = H) (hv : T.vm = vm) (Z : Stand p l e R s m args below meth c T locs cells slots) : mq_J p l e R s m args below meth c H locs cells slots vm f cO cI 5 (mq_5 cO cI H.size (T.setTop f)) :=
  (mq_turn (mq_turn (mq_turn (mq_turn (mq_turn (mq_begin hT hv Z)).2).2).2).2).2
variable {E : CtlPost} {d : Bool} {acts : List Action} {kO kI : Class} {ci : ClassId}
/-- a turn as the machine does it: the inner row is made, then hung in -/
theorem mq_step (J : mq_J p l e R s m args below meth c H locs cells slots vm f cO cI i S) (hi : i < 5) (hO : vm.classes[cO]? = some kO) (hkO : kO.kind = .array cI (.array .int)) (hI : vm.classes[cI]? = some kI) (hkI : kI.kind = .array ci .int) (hcells : cells + 6 ≤ R.cells) (hslots : slots + 25 ≤ R.slots) {Q : ForInStep PUnit → Pre}
    (k : ∀ d' acts', Q (.yield PUnit.unit) d' acts' (mq_n cO cI H.size i S)) : wp (do let a ← multianewarray.make cI [4]; Jvm.writeLoc H.size i (.ref a); Pure.pure (ForInStep.yield PUnit.unit)) Q E e d acts S := by
  have at0 := (mq_turn J).1
  obtain ⟨U, new, rfl, rfl, Z, -, hz, -, -, -⟩ := J
  obtain ⟨room1, room2⟩ := Z.roomAbove (a := 1) (b := 4) (by omega) (by omega)
  have big : 16 ≤ e.platform.arrayLengthLimit ∧ 16 ≤ e.platform.maxHeapBytes := by
    rw [Launch.admits_arrayLengthLimit Z.admits, Launch.admits_maxHeapBytes Z.admits]
    decide
  rw [wp_bind', multianewarray.make]
  simp only [wp_bind', W.ite, show ¬ (4 : Int32) < 0 by decide, if_false, wp_pure', W.theClass, State.vm_setTop, hI, hkI, Option.some.injEq, exists_eq_left']
  refine W.newArray_of (s := U.setTop f) (k := kI) (comp := ci) (type := .int) hI hkI ?_ ?_ room1 room2 rfl (fun acts' => ?_)
  · show ¬ 4 > _
    omega
  · show ¬ 4 * 4 > _
    omega
  · rw [show Int32.toNatClampNeg 4 = 4 by decide, show ({ cls := cI, slots := Array.replicate 4 (defaultValue .int) } : Cell) = mq_i cI from arrV_new cI 4 _]
    rw [wp_bind']
    refine (W.writeLoc ..).mpr ⟨mq_o cO H.size i, ?_, by show VmData.none ≠ _; simp, by rw [show (mq_o cO H.size i).slots.size = 5 from arrV_size _ _ _]; exact hi, ?_, by rw [wp_pure']; exact k _ _⟩
    · exact (mq_at (U.setTop f) (mq_i cI) H.size).trans ((if_neg (show H.size ≠ U.heap.size by omega)).trans at0)
    · show State.fitsSlot _ cO .none i _ = true
      simp [State.fitsSlot, State.slotType?, hO, hkO]
      rfl
/-- the whole of it: the outer row, then the five turns -/
theorem mq_make {T : State} (hT : T.heap = H) (hv : T.vm = vm) (Z : Stand p l e R s m args below meth c T locs cells slots) (hO : vm.classes[cO]? = some kO) (hkO : kO.kind = .array cI (.array .int)) (hI : vm.classes[cI]? = some kI) (hkI : kI.kind = .array ci .int) (hcells : cells + 6 ≤ R.cells) (hslots : slots + 25 ≤ R.slots) {Q : Addr → Pre}
    (k : ∀ d' acts', Q H.size d' acts' (mq_5 cO cI H.size (T.setTop f))) : wp (multianewarray.make cO [5, 4]) Q E e d acts (T.setTop f) := by
  have J0 : mq_J p l e R s m args below meth c H locs cells slots vm f cO cI 0 _ := mq_begin hT hv Z
  obtain ⟨room1, room2⟩ := Z.roomAbove (a := 1) (b := 5) (by omega) (by omega)
  have big : 20 ≤ e.platform.arrayLengthLimit ∧ 20 ≤ e.platform.maxHeapBytes := by
    rw [Launch.admits_arrayLengthLimit Z.admits, Launch.admits_maxHeapBytes Z.admits]
    decide
  subst hv
  subst hT
  rw [multianewarray.make]
  simp only [wp_bind', W.ite, show ¬ (5 : Int32) < 0 by decide, if_false, wp_pure', W.theClass, State.vm_setTop, hO, hkO, Option.some.injEq, exists_eq_left']
  refine W.newArray_of (s := T.setTop f) (k := kO) (comp := cI) (type := .array .int) hO hkO ?_ ?_ room1 room2 rfl (fun acts' => ?_)
  · show ¬ 5 > _
    omega
  · show ¬ 5 * 4 > _
    omega
  · rw [if_neg (by decide), show Int32.toNatClampNeg 5 = 5 by decide, mq_o0 cO T.heap.size]
    rw [wp_bind', Std.Legacy.Range.forIn_eq_forIn_range', show List.range' ([:5] : Std.Legacy.Range).start ([:5] : Std.Legacy.Range).size ([:5] : Std.Legacy.Range).step = [0, 1, 2, 3, 4] by decide]
    simp only [List.forIn_cons, List.forIn_nil]
    rw [wp_bind']
    refine mq_step J0 (by omega) hO hkO hI hkI hcells hslots (fun d1 x1 => ?_)
    dsimp only
    have J1 := (mq_turn J0).2
    rw [wp_bind']
    refine mq_step J1 (by omega) hO hkO hI hkI hcells hslots (fun d2 x2 => ?_)
    dsimp only
    have J2 := (mq_turn J1).2
    rw [wp_bind']
    refine mq_step J2 (by omega) hO hkO hI hkI hcells hslots (fun d3 x3 => ?_)
    dsimp only
    have J3 := (mq_turn J2).2
    rw [wp_bind']
    refine mq_step J3 (by omega) hO hkO hI hkI hcells hslots (fun d4 x4 => ?_)
    dsimp only
    have J4 := (mq_turn J3).2
    rw [wp_bind']
    refine mq_step J4 (by omega) hO hkO hI hkI hcells hslots (fun d5 x5 => ?_)
    dsimp only
    rw [wp_pure', wp_pure']
    exact k d5 x5
variable {Q : State → Prop} {cc : ByteArray} {pc : Nat} {ls : Array Slot} {rest : List Value}
theorem mq_row (hexec : p.tables.exec = Jvm.exec) (hb : c.code = cc) {own : String} {index : Nat} (hown : s.vm.findClass own = some m.cls) (hclink : (Cond.classLink own index "[[I").before args s = true) (hover : (Cond.arrayOver (.array .int)).before args s = true) (harr : (Cond.arrayClass .int).before args s = true) (hcells : cells + 6 ≤ R.cells) (hslots : slots + 25 ≤ R.slots) (hdg : decode cc pc = .ok (.multianewarray index 2, 4))
    (kk : ∀ (H1 : Heap) (cO cI : ClassId) (kO kI : Class) (ci : ClassId) (locs1 : List Loc), s.vm.findClass "[[I" = some cO → s.vm.findClass "[I" = some cI → s.vm.classes[cO]? = some kO → kO.kind = .array cI (.array .int) → s.vm.classes[cI]? = some kI → kI.kind = .array ci .int → H1.size = H.size + 6 → H1[H.size]? = some (mq_o cO H.size 5) → (∀ j, j < 5 → H1[H.size + 1 + j]? = some (mq_i cI)) → (∀ q : Nat, q < H.size → H1[q]? = H[q]?) → (∀ q ∈ locs1, q ∈ locs ∨ q.base = H.size) → W p l e R s m args below meth c H1 locs1 (cells + 6) (slots + 25) Q (F0 m (pc + 4) ls (.ref H.size :: rest))) : W p l e R s m args below meth c H locs cells slots Q (F0 m pc ls (.int 4 :: .int 5 :: rest)) := by
  intro T hT Z
  subst hb
  have plat : e.platform.magicAccessors = ({} : Platform).magicAccessors := by rw [Z.admits.platform]
  obtain ⟨cI, cO, kO, fI, -, hO, hkO, fO⟩ := arrayOverA_spec hover
  obtain ⟨cJ, kI, ci, fJ, hI, hkI⟩ := Cond.arrayClass_spec harr
  obtain rfl : cJ = cI := Option.some.inj (fJ.symm.trans fI)
  obtain ⟨cL, fL, link⟩ := Cond.classLink_spec hown hclink e.platform plat
  obtain rfl : cO = cL := Option.some.inj (fO.symm.trans fL)
  obtain ⟨gives, warm, -⟩ := State.classEntry (e := e) Z.warmed link
  generalize T.vm.noted m.cls index (.cls cO) = vm1 at gives warm
  obtain ⟨kO1, hO1, eO⟩ := warm.alike.2.2 _ _ hO
  obtain ⟨kI1, hI1, eI⟩ := warm.alike.2.2 _ _ hI
  have Z1 : Stand p l e R s m args below meth c (T.setVm vm1) locs cells slots := Z.noted warm
  obtain ⟨U, new, eU, -, ZU, b1, b2, b3, b4, b5⟩ := mq_all (T := T.setVm vm1) (vm := vm1) (cO := cO) (cI := cJ) (f := F0 m pc ls rest) hT rfl Z1
  obtain ⟨t, go, ht⟩ := kk U.heap cO cJ kO kI ci (locs ++ new) fO fI hO hkO hI hkI b2 b3 b4 b5 (fun q hq => (List.mem_append.mp hq).elim Or.inl (fun h => Or.inr (b1 q h))) U rfl ZU
  refine ⟨t, ?_, ht⟩
  jvm_step Z.here [hexec, hdg]
  have top : ∀ (V : State) (u : JFrame), V.topJava?.isSome → (V.setTop u).topJava? = some u := fun V u h => State.topJava?_setTop' u h
  rw [multianewarray.sem, wp_bind', W.resolveClassAt_links (State.method?_setTop _ Z.here.top) gives, wp_bind', W.popN, if_neg (by decide)]
  refine ⟨F0 m pc ls (.int 4 :: .int 5 :: rest), top (T.setVm vm1) _ Z.here.top, [.int 5, .int 4], rest, rfl, rfl, ?_⟩
  simp only [List.mapM_cons, List.mapM_nil, wp_bind', wp_pure']
  show wp (multianewarray.make cO [5, 4]) _ _ e _ _ (((T.setVm vm1).setTop _).setTop (F0 m pc ls rest))
  rw [State.setTop_setTop]
  refine mq_make (T := T.setVm vm1) hT rfl Z1 hO1 (by rw [eO]; exact hkO) hI1 (by rw [eI]; exact hkI) hcells hslots (fun d1 x1 => ?_)
  rw [eU, wp_bind', W.mark]
  refine (W.pushRef ..).mpr ⟨F0 m pc ls rest, top U _ ZU.here.top, fun x2 => ?_⟩
  rw [State.setTop_setTop]
  simpa [jvm, ZU.here.top] using go
end MQ
