/-! A ROW OF THIS PLACE: multianewarray, five rows of four ints -/
def mq_o (cO : ClassId) (h i : Nat) : Cell := arrV cO 5 (fun j => va_rf (if j < i then some (h + 1 + j) else none))
def mq_i (cI : ClassId) : Cell := arrV cI 4 (fun _ => .int 0)
/-- the state with i of the rows made -/
def mq_T (T : State) (cO cI : ClassId) : Nat → State
  | 0 => T.pushCell (mq_o cO T.heap.size 0)
  | i + 1 => ((mq_T T cO cI i).pushCell (mq_i cI)).setCell T.heap.size (mq_o cO T.heap.size (i + 1))
theorem mq_put (cO : ClassId) (h i : Nat) : (mq_o cO h i).setSlot i (.ref (h + 1 + i)) = mq_o cO h (i + 1) := by
  unfold mq_o
  rw [arrV_store]
  congr 1
  funext j
  by_cases e : j = i
  · subst e
    simp [updV, va_rf]
  · by_cases c : j < i
    · simp [updV, e, c, show j < i + 1 by omega]
    · simp [updV, e, c, show ¬ j < i + 1 by omega]
theorem mq_f (T : State) (cO cI : ClassId) : ∀ i, (mq_T T cO cI i).heap.size = T.heap.size + 1 + i ∧ (mq_T T cO cI i).heap[T.heap.size]? = some (mq_o cO T.heap.size i) ∧ (mq_T T cO cI i).vm = T.vm ∧ (mq_T T cO cI i).slotsUsed = T.slotsUsed + 5 + 4 * i ∧ (∀ q : Nat, q < T.heap.size → (mq_T T cO cI i).heap[q]? = T.heap[q]?) ∧ ∀ j, j < i → (mq_T T cO cI i).heap[T.heap.size + 1 + j]? = some (mq_i cI) := by
  have z5 : ∀ h i, (mq_o cO h i).slots.size = 5 := fun h i => arrV_size _ _ _
  have z4 : (mq_i cI).slots.size = 4 := arrV_size _ _ _
  intro i
  induction i with
  | zero =>
    refine ⟨by simp [mq_T], by simp [mq_T], rfl, by simp [mq_T, z5], fun q hq => State.heap_pushCell_of_lt _ _ hq, fun j hj => absurd hj (Nat.not_lt_zero j)⟩
  | succ i ih =>
    obtain ⟨a1, a2, a3, a4, a5, a6⟩ := ih
    have hlt : T.heap.size < (mq_T T cO cI i).heap.size := by omega
    have hb : ((mq_T T cO cI i).pushCell (mq_i cI)).heap[T.heap.size]? = some (mq_o cO T.heap.size i) := by
      rw [State.heap_pushCell_of_lt (h := hlt)]
      exact a2
    refine ⟨?_, State.heap_setCell_self hb, ?_, ?_, fun q hq => ?_, fun j hj => ?_⟩
    · simp [mq_T, State.setCell, a1]
      omega
    · simp [mq_T, a3]
    · simp [mq_T, a4, z4]
      omega
    · show (((mq_T T cO cI i).pushCell (mq_i cI)).setCell T.heap.size _).heap[q]? = _
      rw [State.heap_setCell_other (Nat.ne_of_gt hq), State.heap_pushCell_of_lt (h := show q < (mq_T T cO cI i).heap.size by omega)]
      exact a5 q hq
    · show (((mq_T T cO cI i).pushCell (mq_i cI)).setCell T.heap.size _).heap[T.heap.size + 1 + j]? = _
      rw [State.heap_setCell_other (show T.heap.size ≠ T.heap.size + 1 + j by omega)]
      by_cases e : j = i
      · subst e
        rw [← a1]
        exact State.heap_pushCell_size _ _
      · rw [State.heap_pushCell_of_lt (h := show T.heap.size + 1 + j < (mq_T T cO cI i).heap.size by omega)]
        exact a6 j (by omega)
theorem mq_top (T : State) (f : JFrame) (cO cI : ClassId) : ∀ i, mq_T (T.setTop f) cO cI i = (mq_T T cO cI i).setTop f := by
  intro i
  induction i with
  | zero => rfl
  | succ i ih => simp only [mq_T, ih, State.heap_setTop, State.pushCell_setTop, State.setCell_setTop]
theorem mq_X {p : Program} {l : Launch} {e : Env} {R : Room} {s : State} {m : MethodId} {args : Array Value} {below : List Frame} {meth : Method} {c : Code} {T : State} {locs : List Loc} {cells slots : Nat} (X : Stand p l e R s m args below meth c T locs cells slots) (cO cI : ClassId) : ∀ i, ∃ ls : List Loc, (∀ q ∈ ls, q.base = T.heap.size) ∧ Stand p l e R s m args below meth c (mq_T T cO cI i) (locs ++ ls) (cells + 1 + i) (slots + 5 + 4 * i) := by
  have z5 : ∀ h i, (mq_o cO h i).slots.size = 5 := fun h i => arrV_size _ _ _
  have z4 : (mq_i cI).slots.size = 4 := arrV_size _ _ _
  intro i
  induction i with
  | zero =>
    have h := X.pushed (mq_o cO T.heap.size 0)
    rw [z5] at h
    exact ⟨[], fun q hq => absurd hq List.not_mem_nil, by simpa [mq_T] using h⟩
  | succ i ih =>
    obtain ⟨ls, h1, h2⟩ := ih
    obtain ⟨a1, a2, a3, a4, a5, a6⟩ := mq_f T cO cI i
    have hb : ((mq_T T cO cI i).pushCell (mq_i cI)).heap[T.heap.size]? = some (mq_o cO T.heap.size i) := by
      rw [State.heap_pushCell_of_lt (h := show T.heap.size < (mq_T T cO cI i).heap.size by omega)]
      exact a2
    have h := (h2.pushed (mq_i cI)).stored hb i (.ref (T.heap.size + 1 + i))
    rw [z4, mq_put, List.append_assoc] at h
    refine ⟨ls ++ [⟨T.heap.size, i⟩], fun q hq => ?_, ?_⟩
    · rcases List.mem_append.mp hq with hq | hq
      · exact h1 q hq
      · rw [List.mem_singleton.mp hq]
    · rw [show slots + 5 + 4 * (i + 1) = slots + 5 + 4 * i + 4 by omega, show cells + 1 + (i + 1) = cells + 1 + i + 1 by omega]
      exact h
section MQW
variable {E : CtlPost} {e : Env} {d : Bool} {acts : List Action} {s : State}
theorem mq_new {c comp : ClassId} {k : Class} {type : FieldType} {len : Nat} {init : Value} (hk : s.vm.classes[c]? = some k) (hkind : k.kind = .array comp type) (h1 : ¬ len > e.platform.arrayLengthLimit) (h2 : ¬ len * componentBytes type > e.platform.maxHeapBytes) (h3 : fits type init = true) (h4 : init.isDefault = true) {Q : Addr → Pre} (h5 : s.heap.size < e.platform.maxCells) (h6 : s.slotsUsed + len ≤ e.platform.maxSlots) (hq : Q s.heap.size d acts (s.pushCell (arrV c len (fun _ => init)))) : wp (Jvm.newArray c len init) Q E e d acts s := by
  have hf : ∀ i v, (Array.replicate len init)[i]? = some v → s.fitsSlot c .none i v = true := by
    intro i v hv
    rw [Array.getElem?_replicate] at hv
    by_cases c1 : i < len
    · rw [if_pos c1] at hv
      cases hv
      simp [State.fitsSlot, State.slotType?, hk, hkind, h3]
    · rw [if_neg c1] at hv
      cases hv
  have ha : allocActs (Array.replicate len init) s.heap.size acts = acts := by
    unfold allocActs
    rw [if_pos]
    rw [Array.all_replicate]
    split <;> simp [h4]
  rw [← arrV_new] at hq
  simp only [Jvm.newArray, Jvm.arrayFits, wp_bind', W.ask, W.ite, h1, if_false, wp_pure', W.theClass, hk, hkind, h2, W.alloc, W.stop, Option.some.injEq, exists_eq_left', Array.size_replicate, ha]
  rw [if_neg (by omega)]
  exact ⟨h5, h6, hf, hq⟩
theorem mq_make {cO cI cc : ClassId} {kO kI : Class} (hO : s.vm.classes[cO]? = some kO) (hkO : kO.kind = .array cI (.array .int)) (hI : s.vm.classes[cI]? = some kI) (hkI : kI.kind = .array cc .int) (hl : 5 ≤ e.platform.arrayLengthLimit) (hh : 100 ≤ e.platform.maxHeapBytes) (hc : s.heap.size + 6 ≤ e.platform.maxCells) (hs : s.slotsUsed + 25 ≤ e.platform.maxSlots) {Q : Addr → Pre} (hq : ∀ d' acts', Q s.heap.size d' acts' (mq_T s cO cI 5)) : wp (multianewarray.make cO [5, 4]) Q E e d acts s := by
  rw [multianewarray.make]
  simp only [wp_bind', W.ite, show ¬ (5 : Int32) < 0 by decide, if_false, wp_pure', W.theClass, hO, hkO, Option.some.injEq, exists_eq_left', show (5 : Int32).toNatClampNeg = 5 from by decide]
  refine mq_new hO hkO (by omega) (by show ¬ 5 * 4 > _; omega) rfl rfl (by omega) (by omega) ?_
  have hfind : ([(4 : Int32)].find? (· < 0)) = none := by decide
  simp only [hfind]
  rw [ite_self, wp_bind', Std.Legacy.Range.forIn_eq_forIn_range']
  have hz : ([:5] : Std.Legacy.Range).size = 5 := by decide
  rw [hz]
  show wp (forIn (List.range' 0 5 1) PUnit.unit _) _ E e d acts _
  refine wp_forIn_inv (fun rest s' => ∃ i, i ≤ 5 ∧ rest = List.range' i (5 - i) ∧ s' = mq_T s cO cI i) _ _ ⟨0, by decide, rfl, ?_⟩ ?_ ?_
  · show s.pushCell (arrV cO 5 (fun _ => .null)) = s.pushCell (mq_o cO s.heap.size 0)
    rfl
  · rintro x rest s' d' acts' Q' ⟨i, hi, hr, rfl⟩ hnext
    have hlt : i < 5 := by
      rcases Nat.lt_or_ge i 5 with h | h
      · exact h
      · rw [show 5 - i = 0 by omega] at hr
        cases hr
    rw [show 5 - i = (5 - (i + 1)) + 1 by omega, List.range'_succ] at hr
    obtain ⟨rfl, hrest⟩ := List.cons.inj hr
    obtain ⟨a1, a2, a3, a4, a5, a6⟩ := mq_f s cO cI x
    have hlt0 : s.heap.size < (mq_T s cO cI x).heap.size := by omega
    simp only [wp_bind']
    rw [multianewarray.make]
    simp only [wp_bind', W.ite, show ¬ (4 : Int32) < 0 by decide, if_false, wp_pure', W.theClass, a3, hI, hkI, Option.some.injEq, exists_eq_left', show (4 : Int32).toNatClampNeg = 4 from by decide]
    refine mq_new (by rw [a3]; exact hI) hkI (by omega) (by show ¬ 4 * 4 > _; omega) rfl rfl (by omega) (by omega) ?_
    simp only [wp_bind', W.writeLoc, wp_pure']
    refine ⟨mq_o cO s.heap.size x, ?_, by show VmData.none ≠ _; simp, by show x < (arrV _ _ _).slots.size; rw [arrV_size]; exact hlt, ?_, hnext _ _ _ ⟨x + 1, hlt, hrest, ?_⟩⟩
    · rw [State.heap_pushCell_of_lt (h := hlt0)]
      exact a2
    · show State.fitsSlot _ cO .none x _ = true
      simp [State.fitsSlot, State.slotType?, a3, hO, hkO]
      rfl
    · rw [a1, mq_put]
      rfl
  · rintro s' d' acts' ⟨i, hi, hr, rfl⟩
    have h5 : i = 5 := by
      rcases Nat.lt_or_ge i 5 with h | h
      · rw [show 5 - i = (5 - (i + 1)) + 1 by omega, List.range'_succ] at hr
        cases hr
      · omega
    subst h5
    simp only [wp_pure']
    exact hq _ _
end MQW
section MQR
variable {p : Program} {l : Launch} {e : Env} {R : Room} {s : State} {m : MethodId} {args : Array Value} {below : List Frame} {meth : Method} {c : Code} {H : Heap} {locs : List Loc} {cells slots : Nat} {Q : State → Prop}
variable {cc : ByteArray} {pc : Nat} {ls : Array Slot} {rest : List Value}
theorem mq_row (hexec : p.tables.exec = Jvm.exec) (hb : c.code = cc) {own : String} {index : Nat} (hown : s.vm.findClass own = some m.cls) (hclink : (Cond.classLink own index "[[I").before args s = true) (hover : (Cond.arrayOver (.array .int)).before args s = true) (harr : (Cond.arrayClass .int).before args s = true) (hcells : cells + 6 ≤ R.cells) (hslots : slots + 25 ≤ R.slots) (hdg : decode cc pc = .ok (.multianewarray index 2, 4))
    (kk : ∀ (H1 : Heap) (cO cI : ClassId) (kO kI : Class) (ci : ClassId) (locs1 : List Loc), s.vm.findClass "[[I" = some cO → s.vm.findClass "[I" = some cI → s.vm.classes[cO]? = some kO → kO.kind = .array cI (.array .int) → s.vm.classes[cI]? = some kI → kI.kind = .array ci .int → H1.size = H.size + 6 → H1[H.size]? = some (mq_o cO H.size 5) → (∀ j, j < 5 → H1[H.size + 1 + j]? = some (mq_i cI)) → (∀ q : Nat, q < H.size → H1[q]? = H[q]?) → (∀ q ∈ locs1, q ∈ locs ∨ q.base = H.size) → W p l e R s m args below meth c H1 locs1 (cells + 6) (slots + 25) Q (F0 m (pc + 4) ls (.ref H.size :: rest))) : W p l e R s m args below meth c H locs cells slots Q (F0 m pc ls (.int 4 :: .int 5 :: rest)) := by
  intro T hT X
  subst hT
  subst hb
  have hpl : e.platform.magicAccessors = ({} : Platform).magicAccessors := by rw [X.admits.platform]
  obtain ⟨cI, cO, kO, hcI, -, hkO, hkindO, hcO⟩ := arrayOverA_spec hover
  obtain ⟨cI', kI, ci, hcI', hkI, hkindI⟩ := Cond.arrayClass_spec harr
  have e1 : cI' = cI := Option.some.inj (hcI'.symm.trans hcI)
  subst e1
  obtain ⟨c0, hc0, hcl⟩ := Cond.classLink_spec hown hclink e.platform hpl
  have e2 : cO = c0 := Option.some.inj (hcO.symm.trans hc0)
  subst e2
  obtain ⟨hg₁, hwarm₁, hready₁⟩ := State.classEntry (e := e) X.warmed hcl
  generalize T.vm.noted m.cls index (.cls cO) = vm₁ at hg₁ hwarm₁ hready₁
  have hal : s.vm.Alike vm₁ := hwarm₁.alike
  obtain ⟨kO₁, hkO₁, heO⟩ := hal.2.2 _ _ hkO
  obtain ⟨kI₁, hkI₁, heI⟩ := hal.2.2 _ _ hkI
  have X₁ := X.noted hwarm₁
  obtain ⟨hr1, hr2⟩ := X.roomAbove hcells hslots
  obtain ⟨ls1, hls, XF⟩ := mq_X X₁ cO cI' 5
  obtain ⟨a1, a2, a3, a4, a5, a6⟩ := mq_f (T.setVm vm₁) cO cI' 5
  obtain ⟨t', b1, b2⟩ := kk (mq_T (T.setVm vm₁) cO cI' 5).heap cO cI' kO kI ci (locs ++ ls1) hcO hcI hkO hkindO hkI hkindI a1 a2 a6 a5 (fun q hq => by
    rcases List.mem_append.mp hq with h | h
    · exact Or.inl h
    · exact Or.inr (hls q h)) _ rfl XF
  refine ⟨t', ?_, b2⟩
  have hl : 5 ≤ e.platform.arrayLengthLimit := by rw [Launch.admits_arrayLengthLimit X.admits]; decide
  have hh : 100 ≤ e.platform.maxHeapBytes := by rw [Launch.admits_maxHeapBytes X.admits]; decide
  jvm_step X.here [hexec, hdg]
  simp only [multianewarray.sem, wp_bind', W.resolveClassAt_links (State.method?_setTop (F0 m pc ls (.int 4 :: .int 5 :: rest)) X.here.top) hg₁]
  rw [W.popN, if_neg (by decide)]
  refine ⟨F0 m pc ls (.int 4 :: .int 5 :: rest), State.topJava?_setTop' (s := T.setVm vm₁) _ X.here.top, [.int 5, .int 4], rest, rfl, rfl, ?_⟩
  simp only [List.mapM_cons, List.mapM_nil, wp_bind', wp_pure']
  refine mq_make (kO := kO₁) (kI := kI₁) (cc := ci) hkO₁ (by rw [heO]; exact hkindO) hkI₁ (by rw [heI]; exact hkindI) hl hh (by show T.heap.size + 6 ≤ _; omega) (by show T.slotsUsed + 25 ≤ _; omega) (fun d' acts' => ?_)
  have eS : ((T.setTop (F0 m pc ls (.int 4 :: .int 5 :: rest))).setVm vm₁).setTop { F0 m pc ls (.int 4 :: .int 5 :: rest) with stack := rest } = (T.setVm vm₁).setTop { F0 m pc ls (.int 4 :: .int 5 :: rest) with stack := rest } := by
    show ((T.setVm vm₁).setTop (F0 m pc ls (.int 4 :: .int 5 :: rest))).setTop _ = _
    rw [State.setTop_setTop]
  rw [eS, mq_top]
  simp only [wp_bind', W.mark, W.pushRef, State.topJava?_setTop' _ XF.here.top, Option.some.injEq, exists_eq_left', State.setTop_setTop, State.heap_setTop]
  intro acts
  simp [jvm, XF.here.top]
  exact b1
end MQR
