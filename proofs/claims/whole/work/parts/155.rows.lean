/-! A ROW OF THIS PLACE: super.m(..), m standing in the class above the class above. The machine's own step is the library's Stand.specialUpBack; here stand what this place looks up for it, and the row over gg -/
/-- what is looked up: x is the name that the class file bears, y the method that is found -/
def cwQ (own : String) (index : Nat) (x y : MethodName) (bytes : ByteArray) (maxL n : Nat) (ret : Option FieldType) : Prop := Cond.code y bytes maxL ret ∈ hu_G ∧ Cond.methodLink own index x ∈ hu_G ∧ Cond.sameMethod x.cls y.cls x.name x.desc ∈ hu_G ∧ Cond.superclass own x.cls ∈ hu_G ∧ Cond.superclass x.cls y.cls ∈ hu_G ∧ Cond.instanceMethod y ∈ hu_G ∧ Cond.initialized y.cls ∈ hu_G ∧ y.name = x.name ∧ y.desc = x.desc ∧ x.name ≠ "<init>" ∧ (parseMethodDescriptor y.desc).map (fun d => d.parameters.length) = some n
/-- a class lies under the one that it extends -/
theorem hs_under {s : State} {args : Array Value} {A B : String} {a b : ClassId} (fa : s.vm.findClass A = some a) (fb : s.vm.findClass B = some b) (h : (Cond.superclass A B).before args s = true) : s.vm.isSubclass a b = true := by
  obtain ⟨b2, k, -, fb2, hk, -, hs, -⟩ := Cond.superclass_spec fa h
  obtain rfl : b2 = b := Option.some.inj (fb2.symm.trans fb)
  have h0 := (Array.getElem?_eq_some_iff.mp hk).1
  cases hz : s.vm.classes.size with
  | zero => omega
  | succ n => simp [Vm.isSubclass, Vm.isSubclassAux, hz, hk, hs]
section GQ
variable {p : Program} {l : Launch} {e : Env} {R : Room} {s : State} {m : MethodId} {args : Array Value} {below : List Frame} {meth : Method} {c : Code}
variable {T : Type} {wf : T → va_W} {D : va_G} {cl : List vw_C} {A : Nat → Prop} {nL : Nat} {Q : State → Prop}
variable {own : String} {cc : ByteArray} {ret : Option FieldType} {pc : Nat} {L : List (Nat × Value)} {st : List Value} {σ : T}
variable {KK : (Nat → Prop) → State → Prop} {x y : MethodName} {bytes : ByteArray} {maxL n index : Nat} {rt : FieldType} {rm : Room} {As rest st0 : List Value} {σ' : T} {r : Int32} {b : Nat} {C : String}
/-- the call, from what hc and cwQ say of it -/
theorem hs_go {ret' : Option FieldType} {Pc : Array Value → State → Prop} {Qc : Array Value → State → Outcome → State → Prop} {free : Nat → Prop} {cC : ClassId} {H : Heap} {locs : List Loc} {ls : Array Slot} (X : hc p s m args meth c own cc nL ret) (hcw : cwQ own index x y bytes maxL n ret') (hM : Met l y (.code y bytes maxL ret' :: hu_G) rm Pc Qc 0 0 free) (hR : rm.cells = 0 ∧ rm.slots = 0 ∧ rm.frames + 1 ≤ R.frames ∧ 8 + (maxL + 11) + rm.locals ≤ R.locals) (hat : ClassAt s C cC) (hp : PreV s H C b Pc As) (hls : ls.size = nL) (hn : As.length = n) (hcat : (rest.map fun v => v.category).sum ≤ 8) (hdg : decode cc pc = .ok (.invokespecial index, 3)) : va_Run p l e R s m args below meth c H locs 0 0 0 0 (F0 m pc ls (As.reverse ++ .ref b :: rest)) rest (Qc (Value.ref b :: As).toArray) free := by
  obtain ⟨ex, ec, el, eo, ew, -⟩ := X
  obtain ⟨k1, k2, k3, k4, k5, k6, k7, n1, n2, n3, n4⟩ := hcw
  have look : ∀ w ∈ hu_G, w.before args s = true := ew
  have ey : (⟨y.cls, x.name, x.desc⟩ : MethodName) = y := by rw [← n1, ← n2]
  obtain ⟨mid, it, f1, f2, f3, f4⟩ := Cond.instanceMethod_spec (look _ k6)
  obtain ⟨it2, -, f5, -, -, -, -, -, -, sg⟩ := Cond.code_spec f1 (look _ k1)
  obtain rfl : it = it2 := Option.some.inj (f2.symm.trans f5)
  obtain ⟨up, me, -, u1, u2, -, u3, -, -, u4⟩ := Cond.superclass_spec eo (look _ k4)
  have par : As.length = it.sig.parameters.length := by
    rw [sg] at n4
    exact hn.trans (Option.some.inj n4).symm
  obtain ⟨blind, ⟨cell, r1, r2, r3⟩, pre⟩ := hp
  obtain ⟨kC, r4, -⟩ := hat.2
  have r5 : s.vm.classes[cell.cls]? = some kC := (Option.some.inj (hat.1.symm.trans r3)) ▸ r4
  have bk : Back l R p e below s args ⟨y.cls, x.name, x.desc⟩ 3 8 (PreOf R 0 0 Pc) (PostOf Qc 0 0 free) := by
    rw [ey]
    exact back_of hM blind hR.1 hR.2.1 hR.2.2.1 hR.2.2.2 (pay_in look (hu_callG k1)) List.mem_cons_self (fun _ _ w => word_at w (Or.inl rfl) (look _ k7))
  intro T hT Z
  obtain ⟨v, vm1, B, -, Z1, ⟨g1, mk1, t1, L1, a1, a2, a3, a4, a5, a6, a7⟩, go⟩ := Z.specialUpBack ex eo (look _ k2) (look _ k3) (ey ▸ f1) f2 f3 f4 n3 u2 u4 u1 u3 (hs_under u1 (findClass_of_methodNamed f1) (look _ k5)) (hT ▸ r1) (fun q h => by rw [h] at r2; cases r2) r5 bk (g := F0 m pc ls (As.reverse ++ .ref b :: rest)) rfl (hls.trans el.symm) (Steps.refl _) par rfl (lv_room hcat) (ec ▸ hdg) (fun vm2 hw => ⟨Nat.zero_le _, Nat.zero_le _, pre _ hT hw⟩)
  rw [a4, a6, a7] at Z1
  refine ⟨v, (T.setVm vm1).calling g1 mk1 _, t1, B.U, L1, ?_, Z1, a5, a1, a2, a3, fun _ h => go.trans h⟩
  exact hT
theorem gc_Qi (X : hc p s m args meth c own cc nL ret) (hkk : hkm KK) (hK : KK A s) (hA : ∀ q, s.heap.size ≤ q → A q) (hcw : cwQ own index x y bytes maxL n (some rt)) {cC : ClassId} (hat : ClassAt s C cC) (hrv : ∀ H, va_P D cl (wf σ) H → ∃ cell : Cell, H[b]? = some cell ∧ cell.vm.isStatics = false ∧ s.vm.findClass C = some cell.cls) (hct : ctI l wf D cl KK y bytes maxL rt rm (.ref b :: As) σ r σ') (hst : st0 = As.reverse ++ .ref b :: rest) (hR : rm.cells = 0 ∧ rm.slots = 0 ∧ rm.frames + 1 ≤ R.frames ∧ 8 + (maxL + 11) + rm.locals ≤ R.locals) (hn : As.length = n) (hcat : (rest.map fun v => v.category).sum ≤ 8) (hdg : decode cc pc = .ok (.invokespecial index, 3)) (kk : gg p l e R s m args below meth c wf D cl A nL Q (pc + 3) L (.int r :: rest) σ') : gg p l e R s m args below meth c wf D cl A nL Q pc L st0 σ := by
  intro H locs ls hP hD hS h
  have hF := gc_free hA hD hS
  have hp := gc_pre (s := s) hkk hK hA hP hD hS (As := .ref b :: As)
  subst hst
  refine va_calli (hs_go (As := As) (rest := rest) X hcw (hct H.size) hR hat ⟨hp.1, hrv H hP, hp.2⟩ h.1 hn hcat hdg) hS (fun q _ h => hF q h) hF (fun r2 u t H1 locs1 ht hvm hw hB hz1 hk1 hS1 => ?_)
  obtain ⟨rfl, rfl⟩ := hw
  obtain ⟨hP1, hD1⟩ := hB
  rw [ht] at hP1
  exact kk H1 locs1 ls hP1 (hD1.weaken (fun k q _ h => hF q.1 h)) hS1 h
end GQ
