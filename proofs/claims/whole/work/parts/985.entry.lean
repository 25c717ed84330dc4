/-! THE LAW'S ENTRY: the classes, the nest's links, the constants -/
def gvL : List Cond := flatC (Jvm.Cond.and given_1 narrow_1)
def tmS (i : Nat) : Term := .string RX7 (idxS.getD i 0)
def gvB (i : Nat) : List Cond := [Cond.exactly (tmS i) "java/lang/String", Cond.eq (.field (tmS i) "java/lang/String" "coder" "B") (.int 0), Cond.arrayOf (.field (tmS i) "java/lang/String" "value" "[B") .byte, Cond.eq (.length (.field (tmS i) "java/lang/String" "value" "[B")) (.int (Int32.ofNat (lenS.getD i 0)))] ++ ((List.range (lenS.getD i 0)).map (fun j => Cond.eq (.elem (.field (tmS i) "java/lang/String" "value" "[B") (.int (Int32.ofNat j))) (.int ((bytS.getD i []).getD j 0))) ++ (List.range i).map (fun k => Cond.not (Cond.eq (tmS k) (tmS i))))
theorem gv_all : (gvL.drop 18).take 302 = (List.range 18).flatMap gvB := by decide +kernel
theorem gv_in {i : Nat} {w : Cond} (hi : i < 18) (h : w ∈ gvB i) : w ∈ gvL := List.mem_of_mem_drop (i := 18) (List.mem_of_mem_take (i := 302) (by rw [gv_all]; exact List.mem_flatMap.mpr ⟨i, List.mem_range.mpr hi, h⟩))
theorem gv_ex : ∀ i : Nat, i < 18 → Cond.exactly (tmS i) "java/lang/String" ∈ gvL := fun i hi => gv_in hi (List.mem_append_left _ (List.mem_of_getElem? (i := 0) rfl))
theorem gv_co : ∀ i : Nat, i < 18 → Cond.eq (.field (tmS i) "java/lang/String" "coder" "B") (.int 0) ∈ gvL := fun i hi => gv_in hi (List.mem_append_left _ (List.mem_of_getElem? (i := 1) rfl))
theorem gv_ar : ∀ i : Nat, i < 18 → Cond.arrayOf (.field (tmS i) "java/lang/String" "value" "[B") .byte ∈ gvL := fun i hi => gv_in hi (List.mem_append_left _ (List.mem_of_getElem? (i := 2) rfl))
theorem gv_le : ∀ i : Nat, i < 18 → Cond.eq (.length (.field (tmS i) "java/lang/String" "value" "[B")) (.int (Int32.ofNat (lenS.getD i 0))) ∈ gvL := fun i hi => gv_in hi (List.mem_append_left _ (List.mem_of_getElem? (i := 3) rfl))
theorem gv_el : ∀ i : Nat, i < 18 → ∀ j : Nat, j < lenS.getD i 0 → Cond.eq (.elem (.field (tmS i) "java/lang/String" "value" "[B") (.int (Int32.ofNat j))) (.int ((bytS.getD i []).getD j 0)) ∈ gvL := fun i hi j hj => gv_in hi (List.mem_append_right _ (List.mem_append_left _ (List.mem_map.mpr ⟨j, List.mem_range.mpr hj, rfl⟩)))
theorem gv_nl {i j : Nat} (hj : j < 18) (hij : i < j) : Cond.not (Cond.eq (tmS i) (tmS j)) ∈ gvL := gv_in hj (List.mem_append_right _ (List.mem_append_right _ (List.mem_map.mpr ⟨i, List.mem_range.mpr hij, rfl⟩)))
theorem gv_ne : ∀ i : Nat, i < 18 → ∀ j : Nat, j < 18 → i ≠ j → Cond.not (Cond.eq (tmS i) (tmS j)) ∈ gvL ∨ Cond.not (Cond.eq (tmS j) (tmS i)) ∈ gvL := fun i hi j hj hij => by
  by_cases h : i < j
  · exact Or.inl (gv_nl hj h)
  · exact Or.inr (gv_nl hi (by omega))
theorem gv_sr : ∀ i : Nat, i < 18 → tables_1[543 + i]? = some (Cond.stringRef RX7 (idxS.getD i 0) (txtS.getD i "")) := by decide +kernel
theorem gv_ln : ∀ i : Nat, i < 18 → lenS.getD i 0 < 2 ^ 31 := by decide +kernel
theorem tb_in {w : Cond} (i : Nat) (h : tables_1[i]? = some w) : w ∈ lw_tbl := List.mem_append_right _ (List.mem_of_getElem? h)
theorem hu_tb {w : Cond} (h : w ∈ hu_G) : w ∈ lw_tbl := (List.mem_filter.mp h).1
theorem law_entry {p : Program} {s : State} {m : MethodId} {meth : Method} {c : Code} {b L : Nat} {xs : Nat → Int32} (h : lw_At p s m meth c b L xs) : ∃ (D : va_G) (cs : Nat → ClassId) (sK sV : Nat → Nat) (tA : Nat), kC D cs sK sV tA (fun q => s.heap.size ≤ q) s ∧ va_AO "HeartHours$Guild" s ∧ (Cond.arrayOver (.array .int)).before #[] s = true := by
  obtain ⟨-, -, -, -, -, hts, -, -, -, hgv⟩ := h
  have hs : ∀ w ∈ gvL, w.before #[Value.ref b] s = true := flat_of_before _ hgv
  have hA : ∀ a : Nat, a < s.heap.size → ¬ (fun q : Nat => s.heap.size ≤ q) a := fun a h1 h2 => by
    have : s.heap.size ≤ a := h2
    omega
  obtain ⟨c0, i0, k0⟩ := u_known (C := RX0) (T := TX0) (N := 0) hts (fun w hw => hu_tb (inC0 w hw)) (hts (Cond.instantiable RX0 0) (tb_in 45 (by decide +kernel)))
  obtain ⟨c1, i1, k1⟩ := u_known (C := RX1) (T := TX1) (N := 0) hts (fun w hw => hu_tb (inC1 w hw)) (hts (Cond.instantiable RX1 0) (tb_in 66 (by decide +kernel)))
  obtain ⟨c2, i2, k2⟩ := u_known (C := RX2) (T := TX2) (N := 0) hts (fun w hw => hu_tb (inC2 w hw)) (hts (Cond.instantiable RX2 0) (tb_in 73 (by decide +kernel)))
  obtain ⟨c3, i3, k3⟩ := u_known (C := RX3) (T := TX3) (N := 0) hts (fun w hw => hu_tb (inC3 w hw)) (hts (Cond.instantiable RX3 0) (tb_in 59 (by decide +kernel)))
  obtain ⟨c4, i4, k4⟩ := u_known (C := RX4) (T := TX4) (N := 0) hts (fun w hw => hu_tb (inC4 w hw)) (hts (Cond.instantiable RX4 0) (tb_in 38 (by decide +kernel)))
  obtain ⟨c5, i5, k5⟩ := u_known (C := RX5) (T := TX5) (N := 0) hts (fun w hw => hu_tb (inC5 w hw)) (hts (Cond.instantiable RX5 0) (tb_in 52 (by decide +kernel)))
  obtain ⟨c6, i6, k6⟩ := u_known (C := RX6) (T := TX6) (N := 3) hts (fun w hw => hu_tb (inC6 w hw)) (hts (Cond.instantiable RX6 3) (tb_in 195 (by decide +kernel)))
  obtain ⟨c7, i7, k7⟩ := u_known (C := RX7) (T := TX7) (N := 9) hts (fun w hw => hu_tb (inC7 w hw)) (hts (Cond.instantiable RX7 9) (tb_in 215 (by decide +kernel)))
  obtain ⟨c8, i8, k8⟩ := u_known (C := RX8) (T := TX8) (N := 7) hts (fun w hw => hu_tb (inC8 w hw)) (hts (Cond.instantiable RX8 7) (tb_in 80 (by decide +kernel)))
  obtain ⟨c9, i9, k9⟩ := u_known (C := RX9) (T := TX9) (N := 20) hts (fun w hw => hu_tb (inC9 w hw)) (hts (Cond.instantiable RX9 20) (tb_in 31 (by decide +kernel)))
  obtain ⟨c10, i10, k10⟩ := u_known (C := RX10) (T := TX10) (N := 5) hts (fun w hw => hu_tb (inC10 w hw)) (hts (Cond.instantiable RX10 5) (tb_in 253 (by decide +kernel)))
  obtain ⟨c11, i11, k11⟩ := u_known (C := RX11) (T := TX11) (N := 16) hts (fun w hw => hu_tb (inC11 w hw)) (hts (Cond.instantiable RX11 16) (tb_in 23 (by decide +kernel)))
  obtain ⟨c12, i12, k12⟩ := u_known (C := RX12) (T := TX12) (N := 40) hts (fun w hw => hu_tb (inM w hw)) (hts (Cond.instantiable RX12 40) (tb_in 1149 (by decide +kernel)))
  obtain ⟨cI, kI, pI, aI1, aI2, aI3⟩ := Cond.arrayClass_spec (hts (Cond.arrayClass .int) (tb_in 108 (by decide +kernel)))
  obtain ⟨cB, kB, pB, aB1, aB2, aB3⟩ := Cond.arrayClass_spec (hts (Cond.arrayClass .byte) (tb_in 334 (by decide +kernel)))
  obtain ⟨cJ, kJ, pJ, aJ1, aJ2, aJ3⟩ := Cond.arrayClass_spec (hts (Cond.arrayClass .long) (tb_in 335 (by decide +kernel)))
  have hAO := hts (Cond.arrayOver (.object "HeartHours$Guild")) (tb_in 37 (by decide +kernel))
  have hAA := hts (Cond.arrayOver (.array .int)) (tb_in 201 (by decide +kernel))
  obtain ⟨pQ, cQ, kQ, aQ1, -, aQ2, aQ3, aQ4⟩ := Cond.arrayOver_spec hAO
  obtain ⟨pA, cA, kA, aA1, -, aA2, aA3, aA4⟩ := arrayOverA_spec hAA
  obtain ⟨sK, sV, hSS, hSe⟩ := vk_Sof (N := 18) (tm := tmS) (len := lenS) (byt := bytS) (A := fun q : Nat => s.heap.size ≤ q) gv_ln (fun i hi => hs _ (gv_ex i hi)) (fun i hi => hs _ (gv_co i hi)) (fun i hi => hs _ (gv_ar i hi)) (fun i hi => hs _ (gv_le i hi)) (fun i hi j hj => hs _ (gv_el i hi j hj)) (fun i j hi hj hij => (gv_ne i hi j hj hij).elim (fun h => Or.inl (hs _ h)) (fun h => Or.inr (hs _ h))) hA
  obtain ⟨tA, hte, htT⟩ := va_Tof (tm := .static "HeartHours$Rules" "ABOVE" "[I") (ty := .int) (N := 6) (f := fun j => .int (hAb j)) (A := fun q : Nat => s.heap.size ≤ q) (by decide) (hs _ (by decide +kernel)) (va_eqt (hs _ (by decide +kernel))) (h6 (va_eqt (hs _ (by decide +kernel))) (va_eqt (hs _ (by decide +kernel))) (va_eqt (hs _ (by decide +kernel))) (va_eqt (hs _ (by decide +kernel))) (va_eqt (hs _ (by decide +kernel))) (va_eqt (hs _ (by decide +kernel)))) hA
  have hZA := va_Zref (A := fun q : Nat => s.heap.size ≤ q) (hts (Cond.laysStatic "HeartHours$Rules" "ABOVE" "[I") (tb_in 452 (by decide +kernel))) (hts (Cond.initialized "HeartHours$Rules") (tb_in 9 (by decide +kernel))) hte hA
  have hZC := va_Zof (v := .int 1) (A := fun q : Nat => s.heap.size ≤ q) (hts (Cond.laysStatic "java/lang/String" "COMPACT_STRINGS" "Z") (tb_in 573 (by decide +kernel))) (hts (Cond.initialized "java/lang/String") (tb_in 16 (by decide +kernel))) (va_eqt (hs _ (by decide +kernel))) hA
  have hZq := va_Zqof (A := fun q : Nat => s.heap.size ≤ q) (hts (Cond.laysStatic "jdk/internal/util/Preconditions" "SIOOBE_FORMATTER" "Ljava/util/function/BiFunction;") (tb_in 589 (by decide +kernel))) (hts (Cond.initialized "jdk/internal/util/Preconditions") (tb_in 18 (by decide +kernel))) (hs _ (by decide +kernel)) hA
  refine ⟨(fun k => [c0, c1, c2, c3, c4, c5, c6, c7, c8, c9, c10, c11, c12].getD k c0, fun k => [i0, i1, i2, i3, i4, i5, i6, i7, i8, i9, i10, i11, i12].getD k i0), fun k => [cI, cB, cJ, cQ, cA].getD k cI, sK, sV, tA, ⟨⟨fun k q hq => ?_, fun k q hq => ?_⟩, fun w hw => ?_, hZA, htT, hSS, fun i hi => ?_, hZC, hZq⟩, va_AO.of hAO, over_moved (Vm.Alike.refl s.vm) hAA⟩
  · have hk : k < 13 := (List.getElem?_eq_some_iff.mp hq).1
    match k, hk, hq with
    | 0, _, hq => exact (Option.some.inj hq) ▸ k0
    | 1, _, hq => exact (Option.some.inj hq) ▸ k1
    | 2, _, hq => exact (Option.some.inj hq) ▸ k2
    | 3, _, hq => exact (Option.some.inj hq) ▸ k3
    | 4, _, hq => exact (Option.some.inj hq) ▸ k4
    | 5, _, hq => exact (Option.some.inj hq) ▸ k5
    | 6, _, hq => exact (Option.some.inj hq) ▸ k6
    | 7, _, hq => exact (Option.some.inj hq) ▸ k7
    | 8, _, hq => exact (Option.some.inj hq) ▸ k8
    | 9, _, hq => exact (Option.some.inj hq) ▸ k9
    | 10, _, hq => exact (Option.some.inj hq) ▸ k10
    | 11, _, hq => exact (Option.some.inj hq) ▸ k11
    | 12, _, hq => exact (Option.some.inj hq) ▸ k12
  · have hk : k < 5 := (List.getElem?_eq_some_iff.mp hq).1
    match k, hk, hq with
    | 0, _, hq => exact (Option.some.inj hq) ▸ ⟨fun n z => ⟨fun k h => (by cases h), kI, aI2, pI, aI3⟩, aI1⟩
    | 1, _, hq => exact (Option.some.inj hq) ▸ ⟨fun n z => ⟨fun k h => (by cases h), kB, aB2, pB, aB3⟩, aB1⟩
    | 2, _, hq => exact (Option.some.inj hq) ▸ ⟨fun n z => ⟨fun k h => (by cases h), kJ, aJ2, pJ, aJ3⟩, aJ1⟩
    | 3, _, hq => exact (Option.some.inj hq) ▸ ⟨fun n z => ⟨fun k h => (by cases h), kQ, aQ2, pQ, aQ3⟩, kQ, pQ, aQ2, aQ3, aQ1, aQ4⟩
    | 4, _, hq => exact (Option.some.inj hq) ▸ ⟨fun n z => ⟨fun k h => (by cases h), kA, aA2, pA, aA3⟩, aA4⟩
  · have hm : w ∈ lw_tbl := by
      rw [nwL_0] at hw
      obtain ⟨i, -, hi⟩ := List.mem_filterMap.mp hw
      exact tb_in i hi
    obtain ⟨_, _, _, _, rfl⟩ := nwL_1 w hw
    exact va_Nw.of rfl (hts _ hm)
  · have h1 := hts _ (tb_in _ (gv_sr i hi))
    refine vk_R.of h1 ?_
    exact hSe i hi
