abbrev ro_rd_word : Room := { frames := 0, cells := 0, slots := 0, locals := 0 }
def fc_rd_word (x0 : Int32) : Option Nat := (if x0 = 0 then (some 0) else (if x0 = 1 then (some 1) else (if x0 = 2 then (some 2) else (if x0 = 3 then (some 3) else (if x0 = 4 then (some 4) else (if x0 = 5 then (some 5) else (if x0 = 6 then (some 6) else (if x0 = 7 then (some 7) else (if x0 = 8 then (some 8) else (if x0 = 9 then (some 9) else (if x0 = 10 then (some 10) else (if x0 = 11 then (some 11) else (if x0 = 12 then (some 12) else (if x0 = 13 then (some 13) else (if x0 = 14 then (some 14) else (if x0 = 15 then (some 15) else (if x0 = 16 then (some 16) else (some 17))))))))))))))))))
set_option maxHeartbeats 4000000 in
set_option maxRecDepth 100000 in
theorem xc_rd_word {l : Launch} {D : va_G} {cs : Nat → ClassId} {sK sV : Nat → Nat} {tA : Nat} {ad : Nat → Nat} {τ : SC} {x0 : Int32} {r : Nat} (hf : fc_rd_word x0 = some r) : ctA l (wC ad cs) D vwCl (kC D cs sK sV tA) yX7_word cX7_word 1 (.object "java/lang/String") ro_rd_word [.int x0] τ (sK r) τ := by
  refine ct_A RX7 (by decide +kernel) rfl (Nat.le_of_ble_eq_true rfl) ?_
  intro p e s m args below meth c A X hK hA
  refine gr_eqL (L2 := [(0, .int x0)]) rfl ?_
  unfold fc_rd_word at hf
  refine gr_iload_n X dX7_word_0 rfl 0 rfl ?_
  by_cases hs0 : x0 = 0
  · replace hf := ot_t hf hs0
    refine gr_tin X (0) 84 dX7_word_1 (by rw [hs0]; decide) (by decide) (by decide) rfl (by decide) ?_
    refine gC_ldcS X hK 0 (by decide) rfl dX7_word_84 ?_
    exact gr_aret X dX7_word_86 (by rw [Option.some.inj hf]) rfl
  replace hf := ot_f hf hs0
  by_cases hs1 : x0 = 1
  · replace hf := ot_t hf hs1
    refine gr_tin X (1) 87 dX7_word_1 (by rw [hs1]; decide) (by decide) (by decide) rfl (by decide) ?_
    refine gC_ldcS X hK 1 (by decide) rfl dX7_word_87 ?_
    exact gr_aret X dX7_word_89 (by rw [Option.some.inj hf]) rfl
  replace hf := ot_f hf hs1
  by_cases hs2 : x0 = 2
  · replace hf := ot_t hf hs2
    refine gr_tin X (2) 90 dX7_word_1 (by rw [hs2]; decide) (by decide) (by decide) rfl (by decide) ?_
    refine gC_ldcS X hK 2 (by decide) rfl dX7_word_90 ?_
    exact gr_aret X dX7_word_92 (by rw [Option.some.inj hf]) rfl
  replace hf := ot_f hf hs2
  by_cases hs3 : x0 = 3
  · replace hf := ot_t hf hs3
    refine gr_tin X (3) 93 dX7_word_1 (by rw [hs3]; decide) (by decide) (by decide) rfl (by decide) ?_
    refine gC_ldcS X hK 3 (by decide) rfl dX7_word_93 ?_
    exact gr_aret X dX7_word_95 (by rw [Option.some.inj hf]) rfl
  replace hf := ot_f hf hs3
  by_cases hs4 : x0 = 4
  · replace hf := ot_t hf hs4
    refine gr_tin X (4) 96 dX7_word_1 (by rw [hs4]; decide) (by decide) (by decide) rfl (by decide) ?_
    refine gC_ldcS X hK 4 (by decide) rfl dX7_word_96 ?_
    exact gr_aret X dX7_word_98 (by rw [Option.some.inj hf]) rfl
  replace hf := ot_f hf hs4
  by_cases hs5 : x0 = 5
  · replace hf := ot_t hf hs5
    refine gr_tin X (5) 99 dX7_word_1 (by rw [hs5]; decide) (by decide) (by decide) rfl (by decide) ?_
    refine gC_ldcS X hK 5 (by decide) rfl dX7_word_99 ?_
    exact gr_aret X dX7_word_101 (by rw [Option.some.inj hf]) rfl
  replace hf := ot_f hf hs5
  by_cases hs6 : x0 = 6
  · replace hf := ot_t hf hs6
    refine gr_tin X (6) 102 dX7_word_1 (by rw [hs6]; decide) (by decide) (by decide) rfl (by decide) ?_
    refine gC_ldcS X hK 6 (by decide) rfl dX7_word_102 ?_
    exact gr_aret X dX7_word_104 (by rw [Option.some.inj hf]) rfl
  replace hf := ot_f hf hs6
  by_cases hs7 : x0 = 7
  · replace hf := ot_t hf hs7
    refine gr_tin X (7) 105 dX7_word_1 (by rw [hs7]; decide) (by decide) (by decide) rfl (by decide) ?_
    refine gC_ldcS X hK 7 (by decide) rfl dX7_word_105 ?_
    exact gr_aret X dX7_word_107 (by rw [Option.some.inj hf]) rfl
  replace hf := ot_f hf hs7
  by_cases hs8 : x0 = 8
  · replace hf := ot_t hf hs8
    refine gr_tin X (8) 108 dX7_word_1 (by rw [hs8]; decide) (by decide) (by decide) rfl (by decide) ?_
    refine gC_ldcS X hK 8 (by decide) rfl dX7_word_108 ?_
    exact gr_aret X dX7_word_110 (by rw [Option.some.inj hf]) rfl
  replace hf := ot_f hf hs8
  by_cases hs9 : x0 = 9
  · replace hf := ot_t hf hs9
    refine gr_tin X (9) 111 dX7_word_1 (by rw [hs9]; decide) (by decide) (by decide) rfl (by decide) ?_
    refine gC_ldcS X hK 9 (by decide) rfl dX7_word_111 ?_
    exact gr_aret X dX7_word_113 (by rw [Option.some.inj hf]) rfl
  replace hf := ot_f hf hs9
  by_cases hs10 : x0 = 10
  · replace hf := ot_t hf hs10
    refine gr_tin X (10) 114 dX7_word_1 (by rw [hs10]; decide) (by decide) (by decide) rfl (by decide) ?_
    refine gC_ldcS X hK 10 (by decide) rfl dX7_word_114 ?_
    exact gr_aret X dX7_word_116 (by rw [Option.some.inj hf]) rfl
  replace hf := ot_f hf hs10
  by_cases hs11 : x0 = 11
  · replace hf := ot_t hf hs11
    refine gr_tin X (11) 117 dX7_word_1 (by rw [hs11]; decide) (by decide) (by decide) rfl (by decide) ?_
    refine gC_ldcS X hK 11 (by decide) rfl dX7_word_117 ?_
    exact gr_aret X dX7_word_119 (by rw [Option.some.inj hf]) rfl
  replace hf := ot_f hf hs11
  by_cases hs12 : x0 = 12
  · replace hf := ot_t hf hs12
    refine gr_tin X (12) 120 dX7_word_1 (by rw [hs12]; decide) (by decide) (by decide) rfl (by decide) ?_
    refine gC_ldcS X hK 12 (by decide) rfl dX7_word_120 ?_
    exact gr_aret X dX7_word_122 (by rw [Option.some.inj hf]) rfl
  replace hf := ot_f hf hs12
  by_cases hs13 : x0 = 13
  · replace hf := ot_t hf hs13
    refine gr_tin X (13) 123 dX7_word_1 (by rw [hs13]; decide) (by decide) (by decide) rfl (by decide) ?_
    refine gC_ldcS X hK 13 (by decide) rfl dX7_word_123 ?_
    exact gr_aret X dX7_word_125 (by rw [Option.some.inj hf]) rfl
  replace hf := ot_f hf hs13
  by_cases hs14 : x0 = 14
  · replace hf := ot_t hf hs14
    refine gr_tin X (14) 126 dX7_word_1 (by rw [hs14]; decide) (by decide) (by decide) rfl (by decide) ?_
    refine gC_ldcS X hK 14 (by decide) rfl dX7_word_126 ?_
    exact gr_aret X dX7_word_128 (by rw [Option.some.inj hf]) rfl
  replace hf := ot_f hf hs14
  by_cases hs15 : x0 = 15
  · replace hf := ot_t hf hs15
    refine gr_tin X (15) 129 dX7_word_1 (by rw [hs15]; decide) (by decide) (by decide) rfl (by decide) ?_
    refine gC_ldcS X hK 15 (by decide) rfl dX7_word_129 ?_
    exact gr_aret X dX7_word_131 (by rw [Option.some.inj hf]) rfl
  replace hf := ot_f hf hs15
  by_cases hs16 : x0 = 16
  · replace hf := ot_t hf hs16
    refine gr_tin X (16) 132 dX7_word_1 (by rw [hs16]; decide) (by decide) (by decide) rfl (by decide) ?_
    refine gC_ldcS X hK 16 (by decide) rfl dX7_word_132 ?_
    exact gr_aret X dX7_word_134 (by rw [Option.some.inj hf]) rfl
  replace hf := ot_f hf hs16
  refine gr_tout X 135 dX7_word_1 (by have := lv_neT hs0 (show (0 : Int32).toInt = 0 by decide); have := lv_neT hs1 (show (1 : Int32).toInt = 1 by decide); have := lv_neT hs2 (show (2 : Int32).toInt = 2 by decide); have := lv_neT hs3 (show (3 : Int32).toInt = 3 by decide); have := lv_neT hs4 (show (4 : Int32).toInt = 4 by decide); have := lv_neT hs5 (show (5 : Int32).toInt = 5 by decide); have := lv_neT hs6 (show (6 : Int32).toInt = 6 by decide); have := lv_neT hs7 (show (7 : Int32).toInt = 7 by decide); have := lv_neT hs8 (show (8 : Int32).toInt = 8 by decide); have := lv_neT hs9 (show (9 : Int32).toInt = 9 by decide); have := lv_neT hs10 (show (10 : Int32).toInt = 10 by decide); have := lv_neT hs11 (show (11 : Int32).toInt = 11 by decide); have := lv_neT hs12 (show (12 : Int32).toInt = 12 by decide); have := lv_neT hs13 (show (13 : Int32).toInt = 13 by decide); have := lv_neT hs14 (show (14 : Int32).toInt = 14 by decide); have := lv_neT hs15 (show (15 : Int32).toInt = 15 by decide); have := lv_neT hs16 (show (16 : Int32).toInt = 16 by decide); omega) (by decide) ?_
  refine gC_ldcS X hK 17 (by decide) rfl dX7_word_135 ?_
  exact gr_aret X dX7_word_137 (by rw [Option.some.inj hf]) rfl
abbrev ro_j0_coder_7d493 : Room := { frames := 0, cells := 0, slots := 0, locals := 0 }
def fc_j0_coder_7d493 (x0 : Nat) : Option Int32 := (if (1 : Int32) = 0 then (oc (hby (1 : Int32)) (some (1 : Int32))) else (oc (decide (x0 < 18)) (oc (hby (0 : Int32)) (some (0 : Int32)))))
set_option maxHeartbeats 4000000 in
set_option maxRecDepth 100000 in
theorem xc_j0_coder_7d493 {l : Launch} {D : va_G} {cs : Nat → ClassId} {sK sV : Nat → Nat} {tA : Nat} {ad : Nat → Nat} {τ : SC} {x0 : Nat} {r : Int32} (hf : fc_j0_coder_7d493 x0 = some r) : ctI l (wC ad cs) D vwCl (kC D cs sK sV tA) yJ0_coder_7d493 cJ0_coder_7d493 1 .byte ro_j0_coder_7d493 [.ref (sK x0)] τ r τ := by
  refine ct_I RJ0 (by decide +kernel) rfl (Nat.le_of_ble_eq_true rfl) ?_
  intro p e s m args below meth c A X hK hA
  refine gr_eqL (L2 := [(0, .ref (sK x0))]) rfl ?_
  unfold fc_j0_coder_7d493 at hf
  refine gC_compact X hK fkJ0_38 dJ0_coder_7d493_0 ?_
  refine gr_if_eq X 13 dJ0_coder_7d493_3 (by decide) (fun hc_ => ?_) (fun hc_ => ?_)
  · replace hf := ot_t hf hc_
    refine gr_iconst (v := 1) X dJ0_coder_7d493_13 (by decide) ?_
    have hz_ := oc_1 hf
    replace hf := oc_2 hf
    exact gr_bret X dJ0_coder_7d493_14 hz_ (Option.some.inj hf) rfl
  · replace hf := ot_f hf hc_
    refine gr_aload_n X dJ0_coder_7d493_6 rfl 0 rfl ?_
    have hn_ := oc_1 hf
    replace hf := oc_2 hf
    refine gC_strcoder X hK hn_ fkJ0_15 dJ0_coder_7d493_7 ?_
    refine gr_goto X 14 dJ0_coder_7d493_10 (by decide) ?_
    have hz_ := oc_1 hf
    replace hf := oc_2 hf
    exact gr_bret X dJ0_coder_7d493_14 hz_ (Option.some.inj hf) rfl
abbrev ro_j0_length_8abf5 : Room := { frames := 1, cells := 0, slots := 0, locals := 20 }
def fc_j0_length_8abf5 (x0 : Nat) : Option Int32 := (oc (decide (x0 < 18)) (oc (decide (x0 < 18)) (Option.bind (fc_j0_coder_7d493 x0) fun q1 => (oc (decide (x0 < 18)) (some ((nI (lenS.getD x0 0)) >>> (q1 &&& 31)))))))
set_option maxHeartbeats 4000000 in
set_option maxRecDepth 100000 in
theorem xc_j0_length_8abf5 {l : Launch} {D : va_G} {cs : Nat → ClassId} {sK sV : Nat → Nat} {tA : Nat} {ad : Nat → Nat} {τ : SC} {x0 : Nat} {r : Int32} (hf : fc_j0_length_8abf5 x0 = some r) : ctI l (wC ad cs) D vwCl (kC D cs sK sV tA) yJ0_length_8abf5 cJ0_length_8abf5 1 .int ro_j0_length_8abf5 [.ref (sK x0)] τ r τ := by
  refine ct_I RJ0 (by decide +kernel) rfl (Nat.le_of_ble_eq_true rfl) ?_
  intro p e s m args below meth c A X hK hA
  refine gr_eqL (L2 := [(0, .ref (sK x0))]) rfl ?_
  unfold fc_j0_length_8abf5 at hf
  refine gr_aload_n X dJ0_length_8abf5_0 rfl 0 rfl ?_
  have hn_ := oc_1 hf
  replace hf := oc_2 hf
  refine gC_strval X hK hn_ fkJ0_9 dJ0_length_8abf5_1 ?_
  have hn_ := oc_1 hf
  replace hf := oc_2 hf
  refine gC_strlen X hK hn_ dJ0_length_8abf5_4 ?_
  refine gr_aload_n X dJ0_length_8abf5_5 rfl 0 rfl ?_
  obtain ⟨q1, hq_, hf⟩ := ot_b hf
  have hn_ := oc_1 hf
  replace hf := oc_2 hf
  refine gc_Ti (rest := [.int (nI (lenS.getD x0 0))]) X kC_ok hK hA cwJ0_335 (fun H locs hS => rvC_str hK (of_decide_eq_true hn_) hS) (xc_j0_coder_7d493 hq_) rfl ⟨rfl, rfl, Nat.le_of_ble_eq_true rfl, Nat.le_of_ble_eq_true rfl⟩ rfl (Nat.le_of_ble_eq_true rfl) dJ0_length_8abf5_6 ?_
  refine gr_ishr X dJ0_length_8abf5_9 ?_
  exact gr_iret X dJ0_length_8abf5_10 (Option.some.inj hf) rfl
abbrev ro_j0_isLatin1_aae02 : Room := { frames := 0, cells := 0, slots := 0, locals := 0 }
def fc_j0_isLatin1_aae02 (x0 : Nat) : Option Int32 := (if (1 : Int32) = 0 then (some (0 : Int32)) else (oc (decide (x0 < 18)) (if ¬ (0 : Int32) = 0 then (some (0 : Int32)) else (some (1 : Int32)))))
set_option maxHeartbeats 4000000 in
set_option maxRecDepth 100000 in
theorem xc_j0_isLatin1_aae02 {l : Launch} {D : va_G} {cs : Nat → ClassId} {sK sV : Nat → Nat} {tA : Nat} {ad : Nat → Nat} {τ : SC} {x0 : Nat} {r : Int32} (hf : fc_j0_isLatin1_aae02 x0 = some r) : ctI l (wC ad cs) D vwCl (kC D cs sK sV tA) yJ0_isLatin1_aae02 cJ0_isLatin1_aae02 1 .boolean ro_j0_isLatin1_aae02 [.ref (sK x0)] τ r τ := by
  refine ct_I RJ0 (by decide +kernel) rfl (Nat.le_of_ble_eq_true rfl) ?_
  intro p e s m args below meth c A X hK hA
  refine gr_eqL (L2 := [(0, .ref (sK x0))]) rfl ?_
  unfold fc_j0_isLatin1_aae02 at hf
  refine gC_compact X hK fkJ0_38 dJ0_isLatin1_aae02_0 ?_
  refine gr_if_eq X 17 dJ0_isLatin1_aae02_3 (by decide) (fun hc_ => ?_) (fun hc_ => ?_)
  · replace hf := ot_t hf hc_
    refine gr_iconst (v := 0) X dJ0_isLatin1_aae02_17 (by decide) ?_
    exact gr_zret X dJ0_isLatin1_aae02_18 (by decide) (Option.some.inj hf) rfl
  · replace hf := ot_f hf hc_
    refine gr_aload_n X dJ0_isLatin1_aae02_6 rfl 0 rfl ?_
    have hn_ := oc_1 hf
    replace hf := oc_2 hf
    refine gC_strcoder X hK hn_ fkJ0_15 dJ0_isLatin1_aae02_7 ?_
    refine gr_if_ne X 17 dJ0_isLatin1_aae02_10 (by decide) (fun hc_ => ?_) (fun hc_ => ?_)
    · replace hf := ot_t hf hc_
      refine gr_iconst (v := 0) X dJ0_isLatin1_aae02_17 (by decide) ?_
      exact gr_zret X dJ0_isLatin1_aae02_18 (by decide) (Option.some.inj hf) rfl
    · replace hf := ot_f hf hc_
      refine gr_iconst (v := 1) X dJ0_isLatin1_aae02_13 (by decide) ?_
      refine gr_goto X 18 dJ0_isLatin1_aae02_14 (by decide) ?_
      exact gr_zret X dJ0_isLatin1_aae02_18 (by decide) (Option.some.inj hf) rfl
abbrev ro_j3_checkIndex_8e157_U : Room := { frames := 0, cells := 0, slots := 0, locals := 0 }
def fc_j3_checkIndex_8e157_U_b9 (x0 : Int32) (x1 : Int32) : Option Int32 := none
def fc_j3_checkIndex_8e157_U (x0 : Int32) (x1 : Int32) : Option Int32 := (if x0 < 0 then (fc_j3_checkIndex_8e157_U_b9 x0 x1) else (if x0 < x1 then (some x0) else (fc_j3_checkIndex_8e157_U_b9 x0 x1)))
set_option maxHeartbeats 4000000 in
set_option maxRecDepth 100000 in
theorem wc_j3_checkIndex_8e157_U_b9 {p : Program} {l : Launch} {e : Env} {s : State} {m : MethodId} {args : Array Value} {below : List Frame} {meth : Method} {c : Code} {A : Nat → Prop} {D : va_G} {cs : Nat → ClassId} {sK sV : Nat → Nat} {tA : Nat} {ad : Nat → Nat} {r : Int32} {τ : SC} (X : hc p s m args meth c RJ3 cJ3_checkIndex_8e157 3 (some .int)) (hK : kC D cs sK sV tA A s) (hA : ∀ q, s.heap.size ≤ q → A q)   (x0 : Int32) (x1 : Int32) (hf : fc_j3_checkIndex_8e157_U_b9 x0 x1 = some r) : gg p l e ro_j3_checkIndex_8e157_U s m args below meth c (wC ad cs) D vwCl A 3 (QI below args s (wC ad cs) D vwCl A r τ) 9 [(0, .int x0), (1, .int x1), (2, .null)] [] τ := by
  unfold fc_j3_checkIndex_8e157_U_b9 at hf
  cases hf
set_option maxHeartbeats 4000000 in
set_option maxRecDepth 100000 in
theorem xc_j3_checkIndex_8e157_U {l : Launch} {D : va_G} {cs : Nat → ClassId} {sK sV : Nat → Nat} {tA : Nat} {ad : Nat → Nat} {τ : SC} {x0 : Int32} {x1 : Int32} {r : Int32} (hf : fc_j3_checkIndex_8e157_U x0 x1 = some r) : ctI l (wC ad cs) D vwCl (kC D cs sK sV tA) yJ3_checkIndex_8e157 cJ3_checkIndex_8e157 3 .int ro_j3_checkIndex_8e157_U [.int x0, .int x1, .null] τ r τ := by
  refine ct_I RJ3 (by decide +kernel) rfl (Nat.le_of_ble_eq_true rfl) ?_
  intro p e s m args below meth c A X hK hA
  refine gr_eqL (L2 := [(0, .int x0), (1, .int x1), (2, .null)]) rfl ?_
  unfold fc_j3_checkIndex_8e157_U at hf
  refine gr_iload_n X dJ3_checkIndex_8e157_0 rfl 0 rfl ?_
  refine gr_if_lt X 9 dJ3_checkIndex_8e157_1 (by decide) (fun hc_ => ?_) (fun hc_ => ?_)
  · replace hf := ot_t hf hc_
    refine gr_sub [0, 1, 2] rfl ?_
    exact wc_j3_checkIndex_8e157_U_b9 X hK hA _ _ hf
  · replace hf := ot_f hf hc_
    refine gr_iload_n X dJ3_checkIndex_8e157_4 rfl 0 rfl ?_
    refine gr_iload_n X dJ3_checkIndex_8e157_5 rfl 1 rfl ?_
    refine gr_icmp_lt X 16 dJ3_checkIndex_8e157_6 (by decide) (fun hc_ => ?_) (fun hc_ => ?_)
    · replace hf := ot_t hf hc_
      refine gr_iload_n X dJ3_checkIndex_8e157_16 rfl 0 rfl ?_
      exact gr_iret X dJ3_checkIndex_8e157_17 (Option.some.inj hf) rfl
    · replace hf := ot_f hf hc_
      refine gr_sub [0, 1, 2] rfl ?_
      exact wc_j3_checkIndex_8e157_U_b9 X hK hA _ _ hf
abbrev ro_j3_checkIndex_8e157_any : Room := { frames := 0, cells := 0, slots := 0, locals := 0 }
def fc_j3_checkIndex_8e157_any_b9 (x0 : Int32) (x1 : Int32) : Option Int32 := none
def fc_j3_checkIndex_8e157_any (x0 : Int32) (x1 : Int32) : Option Int32 := (if x0 < 0 then (fc_j3_checkIndex_8e157_any_b9 x0 x1) else (if x0 < x1 then (some x0) else (fc_j3_checkIndex_8e157_any_b9 x0 x1)))
set_option maxHeartbeats 4000000 in
set_option maxRecDepth 100000 in
theorem wc_j3_checkIndex_8e157_any_b9 {p : Program} {l : Launch} {e : Env} {s : State} {m : MethodId} {args : Array Value} {below : List Frame} {meth : Method} {c : Code} {A : Nat → Prop} {D : va_G} {cs : Nat → ClassId} {sK sV : Nat → Nat} {tA : Nat} {ad : Nat → Nat} {r : Int32} {τ : SC} {a0 : Nat} (X : hc p s m args meth c RJ3 cJ3_checkIndex_8e157 3 (some .int)) (hK : kC D cs sK sV tA A s) (hA : ∀ q, s.heap.size ≤ q → A q)   (x0 : Int32) (x1 : Int32) (hf : fc_j3_checkIndex_8e157_any_b9 x0 x1 = some r) : gg p l e ro_j3_checkIndex_8e157_any s m args below meth c (wC ad cs) D vwCl A 3 (QI below args s (wC ad cs) D vwCl A r τ) 9 [(0, .int x0), (1, .int x1), (2, .ref a0)] [] τ := by
  unfold fc_j3_checkIndex_8e157_any_b9 at hf
  cases hf
set_option maxHeartbeats 4000000 in
set_option maxRecDepth 100000 in
theorem xc_j3_checkIndex_8e157_any {l : Launch} {D : va_G} {cs : Nat → ClassId} {sK sV : Nat → Nat} {tA : Nat} {ad : Nat → Nat} {τ : SC} {a0 : Nat} {x0 : Int32} {x1 : Int32} {r : Int32} (hf : fc_j3_checkIndex_8e157_any x0 x1 = some r) : ctI l (wC ad cs) D vwCl (kC D cs sK sV tA) yJ3_checkIndex_8e157 cJ3_checkIndex_8e157 3 .int ro_j3_checkIndex_8e157_any [.int x0, .int x1, .ref a0] τ r τ := by
  refine ct_I RJ3 (by decide +kernel) rfl (Nat.le_of_ble_eq_true rfl) ?_
  intro p e s m args below meth c A X hK hA
  refine gr_eqL (L2 := [(0, .int x0), (1, .int x1), (2, .ref a0)]) rfl ?_
  unfold fc_j3_checkIndex_8e157_any at hf
  refine gr_iload_n X dJ3_checkIndex_8e157_0 rfl 0 rfl ?_
  refine gr_if_lt X 9 dJ3_checkIndex_8e157_1 (by decide) (fun hc_ => ?_) (fun hc_ => ?_)
  · replace hf := ot_t hf hc_
    refine gr_sub [0, 1, 2] rfl ?_
    exact wc_j3_checkIndex_8e157_any_b9 X hK hA _ _ hf
  · replace hf := ot_f hf hc_
    refine gr_iload_n X dJ3_checkIndex_8e157_4 rfl 0 rfl ?_
    refine gr_iload_n X dJ3_checkIndex_8e157_5 rfl 1 rfl ?_
    refine gr_icmp_lt X 16 dJ3_checkIndex_8e157_6 (by decide) (fun hc_ => ?_) (fun hc_ => ?_)
    · replace hf := ot_t hf hc_
      refine gr_iload_n X dJ3_checkIndex_8e157_16 rfl 0 rfl ?_
      exact gr_iret X dJ3_checkIndex_8e157_17 (Option.some.inj hf) rfl
    · replace hf := ot_f hf hc_
      refine gr_sub [0, 1, 2] rfl ?_
      exact wc_j3_checkIndex_8e157_any_b9 X hK hA _ _ hf
abbrev ro_j0_checkIndex_df160 : Room := { frames := 1, cells := 0, slots := 0, locals := 22 }
def fc_j0_checkIndex_df160 (x0 : Int32) (x1 : Int32) : Option Unit := (Option.bind (fc_j3_checkIndex_8e157_U x0 x1) fun q1 => (some ()))
set_option maxHeartbeats 4000000 in
set_option maxRecDepth 100000 in
theorem xc_j0_checkIndex_df160 {l : Launch} {D : va_G} {cs : Nat → ClassId} {sK sV : Nat → Nat} {tA : Nat} {ad : Nat → Nat} {τ : SC} {x0 : Int32} {x1 : Int32} (hf : fc_j0_checkIndex_df160 x0 x1 = some ()) : ctV l (wC ad cs) D vwCl (kC D cs sK sV tA) yJ0_checkIndex_df160 cJ0_checkIndex_df160 2 ro_j0_checkIndex_df160 [.int x0, .int x1] τ τ := by
  refine ct_V RJ0 (by decide +kernel) rfl (Nat.le_of_ble_eq_true rfl) ?_
  intro p e s m args below meth c A X hK hA
  refine gr_eqL (L2 := [(0, .int x0), (1, .int x1)]) rfl ?_
  unfold fc_j0_checkIndex_df160 at hf
  refine gr_iload_n X dJ0_checkIndex_df160_0 rfl 0 rfl ?_
  refine gr_iload_n X dJ0_checkIndex_df160_1 rfl 1 rfl ?_
  refine gC_formatter X hK fkJ0_1053 dJ0_checkIndex_df160_2 ?_ (fun a0 => ?_)
  · obtain ⟨q1, hq_, hf⟩ := ot_b hf
    refine gc_Si (rest := []) X kC_ok hK hA cwJ0_1059 (xc_j3_checkIndex_8e157_U hq_) rfl ⟨rfl, rfl, Nat.le_of_ble_eq_true rfl, Nat.le_of_ble_eq_true rfl⟩ rfl (Nat.le_of_ble_eq_true rfl) dJ0_checkIndex_df160_5 ?_
    refine gr_pop X dJ0_checkIndex_df160_8 rfl ?_
    exact gr_vret X dJ0_checkIndex_df160_9 rfl
  · obtain ⟨q2, hq_, hf⟩ := ot_b hf
    refine gc_Si (rest := []) X kC_ok hK hA cwJ0_1059 (xc_j3_checkIndex_8e157_any hq_) rfl ⟨rfl, rfl, Nat.le_of_ble_eq_true rfl, Nat.le_of_ble_eq_true rfl⟩ rfl (Nat.le_of_ble_eq_true rfl) dJ0_checkIndex_df160_5 ?_
    refine gr_pop X dJ0_checkIndex_df160_8 rfl ?_
    exact gr_vret X dJ0_checkIndex_df160_9 rfl
abbrev ro_j1_charAt_3b067 : Room := { frames := 2, cells := 0, slots := 0, locals := 43 }
def fc_j1_charAt_3b067 (x0 : Nat) (x1 : Int32) : Option Int32 := (oc (decide (x0 < 18)) (Option.bind (fc_j0_checkIndex_df160 x1 (nI (lenS.getD x0 0))) fun q1 => (oc (decide (x0 < 18)) (oc (hin x1 (lenS.getD x0 0)) (oc (hch (hi2c (((bytS.getD x0 []).getD (Int32.toNatClampNeg x1) 0) &&& (255 : Int32)))) (some (hi2c (((bytS.getD x0 []).getD (Int32.toNatClampNeg x1) 0) &&& (255 : Int32)))))))))
set_option maxHeartbeats 4000000 in
set_option maxRecDepth 100000 in
theorem xc_j1_charAt_3b067 {l : Launch} {D : va_G} {cs : Nat → ClassId} {sK sV : Nat → Nat} {tA : Nat} {ad : Nat → Nat} {τ : SC} {x0 : Nat} {x1 : Int32} {r : Int32} (hf : fc_j1_charAt_3b067 x0 x1 = some r) : ctI l (wC ad cs) D vwCl (kC D cs sK sV tA) yJ1_charAt_3b067 cJ1_charAt_3b067 2 .char ro_j1_charAt_3b067 [.ref (sV x0), .int x1] τ r τ := by
  refine ct_I RJ1 (by decide +kernel) rfl (Nat.le_of_ble_eq_true rfl) ?_
  intro p e s m args below meth c A X hK hA
  refine gr_eqL (L2 := [(0, .ref (sV x0)), (1, .int x1)]) rfl ?_
  unfold fc_j1_charAt_3b067 at hf
  refine gr_iload_n X dJ1_charAt_3b067_0 rfl 1 rfl ?_
  refine gr_aload_n X dJ1_charAt_3b067_1 rfl 0 rfl ?_
  have hn_ := oc_1 hf
  replace hf := oc_2 hf
  refine gC_strlen X hK hn_ dJ1_charAt_3b067_2 ?_
  obtain ⟨q1, hq_, hf⟩ := ot_b hf
  refine gc_Sv (rest := []) X kC_ok hK hA cwJ1_9 (xc_j0_checkIndex_df160 hq_) rfl ⟨rfl, rfl, Nat.le_of_ble_eq_true rfl, Nat.le_of_ble_eq_true rfl⟩ rfl (Nat.le_of_ble_eq_true rfl) dJ1_charAt_3b067_3 ?_
  refine gr_aload_n X dJ1_charAt_3b067_6 rfl 0 rfl ?_
  refine gr_iload_n X dJ1_charAt_3b067_7 rfl 1 rfl ?_
  have hn_ := oc_1 hf
  replace hf := oc_2 hf
  have hi_ := oc_1 hf
  replace hf := oc_2 hf
  refine gC_strald X hK hn_ (Int32.toNatClampNeg x1) hi_ rfl dJ1_charAt_3b067_8 ?_
  refine gr_sipush (v := 255) X dJ1_charAt_3b067_9 (by decide) ?_
  refine gr_iand X dJ1_charAt_3b067_12 ?_
  refine gr_i2c X dJ1_charAt_3b067_13 ?_
  have hz_ := oc_1 hf
  replace hf := oc_2 hf
  exact gr_cret X dJ1_charAt_3b067_14 hz_ (Option.some.inj hf) rfl
abbrev ro_j0_charAt_5068e : Room := { frames := 3, cells := 0, slots := 0, locals := 64 }
def fc_j0_charAt_5068e (x0 : Nat) (x1 : Int32) : Option Int32 := (Option.bind (fc_j0_isLatin1_aae02 x0) fun q1 => (oc (decide (x0 < 18)) (if q1 = 0 then none else (oc (decide (x0 < 18)) (Option.bind (fc_j1_charAt_3b067 x0 x1) fun q2 => (oc (hch q2) (some q2)))))))
set_option maxHeartbeats 4000000 in
set_option maxRecDepth 100000 in
theorem xc_j0_charAt_5068e {l : Launch} {D : va_G} {cs : Nat → ClassId} {sK sV : Nat → Nat} {tA : Nat} {ad : Nat → Nat} {τ : SC} {x0 : Nat} {x1 : Int32} {r : Int32} (hf : fc_j0_charAt_5068e x0 x1 = some r) : ctI l (wC ad cs) D vwCl (kC D cs sK sV tA) yJ0_charAt_5068e cJ0_charAt_5068e 2 .char ro_j0_charAt_5068e [.ref (sK x0), .int x1] τ r τ := by
  refine ct_I RJ0 (by decide +kernel) rfl (Nat.le_of_ble_eq_true rfl) ?_
  intro p e s m args below meth c A X hK hA
  refine gr_eqL (L2 := [(0, .ref (sK x0)), (1, .int x1)]) rfl ?_
  unfold fc_j0_charAt_5068e at hf
  refine gr_aload_n X dJ0_charAt_5068e_0 rfl 0 rfl ?_
  obtain ⟨q1, hq_, hf⟩ := ot_b hf
  have hn_ := oc_1 hf
  replace hf := oc_2 hf
  refine gc_Ti (rest := []) X kC_ok hK hA cwJ0_492 (fun H locs hS => rvC_str hK (of_decide_eq_true hn_) hS) (xc_j0_isLatin1_aae02 hq_) rfl ⟨rfl, rfl, Nat.le_of_ble_eq_true rfl, Nat.le_of_ble_eq_true rfl⟩ rfl (Nat.le_of_ble_eq_true rfl) dJ0_charAt_5068e_1 ?_
  refine gr_if_eq X 16 dJ0_charAt_5068e_4 (by decide) (fun hc_ => ?_) (fun hc_ => ?_)
  · replace hf := ot_t hf hc_
    cases hf
  · replace hf := ot_f hf hc_
    refine gr_aload_n X dJ0_charAt_5068e_7 rfl 0 rfl ?_
    have hn_ := oc_1 hf
    replace hf := oc_2 hf
    refine gC_strval X hK hn_ fkJ0_9 dJ0_charAt_5068e_8 ?_
    refine gr_iload_n X dJ0_charAt_5068e_11 rfl 1 rfl ?_
    obtain ⟨q2, hq_, hf⟩ := ot_b hf
    refine gc_Si (rest := []) X kC_ok hK hA cwJ0_495 (xc_j1_charAt_3b067 hq_) rfl ⟨rfl, rfl, Nat.le_of_ble_eq_true rfl, Nat.le_of_ble_eq_true rfl⟩ rfl (Nat.le_of_ble_eq_true rfl) dJ0_charAt_5068e_12 ?_
    have hz_ := oc_1 hf
    replace hf := oc_2 hf
    exact gr_cret X dJ0_charAt_5068e_15 hz_ (Option.some.inj hf) rfl
abbrev ro_rd_isWord_a6 : Room := { frames := 4, cells := 0, slots := 0, locals := 85 }
def fc_rd_isWord_a6_l15 (τ : SC) : Nat → Nat → Int32 → Int32 → Int32 → Option Int32
  | 0, _, _, _, _ => none
  | n + 1, x0, x2, x3, x4 => (if x3 ≤ x4 then (some (1 : Int32)) else (Option.bind (fc_j0_charAt_5068e x0 (x4 - x2)) fun q2 => (oc (decide (x0 < 18)) (oc (hin x4 200) (if q2 = (τ.1 6 (Int32.toNatClampNeg x4)) then ((fc_rd_isWord_a6_l15 τ n) x0 x2 x3 (x4 + (1 : Int32))) else (some (0 : Int32)))))))
def fc_rd_isWord_a6 (τ : SC) (x0 : Nat) (x2 : Int32) (x3 : Int32) : Option Int32 := (Option.bind (fc_j0_length_8abf5 x0) fun q1 => (oc (decide (x0 < 18)) (if q1 = (x3 - x2) then (fc_rd_isWord_a6_l15 τ hFU x0 x2 x3 x2) else (some (0 : Int32)))))
set_option maxHeartbeats 4000000 in
set_option maxRecDepth 100000 in
theorem wc_rd_isWord_a6_l15 {p : Program} {l : Launch} {e : Env} {s : State} {m : MethodId} {args : Array Value} {below : List Frame} {meth : Method} {c : Code} {A : Nat → Prop} {D : va_G} {cs : Nat → ClassId} {sK sV : Nat → Nat} {tA : Nat} {ad : Nat → Nat} {r : Int32} {τ : SC} (X : hc p s m args meth c RX7 cX7_isWord 5 (some .boolean)) (hK : kC D cs sK sV tA A s) (hA : ∀ q, s.heap.size ≤ q → A q)  : ∀ (n : Nat) (x0 : Nat) (x2 : Int32) (x3 : Int32) (x4 : Int32), fc_rd_isWord_a6_l15 τ n x0 x2 x3 x4 = some r → gg p l e ro_rd_isWord_a6 s m args below meth c (wC ad cs) D vwCl A 5 (QI below args s (wC ad cs) D vwCl A r τ) 15 [(0, .ref (sK x0)), (1, .ref (ad 6)), (2, .int x2), (3, .int x3), (4, .int x4)] [] τ := by
  intro n
  induction n with
  | zero =>
    intro x0 x2 x3 x4 hf
    cases (show (none : Option Int32) = some r from hf)
  | succ n ih =>
    intro x0 x2 x3 x4 hf
    unfold fc_rd_isWord_a6_l15 at hf
    refine gr_iload X dX7_isWord_15 4 rfl ?_
    refine gr_iload_n X dX7_isWord_17 rfl 3 rfl ?_
    refine gr_icmp_ge X 44 dX7_isWord_18 (by decide) (fun hc_ => ?_) (fun hc_ => ?_)
    · replace hf := ot_t hf hc_
      refine gr_iconst (v := 1) X dX7_isWord_44 (by decide) ?_
      exact gr_zret X dX7_isWord_45 (by decide) (Option.some.inj hf) rfl
    · replace hf := ot_f hf hc_
      refine gr_aload_n X dX7_isWord_21 rfl 0 rfl ?_
      refine gr_iload X dX7_isWord_22 4 rfl ?_
      refine gr_iload_n X dX7_isWord_24 rfl 2 rfl ?_
      refine gr_isub X dX7_isWord_25 ?_
      obtain ⟨q2, hq_, hf⟩ := ot_b hf
      have hn_ := oc_1 hf
      replace hf := oc_2 hf
      refine gc_Ti (rest := []) X kC_ok hK hA cw7_67 (fun H locs hS => rvC_str hK (of_decide_eq_true hn_) hS) (xc_j0_charAt_5068e hq_) rfl ⟨rfl, rfl, Nat.le_of_ble_eq_true rfl, Nat.le_of_ble_eq_true rfl⟩ rfl (Nat.le_of_ble_eq_true rfl) dX7_isWord_26 ?_
      refine gr_aload_n X dX7_isWord_29 rfl 1 rfl ?_
      refine gr_iload X dX7_isWord_30 4 rfl ?_
      have hi_ := oc_1 hf
      replace hf := oc_2 hf
      refine gC_ald_6 X hK (Int32.toNatClampNeg x4) hi_ rfl dX7_isWord_32 ?_
      refine gr_icmp_eq X 38 dX7_isWord_33 (by decide) (fun hc_ => ?_) (fun hc_ => ?_)
      · replace hf := ot_t hf hc_
        refine gr_iinc (k := 4) (v := 1) (L2 := [(4, .int (x4 + (1 : Int32))), (0, .ref (sK x0)), (1, .ref (ad 6)), (2, .int x2), (3, .int x3)]) X dX7_isWord_38 rfl (by decide) (by decide) rfl ?_
        refine gr_goto X 15 dX7_isWord_41 (by decide) ?_
        refine gr_sub [1, 2, 3, 4, 0] rfl ?_
        exact ih _ _ _ _ hf
      · replace hf := ot_f hf hc_
        refine gr_iconst (v := 0) X dX7_isWord_36 (by decide) ?_
        exact gr_zret X dX7_isWord_37 (by decide) (Option.some.inj hf) rfl
set_option maxHeartbeats 4000000 in
set_option maxRecDepth 100000 in
theorem xc_rd_isWord_a6 {l : Launch} {D : va_G} {cs : Nat → ClassId} {sK sV : Nat → Nat} {tA : Nat} {ad : Nat → Nat} {τ : SC} {x0 : Nat} {x2 : Int32} {x3 : Int32} {r : Int32} (hf : fc_rd_isWord_a6 τ x0 x2 x3 = some r) : ctI l (wC ad cs) D vwCl (kC D cs sK sV tA) yX7_isWord cX7_isWord 5 .boolean ro_rd_isWord_a6 [.ref (sK x0), .ref (ad 6), .int x2, .int x3] τ r τ := by
  refine ct_I RX7 (by decide +kernel) rfl (Nat.le_of_ble_eq_true rfl) ?_
  intro p e s m args below meth c A X hK hA
  refine gr_eqL (L2 := [(0, .ref (sK x0)), (1, .ref (ad 6)), (2, .int x2), (3, .int x3)]) rfl ?_
  unfold fc_rd_isWord_a6 at hf
  refine gr_aload_n X dX7_isWord_0 rfl 0 rfl ?_
  obtain ⟨q1, hq_, hf⟩ := ot_b hf
  have hn_ := oc_1 hf
  replace hf := oc_2 hf
  refine gc_Ti (rest := []) X kC_ok hK hA cw7_61 (fun H locs hS => rvC_str hK (of_decide_eq_true hn_) hS) (xc_j0_length_8abf5 hq_) rfl ⟨rfl, rfl, Nat.le_of_ble_eq_true rfl, Nat.le_of_ble_eq_true rfl⟩ rfl (Nat.le_of_ble_eq_true rfl) dX7_isWord_1 ?_
  refine gr_iload_n X dX7_isWord_4 rfl 3 rfl ?_
  refine gr_iload_n X dX7_isWord_5 rfl 2 rfl ?_
  refine gr_isub X dX7_isWord_6 ?_
  refine gr_icmp_eq X 12 dX7_isWord_7 (by decide) (fun hc_ => ?_) (fun hc_ => ?_)
  · replace hf := ot_t hf hc_
    refine gr_iload_n X dX7_isWord_12 rfl 2 rfl ?_
    refine gr_istore (L2 := [(4, .int x2), (0, .ref (sK x0)), (1, .ref (ad 6)), (2, .int x2), (3, .int x3)]) X dX7_isWord_13 (by decide) rfl ?_
    refine gr_sub [1, 2, 3, 4, 0] rfl ?_
    refine wc_rd_isWord_a6_l15 X hK hA  hFU _ _ _ _ hf
  · replace hf := ot_f hf hc_
    refine gr_iconst (v := 0) X dX7_isWord_10 (by decide) ?_
    exact gr_zret X dX7_isWord_11 (by decide) (Option.some.inj hf) rfl
abbrev ro_rd_wordOf_a6 : Room := { frames := 5, cells := 0, slots := 0, locals := 109 }
def fc_rd_wordOf_a6_l2 (τ : SC) : Nat → Int32 → Int32 → Int32 → Option Int32
  | 0, _, _, _ => none
  | n + 1, x1, x2, x3 => (if (18 : Int32) ≤ x3 then (some (18 : Int32)) else (Option.bind (fc_rd_word x3) fun q1 => (Option.bind (fc_rd_isWord_a6 τ q1 x1 x2) fun q2 => (if q2 = 0 then ((fc_rd_wordOf_a6_l2 τ n) x1 x2 (x3 + (1 : Int32))) else (some x3)))))
def fc_rd_wordOf_a6 (τ : SC) (x1 : Int32) (x2 : Int32) : Option Int32 := (fc_rd_wordOf_a6_l2 τ hFU x1 x2 (0 : Int32))
set_option maxHeartbeats 4000000 in
set_option maxRecDepth 100000 in
theorem wc_rd_wordOf_a6_l2 {p : Program} {l : Launch} {e : Env} {s : State} {m : MethodId} {args : Array Value} {below : List Frame} {meth : Method} {c : Code} {A : Nat → Prop} {D : va_G} {cs : Nat → ClassId} {sK sV : Nat → Nat} {tA : Nat} {ad : Nat → Nat} {r : Int32} {τ : SC} (X : hc p s m args meth c RX7 cX7_wordOf 4 (some .int)) (hK : kC D cs sK sV tA A s) (hA : ∀ q, s.heap.size ≤ q → A q)  : ∀ (n : Nat) (x1 : Int32) (x2 : Int32) (x3 : Int32), fc_rd_wordOf_a6_l2 τ n x1 x2 x3 = some r → gg p l e ro_rd_wordOf_a6 s m args below meth c (wC ad cs) D vwCl A 4 (QI below args s (wC ad cs) D vwCl A r τ) 2 [(0, .ref (ad 6)), (1, .int x1), (2, .int x2), (3, .int x3)] [] τ := by
  intro n
  induction n with
  | zero =>
    intro x1 x2 x3 hf
    cases (show (none : Option Int32) = some r from hf)
  | succ n ih =>
    intro x1 x2 x3 hf
    unfold fc_rd_wordOf_a6_l2 at hf
    refine gr_iload_n X dX7_wordOf_2 rfl 3 rfl ?_
    refine gr_bipush (v := 18) X dX7_wordOf_3 (by decide) ?_
    refine gr_icmp_ge X 29 dX7_wordOf_5 (by decide) (fun hc_ => ?_) (fun hc_ => ?_)
    · replace hf := ot_t hf hc_
      refine gr_bipush (v := 18) X dX7_wordOf_29 (by decide) ?_
      exact gr_iret X dX7_wordOf_31 (Option.some.inj hf) rfl
    · replace hf := ot_f hf hc_
      refine gr_iload_n X dX7_wordOf_8 rfl 3 rfl ?_
      obtain ⟨q1, hq_, hf⟩ := ot_b hf
      refine gc_SA (rest := []) X kC_ok hK hA cw7_53 (xc_rd_word hq_) rfl ⟨rfl, rfl, Nat.le_of_ble_eq_true rfl, Nat.le_of_ble_eq_true rfl⟩ rfl (Nat.le_of_ble_eq_true rfl) dX7_wordOf_9 ?_
      refine gr_aload_n X dX7_wordOf_12 rfl 0 rfl ?_
      refine gr_iload_n X dX7_wordOf_13 rfl 1 rfl ?_
      refine gr_iload_n X dX7_wordOf_14 rfl 2 rfl ?_
      obtain ⟨q2, hq_, hf⟩ := ot_b hf
      refine gc_Si (rest := []) X kC_ok hK hA cw7_57 (xc_rd_isWord_a6 hq_) rfl ⟨rfl, rfl, Nat.le_of_ble_eq_true rfl, Nat.le_of_ble_eq_true rfl⟩ rfl (Nat.le_of_ble_eq_true rfl) dX7_wordOf_15 ?_
      refine gr_if_eq X 23 dX7_wordOf_18 (by decide) (fun hc_ => ?_) (fun hc_ => ?_)
      · replace hf := ot_t hf hc_
        refine gr_iinc (k := 3) (v := 1) (L2 := [(3, .int (x3 + (1 : Int32))), (0, .ref (ad 6)), (1, .int x1), (2, .int x2)]) X dX7_wordOf_23 rfl (by decide) (by decide) rfl ?_
        refine gr_goto X 2 dX7_wordOf_26 (by decide) ?_
        refine gr_sub [1, 2, 3, 0] rfl ?_
        exact ih _ _ _ hf
      · replace hf := ot_f hf hc_
        refine gr_iload_n X dX7_wordOf_21 rfl 3 rfl ?_
        exact gr_iret X dX7_wordOf_22 (Option.some.inj hf) rfl
set_option maxHeartbeats 4000000 in
set_option maxRecDepth 100000 in
theorem xc_rd_wordOf_a6 {l : Launch} {D : va_G} {cs : Nat → ClassId} {sK sV : Nat → Nat} {tA : Nat} {ad : Nat → Nat} {τ : SC} {x1 : Int32} {x2 : Int32} {r : Int32} (hf : fc_rd_wordOf_a6 τ x1 x2 = some r) : ctI l (wC ad cs) D vwCl (kC D cs sK sV tA) yX7_wordOf cX7_wordOf 4 .int ro_rd_wordOf_a6 [.ref (ad 6), .int x1, .int x2] τ r τ := by
  refine ct_I RX7 (by decide +kernel) rfl (Nat.le_of_ble_eq_true rfl) ?_
  intro p e s m args below meth c A X hK hA
  refine gr_eqL (L2 := [(0, .ref (ad 6)), (1, .int x1), (2, .int x2)]) rfl ?_
  unfold fc_rd_wordOf_a6 at hf
  refine gr_iconst (v := 0) X dX7_wordOf_0 (by decide) ?_
  refine gr_istore_n (L2 := [(3, .int (0 : Int32)), (0, .ref (ad 6)), (1, .int x1), (2, .int x2)]) X dX7_wordOf_1 rfl (by decide) rfl ?_
  refine gr_sub [1, 2, 3, 0] rfl ?_
  refine wc_rd_wordOf_a6_l2 X hK hA  hFU _ _ _ hf
abbrev ro_rd_scan_a6 : Room := { frames := 6, cells := 0, slots := 0, locals := 132 }
def fc_rd_scan_a6_b154 (K12 : Int32 → Int32 → SC → Option SC) (x2 : Int32) (x4 : Int32) (τ : SC) : Option SC := (K12 x2 x4 τ)
def fc_rd_scan_a6_l78 (K12 : Int32 → Int32 → SC → Option SC) (K100 : Int32 → Int32 → Int32 → SC → Option SC) : Nat → Int32 → Int32 → Int32 → SC → Option SC
  | 0, _, _, _, _ => none
  | n + 1, x2, x3, x4, τ => (if x2 ≤ x4 then (K100 x2 x3 x4 τ) else (oc (hin x4 200) (Option.bind (fc_rd_isDigit (τ.1 6 (Int32.toNatClampNeg x4))) fun q8 => (if q8 = 0 then (K100 x2 x3 x4 τ) else ((fc_rd_scan_a6_l78 K12 K100 n) x2 x3 (x4 + (1 : Int32)) τ)))))
def fc_rd_scan_a6_b116 (K12 : Int32 → Int32 → SC → Option SC) (x2 : Int32) (x3 : Int32) (x4 : Int32) (y0 : Int32) (τ : SC) : Option SC := (Option.bind (fc_rd_numberOf_a6 τ x3 x4) fun q9 => (Option.bind (fc_rd_note y0 x3 q9 τ) fun τ11 => (fc_rd_scan_a6_b154 K12 x2 x4 τ11)))
def fc_rd_scan_a6_b100 (K12 : Int32 → Int32 → SC → Option SC) (x2 : Int32) (x3 : Int32) (x4 : Int32) (τ : SC) : Option SC := (if (x4 - x3) ≤ (4 : Int32) then (fc_rd_scan_a6_b116 K12 x2 x3 x4 (19 : Int32) τ) else (fc_rd_scan_a6_b116 K12 x2 x3 x4 (18 : Int32) τ))
def fc_rd_scan_a6_l31 (K12 : Int32 → Int32 → SC → Option SC) (K53 : Int32 → Int32 → Int32 → SC → Option SC) : Nat → Int32 → Int32 → Int32 → SC → Option SC
  | 0, _, _, _, _ => none
  | n + 1, x2, x3, x4, τ => (if x2 ≤ x4 then (K53 x2 x3 x4 τ) else (oc (hin x4 200) (Option.bind (fc_rd_isLetter (τ.1 6 (Int32.toNatClampNeg x4))) fun q12 => (if q12 = 0 then (K53 x2 x3 x4 τ) else ((fc_rd_scan_a6_l31 K12 K53 n) x2 x3 (x4 + (1 : Int32)) τ)))))
def fc_rd_scan_a6_b53 (K12 : Int32 → Int32 → SC → Option SC) (x2 : Int32) (x3 : Int32) (x4 : Int32) (τ : SC) : Option SC := (Option.bind (fc_rd_wordOf_a6 τ x3 x4) fun q13 => (Option.bind (fc_rd_note q13 x3 (0 : Int32) τ) fun τ15 => (fc_rd_scan_a6_b154 K12 x2 x4 τ15)))
def fc_rd_scan_a6_l12 : Nat → Int32 → Int32 → SC → Option SC
  | 0, _, _, _ => none
  | n + 1, x2, x3, τ => (if x2 ≤ x3 then (some τ) else (hl (x3 + (1 : Int32)) fun v3 => (oc (hin x3 200) (Option.bind (fc_rd_isLetter (τ.1 6 (Int32.toNatClampNeg x3))) fun q4 => (if q4 = 0 then (oc (hin x3 200) (Option.bind (fc_rd_isDigit (τ.1 6 (Int32.toNatClampNeg x3))) fun q5 => (if q5 = 0 then (oc (hin x3 200) (if (τ.1 6 (Int32.toNatClampNeg x3)) = (32 : Int32) then (fc_rd_scan_a6_b154 (fc_rd_scan_a6_l12 n) x2 v3 τ) else (oc (hin x3 200) (Option.bind (fc_rd_note ((100 : Int32) + ((τ.1 6 (Int32.toNatClampNeg x3)) &&& (255 : Int32))) x3 (0 : Int32) τ) fun τ7 => (fc_rd_scan_a6_b154 (fc_rd_scan_a6_l12 n) x2 v3 τ7))))) else (fc_rd_scan_a6_l78 (fc_rd_scan_a6_l12 n) (fun x2 x3 x4 τ => (fc_rd_scan_a6_b100 (fc_rd_scan_a6_l12 n) x2 x3 x4 τ)) hFU x2 x3 v3 τ)))) else (fc_rd_scan_a6_l31 (fc_rd_scan_a6_l12 n) (fun x2 x3 x4 τ => (fc_rd_scan_a6_b53 (fc_rd_scan_a6_l12 n) x2 x3 x4 τ)) hFU x2 x3 v3 τ))))))
def fc_rd_scan_a6 (x2 : Int32) (τ : SC) : Option SC := (hl (sc τ 304 (fun _ => (0 : Int32))) fun τ1 => (hl (sc τ1 305 (fun _ => x2)) fun τ2 => (fc_rd_scan_a6_l12 hFU x2 (0 : Int32) τ2)))
set_option maxHeartbeats 4000000 in
set_option maxRecDepth 100000 in
theorem wc_rd_scan_a6_b154 {p : Program} {l : Launch} {e : Env} {s : State} {m : MethodId} {args : Array Value} {below : List Frame} {meth : Method} {c : Code} {A : Nat → Prop} {D : va_G} {cs : Nat → ClassId} {sK sV : Nat → Nat} {tA : Nat} {ad : Nat → Nat} {υ : SC} {K12 : Int32 → Int32 → SC → Option SC} (X : hc p s m args meth c RX7 cX7_scan 5 none) (hK : kC D cs sK sV tA A s) (hA : ∀ q, s.heap.size ≤ q → A q) (hK12 : (∀ (x2 : Int32) (x3 : Int32) (τ : SC), K12 x2 x3 τ = some υ → gg p l e ro_rd_scan_a6 s m args below meth c (wC ad cs) D vwCl A 5 (QV below args s (wC ad cs) D vwCl A υ) 12 [(0, .ref (ad 330)), (1, .ref (ad 6)), (2, .int x2), (3, .int x3)] [] τ))  (x2 : Int32) (x4 : Int32) (τ : SC) (hf : fc_rd_scan_a6_b154 K12 x2 x4 τ = some υ) : gg p l e ro_rd_scan_a6 s m args below meth c (wC ad cs) D vwCl A 5 (QV below args s (wC ad cs) D vwCl A υ) 154 [(0, .ref (ad 330)), (1, .ref (ad 6)), (2, .int x2), (4, .int x4)] [] τ := by
  unfold fc_rd_scan_a6_b154 at hf
  refine gr_iload X dX7_scan_154 3 rfl ?_
  refine gr_istore_n (L2 := [(3, .int x4), (0, .ref (ad 330)), (1, .ref (ad 6)), (2, .int x2), (4, .int x4)]) X dX7_scan_156 rfl (by decide) rfl ?_
  refine gr_goto X 12 dX7_scan_157 (by decide) ?_
  refine gr_sub [1, 2, 3, 0] rfl ?_
  exact hK12 _ _ _ hf
set_option maxHeartbeats 4000000 in
set_option maxRecDepth 100000 in
theorem wc_rd_scan_a6_l78 {p : Program} {l : Launch} {e : Env} {s : State} {m : MethodId} {args : Array Value} {below : List Frame} {meth : Method} {c : Code} {A : Nat → Prop} {D : va_G} {cs : Nat → ClassId} {sK sV : Nat → Nat} {tA : Nat} {ad : Nat → Nat} {υ : SC} {K12 : Int32 → Int32 → SC → Option SC} {K100 : Int32 → Int32 → Int32 → SC → Option SC} (X : hc p s m args meth c RX7 cX7_scan 5 none) (hK : kC D cs sK sV tA A s) (hA : ∀ q, s.heap.size ≤ q → A q) (hK12 : (∀ (x2 : Int32) (x3 : Int32) (τ : SC), K12 x2 x3 τ = some υ → gg p l e ro_rd_scan_a6 s m args below meth c (wC ad cs) D vwCl A 5 (QV below args s (wC ad cs) D vwCl A υ) 12 [(0, .ref (ad 330)), (1, .ref (ad 6)), (2, .int x2), (3, .int x3)] [] τ)) (hK100 : (∀ (x2 : Int32) (x3 : Int32) (x4 : Int32) (τ : SC), K100 x2 x3 x4 τ = some υ → gg p l e ro_rd_scan_a6 s m args below meth c (wC ad cs) D vwCl A 5 (QV below args s (wC ad cs) D vwCl A υ) 100 [(0, .ref (ad 330)), (1, .ref (ad 6)), (2, .int x2), (3, .int x3), (4, .int x4)] [] τ)) : ∀ (n : Nat) (x2 : Int32) (x3 : Int32) (x4 : Int32) (τ : SC), fc_rd_scan_a6_l78 K12 K100 n x2 x3 x4 τ = some υ → gg p l e ro_rd_scan_a6 s m args below meth c (wC ad cs) D vwCl A 5 (QV below args s (wC ad cs) D vwCl A υ) 78 [(0, .ref (ad 330)), (1, .ref (ad 6)), (2, .int x2), (3, .int x3), (4, .int x4)] [] τ := by
  intro n
  induction n with
  | zero =>
    intro x2 x3 x4 τ hf
    cases (show (none : Option SC) = some υ from hf)
  | succ n ih =>
    intro x2 x3 x4 τ hf
    unfold fc_rd_scan_a6_l78 at hf
    refine gr_iload X dX7_scan_78 4 rfl ?_
    refine gr_iload_n X dX7_scan_80 rfl 2 rfl ?_
    refine gr_icmp_ge X 100 dX7_scan_81 (by decide) (fun hc_ => ?_) (fun hc_ => ?_)
    · replace hf := ot_t hf hc_
      refine gr_sub [0, 1, 2, 3, 4] rfl ?_
      exact hK100 _ _ _ _ hf
    · replace hf := ot_f hf hc_
      refine gr_aload_n X dX7_scan_84 rfl 1 rfl ?_
      refine gr_iload X dX7_scan_85 4 rfl ?_
      have hi_ := oc_1 hf
      replace hf := oc_2 hf
      refine gC_ald_6 X hK (Int32.toNatClampNeg x4) hi_ rfl dX7_scan_87 ?_
      obtain ⟨q8, hq_, hf⟩ := ot_b hf
      refine gc_Si (rest := []) X kC_ok hK hA cw7_47 (xc_rd_isDigit hq_) rfl ⟨rfl, rfl, Nat.le_of_ble_eq_true rfl, Nat.le_of_ble_eq_true rfl⟩ rfl (Nat.le_of_ble_eq_true rfl) dX7_scan_88 ?_
      refine gr_if_eq X 100 dX7_scan_91 (by decide) (fun hc_ => ?_) (fun hc_ => ?_)
      · replace hf := ot_t hf hc_
        refine gr_sub [0, 1, 2, 3, 4] rfl ?_
        exact hK100 _ _ _ _ hf
      · replace hf := ot_f hf hc_
        refine gr_iinc (k := 4) (v := 1) (L2 := [(4, .int (x4 + (1 : Int32))), (0, .ref (ad 330)), (1, .ref (ad 6)), (2, .int x2), (3, .int x3)]) X dX7_scan_94 rfl (by decide) (by decide) rfl ?_
        refine gr_goto X 78 dX7_scan_97 (by decide) ?_
        refine gr_sub [1, 2, 3, 4, 0] rfl ?_
        exact ih _ _ _ _ hf
set_option maxHeartbeats 4000000 in
set_option maxRecDepth 100000 in
theorem wc_rd_scan_a6_b116 {p : Program} {l : Launch} {e : Env} {s : State} {m : MethodId} {args : Array Value} {below : List Frame} {meth : Method} {c : Code} {A : Nat → Prop} {D : va_G} {cs : Nat → ClassId} {sK sV : Nat → Nat} {tA : Nat} {ad : Nat → Nat} {υ : SC} {K12 : Int32 → Int32 → SC → Option SC} (X : hc p s m args meth c RX7 cX7_scan 5 none) (hK : kC D cs sK sV tA A s) (hA : ∀ q, s.heap.size ≤ q → A q) (hK12 : (∀ (x2 : Int32) (x3 : Int32) (τ : SC), K12 x2 x3 τ = some υ → gg p l e ro_rd_scan_a6 s m args below meth c (wC ad cs) D vwCl A 5 (QV below args s (wC ad cs) D vwCl A υ) 12 [(0, .ref (ad 330)), (1, .ref (ad 6)), (2, .int x2), (3, .int x3)] [] τ))  (x2 : Int32) (x3 : Int32) (x4 : Int32) (y0 : Int32) (τ : SC) (hf : fc_rd_scan_a6_b116 K12 x2 x3 x4 y0 τ = some υ) : gg p l e ro_rd_scan_a6 s m args below meth c (wC ad cs) D vwCl A 5 (QV below args s (wC ad cs) D vwCl A υ) 116 [(0, .ref (ad 330)), (1, .ref (ad 6)), (2, .int x2), (3, .int x3), (4, .int x4)] [.int y0, .ref (ad 330)] τ := by
  unfold fc_rd_scan_a6_b116 at hf
  refine gr_iload_n X dX7_scan_116 rfl 3 rfl ?_
  refine gr_aload_n X dX7_scan_117 rfl 1 rfl ?_
  refine gr_iload_n X dX7_scan_118 rfl 3 rfl ?_
  refine gr_iload X dX7_scan_119 4 rfl ?_
  obtain ⟨q9, hq_, hf⟩ := ot_b hf
  refine gc_Si (rest := [.int x3, .int y0, .ref (ad 330)]) X kC_ok hK hA cw7_50 (xc_rd_numberOf_a6 hq_) rfl ⟨rfl, rfl, Nat.le_of_ble_eq_true rfl, Nat.le_of_ble_eq_true rfl⟩ rfl (Nat.le_of_ble_eq_true rfl) dX7_scan_121 ?_
  obtain ⟨τ11, hq_, hf⟩ := ot_b hf
  refine gc_Vv (rest := []) X kC_ok hK hA cw7_43 (rvC_RD hK) (xc_rd_note hq_) rfl ⟨rfl, rfl, Nat.le_of_ble_eq_true rfl, Nat.le_of_ble_eq_true rfl⟩ rfl (Nat.le_of_ble_eq_true rfl) dX7_scan_124 ?_
  refine gr_goto X 154 dX7_scan_127 (by decide) ?_
  refine gr_sub [0, 1, 2, 4] rfl ?_
  exact wc_rd_scan_a6_b154 X hK hA hK12 _ _ _ hf
set_option maxHeartbeats 4000000 in
set_option maxRecDepth 100000 in
theorem wc_rd_scan_a6_b100 {p : Program} {l : Launch} {e : Env} {s : State} {m : MethodId} {args : Array Value} {below : List Frame} {meth : Method} {c : Code} {A : Nat → Prop} {D : va_G} {cs : Nat → ClassId} {sK sV : Nat → Nat} {tA : Nat} {ad : Nat → Nat} {υ : SC} {K12 : Int32 → Int32 → SC → Option SC} (X : hc p s m args meth c RX7 cX7_scan 5 none) (hK : kC D cs sK sV tA A s) (hA : ∀ q, s.heap.size ≤ q → A q) (hK12 : (∀ (x2 : Int32) (x3 : Int32) (τ : SC), K12 x2 x3 τ = some υ → gg p l e ro_rd_scan_a6 s m args below meth c (wC ad cs) D vwCl A 5 (QV below args s (wC ad cs) D vwCl A υ) 12 [(0, .ref (ad 330)), (1, .ref (ad 6)), (2, .int x2), (3, .int x3)] [] τ))  (x2 : Int32) (x3 : Int32) (x4 : Int32) (τ : SC) (hf : fc_rd_scan_a6_b100 K12 x2 x3 x4 τ = some υ) : gg p l e ro_rd_scan_a6 s m args below meth c (wC ad cs) D vwCl A 5 (QV below args s (wC ad cs) D vwCl A υ) 100 [(0, .ref (ad 330)), (1, .ref (ad 6)), (2, .int x2), (3, .int x3), (4, .int x4)] [] τ := by
  unfold fc_rd_scan_a6_b100 at hf
  refine gr_aload_n X dX7_scan_100 rfl 0 rfl ?_
  refine gr_iload X dX7_scan_101 4 rfl ?_
  refine gr_iload_n X dX7_scan_103 rfl 3 rfl ?_
  refine gr_isub X dX7_scan_104 ?_
  refine gr_iconst (v := 4) X dX7_scan_105 (by decide) ?_
  refine gr_icmp_le X 114 dX7_scan_106 (by decide) (fun hc_ => ?_) (fun hc_ => ?_)
  · replace hf := ot_t hf hc_
    refine gr_bipush (v := 19) X dX7_scan_114 (by decide) ?_
    refine gr_sub [0, 1, 2, 3, 4] rfl ?_
    exact wc_rd_scan_a6_b116 X hK hA hK12 _ _ _ _ _ hf
  · replace hf := ot_f hf hc_
    refine gr_bipush (v := 18) X dX7_scan_109 (by decide) ?_
    refine gr_goto X 116 dX7_scan_111 (by decide) ?_
    refine gr_sub [0, 1, 2, 3, 4] rfl ?_
    exact wc_rd_scan_a6_b116 X hK hA hK12 _ _ _ _ _ hf
set_option maxHeartbeats 4000000 in
set_option maxRecDepth 100000 in
theorem wc_rd_scan_a6_l31 {p : Program} {l : Launch} {e : Env} {s : State} {m : MethodId} {args : Array Value} {below : List Frame} {meth : Method} {c : Code} {A : Nat → Prop} {D : va_G} {cs : Nat → ClassId} {sK sV : Nat → Nat} {tA : Nat} {ad : Nat → Nat} {υ : SC} {K12 : Int32 → Int32 → SC → Option SC} {K53 : Int32 → Int32 → Int32 → SC → Option SC} (X : hc p s m args meth c RX7 cX7_scan 5 none) (hK : kC D cs sK sV tA A s) (hA : ∀ q, s.heap.size ≤ q → A q) (hK12 : (∀ (x2 : Int32) (x3 : Int32) (τ : SC), K12 x2 x3 τ = some υ → gg p l e ro_rd_scan_a6 s m args below meth c (wC ad cs) D vwCl A 5 (QV below args s (wC ad cs) D vwCl A υ) 12 [(0, .ref (ad 330)), (1, .ref (ad 6)), (2, .int x2), (3, .int x3)] [] τ)) (hK53 : (∀ (x2 : Int32) (x3 : Int32) (x4 : Int32) (τ : SC), K53 x2 x3 x4 τ = some υ → gg p l e ro_rd_scan_a6 s m args below meth c (wC ad cs) D vwCl A 5 (QV below args s (wC ad cs) D vwCl A υ) 53 [(0, .ref (ad 330)), (1, .ref (ad 6)), (2, .int x2), (3, .int x3), (4, .int x4)] [] τ)) : ∀ (n : Nat) (x2 : Int32) (x3 : Int32) (x4 : Int32) (τ : SC), fc_rd_scan_a6_l31 K12 K53 n x2 x3 x4 τ = some υ → gg p l e ro_rd_scan_a6 s m args below meth c (wC ad cs) D vwCl A 5 (QV below args s (wC ad cs) D vwCl A υ) 31 [(0, .ref (ad 330)), (1, .ref (ad 6)), (2, .int x2), (3, .int x3), (4, .int x4)] [] τ := by
  intro n
  induction n with
  | zero =>
    intro x2 x3 x4 τ hf
    cases (show (none : Option SC) = some υ from hf)
  | succ n ih =>
    intro x2 x3 x4 τ hf
    unfold fc_rd_scan_a6_l31 at hf
    refine gr_iload X dX7_scan_31 4 rfl ?_
    refine gr_iload_n X dX7_scan_33 rfl 2 rfl ?_
    refine gr_icmp_ge X 53 dX7_scan_34 (by decide) (fun hc_ => ?_) (fun hc_ => ?_)
    · replace hf := ot_t hf hc_
      refine gr_sub [0, 1, 2, 3, 4] rfl ?_
      exact hK53 _ _ _ _ hf
    · replace hf := ot_f hf hc_
      refine gr_aload_n X dX7_scan_37 rfl 1 rfl ?_
      refine gr_iload X dX7_scan_38 4 rfl ?_
      have hi_ := oc_1 hf
      replace hf := oc_2 hf
      refine gC_ald_6 X hK (Int32.toNatClampNeg x4) hi_ rfl dX7_scan_40 ?_
      obtain ⟨q12, hq_, hf⟩ := ot_b hf
      refine gc_Si (rest := []) X kC_ok hK hA cw7_35 (xc_rd_isLetter hq_) rfl ⟨rfl, rfl, Nat.le_of_ble_eq_true rfl, Nat.le_of_ble_eq_true rfl⟩ rfl (Nat.le_of_ble_eq_true rfl) dX7_scan_41 ?_
      refine gr_if_eq X 53 dX7_scan_44 (by decide) (fun hc_ => ?_) (fun hc_ => ?_)
      · replace hf := ot_t hf hc_
        refine gr_sub [0, 1, 2, 3, 4] rfl ?_
        exact hK53 _ _ _ _ hf
      · replace hf := ot_f hf hc_
        refine gr_iinc (k := 4) (v := 1) (L2 := [(4, .int (x4 + (1 : Int32))), (0, .ref (ad 330)), (1, .ref (ad 6)), (2, .int x2), (3, .int x3)]) X dX7_scan_47 rfl (by decide) (by decide) rfl ?_
        refine gr_goto X 31 dX7_scan_50 (by decide) ?_
        refine gr_sub [1, 2, 3, 4, 0] rfl ?_
        exact ih _ _ _ _ hf
set_option maxHeartbeats 4000000 in
set_option maxRecDepth 100000 in
theorem wc_rd_scan_a6_b53 {p : Program} {l : Launch} {e : Env} {s : State} {m : MethodId} {args : Array Value} {below : List Frame} {meth : Method} {c : Code} {A : Nat → Prop} {D : va_G} {cs : Nat → ClassId} {sK sV : Nat → Nat} {tA : Nat} {ad : Nat → Nat} {υ : SC} {K12 : Int32 → Int32 → SC → Option SC} (X : hc p s m args meth c RX7 cX7_scan 5 none) (hK : kC D cs sK sV tA A s) (hA : ∀ q, s.heap.size ≤ q → A q) (hK12 : (∀ (x2 : Int32) (x3 : Int32) (τ : SC), K12 x2 x3 τ = some υ → gg p l e ro_rd_scan_a6 s m args below meth c (wC ad cs) D vwCl A 5 (QV below args s (wC ad cs) D vwCl A υ) 12 [(0, .ref (ad 330)), (1, .ref (ad 6)), (2, .int x2), (3, .int x3)] [] τ))  (x2 : Int32) (x3 : Int32) (x4 : Int32) (τ : SC) (hf : fc_rd_scan_a6_b53 K12 x2 x3 x4 τ = some υ) : gg p l e ro_rd_scan_a6 s m args below meth c (wC ad cs) D vwCl A 5 (QV below args s (wC ad cs) D vwCl A υ) 53 [(0, .ref (ad 330)), (1, .ref (ad 6)), (2, .int x2), (3, .int x3), (4, .int x4)] [] τ := by
  unfold fc_rd_scan_a6_b53 at hf
  refine gr_aload_n X dX7_scan_53 rfl 0 rfl ?_
  refine gr_aload_n X dX7_scan_54 rfl 1 rfl ?_
  refine gr_iload_n X dX7_scan_55 rfl 3 rfl ?_
  refine gr_iload X dX7_scan_56 4 rfl ?_
  obtain ⟨q13, hq_, hf⟩ := ot_b hf
  refine gc_Si (rest := [.ref (ad 330)]) X kC_ok hK hA cw7_39 (xc_rd_wordOf_a6 hq_) rfl ⟨rfl, rfl, Nat.le_of_ble_eq_true rfl, Nat.le_of_ble_eq_true rfl⟩ rfl (Nat.le_of_ble_eq_true rfl) dX7_scan_58 ?_
  refine gr_iload_n X dX7_scan_61 rfl 3 rfl ?_
  refine gr_iconst (v := 0) X dX7_scan_62 (by decide) ?_
  obtain ⟨τ15, hq_, hf⟩ := ot_b hf
  refine gc_Vv (rest := []) X kC_ok hK hA cw7_43 (rvC_RD hK) (xc_rd_note hq_) rfl ⟨rfl, rfl, Nat.le_of_ble_eq_true rfl, Nat.le_of_ble_eq_true rfl⟩ rfl (Nat.le_of_ble_eq_true rfl) dX7_scan_63 ?_
  refine gr_goto X 154 dX7_scan_66 (by decide) ?_
  refine gr_sub [0, 1, 2, 4] rfl ?_
  exact wc_rd_scan_a6_b154 X hK hA hK12 _ _ _ hf
set_option maxHeartbeats 4000000 in
set_option maxRecDepth 100000 in
theorem wc_rd_scan_a6_l12 {p : Program} {l : Launch} {e : Env} {s : State} {m : MethodId} {args : Array Value} {below : List Frame} {meth : Method} {c : Code} {A : Nat → Prop} {D : va_G} {cs : Nat → ClassId} {sK sV : Nat → Nat} {tA : Nat} {ad : Nat → Nat} {υ : SC} (X : hc p s m args meth c RX7 cX7_scan 5 none) (hK : kC D cs sK sV tA A s) (hA : ∀ q, s.heap.size ≤ q → A q)  : ∀ (n : Nat) (x2 : Int32) (x3 : Int32) (τ : SC), fc_rd_scan_a6_l12 n x2 x3 τ = some υ → gg p l e ro_rd_scan_a6 s m args below meth c (wC ad cs) D vwCl A 5 (QV below args s (wC ad cs) D vwCl A υ) 12 [(0, .ref (ad 330)), (1, .ref (ad 6)), (2, .int x2), (3, .int x3)] [] τ := by
  intro n
  induction n with
  | zero =>
    intro x2 x3 τ hf
    cases (show (none : Option SC) = some υ from hf)
  | succ n ih =>
    intro x2 x3 τ hf
    unfold fc_rd_scan_a6_l12 at hf
    refine gr_iload_n X dX7_scan_12 rfl 3 rfl ?_
    refine gr_iload_n X dX7_scan_13 rfl 2 rfl ?_
    refine gr_icmp_ge X 160 dX7_scan_14 (by decide) (fun hc_ => ?_) (fun hc_ => ?_)
    · replace hf := ot_t hf hc_
      exact gr_vret X dX7_scan_160 (Option.some.inj hf)
    · replace hf := ot_f hf hc_
      refine gr_iload_n X dX7_scan_17 rfl 3 rfl ?_
      refine gr_iconst (v := 1) X dX7_scan_18 (by decide) ?_
      refine gr_iadd X dX7_scan_19 ?_
      refine gC_top (fun v3 e_v3 => ?_)
      replace hf := ot_l hf e_v3
      refine gr_istore (L2 := [(4, .int v3), (0, .ref (ad 330)), (1, .ref (ad 6)), (2, .int x2), (3, .int x3)]) X dX7_scan_20 (by decide) rfl ?_
      refine gr_aload_n X dX7_scan_22 rfl 2 rfl ?_
      refine gr_iload_n X dX7_scan_23 rfl 4 rfl ?_
      have hi_ := oc_1 hf
      replace hf := oc_2 hf
      refine gC_ald_6 X hK (Int32.toNatClampNeg x3) hi_ rfl dX7_scan_24 ?_
      obtain ⟨q4, hq_, hf⟩ := ot_b hf
      refine gc_Si (rest := []) X kC_ok hK hA cw7_35 (xc_rd_isLetter hq_) rfl ⟨rfl, rfl, Nat.le_of_ble_eq_true rfl, Nat.le_of_ble_eq_true rfl⟩ rfl (Nat.le_of_ble_eq_true rfl) dX7_scan_25 ?_
      refine gr_if_eq X 69 dX7_scan_28 (by decide) (fun hc_ => ?_) (fun hc_ => ?_)
      · replace hf := ot_t hf hc_
        refine gr_aload_n X dX7_scan_69 rfl 2 rfl ?_
        refine gr_iload_n X dX7_scan_70 rfl 4 rfl ?_
        have hi_ := oc_1 hf
        replace hf := oc_2 hf
        refine gC_ald_6 X hK (Int32.toNatClampNeg x3) hi_ rfl dX7_scan_71 ?_
        obtain ⟨q5, hq_, hf⟩ := ot_b hf
        refine gc_Si (rest := []) X kC_ok hK hA cw7_47 (xc_rd_isDigit hq_) rfl ⟨rfl, rfl, Nat.le_of_ble_eq_true rfl, Nat.le_of_ble_eq_true rfl⟩ rfl (Nat.le_of_ble_eq_true rfl) dX7_scan_72 ?_
        refine gr_if_eq X 130 dX7_scan_75 (by decide) (fun hc_ => ?_) (fun hc_ => ?_)
        · replace hf := ot_t hf hc_
          refine gr_aload_n X dX7_scan_130 rfl 2 rfl ?_
          refine gr_iload_n X dX7_scan_131 rfl 4 rfl ?_
          have hi_ := oc_1 hf
          replace hf := oc_2 hf
          refine gC_ald_6 X hK (Int32.toNatClampNeg x3) hi_ rfl dX7_scan_132 ?_
          refine gr_bipush (v := 32) X dX7_scan_133 (by decide) ?_
          refine gr_icmp_eq X 154 dX7_scan_135 (by decide) (fun hc_ => ?_) (fun hc_ => ?_)
          · replace hf := ot_t hf hc_
            refine gr_sub [1, 2, 3, 0] rfl ?_
            exact wc_rd_scan_a6_b154 X hK hA ih _ _ _ hf
          · replace hf := ot_f hf hc_
            refine gr_aload_n X dX7_scan_138 rfl 1 rfl ?_
            refine gr_bipush (v := 100) X dX7_scan_139 (by decide) ?_
            refine gr_aload_n X dX7_scan_141 rfl 2 rfl ?_
            refine gr_iload_n X dX7_scan_142 rfl 4 rfl ?_
            have hi_ := oc_1 hf
            replace hf := oc_2 hf
            refine gC_ald_6 X hK (Int32.toNatClampNeg x3) hi_ rfl dX7_scan_143 ?_
            refine gr_sipush (v := 255) X dX7_scan_144 (by decide) ?_
            refine gr_iand X dX7_scan_147 ?_
            refine gr_iadd X dX7_scan_148 ?_
            refine gr_iload_n X dX7_scan_149 rfl 4 rfl ?_
            refine gr_iconst (v := 0) X dX7_scan_150 (by decide) ?_
            obtain ⟨τ7, hq_, hf⟩ := ot_b hf
            refine gc_Vv (rest := []) X kC_ok hK hA cw7_43 (rvC_RD hK) (xc_rd_note hq_) rfl ⟨rfl, rfl, Nat.le_of_ble_eq_true rfl, Nat.le_of_ble_eq_true rfl⟩ rfl (Nat.le_of_ble_eq_true rfl) dX7_scan_151 ?_
            refine gr_sub [1, 2, 3, 0] rfl ?_
            exact wc_rd_scan_a6_b154 X hK hA ih _ _ _ hf
        · replace hf := ot_f hf hc_
          refine gr_sub [1, 2, 3, 4, 0] rfl ?_
          refine wc_rd_scan_a6_l78 X hK hA ih (fun x2 x3 x4 τ hf => ?_) hFU _ _ _ _ hf
          refine gr_sub [0, 1, 2, 3, 4] rfl ?_
          exact wc_rd_scan_a6_b100 X hK hA ih _ _ _ _ hf
      · replace hf := ot_f hf hc_
        refine gr_sub [1, 2, 3, 4, 0] rfl ?_
        refine wc_rd_scan_a6_l31 X hK hA ih (fun x2 x3 x4 τ hf => ?_) hFU _ _ _ _ hf
        refine gr_sub [0, 1, 2, 3, 4] rfl ?_
        exact wc_rd_scan_a6_b53 X hK hA ih _ _ _ _ hf
set_option maxHeartbeats 4000000 in
set_option maxRecDepth 100000 in
theorem xc_rd_scan_a6 {l : Launch} {D : va_G} {cs : Nat → ClassId} {sK sV : Nat → Nat} {tA : Nat} {ad : Nat → Nat} {τ : SC} {x2 : Int32} {υ : SC} (hf : fc_rd_scan_a6 x2 τ = some υ) : ctV l (wC ad cs) D vwCl (kC D cs sK sV tA) yX7_scan cX7_scan 5 ro_rd_scan_a6 [.ref (ad 330), .ref (ad 6), .int x2] τ υ := by
  refine ct_V RX7 (by decide +kernel) rfl (Nat.le_of_ble_eq_true rfl) ?_
  intro p e s m args below meth c A X hK hA
  refine gr_eqL (L2 := [(0, .ref (ad 330)), (1, .ref (ad 6)), (2, .int x2)]) rfl ?_
  unfold fc_rd_scan_a6 at hf
  refine gr_aload_n X dX7_scan_0 rfl 0 rfl ?_
  refine gr_iconst (v := 0) X dX7_scan_1 (by decide) ?_
  refine gC_put_RD_4 X hK fk7_28 dX7_scan_2 ?_
  refine gC_gen (fun τ1 e_τ1 => ?_)
  replace hf := ot_l hf e_τ1
  refine gr_aload_n X dX7_scan_5 rfl 0 rfl ?_
  refine gr_iload_n X dX7_scan_6 rfl 2 rfl ?_
  refine gC_put_RD_5 X hK fk7_32 dX7_scan_7 ?_
  refine gC_gen (fun τ2 e_τ2 => ?_)
  replace hf := ot_l hf e_τ2
  refine gr_iconst (v := 0) X dX7_scan_10 (by decide) ?_
  refine gr_istore_n (L2 := [(3, .int (0 : Int32)), (0, .ref (ad 330)), (1, .ref (ad 6)), (2, .int x2)]) X dX7_scan_11 rfl (by decide) rfl ?_
  refine gr_sub [1, 2, 3, 0] rfl ?_
  refine wc_rd_scan_a6_l12 X hK hA  hFU _ _ _ hf
abbrev ro_ru_clear_R2 : Room := { frames := 0, cells := 0, slots := 0, locals := 0 }
def fc_ru_clear_R2 (τ : SC) : Option SC := (hl (sc τ 320 (fun _ => (0 : Int32))) fun τ1 => (hl (sc τ1 325 (fun _ => (0 : Int32))) fun τ2 => (some τ2)))
set_option maxHeartbeats 4000000 in
set_option maxRecDepth 100000 in
theorem xc_ru_clear_R2 {l : Launch} {D : va_G} {cs : Nat → ClassId} {sK sV : Nat → Nat} {tA : Nat} {ad : Nat → Nat} {τ : SC} {υ : SC} (hf : fc_ru_clear_R2 τ = some υ) : ctV l (wC ad cs) D vwCl (kC D cs sK sV tA) yX8_clear cX8_clear 1 ro_ru_clear_R2 [.ref (ad 331)] τ υ := by
  refine ct_V RX8 (by decide +kernel) rfl (Nat.le_of_ble_eq_true rfl) ?_
  intro p e s m args below meth c A X hK hA
  refine gr_eqL (L2 := [(0, .ref (ad 331))]) rfl ?_
  unfold fc_ru_clear_R2 at hf
  refine gr_aload_n X dX8_clear_0 rfl 0 rfl ?_
  refine gr_iconst (v := 0) X dX8_clear_1 (by decide) ?_
  refine gC_put_R2_0 X hK fk8_30 dX8_clear_2 ?_
  refine gC_gen (fun τ1 e_τ1 => ?_)
  replace hf := ot_l hf e_τ1
  refine gr_aload_n X dX8_clear_5 rfl 0 rfl ?_
  refine gr_iconst (v := 0) X dX8_clear_6 (by decide) ?_
  refine gC_put_R2_5 X hK fk8_40 dX8_clear_7 ?_
  refine gC_gen (fun τ2 e_τ2 => ?_)
  replace hf := ot_l hf e_τ2
  exact gr_vret X dX8_clear_10 (Option.some.inj hf)
abbrev ro_rd_advance : Room := { frames := 0, cells := 0, slots := 0, locals := 0 }
def fc_rd_advance_b53 (x1 : Int32) (y0 : Int32) (τ : SC) : Option SC := (hl (sc τ 307 (fun _ => y0)) fun τ2 => (if x1 = 0 then (hl (sc τ2 308 (fun _ => (τ2.1 305 0))) fun τ3 => (some τ3)) else (oc (hin (τ2.1 306 0) 200) (hl (sc τ2 308 (fun _ => (τ2.1 302 (Int32.toNatClampNeg (τ2.1 306 0))))) fun τ4 => (some τ4)))))
def fc_rd_advance_b33 (y0 : Int32) (τ : SC) : Option SC := (if y0 = 0 then (fc_rd_advance_b53 y0 (20 : Int32) τ) else (oc (hin (τ.1 306 0) 200) (fc_rd_advance_b53 y0 (τ.1 301 (Int32.toNatClampNeg (τ.1 306 0))) τ)))
def fc_rd_advance_b32 (τ : SC) : Option SC := (fc_rd_advance_b33 (0 : Int32) τ)
def fc_rd_advance (τ : SC) : Option SC := (hl (sc τ 306 (fun _ => ((τ.1 306 0) + (1 : Int32)))) fun τ1 => (if (τ1.1 306 0) < 0 then (fc_rd_advance_b32 τ1) else (if (τ1.1 304 0) ≤ (τ1.1 306 0) then (fc_rd_advance_b32 τ1) else (fc_rd_advance_b33 (1 : Int32) τ1))))
set_option maxHeartbeats 4000000 in
set_option maxRecDepth 100000 in
theorem wc_rd_advance_b53 {p : Program} {l : Launch} {e : Env} {s : State} {m : MethodId} {args : Array Value} {below : List Frame} {meth : Method} {c : Code} {A : Nat → Prop} {D : va_G} {cs : Nat → ClassId} {sK sV : Nat → Nat} {tA : Nat} {ad : Nat → Nat} {υ : SC} (X : hc p s m args meth c RX7 cX7_advance 2 none) (hK : kC D cs sK sV tA A s) (hA : ∀ q, s.heap.size ≤ q → A q)   (x1 : Int32) (y0 : Int32) (τ : SC) (hf : fc_rd_advance_b53 x1 y0 τ = some υ) : gg p l e ro_rd_advance s m args below meth c (wC ad cs) D vwCl A 2 (QV below args s (wC ad cs) D vwCl A υ) 53 [(0, .ref (ad 330)), (1, .int x1)] [.int y0, .ref (ad 330)] τ := by
  unfold fc_rd_advance_b53 at hf
  refine gC_put_RD_7 X hK fk7_116 dX7_advance_53 ?_
  refine gC_gen (fun τ2 e_τ2 => ?_)
  replace hf := ot_l hf e_τ2
  refine gr_aload_n X dX7_advance_56 rfl 0 rfl ?_
  refine gr_iload_n X dX7_advance_57 rfl 1 rfl ?_
  refine gr_if_eq X 73 dX7_advance_58 (by decide) (fun hc_ => ?_) (fun hc_ => ?_)
  · replace hf := ot_t hf hc_
    refine gr_aload_n X dX7_advance_73 rfl 0 rfl ?_
    refine gC_get_RD_5 X hK fk7_32 dX7_advance_74 ?_
    refine gC_put_RD_8 X hK fk7_123 dX7_advance_77 ?_
    refine gC_gen (fun τ3 e_τ3 => ?_)
    replace hf := ot_l hf e_τ3
    exact gr_vret X dX7_advance_80 (Option.some.inj hf)
  · replace hf := ot_f hf hc_
    refine gr_aload_n X dX7_advance_61 rfl 0 rfl ?_
    refine gC_get_RD_2 X hK fk7_22 dX7_advance_62 ?_
    refine gr_aload_n X dX7_advance_65 rfl 0 rfl ?_
    refine gC_get_RD_6 X hK fk7_110 dX7_advance_66 ?_
    have hi_ := oc_1 hf
    replace hf := oc_2 hf
    refine gC_ald_302 X hK (Int32.toNatClampNeg (τ2.1 306 0)) hi_ rfl dX7_advance_69 ?_
    refine gr_goto X 77 dX7_advance_70 (by decide) ?_
    refine gC_put_RD_8 X hK fk7_123 dX7_advance_77 ?_
    refine gC_gen (fun τ4 e_τ4 => ?_)
    replace hf := ot_l hf e_τ4
    exact gr_vret X dX7_advance_80 (Option.some.inj hf)
set_option maxHeartbeats 4000000 in
set_option maxRecDepth 100000 in
theorem wc_rd_advance_b33 {p : Program} {l : Launch} {e : Env} {s : State} {m : MethodId} {args : Array Value} {below : List Frame} {meth : Method} {c : Code} {A : Nat → Prop} {D : va_G} {cs : Nat → ClassId} {sK sV : Nat → Nat} {tA : Nat} {ad : Nat → Nat} {υ : SC} (X : hc p s m args meth c RX7 cX7_advance 2 none) (hK : kC D cs sK sV tA A s) (hA : ∀ q, s.heap.size ≤ q → A q)   (y0 : Int32) (τ : SC) (hf : fc_rd_advance_b33 y0 τ = some υ) : gg p l e ro_rd_advance s m args below meth c (wC ad cs) D vwCl A 2 (QV below args s (wC ad cs) D vwCl A υ) 33 [(0, .ref (ad 330))] [.int y0] τ := by
  unfold fc_rd_advance_b33 at hf
  refine gr_istore_n (L2 := [(1, .int y0), (0, .ref (ad 330))]) X dX7_advance_33 rfl (by decide) rfl ?_
  refine gr_aload_n X dX7_advance_34 rfl 1 rfl ?_
  refine gr_iload_n X dX7_advance_35 rfl 0 rfl ?_
  refine gr_if_eq X 51 dX7_advance_36 (by decide) (fun hc_ => ?_) (fun hc_ => ?_)
  · replace hf := ot_t hf hc_
    refine gr_bipush (v := 20) X dX7_advance_51 (by decide) ?_
    refine gr_sub [1, 0] rfl ?_
    exact wc_rd_advance_b53 X hK hA _ _ _ hf
  · replace hf := ot_f hf hc_
    refine gr_aload_n X dX7_advance_39 rfl 1 rfl ?_
    refine gC_get_RD_1 X hK fk7_18 dX7_advance_40 ?_
    refine gr_aload_n X dX7_advance_43 rfl 1 rfl ?_
    refine gC_get_RD_6 X hK fk7_110 dX7_advance_44 ?_
    have hi_ := oc_1 hf
    replace hf := oc_2 hf
    refine gC_ald_301 X hK (Int32.toNatClampNeg (τ.1 306 0)) hi_ rfl dX7_advance_47 ?_
    refine gr_goto X 53 dX7_advance_48 (by decide) ?_
    refine gr_sub [1, 0] rfl ?_
    exact wc_rd_advance_b53 X hK hA _ _ _ hf
set_option maxHeartbeats 4000000 in
set_option maxRecDepth 100000 in
theorem wc_rd_advance_b32 {p : Program} {l : Launch} {e : Env} {s : State} {m : MethodId} {args : Array Value} {below : List Frame} {meth : Method} {c : Code} {A : Nat → Prop} {D : va_G} {cs : Nat → ClassId} {sK sV : Nat → Nat} {tA : Nat} {ad : Nat → Nat} {υ : SC} (X : hc p s m args meth c RX7 cX7_advance 2 none) (hK : kC D cs sK sV tA A s) (hA : ∀ q, s.heap.size ≤ q → A q)   (τ : SC) (hf : fc_rd_advance_b32 τ = some υ) : gg p l e ro_rd_advance s m args below meth c (wC ad cs) D vwCl A 2 (QV below args s (wC ad cs) D vwCl A υ) 32 [(0, .ref (ad 330))] [] τ := by
  unfold fc_rd_advance_b32 at hf
  refine gr_iconst (v := 0) X dX7_advance_32 (by decide) ?_
  refine gr_sub [0] rfl ?_
  exact wc_rd_advance_b33 X hK hA _ _ hf
set_option maxHeartbeats 4000000 in
set_option maxRecDepth 100000 in
theorem xc_rd_advance {l : Launch} {D : va_G} {cs : Nat → ClassId} {sK sV : Nat → Nat} {tA : Nat} {ad : Nat → Nat} {τ : SC} {υ : SC} (hf : fc_rd_advance τ = some υ) : ctV l (wC ad cs) D vwCl (kC D cs sK sV tA) yX7_advance cX7_advance 2 ro_rd_advance [.ref (ad 330)] τ υ := by
  refine ct_V RX7 (by decide +kernel) rfl (Nat.le_of_ble_eq_true rfl) ?_
  intro p e s m args below meth c A X hK hA
  refine gr_eqL (L2 := [(0, .ref (ad 330))]) rfl ?_
  unfold fc_rd_advance at hf
  refine gr_aload_n X dX7_advance_0 rfl 0 rfl ?_
  refine gr_dup X dX7_advance_1 rfl ?_
  refine gC_get_RD_6 X hK fk7_110 dX7_advance_2 ?_
  refine gr_iconst (v := 1) X dX7_advance_5 (by decide) ?_
  refine gr_iadd X dX7_advance_6 ?_
  refine gC_put_RD_6 X hK fk7_110 dX7_advance_7 ?_
  refine gC_gen (fun τ1 e_τ1 => ?_)
  replace hf := ot_l hf e_τ1
  refine gr_aload_n X dX7_advance_10 rfl 0 rfl ?_
  refine gC_get_RD_6 X hK fk7_110 dX7_advance_11 ?_
  refine gr_if_lt X 32 dX7_advance_14 (by decide) (fun hc_ => ?_) (fun hc_ => ?_)
  · replace hf := ot_t hf hc_
    refine gr_sub [0] rfl ?_
    exact wc_rd_advance_b32 X hK hA _ hf
  · replace hf := ot_f hf hc_
    refine gr_aload_n X dX7_advance_17 rfl 0 rfl ?_
    refine gC_get_RD_6 X hK fk7_110 dX7_advance_18 ?_
    refine gr_aload_n X dX7_advance_21 rfl 0 rfl ?_
    refine gC_get_RD_4 X hK fk7_28 dX7_advance_22 ?_
    refine gr_icmp_ge X 32 dX7_advance_25 (by decide) (fun hc_ => ?_) (fun hc_ => ?_)
    · replace hf := ot_t hf hc_
      refine gr_sub [0] rfl ?_
      exact wc_rd_advance_b32 X hK hA _ hf
    · replace hf := ot_f hf hc_
      refine gr_iconst (v := 1) X dX7_advance_28 (by decide) ?_
      refine gr_goto X 33 dX7_advance_29 (by decide) ?_
      refine gr_sub [0] rfl ?_
      exact wc_rd_advance_b33 X hK hA _ _ hf
abbrev ro_ru_close_R2 : Room := { frames := 0, cells := 0, slots := 0, locals := 0 }
def fc_ru_close_R2 (x1 : Int32) (x2 : Int32) (τ : SC) : Option SC := (if (8 : Int32) ≤ (τ.1 320 0) then (some τ) else (oc (hin (τ.1 320 0) 8) (hl (sc τ 321 (upd (τ.1 321) (Int32.toNatClampNeg (τ.1 320 0)) x1)) fun τ1 => (oc (hin (τ1.1 320 0) 8) (hl (sc τ1 322 (upd (τ1.1 322) (Int32.toNatClampNeg (τ1.1 320 0)) x2)) fun τ2 => (oc (hin (τ2.1 320 0) 8) (hl (sc τ2 323 (upd (τ2.1 323) (Int32.toNatClampNeg (τ2.1 320 0)) (τ2.1 325 0))) fun τ3 => (hl (sc τ3 320 (fun _ => ((τ3.1 320 0) + (1 : Int32)))) fun τ4 => (some τ4)))))))))
set_option maxHeartbeats 4000000 in
set_option maxRecDepth 100000 in
theorem xc_ru_close_R2 {l : Launch} {D : va_G} {cs : Nat → ClassId} {sK sV : Nat → Nat} {tA : Nat} {ad : Nat → Nat} {τ : SC} {x1 : Int32} {x2 : Int32} {υ : SC} (hf : fc_ru_close_R2 x1 x2 τ = some υ) : ctV l (wC ad cs) D vwCl (kC D cs sK sV tA) yX8_close cX8_close 3 ro_ru_close_R2 [.ref (ad 331), .int x1, .int x2] τ υ := by
  refine ct_V RX8 (by decide +kernel) rfl (Nat.le_of_ble_eq_true rfl) ?_
  intro p e s m args below meth c A X hK hA
  refine gr_eqL (L2 := [(0, .ref (ad 331)), (1, .int x1), (2, .int x2)]) rfl ?_
  unfold fc_ru_close_R2 at hf
  refine gr_aload_n X dX8_close_0 rfl 0 rfl ?_
  refine gC_get_R2_0 X hK fk8_30 dX8_close_1 ?_
  refine gr_bipush (v := 8) X dX8_close_4 (by decide) ?_
  refine gr_icmp_ge X 52 dX8_close_6 (by decide) (fun hc_ => ?_) (fun hc_ => ?_)
  · replace hf := ot_t hf hc_
    exact gr_vret X dX8_close_52 (Option.some.inj hf)
  · replace hf := ot_f hf hc_
    refine gr_aload_n X dX8_close_9 rfl 0 rfl ?_
    refine gC_get_R2_1 X hK fk8_9 dX8_close_10 ?_
    refine gr_aload_n X dX8_close_13 rfl 0 rfl ?_
    refine gC_get_R2_0 X hK fk8_30 dX8_close_14 ?_
    refine gr_iload_n X dX8_close_17 rfl 1 rfl ?_
    have hi_ := oc_1 hf
    replace hf := oc_2 hf
    refine gC_ast_321 X hK (Int32.toNatClampNeg (τ.1 320 0)) hi_ rfl dX8_close_18 ?_
    refine gC_gen (fun τ1 e_τ1 => ?_)
    replace hf := ot_l hf e_τ1
    refine gr_aload_n X dX8_close_19 rfl 0 rfl ?_
    refine gC_get_R2_2 X hK fk8_15 dX8_close_20 ?_
    refine gr_aload_n X dX8_close_23 rfl 0 rfl ?_
    refine gC_get_R2_0 X hK fk8_30 dX8_close_24 ?_
    refine gr_iload_n X dX8_close_27 rfl 2 rfl ?_
    have hi_ := oc_1 hf
    replace hf := oc_2 hf
    refine gC_ast_322 X hK (Int32.toNatClampNeg (τ1.1 320 0)) hi_ rfl dX8_close_28 ?_
    refine gC_gen (fun τ2 e_τ2 => ?_)
    replace hf := ot_l hf e_τ2
    refine gr_aload_n X dX8_close_29 rfl 0 rfl ?_
    refine gC_get_R2_3 X hK fk8_18 dX8_close_30 ?_
    refine gr_aload_n X dX8_close_33 rfl 0 rfl ?_
    refine gC_get_R2_0 X hK fk8_30 dX8_close_34 ?_
    refine gr_aload_n X dX8_close_37 rfl 0 rfl ?_
    refine gC_get_R2_5 X hK fk8_40 dX8_close_38 ?_
    have hi_ := oc_1 hf
    replace hf := oc_2 hf
    refine gC_ast_323 X hK (Int32.toNatClampNeg (τ2.1 320 0)) hi_ rfl dX8_close_41 ?_
    refine gC_gen (fun τ3 e_τ3 => ?_)
    replace hf := ot_l hf e_τ3
    refine gr_aload_n X dX8_close_42 rfl 0 rfl ?_
    refine gr_dup X dX8_close_43 rfl ?_
    refine gC_get_R2_0 X hK fk8_30 dX8_close_44 ?_
    refine gr_iconst (v := 1) X dX8_close_47 (by decide) ?_
    refine gr_iadd X dX8_close_48 ?_
    refine gC_put_R2_0 X hK fk8_30 dX8_close_49 ?_
    refine gC_gen (fun τ4 e_τ4 => ?_)
    replace hf := ot_l hf e_τ4
    exact gr_vret X dX8_close_52 (Option.some.inj hf)
abbrev ro_rd_isOperand : Room := { frames := 0, cells := 0, slots := 0, locals := 0 }
def fc_rd_isOperand (τ : SC) : Option Int32 := (if (τ.1 307 0) = (19 : Int32) then (some (1 : Int32)) else (if (τ.1 307 0) < (13 : Int32) then (some (0 : Int32)) else (if (17 : Int32) < (τ.1 307 0) then (some (0 : Int32)) else (some (1 : Int32)))))
set_option maxHeartbeats 4000000 in
set_option maxRecDepth 100000 in
theorem xc_rd_isOperand {l : Launch} {D : va_G} {cs : Nat → ClassId} {sK sV : Nat → Nat} {tA : Nat} {ad : Nat → Nat} {τ : SC} {r : Int32} (hf : fc_rd_isOperand τ = some r) : ctI l (wC ad cs) D vwCl (kC D cs sK sV tA) yX7_isOperand cX7_isOperand 1 .boolean ro_rd_isOperand [.ref (ad 330)] τ r τ := by
  refine ct_I RX7 (by decide +kernel) rfl (Nat.le_of_ble_eq_true rfl) ?_
  intro p e s m args below meth c A X hK hA
  refine gr_eqL (L2 := [(0, .ref (ad 330))]) rfl ?_
  unfold fc_rd_isOperand at hf
  refine gr_aload_n X dX7_isOperand_0 rfl 0 rfl ?_
  refine gC_get_RD_7 X hK fk7_116 dX7_isOperand_1 ?_
  refine gr_bipush (v := 19) X dX7_isOperand_4 (by decide) ?_
  refine gr_icmp_eq X 27 dX7_isOperand_6 (by decide) (fun hc_ => ?_) (fun hc_ => ?_)
  · replace hf := ot_t hf hc_
    refine gr_iconst (v := 1) X dX7_isOperand_27 (by decide) ?_
    refine gr_goto X 32 dX7_isOperand_28 (by decide) ?_
    exact gr_zret X dX7_isOperand_32 (by decide) (Option.some.inj hf) rfl
  · replace hf := ot_f hf hc_
    refine gr_aload_n X dX7_isOperand_9 rfl 0 rfl ?_
    refine gC_get_RD_7 X hK fk7_116 dX7_isOperand_10 ?_
    refine gr_bipush (v := 13) X dX7_isOperand_13 (by decide) ?_
    refine gr_icmp_lt X 31 dX7_isOperand_15 (by decide) (fun hc_ => ?_) (fun hc_ => ?_)
    · replace hf := ot_t hf hc_
      refine gr_iconst (v := 0) X dX7_isOperand_31 (by decide) ?_
      exact gr_zret X dX7_isOperand_32 (by decide) (Option.some.inj hf) rfl
    · replace hf := ot_f hf hc_
      refine gr_aload_n X dX7_isOperand_18 rfl 0 rfl ?_
      refine gC_get_RD_7 X hK fk7_116 dX7_isOperand_19 ?_
      refine gr_bipush (v := 17) X dX7_isOperand_22 (by decide) ?_
      refine gr_icmp_gt X 31 dX7_isOperand_24 (by decide) (fun hc_ => ?_) (fun hc_ => ?_)
      · replace hf := ot_t hf hc_
        refine gr_iconst (v := 0) X dX7_isOperand_31 (by decide) ?_
        exact gr_zret X dX7_isOperand_32 (by decide) (Option.some.inj hf) rfl
      · replace hf := ot_f hf hc_
        refine gr_iconst (v := 1) X dX7_isOperand_27 (by decide) ?_
        refine gr_goto X 32 dX7_isOperand_28 (by decide) ?_
        exact gr_zret X dX7_isOperand_32 (by decide) (Option.some.inj hf) rfl
abbrev ro_rd_operand : Room := { frames := 0, cells := 0, slots := 0, locals := 0 }
def fc_rd_operand_b28 (τ : SC) : Option Int32 := (if (τ.1 306 0) < 0 then (some (0 : Int32)) else (if (τ.1 304 0) ≤ (τ.1 306 0) then (some (0 : Int32)) else (oc (hin (τ.1 306 0) 200) (some (τ.1 303 (Int32.toNatClampNeg (τ.1 306 0)))))))
def fc_rd_operand (τ : SC) : Option Int32 := (if (τ.1 307 0) < (13 : Int32) then (fc_rd_operand_b28 τ) else (if (17 : Int32) < (τ.1 307 0) then (fc_rd_operand_b28 τ) else (some ((-1 : Int32) - ((τ.1 307 0) - (13 : Int32))))))
set_option maxHeartbeats 4000000 in
set_option maxRecDepth 100000 in
theorem wc_rd_operand_b28 {p : Program} {l : Launch} {e : Env} {s : State} {m : MethodId} {args : Array Value} {below : List Frame} {meth : Method} {c : Code} {A : Nat → Prop} {D : va_G} {cs : Nat → ClassId} {sK sV : Nat → Nat} {tA : Nat} {ad : Nat → Nat} {r : Int32} {τ : SC} (X : hc p s m args meth c RX7 cX7_operand 1 (some .int)) (hK : kC D cs sK sV tA A s) (hA : ∀ q, s.heap.size ≤ q → A q)   (hf : fc_rd_operand_b28 τ = some r) : gg p l e ro_rd_operand s m args below meth c (wC ad cs) D vwCl A 1 (QI below args s (wC ad cs) D vwCl A r τ) 28 [(0, .ref (ad 330))] [] τ := by
  unfold fc_rd_operand_b28 at hf
  refine gr_aload_n X dX7_operand_28 rfl 0 rfl ?_
  refine gC_get_RD_6 X hK fk7_110 dX7_operand_29 ?_
  refine gr_if_lt X 58 dX7_operand_32 (by decide) (fun hc_ => ?_) (fun hc_ => ?_)
  · replace hf := ot_t hf hc_
    refine gr_iconst (v := 0) X dX7_operand_58 (by decide) ?_
    exact gr_iret X dX7_operand_59 (Option.some.inj hf) rfl
  · replace hf := ot_f hf hc_
    refine gr_aload_n X dX7_operand_35 rfl 0 rfl ?_
    refine gC_get_RD_6 X hK fk7_110 dX7_operand_36 ?_
    refine gr_aload_n X dX7_operand_39 rfl 0 rfl ?_
    refine gC_get_RD_4 X hK fk7_28 dX7_operand_40 ?_
    refine gr_icmp_ge X 58 dX7_operand_43 (by decide) (fun hc_ => ?_) (fun hc_ => ?_)
    · replace hf := ot_t hf hc_
      refine gr_iconst (v := 0) X dX7_operand_58 (by decide) ?_
      exact gr_iret X dX7_operand_59 (Option.some.inj hf) rfl
    · replace hf := ot_f hf hc_
      refine gr_aload_n X dX7_operand_46 rfl 0 rfl ?_
      refine gC_get_RD_3 X hK fk7_25 dX7_operand_47 ?_
      refine gr_aload_n X dX7_operand_50 rfl 0 rfl ?_
      refine gC_get_RD_6 X hK fk7_110 dX7_operand_51 ?_
      have hi_ := oc_1 hf
      replace hf := oc_2 hf
      refine gC_ald_303 X hK (Int32.toNatClampNeg (τ.1 306 0)) hi_ rfl dX7_operand_54 ?_
      refine gr_goto X 59 dX7_operand_55 (by decide) ?_
      exact gr_iret X dX7_operand_59 (Option.some.inj hf) rfl
set_option maxHeartbeats 4000000 in
set_option maxRecDepth 100000 in
theorem xc_rd_operand {l : Launch} {D : va_G} {cs : Nat → ClassId} {sK sV : Nat → Nat} {tA : Nat} {ad : Nat → Nat} {τ : SC} {r : Int32} (hf : fc_rd_operand τ = some r) : ctI l (wC ad cs) D vwCl (kC D cs sK sV tA) yX7_operand cX7_operand 1 .int ro_rd_operand [.ref (ad 330)] τ r τ := by
  refine ct_I RX7 (by decide +kernel) rfl (Nat.le_of_ble_eq_true rfl) ?_
  intro p e s m args below meth c A X hK hA
  refine gr_eqL (L2 := [(0, .ref (ad 330))]) rfl ?_
  unfold fc_rd_operand at hf
  refine gr_aload_n X dX7_operand_0 rfl 0 rfl ?_
  refine gC_get_RD_7 X hK fk7_116 dX7_operand_1 ?_
  refine gr_bipush (v := 13) X dX7_operand_4 (by decide) ?_
  refine gr_icmp_lt X 28 dX7_operand_6 (by decide) (fun hc_ => ?_) (fun hc_ => ?_)
  · replace hf := ot_t hf hc_
    refine gr_sub [0] rfl ?_
    exact wc_rd_operand_b28 X hK hA  hf
  · replace hf := ot_f hf hc_
    refine gr_aload_n X dX7_operand_9 rfl 0 rfl ?_
    refine gC_get_RD_7 X hK fk7_116 dX7_operand_10 ?_
    refine gr_bipush (v := 17) X dX7_operand_13 (by decide) ?_
    refine gr_icmp_gt X 28 dX7_operand_15 (by decide) (fun hc_ => ?_) (fun hc_ => ?_)
    · replace hf := ot_t hf hc_
      refine gr_sub [0] rfl ?_
      exact wc_rd_operand_b28 X hK hA  hf
    · replace hf := ot_f hf hc_
      refine gr_iconst (v := -1) X dX7_operand_18 (by decide) ?_
      refine gr_aload_n X dX7_operand_19 rfl 0 rfl ?_
      refine gC_get_RD_7 X hK fk7_116 dX7_operand_20 ?_
      refine gr_bipush (v := 13) X dX7_operand_23 (by decide) ?_
      refine gr_isub X dX7_operand_25 ?_
      refine gr_isub X dX7_operand_26 ?_
      exact gr_iret X dX7_operand_27 (Option.some.inj hf) rfl
abbrev ro_ru_emit_R2 : Room := { frames := 0, cells := 0, slots := 0, locals := 0 }
def fc_ru_emit_R2 (x1 : Int32) (τ : SC) : Option SC := (if (200 : Int32) ≤ (τ.1 325 0) then (some τ) else (oc (hin (τ.1 325 0) 200) (hl (sc τ 324 (upd (τ.1 324) (Int32.toNatClampNeg (τ.1 325 0)) x1)) fun τ1 => (hl (sc τ1 325 (fun _ => ((τ1.1 325 0) + (1 : Int32)))) fun τ2 => (some τ2)))))
set_option maxHeartbeats 4000000 in
set_option maxRecDepth 100000 in
theorem xc_ru_emit_R2 {l : Launch} {D : va_G} {cs : Nat → ClassId} {sK sV : Nat → Nat} {tA : Nat} {ad : Nat → Nat} {τ : SC} {x1 : Int32} {υ : SC} (hf : fc_ru_emit_R2 x1 τ = some υ) : ctV l (wC ad cs) D vwCl (kC D cs sK sV tA) yX8_emit cX8_emit 2 ro_ru_emit_R2 [.ref (ad 331), .int x1] τ υ := by
  refine ct_V RX8 (by decide +kernel) rfl (Nat.le_of_ble_eq_true rfl) ?_
  intro p e s m args below meth c A X hK hA
  refine gr_eqL (L2 := [(0, .ref (ad 331)), (1, .int x1)]) rfl ?_
  unfold fc_ru_emit_R2 at hf
  refine gr_aload_n X dX8_emit_0 rfl 0 rfl ?_
  refine gC_get_R2_5 X hK fk8_40 dX8_emit_1 ?_
  refine gr_sipush (v := 200) X dX8_emit_4 (by decide) ?_
  refine gr_icmp_ge X 30 dX8_emit_7 (by decide) (fun hc_ => ?_) (fun hc_ => ?_)
  · replace hf := ot_t hf hc_
    exact gr_vret X dX8_emit_30 (Option.some.inj hf)
  · replace hf := ot_f hf hc_
    refine gr_aload_n X dX8_emit_10 rfl 0 rfl ?_
    refine gC_get_R2_4 X hK fk8_21 dX8_emit_11 ?_
    refine gr_aload_n X dX8_emit_14 rfl 0 rfl ?_
    refine gC_get_R2_5 X hK fk8_40 dX8_emit_15 ?_
    refine gr_iload_n X dX8_emit_18 rfl 1 rfl ?_
    have hi_ := oc_1 hf
    replace hf := oc_2 hf
    refine gC_ast_324 X hK (Int32.toNatClampNeg (τ.1 325 0)) hi_ rfl dX8_emit_19 ?_
    refine gC_gen (fun τ1 e_τ1 => ?_)
    replace hf := ot_l hf e_τ1
    refine gr_aload_n X dX8_emit_20 rfl 0 rfl ?_
    refine gr_dup X dX8_emit_21 rfl ?_
    refine gC_get_R2_5 X hK fk8_40 dX8_emit_22 ?_
    refine gr_iconst (v := 1) X dX8_emit_25 (by decide) ?_
    refine gr_iadd X dX8_emit_26 ?_
    refine gC_put_R2_5 X hK fk8_40 dX8_emit_27 ?_
    refine gC_gen (fun τ2 e_τ2 => ?_)
    replace hf := ot_l hf e_τ2
    exact gr_vret X dX8_emit_30 (Option.some.inj hf)
abbrev ro_rd_readComparison : Room := { frames := 1, cells := 0, slots := 0, locals := 21 }
def fc_rd_readComparison_b65 (x1 : Int32) (x2 : Int32) (τ : SC) : Option (Int32 × SC) := (Option.bind (fc_rd_advance τ) fun τ6 => (Option.bind (fc_rd_isOperand τ6) fun q7 => (if ¬ q7 = 0 then (Option.bind (fc_ru_emit_R2 x2 τ6) fun τ9 => (Option.bind (fc_ru_emit_R2 x1 τ9) fun τ11 => (Option.bind (fc_rd_operand τ11) fun q12 => (Option.bind (fc_ru_emit_R2 q12 τ11) fun τ14 => (Option.bind (fc_rd_advance τ14) fun τ16 => (some ((1 : Int32), τ16))))))) else (some ((0 : Int32), τ6)))))
def fc_rd_readComparison_b47 (x1 : Int32) (y0 : Int32) (τ : SC) : Option (Int32 × SC) := (if ¬ y0 = (5 : Int32) then (fc_rd_readComparison_b65 x1 y0 τ) else (if (τ.1 307 0) = (162 : Int32) then (fc_rd_readComparison_b65 x1 y0 τ) else (some ((0 : Int32), τ))))
def fc_rd_readComparison (τ : SC) : Option (Int32 × SC) := (Option.bind (fc_rd_isOperand τ) fun q1 => (if ¬ q1 = 0 then (Option.bind (fc_rd_operand τ) fun q2 => (Option.bind (fc_rd_advance τ) fun τ4 => (if ¬ (τ4.1 307 0) = (160 : Int32) then (if ¬ (τ4.1 307 0) = (161 : Int32) then (fc_rd_readComparison_b47 q2 (5 : Int32) τ4) else (fc_rd_readComparison_b47 q2 (4 : Int32) τ4)) else (fc_rd_readComparison_b47 q2 (3 : Int32) τ4)))) else (some ((0 : Int32), τ))))
set_option maxHeartbeats 4000000 in
set_option maxRecDepth 100000 in
theorem wc_rd_readComparison_b65 {p : Program} {l : Launch} {e : Env} {s : State} {m : MethodId} {args : Array Value} {below : List Frame} {meth : Method} {c : Code} {A : Nat → Prop} {D : va_G} {cs : Nat → ClassId} {sK sV : Nat → Nat} {tA : Nat} {ad : Nat → Nat} {r : Int32} {υ : SC} (X : hc p s m args meth c RX7 cX7_readComparison 3 (some .boolean)) (hK : kC D cs sK sV tA A s) (hA : ∀ q, s.heap.size ≤ q → A q)   (x1 : Int32) (x2 : Int32) (τ : SC) (hf : fc_rd_readComparison_b65 x1 x2 τ = some (r, υ)) : gg p l e ro_rd_readComparison s m args below meth c (wC ad cs) D vwCl A 3 (QI below args s (wC ad cs) D vwCl A r υ) 65 [(0, .ref (ad 330)), (1, .int x1), (2, .int x2)] [] τ := by
  unfold fc_rd_readComparison_b65 at hf
  refine gr_aload_n X dX7_readComparison_65 rfl 0 rfl ?_
  obtain ⟨τ6, hq_, hf⟩ := ot_b hf
  refine gc_Vv (rest := []) X kC_ok hK hA cw7_113 (rvC_RD hK) (xc_rd_advance hq_) rfl ⟨rfl, rfl, Nat.le_of_ble_eq_true rfl, Nat.le_of_ble_eq_true rfl⟩ rfl (Nat.le_of_ble_eq_true rfl) dX7_readComparison_66 ?_
  refine gr_aload_n X dX7_readComparison_69 rfl 0 rfl ?_
  obtain ⟨q7, hq_, hf⟩ := ot_b hf
  refine gc_Vi (rest := []) X kC_ok hK hA cw7_150 (rvC_RD hK) (xc_rd_isOperand hq_) rfl ⟨rfl, rfl, Nat.le_of_ble_eq_true rfl, Nat.le_of_ble_eq_true rfl⟩ rfl (Nat.le_of_ble_eq_true rfl) dX7_readComparison_70 ?_
  refine gr_if_ne X 78 dX7_readComparison_73 (by decide) (fun hc_ => ?_) (fun hc_ => ?_)
  · replace hf := ot_t hf hc_
    refine gr_aload_n X dX7_readComparison_78 rfl 0 rfl ?_
    refine gC_get_RD_0 X hK fk7_12 dX7_readComparison_79 ?_
    refine gr_iload_n X dX7_readComparison_82 rfl 2 rfl ?_
    obtain ⟨τ9, hq_, hf⟩ := ot_b hf
    refine gc_Vv (rest := []) X kC_ok hK hA cw7_137 (rvC_R2 hK) (xc_ru_emit_R2 hq_) rfl ⟨rfl, rfl, Nat.le_of_ble_eq_true rfl, Nat.le_of_ble_eq_true rfl⟩ rfl (Nat.le_of_ble_eq_true rfl) dX7_readComparison_83 ?_
    refine gr_aload_n X dX7_readComparison_86 rfl 0 rfl ?_
    refine gC_get_RD_0 X hK fk7_12 dX7_readComparison_87 ?_
    refine gr_iload_n X dX7_readComparison_90 rfl 1 rfl ?_
    obtain ⟨τ11, hq_, hf⟩ := ot_b hf
    refine gc_Vv (rest := []) X kC_ok hK hA cw7_137 (rvC_R2 hK) (xc_ru_emit_R2 hq_) rfl ⟨rfl, rfl, Nat.le_of_ble_eq_true rfl, Nat.le_of_ble_eq_true rfl⟩ rfl (Nat.le_of_ble_eq_true rfl) dX7_readComparison_91 ?_
    refine gr_aload_n X dX7_readComparison_94 rfl 0 rfl ?_
    refine gC_get_RD_0 X hK fk7_12 dX7_readComparison_95 ?_
    refine gr_aload_n X dX7_readComparison_98 rfl 0 rfl ?_
    obtain ⟨q12, hq_, hf⟩ := ot_b hf
    refine gc_Vi (rest := [.ref (ad 331)]) X kC_ok hK hA cw7_153 (rvC_RD hK) (xc_rd_operand hq_) rfl ⟨rfl, rfl, Nat.le_of_ble_eq_true rfl, Nat.le_of_ble_eq_true rfl⟩ rfl (Nat.le_of_ble_eq_true rfl) dX7_readComparison_99 ?_
    obtain ⟨τ14, hq_, hf⟩ := ot_b hf
    refine gc_Vv (rest := []) X kC_ok hK hA cw7_137 (rvC_R2 hK) (xc_ru_emit_R2 hq_) rfl ⟨rfl, rfl, Nat.le_of_ble_eq_true rfl, Nat.le_of_ble_eq_true rfl⟩ rfl (Nat.le_of_ble_eq_true rfl) dX7_readComparison_102 ?_
    refine gr_aload_n X dX7_readComparison_105 rfl 0 rfl ?_
    obtain ⟨τ16, hq_, hf⟩ := ot_b hf
    refine gc_Vv (rest := []) X kC_ok hK hA cw7_113 (rvC_RD hK) (xc_rd_advance hq_) rfl ⟨rfl, rfl, Nat.le_of_ble_eq_true rfl, Nat.le_of_ble_eq_true rfl⟩ rfl (Nat.le_of_ble_eq_true rfl) dX7_readComparison_106 ?_
    refine gr_iconst (v := 1) X dX7_readComparison_109 (by decide) ?_
    exact gr_zret X dX7_readComparison_110 (by decide) (Prod.mk.inj (Option.some.inj hf)).1 (Prod.mk.inj (Option.some.inj hf)).2
  · replace hf := ot_f hf hc_
    refine gr_iconst (v := 0) X dX7_readComparison_76 (by decide) ?_
    exact gr_zret X dX7_readComparison_77 (by decide) (Prod.mk.inj (Option.some.inj hf)).1 (Prod.mk.inj (Option.some.inj hf)).2
set_option maxHeartbeats 4000000 in
set_option maxRecDepth 100000 in
theorem wc_rd_readComparison_b47 {p : Program} {l : Launch} {e : Env} {s : State} {m : MethodId} {args : Array Value} {below : List Frame} {meth : Method} {c : Code} {A : Nat → Prop} {D : va_G} {cs : Nat → ClassId} {sK sV : Nat → Nat} {tA : Nat} {ad : Nat → Nat} {r : Int32} {υ : SC} (X : hc p s m args meth c RX7 cX7_readComparison 3 (some .boolean)) (hK : kC D cs sK sV tA A s) (hA : ∀ q, s.heap.size ≤ q → A q)   (x1 : Int32) (y0 : Int32) (τ : SC) (hf : fc_rd_readComparison_b47 x1 y0 τ = some (r, υ)) : gg p l e ro_rd_readComparison s m args below meth c (wC ad cs) D vwCl A 3 (QI below args s (wC ad cs) D vwCl A r υ) 47 [(0, .ref (ad 330)), (1, .int x1)] [.int y0] τ := by
  unfold fc_rd_readComparison_b47 at hf
  refine gr_istore_n (L2 := [(2, .int y0), (0, .ref (ad 330)), (1, .int x1)]) X dX7_readComparison_47 rfl (by decide) rfl ?_
  refine gr_iload_n X dX7_readComparison_48 rfl 0 rfl ?_
  refine gr_iconst (v := 5) X dX7_readComparison_49 (by decide) ?_
  refine gr_icmp_ne X 65 dX7_readComparison_50 (by decide) (fun hc_ => ?_) (fun hc_ => ?_)
  · replace hf := ot_t hf hc_
    refine gr_sub [1, 2, 0] rfl ?_
    exact wc_rd_readComparison_b65 X hK hA _ _ _ hf
  · replace hf := ot_f hf hc_
    refine gr_aload_n X dX7_readComparison_53 rfl 1 rfl ?_
    refine gC_get_RD_7 X hK fk7_116 dX7_readComparison_54 ?_
    refine gr_sipush (v := 162) X dX7_readComparison_57 (by decide) ?_
    refine gr_icmp_eq X 65 dX7_readComparison_60 (by decide) (fun hc_ => ?_) (fun hc_ => ?_)
    · replace hf := ot_t hf hc_
      refine gr_sub [1, 2, 0] rfl ?_
      exact wc_rd_readComparison_b65 X hK hA _ _ _ hf
    · replace hf := ot_f hf hc_
      refine gr_iconst (v := 0) X dX7_readComparison_63 (by decide) ?_
      exact gr_zret X dX7_readComparison_64 (by decide) (Prod.mk.inj (Option.some.inj hf)).1 (Prod.mk.inj (Option.some.inj hf)).2
set_option maxHeartbeats 4000000 in
set_option maxRecDepth 100000 in
theorem xc_rd_readComparison {l : Launch} {D : va_G} {cs : Nat → ClassId} {sK sV : Nat → Nat} {tA : Nat} {ad : Nat → Nat} {τ : SC} {r : Int32} {υ : SC} (hf : fc_rd_readComparison τ = some (r, υ)) : ctI l (wC ad cs) D vwCl (kC D cs sK sV tA) yX7_readComparison cX7_readComparison 3 .boolean ro_rd_readComparison [.ref (ad 330)] τ r υ := by
  refine ct_I RX7 (by decide +kernel) rfl (Nat.le_of_ble_eq_true rfl) ?_
  intro p e s m args below meth c A X hK hA
  refine gr_eqL (L2 := [(0, .ref (ad 330))]) rfl ?_
  unfold fc_rd_readComparison at hf
  refine gr_aload_n X dX7_readComparison_0 rfl 0 rfl ?_
  obtain ⟨q1, hq_, hf⟩ := ot_b hf
  refine gc_Vi (rest := []) X kC_ok hK hA cw7_150 (rvC_RD hK) (xc_rd_isOperand hq_) rfl ⟨rfl, rfl, Nat.le_of_ble_eq_true rfl, Nat.le_of_ble_eq_true rfl⟩ rfl (Nat.le_of_ble_eq_true rfl) dX7_readComparison_1 ?_
  refine gr_if_ne X 9 dX7_readComparison_4 (by decide) (fun hc_ => ?_) (fun hc_ => ?_)
  · replace hf := ot_t hf hc_
    refine gr_aload_n X dX7_readComparison_9 rfl 0 rfl ?_
    obtain ⟨q2, hq_, hf⟩ := ot_b hf
    refine gc_Vi (rest := []) X kC_ok hK hA cw7_153 (rvC_RD hK) (xc_rd_operand hq_) rfl ⟨rfl, rfl, Nat.le_of_ble_eq_true rfl, Nat.le_of_ble_eq_true rfl⟩ rfl (Nat.le_of_ble_eq_true rfl) dX7_readComparison_10 ?_
    refine gr_istore_n (L2 := [(1, .int q2), (0, .ref (ad 330))]) X dX7_readComparison_13 rfl (by decide) rfl ?_
    refine gr_aload_n X dX7_readComparison_14 rfl 1 rfl ?_
    obtain ⟨τ4, hq_, hf⟩ := ot_b hf
    refine gc_Vv (rest := []) X kC_ok hK hA cw7_113 (rvC_RD hK) (xc_rd_advance hq_) rfl ⟨rfl, rfl, Nat.le_of_ble_eq_true rfl, Nat.le_of_ble_eq_true rfl⟩ rfl (Nat.le_of_ble_eq_true rfl) dX7_readComparison_15 ?_
    refine gr_aload_n X dX7_readComparison_18 rfl 1 rfl ?_
    refine gC_get_RD_7 X hK fk7_116 dX7_readComparison_19 ?_
    refine gr_sipush (v := 160) X dX7_readComparison_22 (by decide) ?_
    refine gr_icmp_ne X 32 dX7_readComparison_25 (by decide) (fun hc_ => ?_) (fun hc_ => ?_)
    · replace hf := ot_t hf hc_
      refine gr_aload_n X dX7_readComparison_32 rfl 1 rfl ?_
      refine gC_get_RD_7 X hK fk7_116 dX7_readComparison_33 ?_
      refine gr_sipush (v := 161) X dX7_readComparison_36 (by decide) ?_
      refine gr_icmp_ne X 46 dX7_readComparison_39 (by decide) (fun hc_ => ?_) (fun hc_ => ?_)
      · replace hf := ot_t hf hc_
        refine gr_iconst (v := 5) X dX7_readComparison_46 (by decide) ?_
        refine gr_sub [1, 0] rfl ?_
        exact wc_rd_readComparison_b47 X hK hA _ _ _ hf
      · replace hf := ot_f hf hc_
        refine gr_iconst (v := 4) X dX7_readComparison_42 (by decide) ?_
        refine gr_goto X 47 dX7_readComparison_43 (by decide) ?_
        refine gr_sub [1, 0] rfl ?_
        exact wc_rd_readComparison_b47 X hK hA _ _ _ hf
    · replace hf := ot_f hf hc_
      refine gr_iconst (v := 3) X dX7_readComparison_28 (by decide) ?_
      refine gr_goto X 47 dX7_readComparison_29 (by decide) ?_
      refine gr_sub [1, 0] rfl ?_
      exact wc_rd_readComparison_b47 X hK hA _ _ _ hf
  · replace hf := ot_f hf hc_
    refine gr_iconst (v := 0) X dX7_readComparison_7 (by decide) ?_
    exact gr_zret X dX7_readComparison_8 (by decide) (Prod.mk.inj (Option.some.inj hf)).1 (Prod.mk.inj (Option.some.inj hf)).2
