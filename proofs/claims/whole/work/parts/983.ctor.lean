/-! THE CONSTRUCTORS -/
def rmN0 : Room := { frames := 1, cells := 0, slots := 0, locals := 20 }
def rmN1 : Room := { frames := 2, cells := 0, slots := 0, locals := 40 }
def rmN2 : Room := { frames := 3, cells := 0, slots := 0, locals := 60 }
def rmN8 : Room := { frames := 1, cells := 5, slots := 229, locals := 20 }
def rmN10 : Room := { frames := 1, cells := 1, slots := 30, locals := 20 }
def rmN7 : Room := { frames := 2, cells := 9, slots := 836, locals := 40 }
def rmN6 : Room := { frames := 1, cells := 7, slots := 30, locals := 20 }
def rmN9 : Room := { frames := 4, cells := 21, slots := 318, locals := 100 }
def rmN11 : Room := { frames := 5, cells := 72, slots := 1981, locals := 120 }
def rmF : Room := { frames := 0, cells := 0, slots := 0, locals := 0 }
def ql : List (Nat × Nat) → Nat → Nat
  | [], _ => 0
  | x :: r, k => bif Nat.beq x.1 k then x.2 else ql r k
theorem gn_norm {p : Program} {l : Launch} {e : Env} {R : Room} {s : State} {m : MethodId} {args : Array Value} {below : List Frame} {meth : Method} {c : Code} {D : va_G} {A : Nat → Prop} {nL : Nat} {Q : State → Prop} {pc : Nat} {L : List (Nat × Value)} {st : List Value} {σ : va_W} {kc ks : Nat} {pc2 kc2 ks2 : Nat} {σ2 : va_W} (h1 : pc = pc2) (h2 : kc = kc2) (h3 : ks = ks2) (h : σ = σ2) (kk : gs kc2 ks2 p l e R s m args below meth c wI D vwCl A nL Q pc2 L st σ2) : gs kc ks p l e R s m args below meth c wI D vwCl A nL Q pc L st σ := by
  subst h1; subst h2; subst h3; subst h; exact kk
theorem h5 {p : Nat → Prop} (h0 : p 0) (h1 : p 1) (h2 : p 2) (h3 : p 3) (h4 : p 4) : ∀ j, j < 5 → p j := by
  intro j hj
  match j, hj with
  | 0, _ => exact h0
  | 1, _ => exact h1
  | 2, _ => exact h2
  | 3, _ => exact h3
  | 4, _ => exact h4
theorem h6 {p : Nat → Prop} (h0 : p 0) (h1 : p 1) (h2 : p 2) (h3 : p 3) (h4 : p 4) (h5 : p 5) : ∀ j, j < 6 → p j := by
  intro j hj
  match j, hj with
  | 0, _ => exact h0
  | 1, _ => exact h1
  | 2, _ => exact h2
  | 3, _ => exact h3
  | 4, _ => exact h4
  | 5, _ => exact h5
/-- v in n places from i on -/
def lpF (v : Int32) : Nat → Nat → (Nat → Int32) → (Nat → Int32)
  | 0, _, f => f
  | k + 1, i, f => lpF v k (i + 1) (upd f i v)
def ai (cs : Nat → ClassId) (a n : Nat) : Nat × va_E := (a, .inl (cs 0, n, .inl (fun _ => 0)))
def wR (cs : Nat → ClassId) (q : Nat → Nat) : va_W := [(q 31, .inr (8, [.int 0, .ref (q 21), .ref (q 22), .ref (q 23), .ref (q 24), .int 0, .ref (q 26)])), ai cs (q 21) 8, ai cs (q 22) 8, ai cs (q 23) 8, ai cs (q 24) 200, ai cs (q 26) 5]
def wT (cs : Nat → ClassId) (q : Nat → Nat) : va_W := [(q 30, .inr (9, [.ref (q 0), .ref (q 31), .int 0, .int 12, .int 0, .int 5, .int 0, .int 0, .int 0, .int 1, .ref (q 10), .ref (q 11), .ref (q 12), .int 0, .ref (q 14), .ref (q 15), .ref (q 16), .ref (q 17), .int 0, .ref (q 19)])), (q 0, .inl (cs 3, 6, .inr (.inr (.inr (.inr (fun j => some (q (40 + j)))))))), (q 40, .inr (4, [])), (q 41, .inr (0, [])), (q 42, .inr (5, [])), (q 43, .inr (3, [])), (q 44, .inr (1, [])), (q 45, .inr (2, [])), (q 10, .inl (cs 0, 16, .inl (lpF 4 16 0 (fun _ => 0)))), ai cs (q 11) 6, (q 12, .inl (cs 0, 6, .inl (lpF 3 6 0 (fun _ => 0)))), ai cs (q 14) 6, ai cs (q 15) 6, ai cs (q 16) 6, ai cs (q 17) 6, ai cs (q 19) 24, (q 31, .inr (8, [.int 0, .ref (q 21), .ref (q 22), .ref (q 23), .ref (q 24), .int 0, .ref (q 26)])), ai cs (q 21) 8, ai cs (q 22) 8, ai cs (q 23) 8, ai cs (q 24) 200, ai cs (q 26) 5]
def wPn (cs : Nat → ClassId) (t : Nat) (q : Nat → Nat) : va_W := [(q 30, .inr (6, [.ref t, .ref (q 1), .ref (q 2)])), ai cs (q 1) 5, (q 2, .inl (cs 4, 5, .inr (.inr (.inr (.inr (fun j => some (q (10 + j)))))))), ai cs (q 10) 4, ai cs (q 11) 4, ai cs (q 12) 4, ai cs (q 13) 4, ai cs (q 14) 4]
def wDn (cs : Nat → ClassId) (q : Nat → Nat) : va_W := [(q 30, .inr (7, [.ref (q 31), .ref (q 1), .ref (q 2), .ref (q 3), .int 0, .int 0, .int 0, .int 0, .int 0])), ai cs (q 1) 200, ai cs (q 2) 200, ai cs (q 3) 200, (q 31, .inr (8, [.int 0, .ref (q 21), .ref (q 22), .ref (q 23), .ref (q 24), .int 0, .ref (q 26)])), ai cs (q 21) 8, ai cs (q 22) 8, ai cs (q 23) 8, ai cs (q 24) 200, ai cs (q 26) 5]
def wVn (cs : Nat → ClassId) (q : Nat → Nat) : va_W := [(q 30, .inr (10, [.int 0, .int 0, .int 0, .ref (q 3), .int 0])), ai cs (q 3) 30]
theorem lp_le {n i : Nat} (hn : n < 1000) (hi : i ≤ n) : (nI n ≤ nI i) ↔ i = n := by
  rw [Int32.le_iff_toInt_le, nI_toInt (by omega), nI_toInt (by omega)]
  omega
theorem lp_in {n i : Nat} (hn : n < 1000) (hi : i < n) : hin (nI i) n = true := by
  simp only [hin, Bool.and_eq_true, decide_eq_true_eq]
  refine ⟨?_, by rw [nI_clamp (by omega)]; exact hi⟩
  rw [Int32.lt_iff_toInt_lt, nI_toInt (by omega)]
  show ¬ ((i : Int) < 0)
  omega
theorem lp_s {i : Nat} (hi : i < 1000) : nI i + 1 = nI (i + 1) := by
  rw [← Int32.toInt_inj, Int32.toInt_add, nI_toInt (by omega), nI_toInt (by omega)]
  show ((i : Int) + 1).bmod _ = _
  rw [Int.bmod_eq_of_le (by omega) (by omega)]
  omega
theorem cn_fillL {p : Program} {l : Launch} {e : Env} {s : State} {m : MethodId} {args : Array Value} {below : List Frame} {meth : Method} {c : Code} {D : va_G} {cs : Nat → ClassId} {A : Nat → Prop} {b n : Nat} {v : Int32} {f0 : Nat → Int32} (hn : n < 1000) (X : hc p s m args meth c RJ7 cJ7_fill_53178 4 none) (hK : kN D cs A s) : ∀ (k i : Nat) (f : Nat → Int32), i + k = n → lpF v k i f = f0 → gs 0 0 p l e rmF s m args below meth c wI D vwCl A 4 (QN below args s D A (fun u => u = [(b, .inl (cs 0, n, .inl f0))]) 0 0) 5 [(2, .int (nI i)), (3, .int (nI n)), (0, .ref b), (1, .int v)] [] [(b, .inl (cs 0, n, .inl f))] := by
  intro k
  induction k with
  | zero =>
    intro i f hi hf
    have hi2 : i = n := by omega
    refine gs_iload_n X dJ7_fill_53178_5 rfl 0 rfl ?_
    refine gs_iload_n X dJ7_fill_53178_6 rfl 1 rfl ?_
    refine gn_icmp_ge X 20 dJ7_fill_53178_7 (by decide) (fun _ => ?_) (fun h => absurd ((lp_le hn (by omega)).mpr hi2) h)
    refine gn_ret X ⟨rfl, rfl⟩ ?_ dJ7_fill_53178_20
    rw [← hf]; rfl
  | succ k ih =>
    intro i f hi hf
    have hi2 : i < n := by omega
    refine gs_iload_n X dJ7_fill_53178_5 rfl 0 rfl ?_
    refine gs_iload_n X dJ7_fill_53178_6 rfl 1 rfl ?_
    refine gn_icmp_ge X 20 dJ7_fill_53178_7 (by decide) (fun h => absurd ((lp_le hn (by omega)).mp h) (by omega)) (fun _ => ?_)
    refine gs_aload_n X dJ7_fill_53178_10 rfl 2 rfl ?_
    refine gs_iload_n X dJ7_fill_53178_11 rfl 0 rfl ?_
    refine gs_iload_n X dJ7_fill_53178_12 rfl 3 rfl ?_
    refine gn_iast X hK 0 rfl i (nI_clamp (by omega)) (lp_in hn hi2) dJ7_fill_53178_13 ?_
    refine gs_iinc (k := 0) (v := 1) X dJ7_fill_53178_14 rfl (by decide) (by decide) rfl ?_
    refine gs_goto X 5 dJ7_fill_53178_17 (by decide) ?_
    rw [lp_s (by omega)]
    exact ih (i + 1) (upd f i v) (by omega) hf
theorem cn_fill {l : Launch} {D : va_G} {cs : Nat → ClassId} {b n : Nat} {v : Int32} {f : Nat → Int32} (hn : n < 1000) : ctN l D cs yJ7_fill_53178 cJ7_fill_53178 4 rmF [.ref b, .int v] [(b, .inl (cs 0, n, .inl f))] (fun u => u = [(b, .inl (cs 0, n, .inl (lpF v n 0 f)))]) 0 0 := by
  refine ct_N RJ7 (by decide +kernel) rfl (Nat.le_of_ble_eq_true rfl) ?_
  intro p e s m args below meth c A X hini hK hA
  refine gs_iconst (v := 0) X dJ7_fill_53178_0 (by decide) ?_
  refine gs_istore_n X dJ7_fill_53178_1 rfl (by decide) rfl ?_
  refine gs_aload_n X dJ7_fill_53178_2 rfl 1 rfl ?_
  refine gn_alen X hK 0 rfl dJ7_fill_53178_3 ?_
  refine gs_istore_n X dJ7_fill_53178_4 rfl (by decide) rfl ?_
  refine gs_sub [1, 0, 2, 3] rfl ?_
  exact cn_fillL hn X hK n 0 f (by omega) rfl
theorem cwF_75 : cwT RX9 75 yJ7_fill_53178 cJ7_fill_53178 4 2 none := ⟨hu_in 111 (by decide +kernel) (by decide +kernel), hu_in 109 (by decide +kernel) (by decide +kernel), hu_in 110 (by decide +kernel) (by decide +kernel), hu_in 10 (by decide +kernel) (by decide +kernel), by decide +kernel, by decide +kernel, by decide +kernel⟩
theorem cwF_69 : cwT RX11 69 yJ7_fill_53178 cJ7_fill_53178 4 2 none := ⟨hu_in 111 (by decide +kernel) (by decide +kernel), hu_in 284 (by decide +kernel) (by decide +kernel), hu_in 110 (by decide +kernel) (by decide +kernel), hu_in 10 (by decide +kernel) (by decide +kernel), by decide +kernel, by decide +kernel, by decide +kernel⟩
theorem cwK0 : cwK yX0_init cX0_init 1 0 := ⟨hu_in 48 (by decide +kernel) (by decide +kernel), hu_in 47 (by decide +kernel) (by decide +kernel), hu_in 4 (by decide +kernel) (by decide +kernel), rfl, by decide +kernel, by decide +kernel, by decide +kernel⟩
theorem cwK1 : cwK yX1_init cX1_init 1 0 := ⟨hu_in 69 (by decide +kernel) (by decide +kernel), hu_in 68 (by decide +kernel) (by decide +kernel), hu_in 7 (by decide +kernel) (by decide +kernel), rfl, by decide +kernel, by decide +kernel, by decide +kernel⟩
theorem cwK2 : cwK yX2_init cX2_init 1 0 := ⟨hu_in 76 (by decide +kernel) (by decide +kernel), hu_in 75 (by decide +kernel) (by decide +kernel), hu_in 8 (by decide +kernel) (by decide +kernel), rfl, by decide +kernel, by decide +kernel, by decide +kernel⟩
theorem cwK3 : cwK yX3_init cX3_init 1 0 := ⟨hu_in 62 (by decide +kernel) (by decide +kernel), hu_in 61 (by decide +kernel) (by decide +kernel), hu_in 6 (by decide +kernel) (by decide +kernel), rfl, by decide +kernel, by decide +kernel, by decide +kernel⟩
theorem cwK4 : cwK yX4_init cX4_init 1 0 := ⟨hu_in 41 (by decide +kernel) (by decide +kernel), hu_in 40 (by decide +kernel) (by decide +kernel), hu_in 3 (by decide +kernel) (by decide +kernel), rfl, by decide +kernel, by decide +kernel, by decide +kernel⟩
theorem cwK5 : cwK yX5_init cX5_init 1 0 := ⟨hu_in 55 (by decide +kernel) (by decide +kernel), hu_in 54 (by decide +kernel) (by decide +kernel), hu_in 5 (by decide +kernel) (by decide +kernel), rfl, by decide +kernel, by decide +kernel, by decide +kernel⟩
theorem cwK6 : cwK yX6_init cX6_init 2 1 := ⟨hu_in 198 (by decide +kernel) (by decide +kernel), hu_in 197 (by decide +kernel) (by decide +kernel), hu_in 11 (by decide +kernel) (by decide +kernel), rfl, by decide +kernel, by decide +kernel, by decide +kernel⟩
theorem cwK7 : cwK yX7_init cX7_init 1 0 := ⟨hu_in 218 (by decide +kernel) (by decide +kernel), hu_in 217 (by decide +kernel) (by decide +kernel), hu_in 12 (by decide +kernel) (by decide +kernel), rfl, by decide +kernel, by decide +kernel, by decide +kernel⟩
theorem cwK8 : cwK yX8_init cX8_init 1 0 := ⟨hu_in 83 (by decide +kernel) (by decide +kernel), hu_in 82 (by decide +kernel) (by decide +kernel), hu_in 9 (by decide +kernel) (by decide +kernel), rfl, by decide +kernel, by decide +kernel, by decide +kernel⟩
theorem cwK9 : cwK yX9_init cX9_init 1 0 := ⟨hu_in 34 (by decide +kernel) (by decide +kernel), hu_in 33 (by decide +kernel) (by decide +kernel), hu_in 2 (by decide +kernel) (by decide +kernel), rfl, by decide +kernel, by decide +kernel, by decide +kernel⟩
theorem cwK10 : cwK yX10_init cX10_init 1 0 := ⟨hu_in 256 (by decide +kernel) (by decide +kernel), hu_in 255 (by decide +kernel) (by decide +kernel), hu_in 13 (by decide +kernel) (by decide +kernel), rfl, by decide +kernel, by decide +kernel, by decide +kernel⟩
theorem cwK11 : cwK yX11_init cX11_init 1 0 := ⟨hu_in 26 (by decide +kernel) (by decide +kernel), hu_in 25 (by decide +kernel) (by decide +kernel), hu_in 1 (by decide +kernel) (by decide +kernel), rfl, by decide +kernel, by decide +kernel, by decide +kernel⟩
theorem cwK12 : cwK yX12_init cX12_init 2 0 := ⟨hu_in 1152 (by decide +kernel) (by decide +kernel), hu_in 1151 (by decide +kernel) (by decide +kernel), hu_in 14 (by decide +kernel) (by decide +kernel), rfl, by decide +kernel, by decide +kernel, by decide +kernel⟩
theorem cn_X4 {l : Launch} {D : va_G} {cs : Nat → ClassId} (a : Nat) : ctN l D cs yX4_init cX4_init 1 rmN0 [.ref a] [] (fun u => u = []) 0 0 := by
  refine ct_N RX4 (by decide +kernel) rfl (Nat.le_of_ble_eq_true rfl) ?_
  intro p e s m args below meth c A X hini hK hA
  refine gs_aload_n X dX4_init_0 rfl 0 rfl ?_
  refine gn_oi X (hu_in 42 (by decide +kernel) (by decide +kernel)) ⟨Nat.le_of_ble_eq_true rfl, Nat.le_of_ble_eq_true rfl⟩ (Nat.le_of_ble_eq_true rfl) dX4_init_1 ?_
  exact gn_ret X ⟨rfl, rfl⟩ rfl dX4_init_4
theorem cn_X0 {l : Launch} {D : va_G} {cs : Nat → ClassId} (a : Nat) : ctN l D cs yX0_init cX0_init 1 rmN1 [.ref a] [] (fun u => u = []) 0 0 := by
  refine ct_N RX0 (by decide +kernel) rfl (Nat.le_of_ble_eq_true rfl) ?_
  intro p e s m args below meth c A X hini hK hA
  refine gs_aload_n X dX0_init_0 rfl 0 rfl ?_
  refine gn_callN (rest := _) (As := []) X hK hA (List.append_nil _).symm (cn_X4 a) cwK4 (by simp [nwL]) rfl ⟨rfl, rfl, Nat.le_of_ble_eq_true rfl, Nat.le_of_ble_eq_true rfl⟩ ⟨Nat.le_of_ble_eq_true rfl, Nat.le_of_ble_eq_true rfl⟩ rfl (Nat.le_of_ble_eq_true rfl) dX0_init_1 (fun u hu => ?_)
  subst hu
  refine ws_subst (List.append_nil _) ?_
  exact gn_ret X ⟨rfl, rfl⟩ rfl dX0_init_4
theorem cn_X5 {l : Launch} {D : va_G} {cs : Nat → ClassId} (a : Nat) : ctN l D cs yX5_init cX5_init 1 rmN1 [.ref a] [] (fun u => u = []) 0 0 := by
  refine ct_N RX5 (by decide +kernel) rfl (Nat.le_of_ble_eq_true rfl) ?_
  intro p e s m args below meth c A X hini hK hA
  refine gs_aload_n X dX5_init_0 rfl 0 rfl ?_
  refine gn_callN (rest := _) (As := []) X hK hA (List.append_nil _).symm (cn_X4 a) cwK4 (by simp [nwL]) rfl ⟨rfl, rfl, Nat.le_of_ble_eq_true rfl, Nat.le_of_ble_eq_true rfl⟩ ⟨Nat.le_of_ble_eq_true rfl, Nat.le_of_ble_eq_true rfl⟩ rfl (Nat.le_of_ble_eq_true rfl) dX5_init_1 (fun u hu => ?_)
  subst hu
  refine ws_subst (List.append_nil _) ?_
  exact gn_ret X ⟨rfl, rfl⟩ rfl dX5_init_4
theorem cn_X1 {l : Launch} {D : va_G} {cs : Nat → ClassId} (a : Nat) : ctN l D cs yX1_init cX1_init 1 rmN1 [.ref a] [] (fun u => u = []) 0 0 := by
  refine ct_N RX1 (by decide +kernel) rfl (Nat.le_of_ble_eq_true rfl) ?_
  intro p e s m args below meth c A X hini hK hA
  refine gs_aload_n X dX1_init_0 rfl 0 rfl ?_
  refine gn_callN (rest := _) (As := []) X hK hA (List.append_nil _).symm (cn_X4 a) cwK4 (by simp [nwL]) rfl ⟨rfl, rfl, Nat.le_of_ble_eq_true rfl, Nat.le_of_ble_eq_true rfl⟩ ⟨Nat.le_of_ble_eq_true rfl, Nat.le_of_ble_eq_true rfl⟩ rfl (Nat.le_of_ble_eq_true rfl) dX1_init_1 (fun u hu => ?_)
  subst hu
  refine ws_subst (List.append_nil _) ?_
  exact gn_ret X ⟨rfl, rfl⟩ rfl dX1_init_4
theorem cn_X3 {l : Launch} {D : va_G} {cs : Nat → ClassId} (a : Nat) : ctN l D cs yX3_init cX3_init 1 rmN2 [.ref a] [] (fun u => u = []) 0 0 := by
  refine ct_N RX3 (by decide +kernel) rfl (Nat.le_of_ble_eq_true rfl) ?_
  intro p e s m args below meth c A X hini hK hA
  refine gs_aload_n X dX3_init_0 rfl 0 rfl ?_
  refine gn_callN (rest := _) (As := []) X hK hA (List.append_nil _).symm (cn_X5 a) cwK5 (by simp [nwL]) rfl ⟨rfl, rfl, Nat.le_of_ble_eq_true rfl, Nat.le_of_ble_eq_true rfl⟩ ⟨Nat.le_of_ble_eq_true rfl, Nat.le_of_ble_eq_true rfl⟩ rfl (Nat.le_of_ble_eq_true rfl) dX3_init_1 (fun u hu => ?_)
  subst hu
  refine ws_subst (List.append_nil _) ?_
  exact gn_ret X ⟨rfl, rfl⟩ rfl dX3_init_4
theorem cn_X2 {l : Launch} {D : va_G} {cs : Nat → ClassId} (a : Nat) : ctN l D cs yX2_init cX2_init 1 rmN2 [.ref a] [] (fun u => u = []) 0 0 := by
  refine ct_N RX2 (by decide +kernel) rfl (Nat.le_of_ble_eq_true rfl) ?_
  intro p e s m args below meth c A X hini hK hA
  refine gs_aload_n X dX2_init_0 rfl 0 rfl ?_
  refine gn_callN (rest := _) (As := []) X hK hA (List.append_nil _).symm (cn_X1 a) cwK1 (by simp [nwL]) rfl ⟨rfl, rfl, Nat.le_of_ble_eq_true rfl, Nat.le_of_ble_eq_true rfl⟩ ⟨Nat.le_of_ble_eq_true rfl, Nat.le_of_ble_eq_true rfl⟩ rfl (Nat.le_of_ble_eq_true rfl) dX2_init_1 (fun u hu => ?_)
  subst hu
  refine ws_subst (List.append_nil _) ?_
  exact gn_ret X ⟨rfl, rfl⟩ rfl dX2_init_4
theorem cn_X8 {l : Launch} {D : va_G} {cs : Nat → ClassId} (a : Nat) : ctN l D cs yX8_init cX8_init 1 rmN8 [.ref a] [(a, .inr (8, [.int 0, .null, .null, .null, .null, .int 0, .null]))] (fun u => ∃ q : Nat → Nat, q 31 = a ∧ u = wR cs q) 5 229 := by
  refine ct_N RX8 (by decide +kernel) rfl (Nat.le_of_ble_eq_true rfl) ?_
  intro p e s m args below meth c A X hini hK hA
  refine gs_aload_n X dX8_init_0 rfl 0 rfl ?_
  refine gn_oi X (hu_in 84 (by decide +kernel) (by decide +kernel)) ⟨Nat.le_of_ble_eq_true rfl, Nat.le_of_ble_eq_true rfl⟩ (Nat.le_of_ble_eq_true rfl) dX8_init_1 ?_
  refine gs_aload_n X dX8_init_4 rfl 0 rfl ?_
  refine gs_bipush (v := 8) X dX8_init_5 (by decide) ?_
  refine gn_newi X hK hA 8 (by decide) ⟨Nat.le_of_ble_eq_true rfl, Nat.le_of_ble_eq_true rfl⟩ dX8_init_7 (fun q1 => ?_)
  refine gn_putF X hK hini 8 (T := TX8) (N := 7) rfl inC8 tyX8_ok nmX8 1 (by decide) rfl (hu_in 87 (by decide +kernel) (by decide +kernel)) rfl rfl rfl rfl (Nat.le_of_ble_eq_true rfl) dX8_init_9 ?_
  refine gs_aload_n X dX8_init_12 rfl 0 rfl ?_
  refine gs_bipush (v := 8) X dX8_init_13 (by decide) ?_
  refine gn_newi X hK hA 8 (by decide) ⟨Nat.le_of_ble_eq_true rfl, Nat.le_of_ble_eq_true rfl⟩ dX8_init_15 (fun q2 => ?_)
  refine gn_putF X hK hini 8 (T := TX8) (N := 7) rfl inC8 tyX8_ok nmX8 2 (by decide) rfl (hu_in 88 (by decide +kernel) (by decide +kernel)) rfl rfl rfl rfl (Nat.le_of_ble_eq_true rfl) dX8_init_17 ?_
  refine gs_aload_n X dX8_init_20 rfl 0 rfl ?_
  refine gs_bipush (v := 8) X dX8_init_21 (by decide) ?_
  refine gn_newi X hK hA 8 (by decide) ⟨Nat.le_of_ble_eq_true rfl, Nat.le_of_ble_eq_true rfl⟩ dX8_init_23 (fun q3 => ?_)
  refine gn_putF X hK hini 8 (T := TX8) (N := 7) rfl inC8 tyX8_ok nmX8 3 (by decide) rfl (hu_in 89 (by decide +kernel) (by decide +kernel)) rfl rfl rfl rfl (Nat.le_of_ble_eq_true rfl) dX8_init_25 ?_
  refine gs_aload_n X dX8_init_28 rfl 0 rfl ?_
  refine gn_sipush (v := 200) X dX8_init_29 (by decide) ?_
  refine gn_newi X hK hA 200 (by decide) ⟨Nat.le_of_ble_eq_true rfl, Nat.le_of_ble_eq_true rfl⟩ dX8_init_32 (fun q4 => ?_)
  refine gn_putF X hK hini 8 (T := TX8) (N := 7) rfl inC8 tyX8_ok nmX8 4 (by decide) rfl (hu_in 90 (by decide +kernel) (by decide +kernel)) rfl rfl rfl rfl (Nat.le_of_ble_eq_true rfl) dX8_init_34 ?_
  refine gs_aload_n X dX8_init_37 rfl 0 rfl ?_
  refine gs_iconst (v := 5) X dX8_init_38 (by decide) ?_
  refine gn_newi X hK hA 5 (by decide) ⟨Nat.le_of_ble_eq_true rfl, Nat.le_of_ble_eq_true rfl⟩ dX8_init_39 (fun q5 => ?_)
  refine gn_putF X hK hini 8 (T := TX8) (N := 7) rfl inC8 tyX8_ok nmX8 6 (by decide) rfl (hu_in 92 (by decide +kernel) (by decide +kernel)) rfl rfl rfl rfl (Nat.le_of_ble_eq_true rfl) dX8_init_41 ?_
  exact gn_ret X ⟨rfl, rfl⟩ ⟨fun i => ql [(31, a), (21, q1), (22, q2), (23, q3), (24, q4), (26, q5)] i, rfl, rfl⟩ dX8_init_44
theorem cn_X10 {l : Launch} {D : va_G} {cs : Nat → ClassId} (a : Nat) : ctN l D cs yX10_init cX10_init 1 rmN10 [.ref a] [(a, .inr (10, [.int 0, .int 0, .int 0, .null, .int 0]))] (fun u => ∃ q : Nat → Nat, q 30 = a ∧ u = wVn cs q) 1 30 := by
  refine ct_N RX10 (by decide +kernel) rfl (Nat.le_of_ble_eq_true rfl) ?_
  intro p e s m args below meth c A X hini hK hA
  refine gs_aload_n X dX10_init_0 rfl 0 rfl ?_
  refine gn_oi X (hu_in 257 (by decide +kernel) (by decide +kernel)) ⟨Nat.le_of_ble_eq_true rfl, Nat.le_of_ble_eq_true rfl⟩ (Nat.le_of_ble_eq_true rfl) dX10_init_1 ?_
  refine gs_aload_n X dX10_init_4 rfl 0 rfl ?_
  refine gs_bipush (v := 30) X dX10_init_5 (by decide) ?_
  refine gn_newi X hK hA 30 (by decide) ⟨Nat.le_of_ble_eq_true rfl, Nat.le_of_ble_eq_true rfl⟩ dX10_init_7 (fun q1 => ?_)
  refine gn_putF X hK hini 10 (T := TX10) (N := 5) rfl inC10 tyX10_ok nmX10 3 (by decide) rfl (hu_in 269 (by decide +kernel) (by decide +kernel)) rfl rfl rfl rfl (Nat.le_of_ble_eq_true rfl) dX10_init_9 ?_
  exact gn_ret X ⟨rfl, rfl⟩ ⟨fun i => ql [(30, a), (3, q1)] i, rfl, rfl⟩ dX10_init_12
theorem cn_X7 {l : Launch} {D : va_G} {cs : Nat → ClassId} (a : Nat) : ctN l D cs yX7_init cX7_init 1 rmN7 [.ref a] [(a, .inr (7, [.null, .null, .null, .null, .int 0, .int 0, .int 0, .int 0, .int 0]))] (fun u => ∃ q : Nat → Nat, q 30 = a ∧ u = wDn cs q) 9 836 := by
  refine ct_N RX7 (by decide +kernel) rfl (Nat.le_of_ble_eq_true rfl) ?_
  intro p e s m args below meth c A X hini hK hA
  refine gs_aload_n X dX7_init_0 rfl 0 rfl ?_
  refine gn_oi X (hu_in 219 (by decide +kernel) (by decide +kernel)) ⟨Nat.le_of_ble_eq_true rfl, Nat.le_of_ble_eq_true rfl⟩ (Nat.le_of_ble_eq_true rfl) dX7_init_1 ?_
  refine gs_aload_n X dX7_init_4 rfl 0 rfl ?_
  refine gn_new X hK hA 8 (C := RX8) (T := TX8) (N := 7) rfl inC8 tyX8_ok ⟨hu_in 220 (by decide +kernel) (by decide +kernel), hu_in 80 (by decide +kernel) (by decide +kernel), hu_in 9 (by decide +kernel) (by decide +kernel)⟩ (fs := [.int 0, .null, .null, .null, .null, .int 0, .null]) rfl ⟨Nat.le_of_ble_eq_true rfl, Nat.le_of_ble_eq_true rfl⟩ dX7_init_5 (fun q1 => ?_)
  refine gs_dup X dX7_init_8 rfl ?_
  refine gn_callN (As := []) X hK hA rfl (cn_X8 q1) cwK8 (by simp [nwL]) rfl ⟨rfl, rfl, Nat.le_of_ble_eq_true rfl, Nat.le_of_ble_eq_true rfl⟩ ⟨Nat.le_of_ble_eq_true rfl, Nat.le_of_ble_eq_true rfl⟩ rfl (Nat.le_of_ble_eq_true rfl) dX7_init_9 (fun u hu => ?_)
  obtain ⟨fq1, fq1_e, rfl⟩ := hu
  subst fq1_e
  refine gn_putF X hK hini 7 (T := TX7) (N := 9) rfl inC7 tyX7_ok nmX7 0 (by decide) rfl (hu_in 222 (by decide +kernel) (by decide +kernel)) rfl rfl rfl rfl (Nat.le_of_ble_eq_true rfl) dX7_init_12 ?_
  refine gs_aload_n X dX7_init_15 rfl 0 rfl ?_
  refine gn_sipush (v := 200) X dX7_init_16 (by decide) ?_
  refine gn_newi X hK hA 200 (by decide) ⟨Nat.le_of_ble_eq_true rfl, Nat.le_of_ble_eq_true rfl⟩ dX7_init_19 (fun q2 => ?_)
  refine gn_putF X hK hini 7 (T := TX7) (N := 9) rfl inC7 tyX7_ok nmX7 1 (by decide) rfl (hu_in 224 (by decide +kernel) (by decide +kernel)) rfl rfl rfl rfl (Nat.le_of_ble_eq_true rfl) dX7_init_21 ?_
  refine gs_aload_n X dX7_init_24 rfl 0 rfl ?_
  refine gn_sipush (v := 200) X dX7_init_25 (by decide) ?_
  refine gn_newi X hK hA 200 (by decide) ⟨Nat.le_of_ble_eq_true rfl, Nat.le_of_ble_eq_true rfl⟩ dX7_init_28 (fun q3 => ?_)
  refine gn_putF X hK hini 7 (T := TX7) (N := 9) rfl inC7 tyX7_ok nmX7 2 (by decide) rfl (hu_in 225 (by decide +kernel) (by decide +kernel)) rfl rfl rfl rfl (Nat.le_of_ble_eq_true rfl) dX7_init_30 ?_
  refine gs_aload_n X dX7_init_33 rfl 0 rfl ?_
  refine gn_sipush (v := 200) X dX7_init_34 (by decide) ?_
  refine gn_newi X hK hA 200 (by decide) ⟨Nat.le_of_ble_eq_true rfl, Nat.le_of_ble_eq_true rfl⟩ dX7_init_37 (fun q4 => ?_)
  refine gn_putF X hK hini 7 (T := TX7) (N := 9) rfl inC7 tyX7_ok nmX7 3 (by decide) rfl (hu_in 226 (by decide +kernel) (by decide +kernel)) rfl rfl rfl rfl (Nat.le_of_ble_eq_true rfl) dX7_init_39 ?_
  refine gn_perm (σ2 := wDn cs (fun i => ql [(30, a), (1, q2), (2, q3), (3, q4), (31, fq1 31), (21, fq1 21), (22, fq1 22), (23, fq1 23), (24, fq1 24), (26, fq1 26)] i)) [0, 7, 8, 9, 1, 2, 3, 4, 5, 6] rfl rfl ?_
  exact gn_ret X ⟨rfl, rfl⟩ ⟨fun i => ql [(30, a), (1, q2), (2, q3), (3, q4), (31, fq1 31), (21, fq1 21), (22, fq1 22), (23, fq1 23), (24, fq1 24), (26, fq1 26)] i, rfl, rfl⟩ dX7_init_42
theorem cn_X6 {l : Launch} {D : va_G} {cs : Nat → ClassId} (a : Nat) (t : Nat) : ctN l D cs yX6_init cX6_init 2 rmN6 [.ref a, .ref t] [(a, .inr (6, [.null, .null, .null]))] (fun u => ∃ q : Nat → Nat, q 30 = a ∧ u = wPn cs t q) 7 30 := by
  refine ct_N RX6 (by decide +kernel) rfl (Nat.le_of_ble_eq_true rfl) ?_
  intro p e s m args below meth c A X hini hK hA
  refine gs_aload_n X dX6_init_0 rfl 0 rfl ?_
  refine gn_oi X (hu_in 199 (by decide +kernel) (by decide +kernel)) ⟨Nat.le_of_ble_eq_true rfl, Nat.le_of_ble_eq_true rfl⟩ (Nat.le_of_ble_eq_true rfl) dX6_init_1 ?_
  refine gs_aload_n X dX6_init_4 rfl 0 rfl ?_
  refine gs_iconst (v := 5) X dX6_init_5 (by decide) ?_
  refine gn_newi X hK hA 5 (by decide) ⟨Nat.le_of_ble_eq_true rfl, Nat.le_of_ble_eq_true rfl⟩ dX6_init_6 (fun q1 => ?_)
  refine gn_putF X hK hini 6 (T := TX6) (N := 3) rfl inC6 tyX6_ok nmX6 1 (by decide) rfl (hu_in 203 (by decide +kernel) (by decide +kernel)) rfl rfl rfl rfl (Nat.le_of_ble_eq_true rfl) dX6_init_8 ?_
  refine gs_aload_n X dX6_init_11 rfl 0 rfl ?_
  refine gs_iconst (v := 5) X dX6_init_12 (by decide) ?_
  refine gs_iconst (v := 4) X dX6_init_13 (by decide) ?_
  refine gn_mq X hK hA (hu_in 200 (by decide +kernel) (by decide +kernel)) ⟨Nat.le_of_ble_eq_true rfl, Nat.le_of_ble_eq_true rfl⟩ dX6_init_14 (fun q2 => ?_)
  refine gn_putF X hK hini 6 (T := TX6) (N := 3) rfl inC6 tyX6_ok nmX6 2 (by decide) rfl (hu_in 205 (by decide +kernel) (by decide +kernel)) rfl rfl rfl rfl (Nat.le_of_ble_eq_true rfl) dX6_init_18 ?_
  refine gs_aload_n X dX6_init_21 rfl 0 rfl ?_
  refine gs_aload_n X dX6_init_22 rfl 1 rfl ?_
  refine gn_putF X hK hini 6 (T := TX6) (N := 3) rfl inC6 tyX6_ok nmX6 0 (by decide) rfl (hu_in 202 (by decide +kernel) (by decide +kernel)) rfl rfl rfl rfl (Nat.le_of_ble_eq_true rfl) dX6_init_23 ?_
  refine gn_fn 2 (g := fun j => some (ql [(30, a), (1, q1), (2, q2), (10, q2 + 1 + 0), (11, q2 + 1 + 1), (12, q2 + 1 + 2), (13, q2 + 1 + 3), (14, q2 + 1 + 4)] (10 + j))) rfl (h5 rfl rfl rfl rfl rfl) ?_
  exact gn_ret X ⟨rfl, rfl⟩ ⟨fun i => ql [(30, a), (1, q1), (2, q2), (10, q2 + 1 + 0), (11, q2 + 1 + 1), (12, q2 + 1 + 2), (13, q2 + 1 + 3), (14, q2 + 1 + 4)] i, rfl, rfl⟩ dX6_init_26
theorem cn_X9 {l : Launch} {D : va_G} {cs : Nat → ClassId} (a : Nat) : ctN l D cs yX9_init cX9_init 1 rmN9 [.ref a] [(a, .inr (9, [.null, .null, .int 0, .int 0, .int 0, .int 0, .int 0, .int 0, .int 0, .int 0, .null, .null, .null, .int 0, .null, .null, .null, .null, .int 0, .null]))] (fun u => ∃ q : Nat → Nat, q 30 = a ∧ u = wT cs q) 21 318 := by
  refine ct_N RX9 (by decide +kernel) rfl (Nat.le_of_ble_eq_true rfl) ?_
  intro p e s m args below meth c A X hini hK hA
  refine gs_aload_n X dX9_init_0 rfl 0 rfl ?_
  refine gn_oi X (hu_in 35 (by decide +kernel) (by decide +kernel)) ⟨Nat.le_of_ble_eq_true rfl, Nat.le_of_ble_eq_true rfl⟩ (Nat.le_of_ble_eq_true rfl) dX9_init_1 ?_
  refine gs_aload_n X dX9_init_4 rfl 0 rfl ?_
  refine gs_bipush (v := 6) X dX9_init_5 (by decide) ?_
  refine gn_newq X hK hA 6 (hu_in 36 (by decide +kernel) (by decide +kernel)) (by decide) ⟨Nat.le_of_ble_eq_true rfl, Nat.le_of_ble_eq_true rfl⟩ dX9_init_7 (fun q1 => ?_)
  refine gs_dup X dX9_init_10 rfl ?_
  refine gs_iconst (v := 0) X dX9_init_11 (by decide) ?_
  refine gn_new X hK hA 4 (C := RX4) (T := TX4) (N := 0) rfl inC4 tyX4_ok ⟨hu_in 36 (by decide +kernel) (by decide +kernel), hu_in 38 (by decide +kernel) (by decide +kernel), hu_in 3 (by decide +kernel) (by decide +kernel)⟩ (fs := []) rfl ⟨Nat.le_of_ble_eq_true rfl, Nat.le_of_ble_eq_true rfl⟩ dX9_init_12 (fun q2 => ?_)
  refine gs_dup X dX9_init_15 rfl ?_
  refine gn_callN (rest := _) (As := []) X hK hA (List.append_nil _).symm (cn_X4 q2) cwK4 (by simp [nwL]) rfl ⟨rfl, rfl, Nat.le_of_ble_eq_true rfl, Nat.le_of_ble_eq_true rfl⟩ ⟨Nat.le_of_ble_eq_true rfl, Nat.le_of_ble_eq_true rfl⟩ rfl (Nat.le_of_ble_eq_true rfl) dX9_init_16 (fun u hu => ?_)
  subst hu
  refine ws_subst (List.append_nil _) ?_
  refine gn_ast X hK 1 2 4 rfl rfl rfl (fun _ _ h1 h2 => by rw [Option.some.inj (h1.symm.trans h2)]; exact va_asg _ _) 0 (by decide) (by decide) dX9_init_19 ?_
  refine gn_norm (pc2 := 20) (kc2 := 2) (ks2 := 6) (σ2 := [(a, .inr (9, [.null, .null, .int 0, .int 0, .int 0, .int 0, .int 0, .int 0, .int 0, .int 0, .null, .null, .null, .int 0, .null, .null, .null, .null, .int 0, .null])), (q1, .inl (cs 3, 6, .inr (.inr (.inr (.inr (va_up (fun _ => none) 0 (some q2))))))), (q2, .inr (4, []))]) rfl rfl rfl rfl ?_
  refine gs_dup X dX9_init_20 rfl ?_
  refine gs_iconst (v := 1) X dX9_init_21 (by decide) ?_
  refine gn_new X hK hA 0 (C := RX0) (T := TX0) (N := 0) rfl inC0 tyX0_ok ⟨hu_in 44 (by decide +kernel) (by decide +kernel), hu_in 45 (by decide +kernel) (by decide +kernel), hu_in 4 (by decide +kernel) (by decide +kernel)⟩ (fs := []) rfl ⟨Nat.le_of_ble_eq_true rfl, Nat.le_of_ble_eq_true rfl⟩ dX9_init_22 (fun q3 => ?_)
  refine gs_dup X dX9_init_25 rfl ?_
  refine gn_callN (rest := _) (As := []) X hK hA (List.append_nil _).symm (cn_X0 q3) cwK0 (by simp [nwL]) rfl ⟨rfl, rfl, Nat.le_of_ble_eq_true rfl, Nat.le_of_ble_eq_true rfl⟩ ⟨Nat.le_of_ble_eq_true rfl, Nat.le_of_ble_eq_true rfl⟩ rfl (Nat.le_of_ble_eq_true rfl) dX9_init_26 (fun u hu => ?_)
  subst hu
  refine ws_subst (List.append_nil _) ?_
  refine gn_ast X hK 1 3 0 rfl rfl rfl (asg_1 (F := "java/lang/Object") (X.2.2.2.2.1 _ (hu_in 50 (by decide +kernel) (by decide +kernel))) (X.2.2.2.2.1 _ (hu_in 43 (by decide +kernel) (by decide +kernel)))) 1 (by decide) (by decide) dX9_init_29 ?_
  refine gn_norm (pc2 := 30) (kc2 := 3) (ks2 := 6) (σ2 := [(a, .inr (9, [.null, .null, .int 0, .int 0, .int 0, .int 0, .int 0, .int 0, .int 0, .int 0, .null, .null, .null, .int 0, .null, .null, .null, .null, .int 0, .null])), (q1, .inl (cs 3, 6, .inr (.inr (.inr (.inr (va_up (va_up (fun _ => none) 0 (some q2)) 1 (some q3))))))), (q2, .inr (4, [])), (q3, .inr (0, []))]) rfl rfl rfl rfl ?_
  refine gs_dup X dX9_init_30 rfl ?_
  refine gs_iconst (v := 2) X dX9_init_31 (by decide) ?_
  refine gn_new X hK hA 5 (C := RX5) (T := TX5) (N := 0) rfl inC5 tyX5_ok ⟨hu_in 51 (by decide +kernel) (by decide +kernel), hu_in 52 (by decide +kernel) (by decide +kernel), hu_in 5 (by decide +kernel) (by decide +kernel)⟩ (fs := []) rfl ⟨Nat.le_of_ble_eq_true rfl, Nat.le_of_ble_eq_true rfl⟩ dX9_init_32 (fun q4 => ?_)
  refine gs_dup X dX9_init_35 rfl ?_
  refine gn_callN (rest := _) (As := []) X hK hA (List.append_nil _).symm (cn_X5 q4) cwK5 (by simp [nwL]) rfl ⟨rfl, rfl, Nat.le_of_ble_eq_true rfl, Nat.le_of_ble_eq_true rfl⟩ ⟨Nat.le_of_ble_eq_true rfl, Nat.le_of_ble_eq_true rfl⟩ rfl (Nat.le_of_ble_eq_true rfl) dX9_init_36 (fun u hu => ?_)
  subst hu
  refine ws_subst (List.append_nil _) ?_
  refine gn_ast X hK 1 4 5 rfl rfl rfl (asg_1 (F := "java/lang/Object") (X.2.2.2.2.1 _ (hu_in 57 (by decide +kernel) (by decide +kernel))) (X.2.2.2.2.1 _ (hu_in 43 (by decide +kernel) (by decide +kernel)))) 2 (by decide) (by decide) dX9_init_39 ?_
  refine gn_norm (pc2 := 40) (kc2 := 4) (ks2 := 6) (σ2 := [(a, .inr (9, [.null, .null, .int 0, .int 0, .int 0, .int 0, .int 0, .int 0, .int 0, .int 0, .null, .null, .null, .int 0, .null, .null, .null, .null, .int 0, .null])), (q1, .inl (cs 3, 6, .inr (.inr (.inr (.inr (va_up (va_up (va_up (fun _ => none) 0 (some q2)) 1 (some q3)) 2 (some q4))))))), (q2, .inr (4, [])), (q3, .inr (0, [])), (q4, .inr (5, []))]) rfl rfl rfl rfl ?_
  refine gs_dup X dX9_init_40 rfl ?_
  refine gs_iconst (v := 3) X dX9_init_41 (by decide) ?_
  refine gn_new X hK hA 3 (C := RX3) (T := TX3) (N := 0) rfl inC3 tyX3_ok ⟨hu_in 58 (by decide +kernel) (by decide +kernel), hu_in 59 (by decide +kernel) (by decide +kernel), hu_in 6 (by decide +kernel) (by decide +kernel)⟩ (fs := []) rfl ⟨Nat.le_of_ble_eq_true rfl, Nat.le_of_ble_eq_true rfl⟩ dX9_init_42 (fun q5 => ?_)
  refine gs_dup X dX9_init_45 rfl ?_
  refine gn_callN (rest := _) (As := []) X hK hA (List.append_nil _).symm (cn_X3 q5) cwK3 (by simp [nwL]) rfl ⟨rfl, rfl, Nat.le_of_ble_eq_true rfl, Nat.le_of_ble_eq_true rfl⟩ ⟨Nat.le_of_ble_eq_true rfl, Nat.le_of_ble_eq_true rfl⟩ rfl (Nat.le_of_ble_eq_true rfl) dX9_init_46 (fun u hu => ?_)
  subst hu
  refine ws_subst (List.append_nil _) ?_
  refine gn_ast X hK 1 5 3 rfl rfl rfl (asg_2 (B := "HeartHours$Lawyer") (F := "java/lang/Object") (X.2.2.2.2.1 _ (hu_in 64 (by decide +kernel) (by decide +kernel))) (X.2.2.2.2.1 _ (hu_in 57 (by decide +kernel) (by decide +kernel))) (X.2.2.2.2.1 _ (hu_in 43 (by decide +kernel) (by decide +kernel)))) 3 (by decide) (by decide) dX9_init_49 ?_
  refine gn_norm (pc2 := 50) (kc2 := 5) (ks2 := 6) (σ2 := [(a, .inr (9, [.null, .null, .int 0, .int 0, .int 0, .int 0, .int 0, .int 0, .int 0, .int 0, .null, .null, .null, .int 0, .null, .null, .null, .null, .int 0, .null])), (q1, .inl (cs 3, 6, .inr (.inr (.inr (.inr (va_up (va_up (va_up (va_up (fun _ => none) 0 (some q2)) 1 (some q3)) 2 (some q4)) 3 (some q5))))))), (q2, .inr (4, [])), (q3, .inr (0, [])), (q4, .inr (5, [])), (q5, .inr (3, []))]) rfl rfl rfl rfl ?_
  refine gs_dup X dX9_init_50 rfl ?_
  refine gs_iconst (v := 4) X dX9_init_51 (by decide) ?_
  refine gn_new X hK hA 1 (C := RX1) (T := TX1) (N := 0) rfl inC1 tyX1_ok ⟨hu_in 65 (by decide +kernel) (by decide +kernel), hu_in 66 (by decide +kernel) (by decide +kernel), hu_in 7 (by decide +kernel) (by decide +kernel)⟩ (fs := []) rfl ⟨Nat.le_of_ble_eq_true rfl, Nat.le_of_ble_eq_true rfl⟩ dX9_init_52 (fun q6 => ?_)
  refine gs_dup X dX9_init_55 rfl ?_
  refine gn_callN (rest := _) (As := []) X hK hA (List.append_nil _).symm (cn_X1 q6) cwK1 (by simp [nwL]) rfl ⟨rfl, rfl, Nat.le_of_ble_eq_true rfl, Nat.le_of_ble_eq_true rfl⟩ ⟨Nat.le_of_ble_eq_true rfl, Nat.le_of_ble_eq_true rfl⟩ rfl (Nat.le_of_ble_eq_true rfl) dX9_init_56 (fun u hu => ?_)
  subst hu
  refine ws_subst (List.append_nil _) ?_
  refine gn_ast X hK 1 6 1 rfl rfl rfl (asg_1 (F := "java/lang/Object") (X.2.2.2.2.1 _ (hu_in 71 (by decide +kernel) (by decide +kernel))) (X.2.2.2.2.1 _ (hu_in 43 (by decide +kernel) (by decide +kernel)))) 4 (by decide) (by decide) dX9_init_59 ?_
  refine gn_norm (pc2 := 60) (kc2 := 6) (ks2 := 6) (σ2 := [(a, .inr (9, [.null, .null, .int 0, .int 0, .int 0, .int 0, .int 0, .int 0, .int 0, .int 0, .null, .null, .null, .int 0, .null, .null, .null, .null, .int 0, .null])), (q1, .inl (cs 3, 6, .inr (.inr (.inr (.inr (va_up (va_up (va_up (va_up (va_up (fun _ => none) 0 (some q2)) 1 (some q3)) 2 (some q4)) 3 (some q5)) 4 (some q6))))))), (q2, .inr (4, [])), (q3, .inr (0, [])), (q4, .inr (5, [])), (q5, .inr (3, [])), (q6, .inr (1, []))]) rfl rfl rfl rfl ?_
  refine gs_dup X dX9_init_60 rfl ?_
  refine gs_iconst (v := 5) X dX9_init_61 (by decide) ?_
  refine gn_new X hK hA 2 (C := RX2) (T := TX2) (N := 0) rfl inC2 tyX2_ok ⟨hu_in 72 (by decide +kernel) (by decide +kernel), hu_in 73 (by decide +kernel) (by decide +kernel), hu_in 8 (by decide +kernel) (by decide +kernel)⟩ (fs := []) rfl ⟨Nat.le_of_ble_eq_true rfl, Nat.le_of_ble_eq_true rfl⟩ dX9_init_62 (fun q7 => ?_)
  refine gs_dup X dX9_init_65 rfl ?_
  refine gn_callN (rest := _) (As := []) X hK hA (List.append_nil _).symm (cn_X2 q7) cwK2 (by simp [nwL]) rfl ⟨rfl, rfl, Nat.le_of_ble_eq_true rfl, Nat.le_of_ble_eq_true rfl⟩ ⟨Nat.le_of_ble_eq_true rfl, Nat.le_of_ble_eq_true rfl⟩ rfl (Nat.le_of_ble_eq_true rfl) dX9_init_66 (fun u hu => ?_)
  subst hu
  refine ws_subst (List.append_nil _) ?_
  refine gn_ast X hK 1 7 2 rfl rfl rfl (asg_2 (B := "HeartHours$Book") (F := "java/lang/Object") (X.2.2.2.2.1 _ (hu_in 78 (by decide +kernel) (by decide +kernel))) (X.2.2.2.2.1 _ (hu_in 71 (by decide +kernel) (by decide +kernel))) (X.2.2.2.2.1 _ (hu_in 43 (by decide +kernel) (by decide +kernel)))) 5 (by decide) (by decide) dX9_init_69 ?_
  refine gn_norm (pc2 := 70) (kc2 := 7) (ks2 := 6) (σ2 := [(a, .inr (9, [.null, .null, .int 0, .int 0, .int 0, .int 0, .int 0, .int 0, .int 0, .int 0, .null, .null, .null, .int 0, .null, .null, .null, .null, .int 0, .null])), (q1, .inl (cs 3, 6, .inr (.inr (.inr (.inr (va_up (va_up (va_up (va_up (va_up (va_up (fun _ => none) 0 (some q2)) 1 (some q3)) 2 (some q4)) 3 (some q5)) 4 (some q6)) 5 (some q7))))))), (q2, .inr (4, [])), (q3, .inr (0, [])), (q4, .inr (5, [])), (q5, .inr (3, [])), (q6, .inr (1, [])), (q7, .inr (2, []))]) rfl rfl rfl rfl ?_
  refine gn_putF X hK hini 9 (T := TX9) (N := 20) rfl inC9 tyX9_ok nmX9 0 (by decide) rfl (hu_in 112 (by decide +kernel) (by decide +kernel)) rfl rfl rfl rfl (Nat.le_of_ble_eq_true rfl) dX9_init_70 ?_
  refine gn_norm (pc2 := 73) (kc2 := 7) (ks2 := 6) (σ2 := [(a, .inr (9, [.ref (q1), .null, .int 0, .int 0, .int 0, .int 0, .int 0, .int 0, .int 0, .int 0, .null, .null, .null, .int 0, .null, .null, .null, .null, .int 0, .null])), (q1, .inl (cs 3, 6, .inr (.inr (.inr (.inr (va_up (va_up (va_up (va_up (va_up (va_up (fun _ => none) 0 (some q2)) 1 (some q3)) 2 (some q4)) 3 (some q5)) 4 (some q6)) 5 (some q7))))))), (q2, .inr (4, [])), (q3, .inr (0, [])), (q4, .inr (5, [])), (q5, .inr (3, [])), (q6, .inr (1, [])), (q7, .inr (2, []))]) rfl rfl rfl rfl ?_
  refine gs_aload_n X dX9_init_73 rfl 0 rfl ?_
  refine gn_new X hK hA 8 (C := RX8) (T := TX8) (N := 7) rfl inC8 tyX8_ok ⟨hu_in 79 (by decide +kernel) (by decide +kernel), hu_in 80 (by decide +kernel) (by decide +kernel), hu_in 9 (by decide +kernel) (by decide +kernel)⟩ (fs := [.int 0, .null, .null, .null, .null, .int 0, .null]) rfl ⟨Nat.le_of_ble_eq_true rfl, Nat.le_of_ble_eq_true rfl⟩ dX9_init_74 (fun q8 => ?_)
  refine gs_dup X dX9_init_77 rfl ?_
  refine gn_callN (As := []) X hK hA rfl (cn_X8 q8) cwK8 (by simp [nwL]) rfl ⟨rfl, rfl, Nat.le_of_ble_eq_true rfl, Nat.le_of_ble_eq_true rfl⟩ ⟨Nat.le_of_ble_eq_true rfl, Nat.le_of_ble_eq_true rfl⟩ rfl (Nat.le_of_ble_eq_true rfl) dX9_init_78 (fun u hu => ?_)
  obtain ⟨fq8, fq8_e, rfl⟩ := hu
  subst fq8_e
  refine gn_norm (pc2 := 81) (kc2 := 13) (ks2 := 242) (σ2 := [(a, .inr (9, [.ref (q1), .null, .int 0, .int 0, .int 0, .int 0, .int 0, .int 0, .int 0, .int 0, .null, .null, .null, .int 0, .null, .null, .null, .null, .int 0, .null])), (q1, .inl (cs 3, 6, .inr (.inr (.inr (.inr (va_up (va_up (va_up (va_up (va_up (va_up (fun _ => none) 0 (some q2)) 1 (some q3)) 2 (some q4)) 3 (some q5)) 4 (some q6)) 5 (some q7))))))), (q2, .inr (4, [])), (q3, .inr (0, [])), (q4, .inr (5, [])), (q5, .inr (3, [])), (q6, .inr (1, [])), (q7, .inr (2, [])), (fq8 31, .inr (8, [.int 0, .ref (fq8 21), .ref (fq8 22), .ref (fq8 23), .ref (fq8 24), .int 0, .ref (fq8 26)])), ai cs (fq8 21) 8, ai cs (fq8 22) 8, ai cs (fq8 23) 8, ai cs (fq8 24) 200, ai cs (fq8 26) 5]) rfl rfl rfl rfl ?_
  refine gn_putF X hK hini 9 (T := TX9) (N := 20) rfl inC9 tyX9_ok nmX9 1 (by decide) rfl (hu_in 114 (by decide +kernel) (by decide +kernel)) rfl rfl rfl rfl (Nat.le_of_ble_eq_true rfl) dX9_init_81 ?_
  refine gn_norm (pc2 := 84) (kc2 := 13) (ks2 := 242) (σ2 := [(a, .inr (9, [.ref (q1), .ref (fq8 31), .int 0, .int 0, .int 0, .int 0, .int 0, .int 0, .int 0, .int 0, .null, .null, .null, .int 0, .null, .null, .null, .null, .int 0, .null])), (q1, .inl (cs 3, 6, .inr (.inr (.inr (.inr (va_up (va_up (va_up (va_up (va_up (va_up (fun _ => none) 0 (some q2)) 1 (some q3)) 2 (some q4)) 3 (some q5)) 4 (some q6)) 5 (some q7))))))), (q2, .inr (4, [])), (q3, .inr (0, [])), (q4, .inr (5, [])), (q5, .inr (3, [])), (q6, .inr (1, [])), (q7, .inr (2, [])), (fq8 31, .inr (8, [.int 0, .ref (fq8 21), .ref (fq8 22), .ref (fq8 23), .ref (fq8 24), .int 0, .ref (fq8 26)])), ai cs (fq8 21) 8, ai cs (fq8 22) 8, ai cs (fq8 23) 8, ai cs (fq8 24) 200, ai cs (fq8 26) 5]) rfl rfl rfl rfl ?_
  refine gs_aload_n X dX9_init_84 rfl 0 rfl ?_
  refine gs_bipush (v := 12) X dX9_init_85 (by decide) ?_
  refine gn_put X hK 9 (T := TX9) (N := 20) rfl inC9 tyX9_ok nmX9 3 (by decide) rfl (hu_in 118 (by decide +kernel) (by decide +kernel)) rfl rfl rfl rfl (Nat.le_of_ble_eq_true rfl) dX9_init_87 ?_
  refine gn_norm (pc2 := 90) (kc2 := 13) (ks2 := 242) (σ2 := [(a, .inr (9, [.ref (q1), .ref (fq8 31), .int 0, .int 12, .int 0, .int 0, .int 0, .int 0, .int 0, .int 0, .null, .null, .null, .int 0, .null, .null, .null, .null, .int 0, .null])), (q1, .inl (cs 3, 6, .inr (.inr (.inr (.inr (va_up (va_up (va_up (va_up (va_up (va_up (fun _ => none) 0 (some q2)) 1 (some q3)) 2 (some q4)) 3 (some q5)) 4 (some q6)) 5 (some q7))))))), (q2, .inr (4, [])), (q3, .inr (0, [])), (q4, .inr (5, [])), (q5, .inr (3, [])), (q6, .inr (1, [])), (q7, .inr (2, [])), (fq8 31, .inr (8, [.int 0, .ref (fq8 21), .ref (fq8 22), .ref (fq8 23), .ref (fq8 24), .int 0, .ref (fq8 26)])), ai cs (fq8 21) 8, ai cs (fq8 22) 8, ai cs (fq8 23) 8, ai cs (fq8 24) 200, ai cs (fq8 26) 5]) rfl rfl rfl rfl ?_
  refine gs_aload_n X dX9_init_90 rfl 0 rfl ?_
  refine gs_iconst (v := 5) X dX9_init_91 (by decide) ?_
  refine gn_put X hK 9 (T := TX9) (N := 20) rfl inC9 tyX9_ok nmX9 5 (by decide) rfl (hu_in 122 (by decide +kernel) (by decide +kernel)) rfl rfl rfl rfl (Nat.le_of_ble_eq_true rfl) dX9_init_92 ?_
  refine gn_norm (pc2 := 95) (kc2 := 13) (ks2 := 242) (σ2 := [(a, .inr (9, [.ref (q1), .ref (fq8 31), .int 0, .int 12, .int 0, .int 5, .int 0, .int 0, .int 0, .int 0, .null, .null, .null, .int 0, .null, .null, .null, .null, .int 0, .null])), (q1, .inl (cs 3, 6, .inr (.inr (.inr (.inr (va_up (va_up (va_up (va_up (va_up (va_up (fun _ => none) 0 (some q2)) 1 (some q3)) 2 (some q4)) 3 (some q5)) 4 (some q6)) 5 (some q7))))))), (q2, .inr (4, [])), (q3, .inr (0, [])), (q4, .inr (5, [])), (q5, .inr (3, [])), (q6, .inr (1, [])), (q7, .inr (2, [])), (fq8 31, .inr (8, [.int 0, .ref (fq8 21), .ref (fq8 22), .ref (fq8 23), .ref (fq8 24), .int 0, .ref (fq8 26)])), ai cs (fq8 21) 8, ai cs (fq8 22) 8, ai cs (fq8 23) 8, ai cs (fq8 24) 200, ai cs (fq8 26) 5]) rfl rfl rfl rfl ?_
  refine gs_aload_n X dX9_init_95 rfl 0 rfl ?_
  refine gs_iconst (v := 1) X dX9_init_96 (by decide) ?_
  refine gn_put X hK 9 (T := TX9) (N := 20) rfl inC9 tyX9_ok nmX9 9 (by decide) rfl (hu_in 131 (by decide +kernel) (by decide +kernel)) rfl rfl rfl rfl (Nat.le_of_ble_eq_true rfl) dX9_init_97 ?_
  refine gn_norm (pc2 := 100) (kc2 := 13) (ks2 := 242) (σ2 := [(a, .inr (9, [.ref (q1), .ref (fq8 31), .int 0, .int 12, .int 0, .int 5, .int 0, .int 0, .int 0, .int 1, .null, .null, .null, .int 0, .null, .null, .null, .null, .int 0, .null])), (q1, .inl (cs 3, 6, .inr (.inr (.inr (.inr (va_up (va_up (va_up (va_up (va_up (va_up (fun _ => none) 0 (some q2)) 1 (some q3)) 2 (some q4)) 3 (some q5)) 4 (some q6)) 5 (some q7))))))), (q2, .inr (4, [])), (q3, .inr (0, [])), (q4, .inr (5, [])), (q5, .inr (3, [])), (q6, .inr (1, [])), (q7, .inr (2, [])), (fq8 31, .inr (8, [.int 0, .ref (fq8 21), .ref (fq8 22), .ref (fq8 23), .ref (fq8 24), .int 0, .ref (fq8 26)])), ai cs (fq8 21) 8, ai cs (fq8 22) 8, ai cs (fq8 23) 8, ai cs (fq8 24) 200, ai cs (fq8 26) 5]) rfl rfl rfl rfl ?_
  refine gs_aload_n X dX9_init_100 rfl 0 rfl ?_
  refine gs_bipush (v := 16) X dX9_init_101 (by decide) ?_
  refine gn_newi X hK hA 16 (by decide) ⟨Nat.le_of_ble_eq_true rfl, Nat.le_of_ble_eq_true rfl⟩ dX9_init_103 (fun q9 => ?_)
  refine gn_putF X hK hini 9 (T := TX9) (N := 20) rfl inC9 tyX9_ok nmX9 10 (by decide) rfl (hu_in 133 (by decide +kernel) (by decide +kernel)) rfl rfl rfl rfl (Nat.le_of_ble_eq_true rfl) dX9_init_105 ?_
  refine gn_norm (pc2 := 108) (kc2 := 14) (ks2 := 258) (σ2 := [(a, .inr (9, [.ref (q1), .ref (fq8 31), .int 0, .int 12, .int 0, .int 5, .int 0, .int 0, .int 0, .int 1, .ref (q9), .null, .null, .int 0, .null, .null, .null, .null, .int 0, .null])), (q1, .inl (cs 3, 6, .inr (.inr (.inr (.inr (va_up (va_up (va_up (va_up (va_up (va_up (fun _ => none) 0 (some q2)) 1 (some q3)) 2 (some q4)) 3 (some q5)) 4 (some q6)) 5 (some q7))))))), (q2, .inr (4, [])), (q3, .inr (0, [])), (q4, .inr (5, [])), (q5, .inr (3, [])), (q6, .inr (1, [])), (q7, .inr (2, [])), (fq8 31, .inr (8, [.int 0, .ref (fq8 21), .ref (fq8 22), .ref (fq8 23), .ref (fq8 24), .int 0, .ref (fq8 26)])), ai cs (fq8 21) 8, ai cs (fq8 22) 8, ai cs (fq8 23) 8, ai cs (fq8 24) 200, ai cs (fq8 26) 5, (q9, .inl (cs 0, 16, .inl (fun _ => 0)))]) rfl rfl rfl rfl ?_
  refine gs_aload_n X dX9_init_108 rfl 0 rfl ?_
  refine gs_bipush (v := 6) X dX9_init_109 (by decide) ?_
  refine gn_newi X hK hA 6 (by decide) ⟨Nat.le_of_ble_eq_true rfl, Nat.le_of_ble_eq_true rfl⟩ dX9_init_111 (fun q10 => ?_)
  refine gn_putF X hK hini 9 (T := TX9) (N := 20) rfl inC9 tyX9_ok nmX9 11 (by decide) rfl (hu_in 135 (by decide +kernel) (by decide +kernel)) rfl rfl rfl rfl (Nat.le_of_ble_eq_true rfl) dX9_init_113 ?_
  refine gn_norm (pc2 := 116) (kc2 := 15) (ks2 := 264) (σ2 := [(a, .inr (9, [.ref (q1), .ref (fq8 31), .int 0, .int 12, .int 0, .int 5, .int 0, .int 0, .int 0, .int 1, .ref (q9), .ref (q10), .null, .int 0, .null, .null, .null, .null, .int 0, .null])), (q1, .inl (cs 3, 6, .inr (.inr (.inr (.inr (va_up (va_up (va_up (va_up (va_up (va_up (fun _ => none) 0 (some q2)) 1 (some q3)) 2 (some q4)) 3 (some q5)) 4 (some q6)) 5 (some q7))))))), (q2, .inr (4, [])), (q3, .inr (0, [])), (q4, .inr (5, [])), (q5, .inr (3, [])), (q6, .inr (1, [])), (q7, .inr (2, [])), (fq8 31, .inr (8, [.int 0, .ref (fq8 21), .ref (fq8 22), .ref (fq8 23), .ref (fq8 24), .int 0, .ref (fq8 26)])), ai cs (fq8 21) 8, ai cs (fq8 22) 8, ai cs (fq8 23) 8, ai cs (fq8 24) 200, ai cs (fq8 26) 5, (q9, .inl (cs 0, 16, .inl (fun _ => 0))), (q10, .inl (cs 0, 6, .inl (fun _ => 0)))]) rfl rfl rfl rfl ?_
  refine gs_aload_n X dX9_init_116 rfl 0 rfl ?_
  refine gs_bipush (v := 6) X dX9_init_117 (by decide) ?_
  refine gn_newi X hK hA 6 (by decide) ⟨Nat.le_of_ble_eq_true rfl, Nat.le_of_ble_eq_true rfl⟩ dX9_init_119 (fun q11 => ?_)
  refine gn_putF X hK hini 9 (T := TX9) (N := 20) rfl inC9 tyX9_ok nmX9 12 (by decide) rfl (hu_in 137 (by decide +kernel) (by decide +kernel)) rfl rfl rfl rfl (Nat.le_of_ble_eq_true rfl) dX9_init_121 ?_
  refine gn_norm (pc2 := 124) (kc2 := 16) (ks2 := 270) (σ2 := [(a, .inr (9, [.ref (q1), .ref (fq8 31), .int 0, .int 12, .int 0, .int 5, .int 0, .int 0, .int 0, .int 1, .ref (q9), .ref (q10), .ref (q11), .int 0, .null, .null, .null, .null, .int 0, .null])), (q1, .inl (cs 3, 6, .inr (.inr (.inr (.inr (va_up (va_up (va_up (va_up (va_up (va_up (fun _ => none) 0 (some q2)) 1 (some q3)) 2 (some q4)) 3 (some q5)) 4 (some q6)) 5 (some q7))))))), (q2, .inr (4, [])), (q3, .inr (0, [])), (q4, .inr (5, [])), (q5, .inr (3, [])), (q6, .inr (1, [])), (q7, .inr (2, [])), (fq8 31, .inr (8, [.int 0, .ref (fq8 21), .ref (fq8 22), .ref (fq8 23), .ref (fq8 24), .int 0, .ref (fq8 26)])), ai cs (fq8 21) 8, ai cs (fq8 22) 8, ai cs (fq8 23) 8, ai cs (fq8 24) 200, ai cs (fq8 26) 5, (q9, .inl (cs 0, 16, .inl (fun _ => 0))), (q10, .inl (cs 0, 6, .inl (fun _ => 0))), (q11, .inl (cs 0, 6, .inl (fun _ => 0)))]) rfl rfl rfl rfl ?_
  refine gs_aload_n X dX9_init_124 rfl 0 rfl ?_
  refine gs_bipush (v := 6) X dX9_init_125 (by decide) ?_
  refine gn_newi X hK hA 6 (by decide) ⟨Nat.le_of_ble_eq_true rfl, Nat.le_of_ble_eq_true rfl⟩ dX9_init_127 (fun q12 => ?_)
  refine gn_putF X hK hini 9 (T := TX9) (N := 20) rfl inC9 tyX9_ok nmX9 14 (by decide) rfl (hu_in 142 (by decide +kernel) (by decide +kernel)) rfl rfl rfl rfl (Nat.le_of_ble_eq_true rfl) dX9_init_129 ?_
  refine gn_norm (pc2 := 132) (kc2 := 17) (ks2 := 276) (σ2 := [(a, .inr (9, [.ref (q1), .ref (fq8 31), .int 0, .int 12, .int 0, .int 5, .int 0, .int 0, .int 0, .int 1, .ref (q9), .ref (q10), .ref (q11), .int 0, .ref (q12), .null, .null, .null, .int 0, .null])), (q1, .inl (cs 3, 6, .inr (.inr (.inr (.inr (va_up (va_up (va_up (va_up (va_up (va_up (fun _ => none) 0 (some q2)) 1 (some q3)) 2 (some q4)) 3 (some q5)) 4 (some q6)) 5 (some q7))))))), (q2, .inr (4, [])), (q3, .inr (0, [])), (q4, .inr (5, [])), (q5, .inr (3, [])), (q6, .inr (1, [])), (q7, .inr (2, [])), (fq8 31, .inr (8, [.int 0, .ref (fq8 21), .ref (fq8 22), .ref (fq8 23), .ref (fq8 24), .int 0, .ref (fq8 26)])), ai cs (fq8 21) 8, ai cs (fq8 22) 8, ai cs (fq8 23) 8, ai cs (fq8 24) 200, ai cs (fq8 26) 5, (q9, .inl (cs 0, 16, .inl (fun _ => 0))), (q10, .inl (cs 0, 6, .inl (fun _ => 0))), (q11, .inl (cs 0, 6, .inl (fun _ => 0))), (q12, .inl (cs 0, 6, .inl (fun _ => 0)))]) rfl rfl rfl rfl ?_
  refine gs_aload_n X dX9_init_132 rfl 0 rfl ?_
  refine gs_bipush (v := 6) X dX9_init_133 (by decide) ?_
  refine gn_newi X hK hA 6 (by decide) ⟨Nat.le_of_ble_eq_true rfl, Nat.le_of_ble_eq_true rfl⟩ dX9_init_135 (fun q13 => ?_)
  refine gn_putF X hK hini 9 (T := TX9) (N := 20) rfl inC9 tyX9_ok nmX9 15 (by decide) rfl (hu_in 144 (by decide +kernel) (by decide +kernel)) rfl rfl rfl rfl (Nat.le_of_ble_eq_true rfl) dX9_init_137 ?_
  refine gn_norm (pc2 := 140) (kc2 := 18) (ks2 := 282) (σ2 := [(a, .inr (9, [.ref (q1), .ref (fq8 31), .int 0, .int 12, .int 0, .int 5, .int 0, .int 0, .int 0, .int 1, .ref (q9), .ref (q10), .ref (q11), .int 0, .ref (q12), .ref (q13), .null, .null, .int 0, .null])), (q1, .inl (cs 3, 6, .inr (.inr (.inr (.inr (va_up (va_up (va_up (va_up (va_up (va_up (fun _ => none) 0 (some q2)) 1 (some q3)) 2 (some q4)) 3 (some q5)) 4 (some q6)) 5 (some q7))))))), (q2, .inr (4, [])), (q3, .inr (0, [])), (q4, .inr (5, [])), (q5, .inr (3, [])), (q6, .inr (1, [])), (q7, .inr (2, [])), (fq8 31, .inr (8, [.int 0, .ref (fq8 21), .ref (fq8 22), .ref (fq8 23), .ref (fq8 24), .int 0, .ref (fq8 26)])), ai cs (fq8 21) 8, ai cs (fq8 22) 8, ai cs (fq8 23) 8, ai cs (fq8 24) 200, ai cs (fq8 26) 5, (q9, .inl (cs 0, 16, .inl (fun _ => 0))), (q10, .inl (cs 0, 6, .inl (fun _ => 0))), (q11, .inl (cs 0, 6, .inl (fun _ => 0))), (q12, .inl (cs 0, 6, .inl (fun _ => 0))), (q13, .inl (cs 0, 6, .inl (fun _ => 0)))]) rfl rfl rfl rfl ?_
  refine gs_aload_n X dX9_init_140 rfl 0 rfl ?_
  refine gs_bipush (v := 6) X dX9_init_141 (by decide) ?_
  refine gn_newi X hK hA 6 (by decide) ⟨Nat.le_of_ble_eq_true rfl, Nat.le_of_ble_eq_true rfl⟩ dX9_init_143 (fun q14 => ?_)
  refine gn_putF X hK hini 9 (T := TX9) (N := 20) rfl inC9 tyX9_ok nmX9 16 (by decide) rfl (hu_in 146 (by decide +kernel) (by decide +kernel)) rfl rfl rfl rfl (Nat.le_of_ble_eq_true rfl) dX9_init_145 ?_
  refine gn_norm (pc2 := 148) (kc2 := 19) (ks2 := 288) (σ2 := [(a, .inr (9, [.ref (q1), .ref (fq8 31), .int 0, .int 12, .int 0, .int 5, .int 0, .int 0, .int 0, .int 1, .ref (q9), .ref (q10), .ref (q11), .int 0, .ref (q12), .ref (q13), .ref (q14), .null, .int 0, .null])), (q1, .inl (cs 3, 6, .inr (.inr (.inr (.inr (va_up (va_up (va_up (va_up (va_up (va_up (fun _ => none) 0 (some q2)) 1 (some q3)) 2 (some q4)) 3 (some q5)) 4 (some q6)) 5 (some q7))))))), (q2, .inr (4, [])), (q3, .inr (0, [])), (q4, .inr (5, [])), (q5, .inr (3, [])), (q6, .inr (1, [])), (q7, .inr (2, [])), (fq8 31, .inr (8, [.int 0, .ref (fq8 21), .ref (fq8 22), .ref (fq8 23), .ref (fq8 24), .int 0, .ref (fq8 26)])), ai cs (fq8 21) 8, ai cs (fq8 22) 8, ai cs (fq8 23) 8, ai cs (fq8 24) 200, ai cs (fq8 26) 5, (q9, .inl (cs 0, 16, .inl (fun _ => 0))), (q10, .inl (cs 0, 6, .inl (fun _ => 0))), (q11, .inl (cs 0, 6, .inl (fun _ => 0))), (q12, .inl (cs 0, 6, .inl (fun _ => 0))), (q13, .inl (cs 0, 6, .inl (fun _ => 0))), (q14, .inl (cs 0, 6, .inl (fun _ => 0)))]) rfl rfl rfl rfl ?_
  refine gs_aload_n X dX9_init_148 rfl 0 rfl ?_
  refine gs_bipush (v := 6) X dX9_init_149 (by decide) ?_
  refine gn_newi X hK hA 6 (by decide) ⟨Nat.le_of_ble_eq_true rfl, Nat.le_of_ble_eq_true rfl⟩ dX9_init_151 (fun q15 => ?_)
  refine gn_putF X hK hini 9 (T := TX9) (N := 20) rfl inC9 tyX9_ok nmX9 17 (by decide) rfl (hu_in 148 (by decide +kernel) (by decide +kernel)) rfl rfl rfl rfl (Nat.le_of_ble_eq_true rfl) dX9_init_153 ?_
  refine gn_norm (pc2 := 156) (kc2 := 20) (ks2 := 294) (σ2 := [(a, .inr (9, [.ref (q1), .ref (fq8 31), .int 0, .int 12, .int 0, .int 5, .int 0, .int 0, .int 0, .int 1, .ref (q9), .ref (q10), .ref (q11), .int 0, .ref (q12), .ref (q13), .ref (q14), .ref (q15), .int 0, .null])), (q1, .inl (cs 3, 6, .inr (.inr (.inr (.inr (va_up (va_up (va_up (va_up (va_up (va_up (fun _ => none) 0 (some q2)) 1 (some q3)) 2 (some q4)) 3 (some q5)) 4 (some q6)) 5 (some q7))))))), (q2, .inr (4, [])), (q3, .inr (0, [])), (q4, .inr (5, [])), (q5, .inr (3, [])), (q6, .inr (1, [])), (q7, .inr (2, [])), (fq8 31, .inr (8, [.int 0, .ref (fq8 21), .ref (fq8 22), .ref (fq8 23), .ref (fq8 24), .int 0, .ref (fq8 26)])), ai cs (fq8 21) 8, ai cs (fq8 22) 8, ai cs (fq8 23) 8, ai cs (fq8 24) 200, ai cs (fq8 26) 5, (q9, .inl (cs 0, 16, .inl (fun _ => 0))), (q10, .inl (cs 0, 6, .inl (fun _ => 0))), (q11, .inl (cs 0, 6, .inl (fun _ => 0))), (q12, .inl (cs 0, 6, .inl (fun _ => 0))), (q13, .inl (cs 0, 6, .inl (fun _ => 0))), (q14, .inl (cs 0, 6, .inl (fun _ => 0))), (q15, .inl (cs 0, 6, .inl (fun _ => 0)))]) rfl rfl rfl rfl ?_
  refine gs_aload_n X dX9_init_156 rfl 0 rfl ?_
  refine gs_bipush (v := 24) X dX9_init_157 (by decide) ?_
  refine gn_newi X hK hA 24 (by decide) ⟨Nat.le_of_ble_eq_true rfl, Nat.le_of_ble_eq_true rfl⟩ dX9_init_159 (fun q16 => ?_)
  refine gn_putF X hK hini 9 (T := TX9) (N := 20) rfl inC9 tyX9_ok nmX9 19 (by decide) rfl (hu_in 152 (by decide +kernel) (by decide +kernel)) rfl rfl rfl rfl (Nat.le_of_ble_eq_true rfl) dX9_init_161 ?_
  refine gn_norm (pc2 := 164) (kc2 := 21) (ks2 := 318) (σ2 := [(a, .inr (9, [.ref (q1), .ref (fq8 31), .int 0, .int 12, .int 0, .int 5, .int 0, .int 0, .int 0, .int 1, .ref (q9), .ref (q10), .ref (q11), .int 0, .ref (q12), .ref (q13), .ref (q14), .ref (q15), .int 0, .ref (q16)])), (q1, .inl (cs 3, 6, .inr (.inr (.inr (.inr (va_up (va_up (va_up (va_up (va_up (va_up (fun _ => none) 0 (some q2)) 1 (some q3)) 2 (some q4)) 3 (some q5)) 4 (some q6)) 5 (some q7))))))), (q2, .inr (4, [])), (q3, .inr (0, [])), (q4, .inr (5, [])), (q5, .inr (3, [])), (q6, .inr (1, [])), (q7, .inr (2, [])), (fq8 31, .inr (8, [.int 0, .ref (fq8 21), .ref (fq8 22), .ref (fq8 23), .ref (fq8 24), .int 0, .ref (fq8 26)])), ai cs (fq8 21) 8, ai cs (fq8 22) 8, ai cs (fq8 23) 8, ai cs (fq8 24) 200, ai cs (fq8 26) 5, (q9, .inl (cs 0, 16, .inl (fun _ => 0))), (q10, .inl (cs 0, 6, .inl (fun _ => 0))), (q11, .inl (cs 0, 6, .inl (fun _ => 0))), (q12, .inl (cs 0, 6, .inl (fun _ => 0))), (q13, .inl (cs 0, 6, .inl (fun _ => 0))), (q14, .inl (cs 0, 6, .inl (fun _ => 0))), (q15, .inl (cs 0, 6, .inl (fun _ => 0))), (q16, .inl (cs 0, 24, .inl (fun _ => 0)))]) rfl rfl rfl rfl ?_
  refine gs_aload_n X dX9_init_164 rfl 0 rfl ?_
  refine gn_get X hK 9 (T := TX9) (N := 20) rfl inC9 10 (by decide) rfl (hu_in 133 (by decide +kernel) (by decide +kernel)) rfl rfl dX9_init_165 ?_
  refine gs_iconst (v := 4) X dX9_init_168 (by decide) ?_
  refine gn_callF (As := [.ref _, .int 4]) X hK hA 14 rfl (cn_fill (by decide)) cwF_75 rfl ⟨rfl, rfl, Nat.le_of_ble_eq_true rfl, Nat.le_of_ble_eq_true rfl⟩ ⟨Nat.le_of_ble_eq_true rfl, Nat.le_of_ble_eq_true rfl⟩ rfl (Nat.le_of_ble_eq_true rfl) dX9_init_169 ?_
  refine gn_norm (pc2 := 172) (kc2 := 21) (ks2 := 318) (σ2 := [(a, .inr (9, [.ref (q1), .ref (fq8 31), .int 0, .int 12, .int 0, .int 5, .int 0, .int 0, .int 0, .int 1, .ref (q9), .ref (q10), .ref (q11), .int 0, .ref (q12), .ref (q13), .ref (q14), .ref (q15), .int 0, .ref (q16)])), (q1, .inl (cs 3, 6, .inr (.inr (.inr (.inr (va_up (va_up (va_up (va_up (va_up (va_up (fun _ => none) 0 (some q2)) 1 (some q3)) 2 (some q4)) 3 (some q5)) 4 (some q6)) 5 (some q7))))))), (q2, .inr (4, [])), (q3, .inr (0, [])), (q4, .inr (5, [])), (q5, .inr (3, [])), (q6, .inr (1, [])), (q7, .inr (2, [])), (fq8 31, .inr (8, [.int 0, .ref (fq8 21), .ref (fq8 22), .ref (fq8 23), .ref (fq8 24), .int 0, .ref (fq8 26)])), ai cs (fq8 21) 8, ai cs (fq8 22) 8, ai cs (fq8 23) 8, ai cs (fq8 24) 200, ai cs (fq8 26) 5, (q9, .inl (cs 0, 16, .inl (lpF (4) 16 0 (fun _ => 0)))), (q10, .inl (cs 0, 6, .inl (fun _ => 0))), (q11, .inl (cs 0, 6, .inl (fun _ => 0))), (q12, .inl (cs 0, 6, .inl (fun _ => 0))), (q13, .inl (cs 0, 6, .inl (fun _ => 0))), (q14, .inl (cs 0, 6, .inl (fun _ => 0))), (q15, .inl (cs 0, 6, .inl (fun _ => 0))), (q16, .inl (cs 0, 24, .inl (fun _ => 0)))]) rfl rfl rfl rfl ?_
  refine gs_aload_n X dX9_init_172 rfl 0 rfl ?_
  refine gn_get X hK 9 (T := TX9) (N := 20) rfl inC9 12 (by decide) rfl (hu_in 137 (by decide +kernel) (by decide +kernel)) rfl rfl dX9_init_173 ?_
  refine gs_iconst (v := 3) X dX9_init_176 (by decide) ?_
  refine gn_callF (As := [.ref _, .int 3]) X hK hA 16 rfl (cn_fill (by decide)) cwF_75 rfl ⟨rfl, rfl, Nat.le_of_ble_eq_true rfl, Nat.le_of_ble_eq_true rfl⟩ ⟨Nat.le_of_ble_eq_true rfl, Nat.le_of_ble_eq_true rfl⟩ rfl (Nat.le_of_ble_eq_true rfl) dX9_init_177 ?_
  refine gn_norm (pc2 := 180) (kc2 := 21) (ks2 := 318) (σ2 := [(a, .inr (9, [.ref (q1), .ref (fq8 31), .int 0, .int 12, .int 0, .int 5, .int 0, .int 0, .int 0, .int 1, .ref (q9), .ref (q10), .ref (q11), .int 0, .ref (q12), .ref (q13), .ref (q14), .ref (q15), .int 0, .ref (q16)])), (q1, .inl (cs 3, 6, .inr (.inr (.inr (.inr (va_up (va_up (va_up (va_up (va_up (va_up (fun _ => none) 0 (some q2)) 1 (some q3)) 2 (some q4)) 3 (some q5)) 4 (some q6)) 5 (some q7))))))), (q2, .inr (4, [])), (q3, .inr (0, [])), (q4, .inr (5, [])), (q5, .inr (3, [])), (q6, .inr (1, [])), (q7, .inr (2, [])), (fq8 31, .inr (8, [.int 0, .ref (fq8 21), .ref (fq8 22), .ref (fq8 23), .ref (fq8 24), .int 0, .ref (fq8 26)])), ai cs (fq8 21) 8, ai cs (fq8 22) 8, ai cs (fq8 23) 8, ai cs (fq8 24) 200, ai cs (fq8 26) 5, (q9, .inl (cs 0, 16, .inl (lpF (4) 16 0 (fun _ => 0)))), (q10, .inl (cs 0, 6, .inl (fun _ => 0))), (q11, .inl (cs 0, 6, .inl (lpF (3) 6 0 (fun _ => 0)))), (q12, .inl (cs 0, 6, .inl (fun _ => 0))), (q13, .inl (cs 0, 6, .inl (fun _ => 0))), (q14, .inl (cs 0, 6, .inl (fun _ => 0))), (q15, .inl (cs 0, 6, .inl (fun _ => 0))), (q16, .inl (cs 0, 24, .inl (fun _ => 0)))]) rfl rfl rfl rfl ?_
  refine gn_fn 1 (g := fun j => some (ql [(30, a), (0, q1), (40, q2), (41, q3), (42, q4), (43, q5), (44, q6), (45, q7), (10, q9), (11, q10), (12, q11), (14, q12), (15, q13), (16, q14), (17, q15), (19, q16), (31, fq8 31), (21, fq8 21), (22, fq8 22), (23, fq8 23), (24, fq8 24), (26, fq8 26)] (40 + j))) rfl (h6 rfl rfl rfl rfl rfl rfl) ?_
  refine gn_perm (σ2 := wT cs (fun i => ql [(30, a), (0, q1), (40, q2), (41, q3), (42, q4), (43, q5), (44, q6), (45, q7), (10, q9), (11, q10), (12, q11), (14, q12), (15, q13), (16, q14), (17, q15), (19, q16), (31, fq8 31), (21, fq8 21), (22, fq8 22), (23, fq8 23), (24, fq8 24), (26, fq8 26)] i)) [0, 1, 2, 3, 4, 5, 6, 7, 14, 15, 16, 17, 18, 19, 20, 21, 8, 9, 10, 11, 12, 13] rfl rfl ?_
  exact gn_ret X ⟨rfl, rfl⟩ ⟨fun i => ql [(30, a), (0, q1), (40, q2), (41, q3), (42, q4), (43, q5), (44, q6), (45, q7), (10, q9), (11, q10), (12, q11), (14, q12), (15, q13), (16, q14), (17, q15), (19, q16), (31, fq8 31), (21, fq8 21), (22, fq8 22), (23, fq8 23), (24, fq8 24), (26, fq8 26)] i, rfl, rfl⟩ dX9_init_180
