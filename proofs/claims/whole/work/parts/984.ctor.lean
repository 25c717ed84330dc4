/-! THE CONSTRUCTORS OF THE TWO -/
/-- two blocks behind a head, the other way round -/
theorem gn_swap {p : Program} {l : Launch} {e : Env} {R : Room} {s : State} {m : MethodId} {args : Array Value} {below : List Frame} {meth : Method} {c : Code} {D : va_G} {A : Nat → Prop} {nL : Nat} {Q : State → Prop} {pc : Nat} {L : List (Nat × Value)} {st : List Value} {kc ks : Nat} {x : Nat × va_E} {w1 w2 : va_W} (kk : gs kc ks p l e R s m args below meth c wI D vwCl A nL Q pc L st (x :: (w2 ++ w1))) : gs kc ks p l e R s m args below meth c wI D vwCl A nL Q pc L st (x :: (w1 ++ w2)) := by
  intro H locs ls hP hD hS h
  have hP1 : va_P D vwCl ([x] ++ (w1 ++ w2)) H := hP
  have hD1 : va_D A ([x] ++ (w1 ++ w2)) := hD
  have hPx := lj_P2 hP1
  have hDx := lj_D2 hD1
  refine kk H locs ls ?_ ?_ hS h
  · show va_P D vwCl ([x] ++ (w2 ++ w1)) H
    exact va_P.app (lj_P1 hP1) (va_P.app (lj_P2 hPx) (lj_P1 hPx))
  · show va_D A ([x] ++ (w2 ++ w1))
    refine va_D.app (lj_D1 hD1) (va_D.app (lj_D2 hDx) (lj_D1 hDx) (fun i j x y hx hy e => lj_ap hDx hy hx e.symm)) (fun i j y z hy hz e => ?_)
    by_cases hj : j < w2.length
    · rw [List.getElem?_append_left hj] at hz
      exact lj_ap hD1 hy (lj_i2 (w1 := w1) hz) e
    · rw [List.getElem?_append_right (by omega)] at hz
      exact lj_ap hD1 hy (lj_i1 (w2 := w2) hz) e
def wHN (cs : Nat → ClassId) (q0 q1 qp qr qv q : Nat → Nat) : va_W := (q 16, .inr (11, [.ref (q0 30), .ref (q1 30), .int 0, .ref (qp 30), .ref (qr 30), .ref (qv 30), .ref (q 6), .int 0, .ref (q 8), .int 0, .ref (q 10), .ref (q 11), .ref (q 12), .ref (q 13), .ref (q 14), .ref (q 15)])) :: ([(q 6, .inl (cs 1, 200, .inl (fun _ => 0))), ai cs (q 8) 12, (q 10, .inl (cs 0, 4, .inl (lpF (-1) 4 0 (fun _ => 0)))), ai cs (q 11) 4, (q 12, .inl (cs 2, 160, .inr (.inl (fun _ => 0)))), ai cs (q 13) 4, ai cs (q 14) 4, ai cs (q 15) 4] ++ (wT cs q0 ++ wT cs q1 ++ wPn cs (q0 30) qp ++ wDn cs qr ++ wVn cs qv))
theorem cn_X11 {l : Launch} {D : va_G} {cs : Nat → ClassId} (a : Nat) : ctN l D cs yX11_init cX11_init 1 rmN11 [.ref a] [(a, .inr (11, [.null, .null, .int 0, .null, .null, .null, .null, .int 0, .null, .int 0, .null, .null, .null, .null, .null, .null]))] (fun u => ∃ q0 q1 qp qr qv q : Nat → Nat, q 16 = a ∧ u = wHN cs q0 q1 qp qr qv q) 72 1981 := by
  refine ct_N RX11 (by decide +kernel) rfl (Nat.le_of_ble_eq_true rfl) ?_
  intro p e s m args below meth c A X hini hK hA
  refine gs_aload_n X dX11_init_0 rfl 0 rfl ?_
  refine gn_oi X (hu_in 27 (by decide +kernel) (by decide +kernel)) ⟨Nat.le_of_ble_eq_true rfl, Nat.le_of_ble_eq_true rfl⟩ (Nat.le_of_ble_eq_true rfl) dX11_init_1 ?_
  refine gs_aload_n X dX11_init_4 rfl 0 rfl ?_
  refine gn_new X hK hA 9 (C := RX9) (T := TX9) (N := 20) rfl inC9 tyX9_ok ⟨hu_in 30 (by decide +kernel) (by decide +kernel), hu_in 31 (by decide +kernel) (by decide +kernel), hu_in 2 (by decide +kernel) (by decide +kernel)⟩ (fs := [.null, .null, .int 0, .int 0, .int 0, .int 0, .int 0, .int 0, .int 0, .int 0, .null, .null, .null, .int 0, .null, .null, .null, .null, .int 0, .null]) rfl ⟨Nat.le_of_ble_eq_true rfl, Nat.le_of_ble_eq_true rfl⟩ dX11_init_5 (fun q1 => ?_)
  refine gs_dup X dX11_init_8 rfl ?_
  refine gn_callI (As := []) X hK hA rfl (cn_X9 q1) cwK9 (hu_in 32 (by decide +kernel) (by decide +kernel)) rfl ⟨rfl, rfl, Nat.le_of_ble_eq_true rfl, Nat.le_of_ble_eq_true rfl⟩ ⟨Nat.le_of_ble_eq_true rfl, Nat.le_of_ble_eq_true rfl⟩ rfl (Nat.le_of_ble_eq_true rfl) dX11_init_9 (fun u hu => ?_)
  obtain ⟨fq1, fq1_e, rfl⟩ := hu
  subst fq1_e
  refine gn_norm (pc2 := 12) (kc2 := 22) (ks2 := 338) (σ2 := (a, .inr (11, [.null, .null, .int 0, .null, .null, .null, .null, .int 0, .null, .int 0, .null, .null, .null, .null, .null, .null])) :: (wT cs fq1)) rfl rfl rfl rfl ?_
  refine gn_putF X hK hini 11 (T := TX11) (N := 16) rfl inC11 tyX11_ok nmX11 0 (by decide) rfl (hu_in 285 (by decide +kernel) (by decide +kernel)) rfl rfl rfl rfl (Nat.le_of_ble_eq_true rfl) dX11_init_12 ?_
  refine gn_norm (pc2 := 15) (kc2 := 22) (ks2 := 338) (σ2 := (a, .inr (11, [.ref (fq1 30), .null, .int 0, .null, .null, .null, .null, .int 0, .null, .int 0, .null, .null, .null, .null, .null, .null])) :: (wT cs fq1)) rfl rfl rfl rfl ?_
  refine gs_aload_n X dX11_init_15 rfl 0 rfl ?_
  refine gn_new X hK hA 9 (C := RX9) (T := TX9) (N := 20) rfl inC9 tyX9_ok ⟨hu_in 30 (by decide +kernel) (by decide +kernel), hu_in 31 (by decide +kernel) (by decide +kernel), hu_in 2 (by decide +kernel) (by decide +kernel)⟩ (fs := [.null, .null, .int 0, .int 0, .int 0, .int 0, .int 0, .int 0, .int 0, .int 0, .null, .null, .null, .int 0, .null, .null, .null, .null, .int 0, .null]) rfl ⟨Nat.le_of_ble_eq_true rfl, Nat.le_of_ble_eq_true rfl⟩ dX11_init_16 (fun q2 => ?_)
  refine gs_dup X dX11_init_19 rfl ?_
  refine gn_callI (As := []) X hK hA rfl (cn_X9 q2) cwK9 (hu_in 32 (by decide +kernel) (by decide +kernel)) rfl ⟨rfl, rfl, Nat.le_of_ble_eq_true rfl, Nat.le_of_ble_eq_true rfl⟩ ⟨Nat.le_of_ble_eq_true rfl, Nat.le_of_ble_eq_true rfl⟩ rfl (Nat.le_of_ble_eq_true rfl) dX11_init_20 (fun u hu => ?_)
  obtain ⟨fq2, fq2_e, rfl⟩ := hu
  subst fq2_e
  refine gn_norm (pc2 := 23) (kc2 := 44) (ks2 := 676) (σ2 := (a, .inr (11, [.ref (fq1 30), .null, .int 0, .null, .null, .null, .null, .int 0, .null, .int 0, .null, .null, .null, .null, .null, .null])) :: (wT cs fq1 ++ wT cs fq2)) rfl rfl rfl rfl ?_
  refine gn_putF X hK hini 11 (T := TX11) (N := 16) rfl inC11 tyX11_ok nmX11 1 (by decide) rfl (hu_in 286 (by decide +kernel) (by decide +kernel)) rfl rfl rfl rfl (Nat.le_of_ble_eq_true rfl) dX11_init_23 ?_
  refine gn_norm (pc2 := 26) (kc2 := 44) (ks2 := 676) (σ2 := (a, .inr (11, [.ref (fq1 30), .ref (fq2 30), .int 0, .null, .null, .null, .null, .int 0, .null, .int 0, .null, .null, .null, .null, .null, .null])) :: (wT cs fq1 ++ wT cs fq2)) rfl rfl rfl rfl ?_
  refine gs_aload_n X dX11_init_26 rfl 0 rfl ?_
  refine gn_new X hK hA 6 (C := RX6) (T := TX6) (N := 3) rfl inC6 tyX6_ok ⟨hu_in 194 (by decide +kernel) (by decide +kernel), hu_in 195 (by decide +kernel) (by decide +kernel), hu_in 11 (by decide +kernel) (by decide +kernel)⟩ (fs := [.null, .null, .null]) rfl ⟨Nat.le_of_ble_eq_true rfl, Nat.le_of_ble_eq_true rfl⟩ dX11_init_27 (fun q3 => ?_)
  refine gs_dup X dX11_init_30 rfl ?_
  refine gs_aload_n X dX11_init_31 rfl 0 rfl ?_
  refine gn_get X hK 11 (T := TX11) (N := 16) rfl inC11 0 (by decide) rfl (hu_in 285 (by decide +kernel) (by decide +kernel)) rfl rfl dX11_init_32 ?_
  refine gn_callI (As := [.ref (fq1 30)]) X hK hA rfl (cn_X6 q3 _) cwK6 (hu_in 196 (by decide +kernel) (by decide +kernel)) rfl ⟨rfl, rfl, Nat.le_of_ble_eq_true rfl, Nat.le_of_ble_eq_true rfl⟩ ⟨Nat.le_of_ble_eq_true rfl, Nat.le_of_ble_eq_true rfl⟩ rfl (Nat.le_of_ble_eq_true rfl) dX11_init_35 (fun u hu => ?_)
  obtain ⟨fq3, fq3_e, rfl⟩ := hu
  subst fq3_e
  refine gn_norm (pc2 := 38) (kc2 := 52) (ks2 := 709) (σ2 := (a, .inr (11, [.ref (fq1 30), .ref (fq2 30), .int 0, .null, .null, .null, .null, .int 0, .null, .int 0, .null, .null, .null, .null, .null, .null])) :: (wT cs fq1 ++ wT cs fq2 ++ wPn cs (fq1 30) fq3)) rfl rfl rfl rfl ?_
  refine gn_putF X hK hini 11 (T := TX11) (N := 16) rfl inC11 tyX11_ok nmX11 3 (by decide) rfl (hu_in 288 (by decide +kernel) (by decide +kernel)) rfl rfl rfl rfl (Nat.le_of_ble_eq_true rfl) dX11_init_38 ?_
  refine gn_norm (pc2 := 41) (kc2 := 52) (ks2 := 709) (σ2 := (a, .inr (11, [.ref (fq1 30), .ref (fq2 30), .int 0, .ref (fq3 30), .null, .null, .null, .int 0, .null, .int 0, .null, .null, .null, .null, .null, .null])) :: (wT cs fq1 ++ wT cs fq2 ++ wPn cs (fq1 30) fq3)) rfl rfl rfl rfl ?_
  refine gs_aload_n X dX11_init_41 rfl 0 rfl ?_
  refine gn_new X hK hA 7 (C := RX7) (T := TX7) (N := 9) rfl inC7 tyX7_ok ⟨hu_in 214 (by decide +kernel) (by decide +kernel), hu_in 215 (by decide +kernel) (by decide +kernel), hu_in 12 (by decide +kernel) (by decide +kernel)⟩ (fs := [.null, .null, .null, .null, .int 0, .int 0, .int 0, .int 0, .int 0]) rfl ⟨Nat.le_of_ble_eq_true rfl, Nat.le_of_ble_eq_true rfl⟩ dX11_init_42 (fun q4 => ?_)
  refine gs_dup X dX11_init_45 rfl ?_
  refine gn_callN (As := []) X hK hA rfl (cn_X7 q4) cwK7 (by simp [nwL]) rfl ⟨rfl, rfl, Nat.le_of_ble_eq_true rfl, Nat.le_of_ble_eq_true rfl⟩ ⟨Nat.le_of_ble_eq_true rfl, Nat.le_of_ble_eq_true rfl⟩ rfl (Nat.le_of_ble_eq_true rfl) dX11_init_46 (fun u hu => ?_)
  obtain ⟨fq4, fq4_e, rfl⟩ := hu
  subst fq4_e
  refine gn_norm (pc2 := 49) (kc2 := 62) (ks2 := 1554) (σ2 := (a, .inr (11, [.ref (fq1 30), .ref (fq2 30), .int 0, .ref (fq3 30), .null, .null, .null, .int 0, .null, .int 0, .null, .null, .null, .null, .null, .null])) :: (wT cs fq1 ++ wT cs fq2 ++ wPn cs (fq1 30) fq3 ++ wDn cs fq4)) rfl rfl rfl rfl ?_
  refine gn_putF X hK hini 11 (T := TX11) (N := 16) rfl inC11 tyX11_ok nmX11 4 (by decide) rfl (hu_in 289 (by decide +kernel) (by decide +kernel)) rfl rfl rfl rfl (Nat.le_of_ble_eq_true rfl) dX11_init_49 ?_
  refine gn_norm (pc2 := 52) (kc2 := 62) (ks2 := 1554) (σ2 := (a, .inr (11, [.ref (fq1 30), .ref (fq2 30), .int 0, .ref (fq3 30), .ref (fq4 30), .null, .null, .int 0, .null, .int 0, .null, .null, .null, .null, .null, .null])) :: (wT cs fq1 ++ wT cs fq2 ++ wPn cs (fq1 30) fq3 ++ wDn cs fq4)) rfl rfl rfl rfl ?_
  refine gs_aload_n X dX11_init_52 rfl 0 rfl ?_
  refine gn_new X hK hA 10 (C := RX10) (T := TX10) (N := 5) rfl inC10 tyX10_ok ⟨hu_in 252 (by decide +kernel) (by decide +kernel), hu_in 253 (by decide +kernel) (by decide +kernel), hu_in 13 (by decide +kernel) (by decide +kernel)⟩ (fs := [.int 0, .int 0, .int 0, .null, .int 0]) rfl ⟨Nat.le_of_ble_eq_true rfl, Nat.le_of_ble_eq_true rfl⟩ dX11_init_53 (fun q5 => ?_)
  refine gs_dup X dX11_init_56 rfl ?_
  refine gn_callN (As := []) X hK hA rfl (cn_X10 q5) cwK10 (by simp [nwL]) rfl ⟨rfl, rfl, Nat.le_of_ble_eq_true rfl, Nat.le_of_ble_eq_true rfl⟩ ⟨Nat.le_of_ble_eq_true rfl, Nat.le_of_ble_eq_true rfl⟩ rfl (Nat.le_of_ble_eq_true rfl) dX11_init_57 (fun u hu => ?_)
  obtain ⟨fq5, fq5_e, rfl⟩ := hu
  subst fq5_e
  refine gn_norm (pc2 := 60) (kc2 := 64) (ks2 := 1589) (σ2 := (a, .inr (11, [.ref (fq1 30), .ref (fq2 30), .int 0, .ref (fq3 30), .ref (fq4 30), .null, .null, .int 0, .null, .int 0, .null, .null, .null, .null, .null, .null])) :: (wT cs fq1 ++ wT cs fq2 ++ wPn cs (fq1 30) fq3 ++ wDn cs fq4 ++ wVn cs fq5)) rfl rfl rfl rfl ?_
  refine gn_putF X hK hini 11 (T := TX11) (N := 16) rfl inC11 tyX11_ok nmX11 5 (by decide) rfl (hu_in 290 (by decide +kernel) (by decide +kernel)) rfl rfl rfl rfl (Nat.le_of_ble_eq_true rfl) dX11_init_60 ?_
  refine gn_norm (pc2 := 63) (kc2 := 64) (ks2 := 1589) (σ2 := (a, .inr (11, [.ref (fq1 30), .ref (fq2 30), .int 0, .ref (fq3 30), .ref (fq4 30), .ref (fq5 30), .null, .int 0, .null, .int 0, .null, .null, .null, .null, .null, .null])) :: (wT cs fq1 ++ wT cs fq2 ++ wPn cs (fq1 30) fq3 ++ wDn cs fq4 ++ wVn cs fq5)) rfl rfl rfl rfl ?_
  refine gs_aload_n X dX11_init_63 rfl 0 rfl ?_
  refine gn_sipush (v := 200) X dX11_init_64 (by decide) ?_
  refine gn_newb X hK hA 200 (by decide) ⟨Nat.le_of_ble_eq_true rfl, Nat.le_of_ble_eq_true rfl⟩ dX11_init_67 (fun q6 => ?_)
  refine gn_putF X hK hini 11 (T := TX11) (N := 16) rfl inC11 tyX11_ok nmX11 6 (by decide) rfl (hu_in 291 (by decide +kernel) (by decide +kernel)) rfl rfl rfl rfl (Nat.le_of_ble_eq_true rfl) dX11_init_69 ?_
  refine gn_norm (pc2 := 72) (kc2 := 65) (ks2 := 1789) (σ2 := (a, .inr (11, [.ref (fq1 30), .ref (fq2 30), .int 0, .ref (fq3 30), .ref (fq4 30), .ref (fq5 30), .ref (q6), .int 0, .null, .int 0, .null, .null, .null, .null, .null, .null])) :: (wT cs fq1 ++ wT cs fq2 ++ wPn cs (fq1 30) fq3 ++ wDn cs fq4 ++ wVn cs fq5 ++ [(q6, .inl (cs 1, 200, .inl (fun _ => 0)))])) rfl rfl rfl rfl ?_
  refine gs_aload_n X dX11_init_72 rfl 0 rfl ?_
  refine gs_bipush (v := 12) X dX11_init_73 (by decide) ?_
  refine gn_newi X hK hA 12 (by decide) ⟨Nat.le_of_ble_eq_true rfl, Nat.le_of_ble_eq_true rfl⟩ dX11_init_75 (fun q7 => ?_)
  refine gn_putF X hK hini 11 (T := TX11) (N := 16) rfl inC11 tyX11_ok nmX11 8 (by decide) rfl (hu_in 293 (by decide +kernel) (by decide +kernel)) rfl rfl rfl rfl (Nat.le_of_ble_eq_true rfl) dX11_init_77 ?_
  refine gn_norm (pc2 := 80) (kc2 := 66) (ks2 := 1801) (σ2 := (a, .inr (11, [.ref (fq1 30), .ref (fq2 30), .int 0, .ref (fq3 30), .ref (fq4 30), .ref (fq5 30), .ref (q6), .int 0, .ref (q7), .int 0, .null, .null, .null, .null, .null, .null])) :: (wT cs fq1 ++ wT cs fq2 ++ wPn cs (fq1 30) fq3 ++ wDn cs fq4 ++ wVn cs fq5 ++ [(q6, .inl (cs 1, 200, .inl (fun _ => 0)))] ++ [(q7, .inl (cs 0, 12, .inl (fun _ => 0)))])) rfl rfl rfl rfl ?_
  refine gs_aload_n X dX11_init_80 rfl 0 rfl ?_
  refine gs_iconst (v := 4) X dX11_init_81 (by decide) ?_
  refine gn_newi X hK hA 4 (by decide) ⟨Nat.le_of_ble_eq_true rfl, Nat.le_of_ble_eq_true rfl⟩ dX11_init_82 (fun q8 => ?_)
  refine gn_putF X hK hini 11 (T := TX11) (N := 16) rfl inC11 tyX11_ok nmX11 10 (by decide) rfl (hu_in 295 (by decide +kernel) (by decide +kernel)) rfl rfl rfl rfl (Nat.le_of_ble_eq_true rfl) dX11_init_84 ?_
  refine gn_norm (pc2 := 87) (kc2 := 67) (ks2 := 1805) (σ2 := (a, .inr (11, [.ref (fq1 30), .ref (fq2 30), .int 0, .ref (fq3 30), .ref (fq4 30), .ref (fq5 30), .ref (q6), .int 0, .ref (q7), .int 0, .ref (q8), .null, .null, .null, .null, .null])) :: (wT cs fq1 ++ wT cs fq2 ++ wPn cs (fq1 30) fq3 ++ wDn cs fq4 ++ wVn cs fq5 ++ [(q6, .inl (cs 1, 200, .inl (fun _ => 0)))] ++ [(q7, .inl (cs 0, 12, .inl (fun _ => 0)))] ++ [(q8, .inl (cs 0, 4, .inl (fun _ => 0)))])) rfl rfl rfl rfl ?_
  refine gs_aload_n X dX11_init_87 rfl 0 rfl ?_
  refine gs_iconst (v := 4) X dX11_init_88 (by decide) ?_
  refine gn_newi X hK hA 4 (by decide) ⟨Nat.le_of_ble_eq_true rfl, Nat.le_of_ble_eq_true rfl⟩ dX11_init_89 (fun q9 => ?_)
  refine gn_putF X hK hini 11 (T := TX11) (N := 16) rfl inC11 tyX11_ok nmX11 11 (by decide) rfl (hu_in 296 (by decide +kernel) (by decide +kernel)) rfl rfl rfl rfl (Nat.le_of_ble_eq_true rfl) dX11_init_91 ?_
  refine gn_norm (pc2 := 94) (kc2 := 68) (ks2 := 1809) (σ2 := (a, .inr (11, [.ref (fq1 30), .ref (fq2 30), .int 0, .ref (fq3 30), .ref (fq4 30), .ref (fq5 30), .ref (q6), .int 0, .ref (q7), .int 0, .ref (q8), .ref (q9), .null, .null, .null, .null])) :: (wT cs fq1 ++ wT cs fq2 ++ wPn cs (fq1 30) fq3 ++ wDn cs fq4 ++ wVn cs fq5 ++ [(q6, .inl (cs 1, 200, .inl (fun _ => 0)))] ++ [(q7, .inl (cs 0, 12, .inl (fun _ => 0)))] ++ [(q8, .inl (cs 0, 4, .inl (fun _ => 0)))] ++ [(q9, .inl (cs 0, 4, .inl (fun _ => 0)))])) rfl rfl rfl rfl ?_
  refine gs_aload_n X dX11_init_94 rfl 0 rfl ?_
  refine gn_sipush (v := 160) X dX11_init_95 (by decide) ?_
  refine gn_newl X hK hA 160 (by decide) ⟨Nat.le_of_ble_eq_true rfl, Nat.le_of_ble_eq_true rfl⟩ dX11_init_98 (fun q10 => ?_)
  refine gn_putF X hK hini 11 (T := TX11) (N := 16) rfl inC11 tyX11_ok nmX11 12 (by decide) rfl (hu_in 297 (by decide +kernel) (by decide +kernel)) rfl rfl rfl rfl (Nat.le_of_ble_eq_true rfl) dX11_init_100 ?_
  refine gn_norm (pc2 := 103) (kc2 := 69) (ks2 := 1969) (σ2 := (a, .inr (11, [.ref (fq1 30), .ref (fq2 30), .int 0, .ref (fq3 30), .ref (fq4 30), .ref (fq5 30), .ref (q6), .int 0, .ref (q7), .int 0, .ref (q8), .ref (q9), .ref (q10), .null, .null, .null])) :: (wT cs fq1 ++ wT cs fq2 ++ wPn cs (fq1 30) fq3 ++ wDn cs fq4 ++ wVn cs fq5 ++ [(q6, .inl (cs 1, 200, .inl (fun _ => 0)))] ++ [(q7, .inl (cs 0, 12, .inl (fun _ => 0)))] ++ [(q8, .inl (cs 0, 4, .inl (fun _ => 0)))] ++ [(q9, .inl (cs 0, 4, .inl (fun _ => 0)))] ++ [(q10, .inl (cs 2, 160, .inr (.inl (fun _ => 0))))])) rfl rfl rfl rfl ?_
  refine gs_aload_n X dX11_init_103 rfl 0 rfl ?_
  refine gs_iconst (v := 4) X dX11_init_104 (by decide) ?_
  refine gn_newi X hK hA 4 (by decide) ⟨Nat.le_of_ble_eq_true rfl, Nat.le_of_ble_eq_true rfl⟩ dX11_init_105 (fun q11 => ?_)
  refine gn_putF X hK hini 11 (T := TX11) (N := 16) rfl inC11 tyX11_ok nmX11 13 (by decide) rfl (hu_in 298 (by decide +kernel) (by decide +kernel)) rfl rfl rfl rfl (Nat.le_of_ble_eq_true rfl) dX11_init_107 ?_
  refine gn_norm (pc2 := 110) (kc2 := 70) (ks2 := 1973) (σ2 := (a, .inr (11, [.ref (fq1 30), .ref (fq2 30), .int 0, .ref (fq3 30), .ref (fq4 30), .ref (fq5 30), .ref (q6), .int 0, .ref (q7), .int 0, .ref (q8), .ref (q9), .ref (q10), .ref (q11), .null, .null])) :: (wT cs fq1 ++ wT cs fq2 ++ wPn cs (fq1 30) fq3 ++ wDn cs fq4 ++ wVn cs fq5 ++ [(q6, .inl (cs 1, 200, .inl (fun _ => 0)))] ++ [(q7, .inl (cs 0, 12, .inl (fun _ => 0)))] ++ [(q8, .inl (cs 0, 4, .inl (fun _ => 0)))] ++ [(q9, .inl (cs 0, 4, .inl (fun _ => 0)))] ++ [(q10, .inl (cs 2, 160, .inr (.inl (fun _ => 0))))] ++ [(q11, .inl (cs 0, 4, .inl (fun _ => 0)))])) rfl rfl rfl rfl ?_
  refine gs_aload_n X dX11_init_110 rfl 0 rfl ?_
  refine gs_iconst (v := 4) X dX11_init_111 (by decide) ?_
  refine gn_newi X hK hA 4 (by decide) ⟨Nat.le_of_ble_eq_true rfl, Nat.le_of_ble_eq_true rfl⟩ dX11_init_112 (fun q12 => ?_)
  refine gn_putF X hK hini 11 (T := TX11) (N := 16) rfl inC11 tyX11_ok nmX11 14 (by decide) rfl (hu_in 299 (by decide +kernel) (by decide +kernel)) rfl rfl rfl rfl (Nat.le_of_ble_eq_true rfl) dX11_init_114 ?_
  refine gn_norm (pc2 := 117) (kc2 := 71) (ks2 := 1977) (σ2 := (a, .inr (11, [.ref (fq1 30), .ref (fq2 30), .int 0, .ref (fq3 30), .ref (fq4 30), .ref (fq5 30), .ref (q6), .int 0, .ref (q7), .int 0, .ref (q8), .ref (q9), .ref (q10), .ref (q11), .ref (q12), .null])) :: (wT cs fq1 ++ wT cs fq2 ++ wPn cs (fq1 30) fq3 ++ wDn cs fq4 ++ wVn cs fq5 ++ [(q6, .inl (cs 1, 200, .inl (fun _ => 0)))] ++ [(q7, .inl (cs 0, 12, .inl (fun _ => 0)))] ++ [(q8, .inl (cs 0, 4, .inl (fun _ => 0)))] ++ [(q9, .inl (cs 0, 4, .inl (fun _ => 0)))] ++ [(q10, .inl (cs 2, 160, .inr (.inl (fun _ => 0))))] ++ [(q11, .inl (cs 0, 4, .inl (fun _ => 0)))] ++ [(q12, .inl (cs 0, 4, .inl (fun _ => 0)))])) rfl rfl rfl rfl ?_
  refine gs_aload_n X dX11_init_117 rfl 0 rfl ?_
  refine gs_iconst (v := 4) X dX11_init_118 (by decide) ?_
  refine gn_newi X hK hA 4 (by decide) ⟨Nat.le_of_ble_eq_true rfl, Nat.le_of_ble_eq_true rfl⟩ dX11_init_119 (fun q13 => ?_)
  refine gn_putF X hK hini 11 (T := TX11) (N := 16) rfl inC11 tyX11_ok nmX11 15 (by decide) rfl (hu_in 300 (by decide +kernel) (by decide +kernel)) rfl rfl rfl rfl (Nat.le_of_ble_eq_true rfl) dX11_init_121 ?_
  refine gn_norm (pc2 := 124) (kc2 := 72) (ks2 := 1981) (σ2 := (a, .inr (11, [.ref (fq1 30), .ref (fq2 30), .int 0, .ref (fq3 30), .ref (fq4 30), .ref (fq5 30), .ref (q6), .int 0, .ref (q7), .int 0, .ref (q8), .ref (q9), .ref (q10), .ref (q11), .ref (q12), .ref (q13)])) :: (wT cs fq1 ++ wT cs fq2 ++ wPn cs (fq1 30) fq3 ++ wDn cs fq4 ++ wVn cs fq5 ++ [(q6, .inl (cs 1, 200, .inl (fun _ => 0)))] ++ [(q7, .inl (cs 0, 12, .inl (fun _ => 0)))] ++ [(q8, .inl (cs 0, 4, .inl (fun _ => 0)))] ++ [(q9, .inl (cs 0, 4, .inl (fun _ => 0)))] ++ [(q10, .inl (cs 2, 160, .inr (.inl (fun _ => 0))))] ++ [(q11, .inl (cs 0, 4, .inl (fun _ => 0)))] ++ [(q12, .inl (cs 0, 4, .inl (fun _ => 0)))] ++ [(q13, .inl (cs 0, 4, .inl (fun _ => 0)))])) rfl rfl rfl rfl ?_
  refine gs_aload_n X dX11_init_124 rfl 0 rfl ?_
  refine gn_get X hK 11 (T := TX11) (N := 16) rfl inC11 10 (by decide) rfl (hu_in 295 (by decide +kernel) (by decide +kernel)) rfl rfl dX11_init_125 ?_
  refine gs_iconst (v := -1) X dX11_init_128 (by decide) ?_
  refine gn_callF (As := [.ref _, .int (-1)]) X hK hA 67 rfl (cn_fill (by decide)) cwF_69 rfl ⟨rfl, rfl, Nat.le_of_ble_eq_true rfl, Nat.le_of_ble_eq_true rfl⟩ ⟨Nat.le_of_ble_eq_true rfl, Nat.le_of_ble_eq_true rfl⟩ rfl (Nat.le_of_ble_eq_true rfl) dX11_init_129 ?_
  refine gn_norm (pc2 := 132) (kc2 := 72) (ks2 := 1981) (σ2 := (a, .inr (11, [.ref (fq1 30), .ref (fq2 30), .int 0, .ref (fq3 30), .ref (fq4 30), .ref (fq5 30), .ref (q6), .int 0, .ref (q7), .int 0, .ref (q8), .ref (q9), .ref (q10), .ref (q11), .ref (q12), .ref (q13)])) :: ((wT cs fq1 ++ wT cs fq2 ++ wPn cs (fq1 30) fq3 ++ wDn cs fq4 ++ wVn cs fq5) ++ [(q6, .inl (cs 1, 200, .inl (fun _ => 0))), (q7, .inl (cs 0, 12, .inl (fun _ => 0))), (q8, .inl (cs 0, 4, .inl (lpF (-1) 4 0 (fun _ => 0)))), (q9, .inl (cs 0, 4, .inl (fun _ => 0))), (q10, .inl (cs 2, 160, .inr (.inl (fun _ => 0)))), (q11, .inl (cs 0, 4, .inl (fun _ => 0))), (q12, .inl (cs 0, 4, .inl (fun _ => 0))), (q13, .inl (cs 0, 4, .inl (fun _ => 0)))])) rfl rfl rfl rfl ?_
  refine gn_swap ?_
  exact gn_ret X ⟨rfl, rfl⟩ ⟨fq1, fq2, fq3, fq4, fq5, fun i => ql [(16, a), (6, q6), (8, q7), (10, q8), (11, q9), (12, q10), (13, q11), (14, q12), (15, q13)] i, rfl, rfl⟩ dX11_init_132
def rmN12 : Room := { frames := 1, cells := 17, slots := 2432, locals := 20 }
/-- v in n places from z + i on -/
def lpG (z : Nat) (v : Int32) : Nat → Nat → (Nat → Int32) → (Nat → Int32)
  | 0, _, f => f
  | k + 1, i, f => lpG z v k (i + 1) (upd f (z + i) v)
theorem lp_add {a b : Nat} (h : a + b < 1000) : nI a + nI b = nI (a + b) := by
  rw [← Int32.toInt_inj, Int32.toInt_add, nI_toInt (by omega), nI_toInt (by omega), nI_toInt (by omega)]
  rw [Int.bmod_eq_of_le (by omega) (by omega)]
  omega
theorem cn_bear {p : Program} {l : Launch} {e : Env} {s : State} {m : MethodId} {args : Array Value} {below : List Frame} {meth : Method} {c : Code} {D : va_G} {cs : Nat → ClassId} {A : Nat → Prop} {Q : State → Prop} {R : Room} {kc ks a b : Nat} {fs : List Value} {r : va_W} {f0 : Nat → Int32} (hfs : fs[0]? = some (.ref b)) (X : hc p s m args meth c RX12 cX12_init 2 none) (hK : kN D cs A s) (kk : gs kc ks p l e R s m args below meth c wI D vwCl A 2 Q 202 [(1, .int (nI 6)), (0, .ref a)] [] ((a, .inr (12, fs)) :: (b, .inl (cs 0, 580, .inl f0)) :: r)) : ∀ (k i : Nat) (f : Nat → Int32), i + k = 6 → lpG 52 3 k i f = f0 → gs kc ks p l e R s m args below meth c wI D vwCl A 2 Q 180 [(1, .int (nI i)), (0, .ref a)] [] ((a, .inr (12, fs)) :: (b, .inl (cs 0, 580, .inl f)) :: r) := by
  intro k
  induction k with
  | zero =>
    intro i f hi hf
    have hi2 : i = 6 := by omega
    subst hi2
    refine gs_iload_n X dX12_init_180 rfl 0 rfl ?_
    refine gs_bipush (v := nI 6) X dX12_init_181 (by decide) ?_
    refine gn_icmp_ge X 202 dX12_init_183 (by decide) (fun _ => ?_) (fun h => absurd ((lp_le (by decide) (Nat.le_refl _)).mpr rfl) h)
    rw [← hf] at kk
    exact kk
  | succ k ih =>
    intro i f hi hf
    have hi2 : i < 6 := by omega
    refine gs_iload_n X dX12_init_180 rfl 0 rfl ?_
    refine gs_bipush (v := nI 6) X dX12_init_181 (by decide) ?_
    refine gn_icmp_ge X 202 dX12_init_183 (by decide) (fun h => absurd ((lp_le (by decide) (by omega)).mp h) (by omega)) (fun _ => ?_)
    refine gs_aload_n X dX12_init_186 rfl 1 rfl ?_
    refine gn_get X hK 12 (T := TX12) (N := 40) rfl inM 0 (by decide) rfl (hu_in 1154 (by decide +kernel) (by decide +kernel)) rfl hfs dX12_init_187 ?_
    refine gs_bipush (v := nI 52) X dX12_init_190 (by decide) ?_
    refine gs_iload_n X dX12_init_192 rfl 0 rfl ?_
    refine gs_iadd X dX12_init_193 ?_
    refine gs_iconst (v := 3) X dX12_init_194 (by decide) ?_
    refine gn_iast X hK 1 rfl (52 + i) (by rw [lp_add (by omega), nI_clamp (by omega)]) (by rw [lp_add (by omega)]; exact lp_in (by decide) (by omega)) dX12_init_195 ?_
    refine gs_iinc (k := 0) (v := 1) X dX12_init_196 rfl (by decide) (by decide) rfl ?_
    refine gs_goto X 180 dX12_init_199 (by decide) ?_
    rw [lp_s (by omega)]
    exact ih (i + 1) (upd f (52 + i) 3) (by omega) hf
theorem cn_news {p : Program} {l : Launch} {e : Env} {s : State} {m : MethodId} {args : Array Value} {below : List Frame} {meth : Method} {c : Code} {D : va_G} {cs : Nat → ClassId} {A : Nat → Prop} {Q : State → Prop} {R : Room} {kc ks a b : Nat} {fs : List Value} {r : va_W} {f0 : Nat → Int32} (hfs : fs[0]? = some (.ref b)) (X : hc p s m args meth c RX12 cX12_init 2 none) (hK : kN D cs A s) (kk : gs kc ks p l e R s m args below meth c wI D vwCl A 2 Q 226 [(1, .int (nI 16)), (0, .ref a)] [] ((a, .inr (12, fs)) :: (b, .inl (cs 0, 580, .inl f0)) :: r)) : ∀ (k i : Nat) (f : Nat → Int32), i + k = 16 → lpG 58 4 k i f = f0 → gs kc ks p l e R s m args below meth c wI D vwCl A 2 Q 204 [(1, .int (nI i)), (0, .ref a)] [] ((a, .inr (12, fs)) :: (b, .inl (cs 0, 580, .inl f)) :: r) := by
  intro k
  induction k with
  | zero =>
    intro i f hi hf
    have hi2 : i = 16 := by omega
    subst hi2
    refine gs_iload_n X dX12_init_204 rfl 0 rfl ?_
    refine gs_bipush (v := nI 16) X dX12_init_205 (by decide) ?_
    refine gn_icmp_ge X 226 dX12_init_207 (by decide) (fun _ => ?_) (fun h => absurd ((lp_le (by decide) (Nat.le_refl _)).mpr rfl) h)
    rw [← hf] at kk
    exact kk
  | succ k ih =>
    intro i f hi hf
    have hi2 : i < 16 := by omega
    refine gs_iload_n X dX12_init_204 rfl 0 rfl ?_
    refine gs_bipush (v := nI 16) X dX12_init_205 (by decide) ?_
    refine gn_icmp_ge X 226 dX12_init_207 (by decide) (fun h => absurd ((lp_le (by decide) (by omega)).mp h) (by omega)) (fun _ => ?_)
    refine gs_aload_n X dX12_init_210 rfl 1 rfl ?_
    refine gn_get X hK 12 (T := TX12) (N := 40) rfl inM 0 (by decide) rfl (hu_in 1154 (by decide +kernel) (by decide +kernel)) rfl hfs dX12_init_211 ?_
    refine gs_bipush (v := nI 58) X dX12_init_214 (by decide) ?_
    refine gs_iload_n X dX12_init_216 rfl 0 rfl ?_
    refine gs_iadd X dX12_init_217 ?_
    refine gs_iconst (v := 4) X dX12_init_218 (by decide) ?_
    refine gn_iast X hK 1 rfl (58 + i) (by rw [lp_add (by omega), nI_clamp (by omega)]) (by rw [lp_add (by omega)]; exact lp_in (by decide) (by omega)) dX12_init_219 ?_
    refine gs_iinc (k := 0) (v := 1) X dX12_init_220 rfl (by decide) (by decide) rfl ?_
    refine gs_goto X 204 dX12_init_223 (by decide) ?_
    rw [lp_s (by omega)]
    exact ih (i + 1) (upd f (58 + i) 4) (by omega) hf
def wMn (cs : Nat → ClassId) (q : Nat → Nat) : va_W := [(q 100, .inr (12, [.ref (q 0), .ref (q 1), .int 0, .ref (q 3), .ref (q 4), .int 0, .int 0, .int 0, .int 0, .int 0, .int 0, .int 0, .ref (q 12), .ref (q 13), .ref (q 14), .int 0, .int 0, .int 0, .int 0, .int 0, .int 0, .int 0, .ref (q 22), .ref (q 23), .int 0, .int 0, .ref (q 26), .int 0, .ref (q 28), .ref (q 29), .ref (q 30), .ref (q 31), .ref (q 32), .ref (q 33), .ref (q 34), .int 0, .int 0, .int 0, .int 0, .int 0])), (q 0, .inl (cs 0, 580, .inl (lpG 58 4 16 0 (lpG 52 3 6 0 (upd (upd (upd (fun _ => 0) 2 12) 4 1) 8 5))))), ai cs (q 1) 580, ai cs (q 3) 230, ai cs (q 4) 200, ai cs (q 12) 580, ai cs (q 13) 4, ai cs (q 14) 4, ai cs (q 22) 16, ai cs (q 23) 16, ai cs (q 26) 12, (q 28, .inl (cs 0, 4, .inl (upd (upd (upd (upd (fun _ => 0) 0 (-1)) 1 (-1)) 2 (-1)) 3 (-1)))), ai cs (q 29) 4, ai cs (q 30) 160, ai cs (q 31) 4, ai cs (q 32) 4, ai cs (q 33) 4, ai cs (q 34) 30]
theorem cn_X12 {l : Launch} {D : va_G} {cs : Nat → ClassId} (a : Nat) : ctN l D cs yX12_init cX12_init 2 rmN12 [.ref a] [(a, .inr (12, [.null, .null, .int 0, .null, .null, .int 0, .int 0, .int 0, .int 0, .int 0, .int 0, .int 0, .null, .null, .null, .int 0, .int 0, .int 0, .int 0, .int 0, .int 0, .int 0, .null, .null, .int 0, .int 0, .null, .int 0, .null, .null, .null, .null, .null, .null, .null, .int 0, .int 0, .int 0, .int 0, .int 0]))] (fun u => ∃ q : Nat → Nat, q 100 = a ∧ u = wMn cs q) 17 2432 := by
  refine ct_N RX12 (by decide +kernel) rfl (Nat.le_of_ble_eq_true rfl) ?_
  intro p e s m args below meth c A X hini hK hA
  refine gs_aload_n X dX12_init_0 rfl 0 rfl ?_
  refine gn_oi X (hu_in 1153 (by decide +kernel) (by decide +kernel)) ⟨Nat.le_of_ble_eq_true rfl, Nat.le_of_ble_eq_true rfl⟩ (Nat.le_of_ble_eq_true rfl) dX12_init_1 ?_
  refine gs_aload_n X dX12_init_4 rfl 0 rfl ?_
  refine gn_sipush (v := 580) X dX12_init_5 (by decide) ?_
  refine gn_newi X hK hA 580 (by decide) ⟨Nat.le_of_ble_eq_true rfl, Nat.le_of_ble_eq_true rfl⟩ dX12_init_8 (fun q1 => ?_)
  refine gn_putF X hK hini 12 (T := TX12) (N := 40) rfl inM tyX12_ok nmX12 0 (by decide) rfl (hu_in 1154 (by decide +kernel) (by decide +kernel)) rfl rfl rfl rfl (Nat.le_of_ble_eq_true rfl) dX12_init_10 ?_
  refine gn_norm (pc2 := 13) (kc2 := 1) (ks2 := 580) (σ2 := [(a, .inr (12, [.ref (q1), .null, .int 0, .null, .null, .int 0, .int 0, .int 0, .int 0, .int 0, .int 0, .int 0, .null, .null, .null, .int 0, .int 0, .int 0, .int 0, .int 0, .int 0, .int 0, .null, .null, .int 0, .int 0, .null, .int 0, .null, .null, .null, .null, .null, .null, .null, .int 0, .int 0, .int 0, .int 0, .int 0])), (q1, .inl (cs 0, 580, .inl (fun _ => 0)))]) rfl rfl rfl rfl ?_
  refine gs_aload_n X dX12_init_13 rfl 0 rfl ?_
  refine gn_sipush (v := 580) X dX12_init_14 (by decide) ?_
  refine gn_newi X hK hA 580 (by decide) ⟨Nat.le_of_ble_eq_true rfl, Nat.le_of_ble_eq_true rfl⟩ dX12_init_17 (fun q2 => ?_)
  refine gn_putF X hK hini 12 (T := TX12) (N := 40) rfl inM tyX12_ok nmX12 1 (by decide) rfl (hu_in 1155 (by decide +kernel) (by decide +kernel)) rfl rfl rfl rfl (Nat.le_of_ble_eq_true rfl) dX12_init_19 ?_
  refine gn_norm (pc2 := 22) (kc2 := 2) (ks2 := 1160) (σ2 := [(a, .inr (12, [.ref (q1), .ref (q2), .int 0, .null, .null, .int 0, .int 0, .int 0, .int 0, .int 0, .int 0, .int 0, .null, .null, .null, .int 0, .int 0, .int 0, .int 0, .int 0, .int 0, .int 0, .null, .null, .int 0, .int 0, .null, .int 0, .null, .null, .null, .null, .null, .null, .null, .int 0, .int 0, .int 0, .int 0, .int 0])), (q1, .inl (cs 0, 580, .inl (fun _ => 0))), (q2, .inl (cs 0, 580, .inl (fun _ => 0)))]) rfl rfl rfl rfl ?_
  refine gs_aload_n X dX12_init_22 rfl 0 rfl ?_
  refine gn_sipush (v := 230) X dX12_init_23 (by decide) ?_
  refine gn_newi X hK hA 230 (by decide) ⟨Nat.le_of_ble_eq_true rfl, Nat.le_of_ble_eq_true rfl⟩ dX12_init_26 (fun q3 => ?_)
  refine gn_putF X hK hini 12 (T := TX12) (N := 40) rfl inM tyX12_ok nmX12 3 (by decide) rfl (hu_in 1157 (by decide +kernel) (by decide +kernel)) rfl rfl rfl rfl (Nat.le_of_ble_eq_true rfl) dX12_init_28 ?_
  refine gn_norm (pc2 := 31) (kc2 := 3) (ks2 := 1390) (σ2 := [(a, .inr (12, [.ref (q1), .ref (q2), .int 0, .ref (q3), .null, .int 0, .int 0, .int 0, .int 0, .int 0, .int 0, .int 0, .null, .null, .null, .int 0, .int 0, .int 0, .int 0, .int 0, .int 0, .int 0, .null, .null, .int 0, .int 0, .null, .int 0, .null, .null, .null, .null, .null, .null, .null, .int 0, .int 0, .int 0, .int 0, .int 0])), (q1, .inl (cs 0, 580, .inl (fun _ => 0))), (q2, .inl (cs 0, 580, .inl (fun _ => 0))), (q3, .inl (cs 0, 230, .inl (fun _ => 0)))]) rfl rfl rfl rfl ?_
  refine gs_aload_n X dX12_init_31 rfl 0 rfl ?_
  refine gn_sipush (v := 200) X dX12_init_32 (by decide) ?_
  refine gn_newi X hK hA 200 (by decide) ⟨Nat.le_of_ble_eq_true rfl, Nat.le_of_ble_eq_true rfl⟩ dX12_init_35 (fun q4 => ?_)
  refine gn_putF X hK hini 12 (T := TX12) (N := 40) rfl inM tyX12_ok nmX12 4 (by decide) rfl (hu_in 1158 (by decide +kernel) (by decide +kernel)) rfl rfl rfl rfl (Nat.le_of_ble_eq_true rfl) dX12_init_37 ?_
  refine gn_norm (pc2 := 40) (kc2 := 4) (ks2 := 1590) (σ2 := [(a, .inr (12, [.ref (q1), .ref (q2), .int 0, .ref (q3), .ref (q4), .int 0, .int 0, .int 0, .int 0, .int 0, .int 0, .int 0, .null, .null, .null, .int 0, .int 0, .int 0, .int 0, .int 0, .int 0, .int 0, .null, .null, .int 0, .int 0, .null, .int 0, .null, .null, .null, .null, .null, .null, .null, .int 0, .int 0, .int 0, .int 0, .int 0])), (q1, .inl (cs 0, 580, .inl (fun _ => 0))), (q2, .inl (cs 0, 580, .inl (fun _ => 0))), (q3, .inl (cs 0, 230, .inl (fun _ => 0))), (q4, .inl (cs 0, 200, .inl (fun _ => 0)))]) rfl rfl rfl rfl ?_
  refine gs_aload_n X dX12_init_40 rfl 0 rfl ?_
  refine gn_sipush (v := 580) X dX12_init_41 (by decide) ?_
  refine gn_newi X hK hA 580 (by decide) ⟨Nat.le_of_ble_eq_true rfl, Nat.le_of_ble_eq_true rfl⟩ dX12_init_44 (fun q5 => ?_)
  refine gn_putF X hK hini 12 (T := TX12) (N := 40) rfl inM tyX12_ok nmX12 12 (by decide) rfl (hu_in 1166 (by decide +kernel) (by decide +kernel)) rfl rfl rfl rfl (Nat.le_of_ble_eq_true rfl) dX12_init_46 ?_
  refine gn_norm (pc2 := 49) (kc2 := 5) (ks2 := 2170) (σ2 := [(a, .inr (12, [.ref (q1), .ref (q2), .int 0, .ref (q3), .ref (q4), .int 0, .int 0, .int 0, .int 0, .int 0, .int 0, .int 0, .ref (q5), .null, .null, .int 0, .int 0, .int 0, .int 0, .int 0, .int 0, .int 0, .null, .null, .int 0, .int 0, .null, .int 0, .null, .null, .null, .null, .null, .null, .null, .int 0, .int 0, .int 0, .int 0, .int 0])), (q1, .inl (cs 0, 580, .inl (fun _ => 0))), (q2, .inl (cs 0, 580, .inl (fun _ => 0))), (q3, .inl (cs 0, 230, .inl (fun _ => 0))), (q4, .inl (cs 0, 200, .inl (fun _ => 0))), (q5, .inl (cs 0, 580, .inl (fun _ => 0)))]) rfl rfl rfl rfl ?_
  refine gs_aload_n X dX12_init_49 rfl 0 rfl ?_
  refine gs_iconst (v := 4) X dX12_init_50 (by decide) ?_
  refine gn_newi X hK hA 4 (by decide) ⟨Nat.le_of_ble_eq_true rfl, Nat.le_of_ble_eq_true rfl⟩ dX12_init_51 (fun q6 => ?_)
  refine gn_putF X hK hini 12 (T := TX12) (N := 40) rfl inM tyX12_ok nmX12 13 (by decide) rfl (hu_in 1167 (by decide +kernel) (by decide +kernel)) rfl rfl rfl rfl (Nat.le_of_ble_eq_true rfl) dX12_init_53 ?_
  refine gn_norm (pc2 := 56) (kc2 := 6) (ks2 := 2174) (σ2 := [(a, .inr (12, [.ref (q1), .ref (q2), .int 0, .ref (q3), .ref (q4), .int 0, .int 0, .int 0, .int 0, .int 0, .int 0, .int 0, .ref (q5), .ref (q6), .null, .int 0, .int 0, .int 0, .int 0, .int 0, .int 0, .int 0, .null, .null, .int 0, .int 0, .null, .int 0, .null, .null, .null, .null, .null, .null, .null, .int 0, .int 0, .int 0, .int 0, .int 0])), (q1, .inl (cs 0, 580, .inl (fun _ => 0))), (q2, .inl (cs 0, 580, .inl (fun _ => 0))), (q3, .inl (cs 0, 230, .inl (fun _ => 0))), (q4, .inl (cs 0, 200, .inl (fun _ => 0))), (q5, .inl (cs 0, 580, .inl (fun _ => 0))), (q6, .inl (cs 0, 4, .inl (fun _ => 0)))]) rfl rfl rfl rfl ?_
  refine gs_aload_n X dX12_init_56 rfl 0 rfl ?_
  refine gs_iconst (v := 4) X dX12_init_57 (by decide) ?_
  refine gn_newi X hK hA 4 (by decide) ⟨Nat.le_of_ble_eq_true rfl, Nat.le_of_ble_eq_true rfl⟩ dX12_init_58 (fun q7 => ?_)
  refine gn_putF X hK hini 12 (T := TX12) (N := 40) rfl inM tyX12_ok nmX12 14 (by decide) rfl (hu_in 1168 (by decide +kernel) (by decide +kernel)) rfl rfl rfl rfl (Nat.le_of_ble_eq_true rfl) dX12_init_60 ?_
  refine gn_norm (pc2 := 63) (kc2 := 7) (ks2 := 2178) (σ2 := [(a, .inr (12, [.ref (q1), .ref (q2), .int 0, .ref (q3), .ref (q4), .int 0, .int 0, .int 0, .int 0, .int 0, .int 0, .int 0, .ref (q5), .ref (q6), .ref (q7), .int 0, .int 0, .int 0, .int 0, .int 0, .int 0, .int 0, .null, .null, .int 0, .int 0, .null, .int 0, .null, .null, .null, .null, .null, .null, .null, .int 0, .int 0, .int 0, .int 0, .int 0])), (q1, .inl (cs 0, 580, .inl (fun _ => 0))), (q2, .inl (cs 0, 580, .inl (fun _ => 0))), (q3, .inl (cs 0, 230, .inl (fun _ => 0))), (q4, .inl (cs 0, 200, .inl (fun _ => 0))), (q5, .inl (cs 0, 580, .inl (fun _ => 0))), (q6, .inl (cs 0, 4, .inl (fun _ => 0))), (q7, .inl (cs 0, 4, .inl (fun _ => 0)))]) rfl rfl rfl rfl ?_
  refine gs_aload_n X dX12_init_63 rfl 0 rfl ?_
  refine gs_bipush (v := 16) X dX12_init_64 (by decide) ?_
  refine gn_newi X hK hA 16 (by decide) ⟨Nat.le_of_ble_eq_true rfl, Nat.le_of_ble_eq_true rfl⟩ dX12_init_66 (fun q8 => ?_)
  refine gn_putF X hK hini 12 (T := TX12) (N := 40) rfl inM tyX12_ok nmX12 22 (by decide) rfl (hu_in 1176 (by decide +kernel) (by decide +kernel)) rfl rfl rfl rfl (Nat.le_of_ble_eq_true rfl) dX12_init_68 ?_
  refine gn_norm (pc2 := 71) (kc2 := 8) (ks2 := 2194) (σ2 := [(a, .inr (12, [.ref (q1), .ref (q2), .int 0, .ref (q3), .ref (q4), .int 0, .int 0, .int 0, .int 0, .int 0, .int 0, .int 0, .ref (q5), .ref (q6), .ref (q7), .int 0, .int 0, .int 0, .int 0, .int 0, .int 0, .int 0, .ref (q8), .null, .int 0, .int 0, .null, .int 0, .null, .null, .null, .null, .null, .null, .null, .int 0, .int 0, .int 0, .int 0, .int 0])), (q1, .inl (cs 0, 580, .inl (fun _ => 0))), (q2, .inl (cs 0, 580, .inl (fun _ => 0))), (q3, .inl (cs 0, 230, .inl (fun _ => 0))), (q4, .inl (cs 0, 200, .inl (fun _ => 0))), (q5, .inl (cs 0, 580, .inl (fun _ => 0))), (q6, .inl (cs 0, 4, .inl (fun _ => 0))), (q7, .inl (cs 0, 4, .inl (fun _ => 0))), (q8, .inl (cs 0, 16, .inl (fun _ => 0)))]) rfl rfl rfl rfl ?_
  refine gs_aload_n X dX12_init_71 rfl 0 rfl ?_
  refine gs_bipush (v := 16) X dX12_init_72 (by decide) ?_
  refine gn_newi X hK hA 16 (by decide) ⟨Nat.le_of_ble_eq_true rfl, Nat.le_of_ble_eq_true rfl⟩ dX12_init_74 (fun q9 => ?_)
  refine gn_putF X hK hini 12 (T := TX12) (N := 40) rfl inM tyX12_ok nmX12 23 (by decide) rfl (hu_in 1177 (by decide +kernel) (by decide +kernel)) rfl rfl rfl rfl (Nat.le_of_ble_eq_true rfl) dX12_init_76 ?_
  refine gn_norm (pc2 := 79) (kc2 := 9) (ks2 := 2210) (σ2 := [(a, .inr (12, [.ref (q1), .ref (q2), .int 0, .ref (q3), .ref (q4), .int 0, .int 0, .int 0, .int 0, .int 0, .int 0, .int 0, .ref (q5), .ref (q6), .ref (q7), .int 0, .int 0, .int 0, .int 0, .int 0, .int 0, .int 0, .ref (q8), .ref (q9), .int 0, .int 0, .null, .int 0, .null, .null, .null, .null, .null, .null, .null, .int 0, .int 0, .int 0, .int 0, .int 0])), (q1, .inl (cs 0, 580, .inl (fun _ => 0))), (q2, .inl (cs 0, 580, .inl (fun _ => 0))), (q3, .inl (cs 0, 230, .inl (fun _ => 0))), (q4, .inl (cs 0, 200, .inl (fun _ => 0))), (q5, .inl (cs 0, 580, .inl (fun _ => 0))), (q6, .inl (cs 0, 4, .inl (fun _ => 0))), (q7, .inl (cs 0, 4, .inl (fun _ => 0))), (q8, .inl (cs 0, 16, .inl (fun _ => 0))), (q9, .inl (cs 0, 16, .inl (fun _ => 0)))]) rfl rfl rfl rfl ?_
  refine gs_aload_n X dX12_init_79 rfl 0 rfl ?_
  refine gs_bipush (v := 12) X dX12_init_80 (by decide) ?_
  refine gn_newi X hK hA 12 (by decide) ⟨Nat.le_of_ble_eq_true rfl, Nat.le_of_ble_eq_true rfl⟩ dX12_init_82 (fun q10 => ?_)
  refine gn_putF X hK hini 12 (T := TX12) (N := 40) rfl inM tyX12_ok nmX12 26 (by decide) rfl (hu_in 1180 (by decide +kernel) (by decide +kernel)) rfl rfl rfl rfl (Nat.le_of_ble_eq_true rfl) dX12_init_84 ?_
  refine gn_norm (pc2 := 87) (kc2 := 10) (ks2 := 2222) (σ2 := [(a, .inr (12, [.ref (q1), .ref (q2), .int 0, .ref (q3), .ref (q4), .int 0, .int 0, .int 0, .int 0, .int 0, .int 0, .int 0, .ref (q5), .ref (q6), .ref (q7), .int 0, .int 0, .int 0, .int 0, .int 0, .int 0, .int 0, .ref (q8), .ref (q9), .int 0, .int 0, .ref (q10), .int 0, .null, .null, .null, .null, .null, .null, .null, .int 0, .int 0, .int 0, .int 0, .int 0])), (q1, .inl (cs 0, 580, .inl (fun _ => 0))), (q2, .inl (cs 0, 580, .inl (fun _ => 0))), (q3, .inl (cs 0, 230, .inl (fun _ => 0))), (q4, .inl (cs 0, 200, .inl (fun _ => 0))), (q5, .inl (cs 0, 580, .inl (fun _ => 0))), (q6, .inl (cs 0, 4, .inl (fun _ => 0))), (q7, .inl (cs 0, 4, .inl (fun _ => 0))), (q8, .inl (cs 0, 16, .inl (fun _ => 0))), (q9, .inl (cs 0, 16, .inl (fun _ => 0))), (q10, .inl (cs 0, 12, .inl (fun _ => 0)))]) rfl rfl rfl rfl ?_
  refine gs_aload_n X dX12_init_87 rfl 0 rfl ?_
  refine gs_iconst (v := 4) X dX12_init_88 (by decide) ?_
  refine gn_newi X hK hA 4 (by decide) ⟨Nat.le_of_ble_eq_true rfl, Nat.le_of_ble_eq_true rfl⟩ dX12_init_89 (fun q11 => ?_)
  refine gs_dup X dX12_init_91 rfl ?_
  refine gs_iconst (v := 0) X dX12_init_92 (by decide) ?_
  refine gs_iconst (v := -1) X dX12_init_93 (by decide) ?_
  refine gn_iast X hK 11 rfl 0 (by decide) (by decide) dX12_init_94 ?_
  refine gn_norm (pc2 := 95) (kc2 := 11) (ks2 := 2226) (σ2 := [(a, .inr (12, [.ref (q1), .ref (q2), .int 0, .ref (q3), .ref (q4), .int 0, .int 0, .int 0, .int 0, .int 0, .int 0, .int 0, .ref (q5), .ref (q6), .ref (q7), .int 0, .int 0, .int 0, .int 0, .int 0, .int 0, .int 0, .ref (q8), .ref (q9), .int 0, .int 0, .ref (q10), .int 0, .null, .null, .null, .null, .null, .null, .null, .int 0, .int 0, .int 0, .int 0, .int 0])), (q1, .inl (cs 0, 580, .inl (fun _ => 0))), (q2, .inl (cs 0, 580, .inl (fun _ => 0))), (q3, .inl (cs 0, 230, .inl (fun _ => 0))), (q4, .inl (cs 0, 200, .inl (fun _ => 0))), (q5, .inl (cs 0, 580, .inl (fun _ => 0))), (q6, .inl (cs 0, 4, .inl (fun _ => 0))), (q7, .inl (cs 0, 4, .inl (fun _ => 0))), (q8, .inl (cs 0, 16, .inl (fun _ => 0))), (q9, .inl (cs 0, 16, .inl (fun _ => 0))), (q10, .inl (cs 0, 12, .inl (fun _ => 0))), (q11, .inl (cs 0, 4, .inl (upd (fun _ => 0) 0 (-1))))]) rfl rfl rfl rfl ?_
  refine gs_dup X dX12_init_95 rfl ?_
  refine gs_iconst (v := 1) X dX12_init_96 (by decide) ?_
  refine gs_iconst (v := -1) X dX12_init_97 (by decide) ?_
  refine gn_iast X hK 11 rfl 1 (by decide) (by decide) dX12_init_98 ?_
  refine gn_norm (pc2 := 99) (kc2 := 11) (ks2 := 2226) (σ2 := [(a, .inr (12, [.ref (q1), .ref (q2), .int 0, .ref (q3), .ref (q4), .int 0, .int 0, .int 0, .int 0, .int 0, .int 0, .int 0, .ref (q5), .ref (q6), .ref (q7), .int 0, .int 0, .int 0, .int 0, .int 0, .int 0, .int 0, .ref (q8), .ref (q9), .int 0, .int 0, .ref (q10), .int 0, .null, .null, .null, .null, .null, .null, .null, .int 0, .int 0, .int 0, .int 0, .int 0])), (q1, .inl (cs 0, 580, .inl (fun _ => 0))), (q2, .inl (cs 0, 580, .inl (fun _ => 0))), (q3, .inl (cs 0, 230, .inl (fun _ => 0))), (q4, .inl (cs 0, 200, .inl (fun _ => 0))), (q5, .inl (cs 0, 580, .inl (fun _ => 0))), (q6, .inl (cs 0, 4, .inl (fun _ => 0))), (q7, .inl (cs 0, 4, .inl (fun _ => 0))), (q8, .inl (cs 0, 16, .inl (fun _ => 0))), (q9, .inl (cs 0, 16, .inl (fun _ => 0))), (q10, .inl (cs 0, 12, .inl (fun _ => 0))), (q11, .inl (cs 0, 4, .inl (upd (upd (fun _ => 0) 0 (-1)) 1 (-1))))]) rfl rfl rfl rfl ?_
  refine gs_dup X dX12_init_99 rfl ?_
  refine gs_iconst (v := 2) X dX12_init_100 (by decide) ?_
  refine gs_iconst (v := -1) X dX12_init_101 (by decide) ?_
  refine gn_iast X hK 11 rfl 2 (by decide) (by decide) dX12_init_102 ?_
  refine gn_norm (pc2 := 103) (kc2 := 11) (ks2 := 2226) (σ2 := [(a, .inr (12, [.ref (q1), .ref (q2), .int 0, .ref (q3), .ref (q4), .int 0, .int 0, .int 0, .int 0, .int 0, .int 0, .int 0, .ref (q5), .ref (q6), .ref (q7), .int 0, .int 0, .int 0, .int 0, .int 0, .int 0, .int 0, .ref (q8), .ref (q9), .int 0, .int 0, .ref (q10), .int 0, .null, .null, .null, .null, .null, .null, .null, .int 0, .int 0, .int 0, .int 0, .int 0])), (q1, .inl (cs 0, 580, .inl (fun _ => 0))), (q2, .inl (cs 0, 580, .inl (fun _ => 0))), (q3, .inl (cs 0, 230, .inl (fun _ => 0))), (q4, .inl (cs 0, 200, .inl (fun _ => 0))), (q5, .inl (cs 0, 580, .inl (fun _ => 0))), (q6, .inl (cs 0, 4, .inl (fun _ => 0))), (q7, .inl (cs 0, 4, .inl (fun _ => 0))), (q8, .inl (cs 0, 16, .inl (fun _ => 0))), (q9, .inl (cs 0, 16, .inl (fun _ => 0))), (q10, .inl (cs 0, 12, .inl (fun _ => 0))), (q11, .inl (cs 0, 4, .inl (upd (upd (upd (fun _ => 0) 0 (-1)) 1 (-1)) 2 (-1))))]) rfl rfl rfl rfl ?_
  refine gs_dup X dX12_init_103 rfl ?_
  refine gs_iconst (v := 3) X dX12_init_104 (by decide) ?_
  refine gs_iconst (v := -1) X dX12_init_105 (by decide) ?_
  refine gn_iast X hK 11 rfl 3 (by decide) (by decide) dX12_init_106 ?_
  refine gn_norm (pc2 := 107) (kc2 := 11) (ks2 := 2226) (σ2 := [(a, .inr (12, [.ref (q1), .ref (q2), .int 0, .ref (q3), .ref (q4), .int 0, .int 0, .int 0, .int 0, .int 0, .int 0, .int 0, .ref (q5), .ref (q6), .ref (q7), .int 0, .int 0, .int 0, .int 0, .int 0, .int 0, .int 0, .ref (q8), .ref (q9), .int 0, .int 0, .ref (q10), .int 0, .null, .null, .null, .null, .null, .null, .null, .int 0, .int 0, .int 0, .int 0, .int 0])), (q1, .inl (cs 0, 580, .inl (fun _ => 0))), (q2, .inl (cs 0, 580, .inl (fun _ => 0))), (q3, .inl (cs 0, 230, .inl (fun _ => 0))), (q4, .inl (cs 0, 200, .inl (fun _ => 0))), (q5, .inl (cs 0, 580, .inl (fun _ => 0))), (q6, .inl (cs 0, 4, .inl (fun _ => 0))), (q7, .inl (cs 0, 4, .inl (fun _ => 0))), (q8, .inl (cs 0, 16, .inl (fun _ => 0))), (q9, .inl (cs 0, 16, .inl (fun _ => 0))), (q10, .inl (cs 0, 12, .inl (fun _ => 0))), (q11, .inl (cs 0, 4, .inl (upd (upd (upd (upd (fun _ => 0) 0 (-1)) 1 (-1)) 2 (-1)) 3 (-1))))]) rfl rfl rfl rfl ?_
  refine gn_putF X hK hini 12 (T := TX12) (N := 40) rfl inM tyX12_ok nmX12 28 (by decide) rfl (hu_in 1182 (by decide +kernel) (by decide +kernel)) rfl rfl rfl rfl (Nat.le_of_ble_eq_true rfl) dX12_init_107 ?_
  refine gn_norm (pc2 := 110) (kc2 := 11) (ks2 := 2226) (σ2 := [(a, .inr (12, [.ref (q1), .ref (q2), .int 0, .ref (q3), .ref (q4), .int 0, .int 0, .int 0, .int 0, .int 0, .int 0, .int 0, .ref (q5), .ref (q6), .ref (q7), .int 0, .int 0, .int 0, .int 0, .int 0, .int 0, .int 0, .ref (q8), .ref (q9), .int 0, .int 0, .ref (q10), .int 0, .ref (q11), .null, .null, .null, .null, .null, .null, .int 0, .int 0, .int 0, .int 0, .int 0])), (q1, .inl (cs 0, 580, .inl (fun _ => 0))), (q2, .inl (cs 0, 580, .inl (fun _ => 0))), (q3, .inl (cs 0, 230, .inl (fun _ => 0))), (q4, .inl (cs 0, 200, .inl (fun _ => 0))), (q5, .inl (cs 0, 580, .inl (fun _ => 0))), (q6, .inl (cs 0, 4, .inl (fun _ => 0))), (q7, .inl (cs 0, 4, .inl (fun _ => 0))), (q8, .inl (cs 0, 16, .inl (fun _ => 0))), (q9, .inl (cs 0, 16, .inl (fun _ => 0))), (q10, .inl (cs 0, 12, .inl (fun _ => 0))), (q11, .inl (cs 0, 4, .inl (upd (upd (upd (upd (fun _ => 0) 0 (-1)) 1 (-1)) 2 (-1)) 3 (-1))))]) rfl rfl rfl rfl ?_
  refine gs_aload_n X dX12_init_110 rfl 0 rfl ?_
  refine gs_iconst (v := 4) X dX12_init_111 (by decide) ?_
  refine gn_newi X hK hA 4 (by decide) ⟨Nat.le_of_ble_eq_true rfl, Nat.le_of_ble_eq_true rfl⟩ dX12_init_112 (fun q12 => ?_)
  refine gn_putF X hK hini 12 (T := TX12) (N := 40) rfl inM tyX12_ok nmX12 29 (by decide) rfl (hu_in 1183 (by decide +kernel) (by decide +kernel)) rfl rfl rfl rfl (Nat.le_of_ble_eq_true rfl) dX12_init_114 ?_
  refine gn_norm (pc2 := 117) (kc2 := 12) (ks2 := 2230) (σ2 := [(a, .inr (12, [.ref (q1), .ref (q2), .int 0, .ref (q3), .ref (q4), .int 0, .int 0, .int 0, .int 0, .int 0, .int 0, .int 0, .ref (q5), .ref (q6), .ref (q7), .int 0, .int 0, .int 0, .int 0, .int 0, .int 0, .int 0, .ref (q8), .ref (q9), .int 0, .int 0, .ref (q10), .int 0, .ref (q11), .ref (q12), .null, .null, .null, .null, .null, .int 0, .int 0, .int 0, .int 0, .int 0])), (q1, .inl (cs 0, 580, .inl (fun _ => 0))), (q2, .inl (cs 0, 580, .inl (fun _ => 0))), (q3, .inl (cs 0, 230, .inl (fun _ => 0))), (q4, .inl (cs 0, 200, .inl (fun _ => 0))), (q5, .inl (cs 0, 580, .inl (fun _ => 0))), (q6, .inl (cs 0, 4, .inl (fun _ => 0))), (q7, .inl (cs 0, 4, .inl (fun _ => 0))), (q8, .inl (cs 0, 16, .inl (fun _ => 0))), (q9, .inl (cs 0, 16, .inl (fun _ => 0))), (q10, .inl (cs 0, 12, .inl (fun _ => 0))), (q11, .inl (cs 0, 4, .inl (upd (upd (upd (upd (fun _ => 0) 0 (-1)) 1 (-1)) 2 (-1)) 3 (-1)))), (q12, .inl (cs 0, 4, .inl (fun _ => 0)))]) rfl rfl rfl rfl ?_
  refine gs_aload_n X dX12_init_117 rfl 0 rfl ?_
  refine gn_sipush (v := 160) X dX12_init_118 (by decide) ?_
  refine gn_newi X hK hA 160 (by decide) ⟨Nat.le_of_ble_eq_true rfl, Nat.le_of_ble_eq_true rfl⟩ dX12_init_121 (fun q13 => ?_)
  refine gn_putF X hK hini 12 (T := TX12) (N := 40) rfl inM tyX12_ok nmX12 30 (by decide) rfl (hu_in 1184 (by decide +kernel) (by decide +kernel)) rfl rfl rfl rfl (Nat.le_of_ble_eq_true rfl) dX12_init_123 ?_
  refine gn_norm (pc2 := 126) (kc2 := 13) (ks2 := 2390) (σ2 := [(a, .inr (12, [.ref (q1), .ref (q2), .int 0, .ref (q3), .ref (q4), .int 0, .int 0, .int 0, .int 0, .int 0, .int 0, .int 0, .ref (q5), .ref (q6), .ref (q7), .int 0, .int 0, .int 0, .int 0, .int 0, .int 0, .int 0, .ref (q8), .ref (q9), .int 0, .int 0, .ref (q10), .int 0, .ref (q11), .ref (q12), .ref (q13), .null, .null, .null, .null, .int 0, .int 0, .int 0, .int 0, .int 0])), (q1, .inl (cs 0, 580, .inl (fun _ => 0))), (q2, .inl (cs 0, 580, .inl (fun _ => 0))), (q3, .inl (cs 0, 230, .inl (fun _ => 0))), (q4, .inl (cs 0, 200, .inl (fun _ => 0))), (q5, .inl (cs 0, 580, .inl (fun _ => 0))), (q6, .inl (cs 0, 4, .inl (fun _ => 0))), (q7, .inl (cs 0, 4, .inl (fun _ => 0))), (q8, .inl (cs 0, 16, .inl (fun _ => 0))), (q9, .inl (cs 0, 16, .inl (fun _ => 0))), (q10, .inl (cs 0, 12, .inl (fun _ => 0))), (q11, .inl (cs 0, 4, .inl (upd (upd (upd (upd (fun _ => 0) 0 (-1)) 1 (-1)) 2 (-1)) 3 (-1)))), (q12, .inl (cs 0, 4, .inl (fun _ => 0))), (q13, .inl (cs 0, 160, .inl (fun _ => 0)))]) rfl rfl rfl rfl ?_
  refine gs_aload_n X dX12_init_126 rfl 0 rfl ?_
  refine gs_iconst (v := 4) X dX12_init_127 (by decide) ?_
  refine gn_newi X hK hA 4 (by decide) ⟨Nat.le_of_ble_eq_true rfl, Nat.le_of_ble_eq_true rfl⟩ dX12_init_128 (fun q14 => ?_)
  refine gn_putF X hK hini 12 (T := TX12) (N := 40) rfl inM tyX12_ok nmX12 31 (by decide) rfl (hu_in 1185 (by decide +kernel) (by decide +kernel)) rfl rfl rfl rfl (Nat.le_of_ble_eq_true rfl) dX12_init_130 ?_
  refine gn_norm (pc2 := 133) (kc2 := 14) (ks2 := 2394) (σ2 := [(a, .inr (12, [.ref (q1), .ref (q2), .int 0, .ref (q3), .ref (q4), .int 0, .int 0, .int 0, .int 0, .int 0, .int 0, .int 0, .ref (q5), .ref (q6), .ref (q7), .int 0, .int 0, .int 0, .int 0, .int 0, .int 0, .int 0, .ref (q8), .ref (q9), .int 0, .int 0, .ref (q10), .int 0, .ref (q11), .ref (q12), .ref (q13), .ref (q14), .null, .null, .null, .int 0, .int 0, .int 0, .int 0, .int 0])), (q1, .inl (cs 0, 580, .inl (fun _ => 0))), (q2, .inl (cs 0, 580, .inl (fun _ => 0))), (q3, .inl (cs 0, 230, .inl (fun _ => 0))), (q4, .inl (cs 0, 200, .inl (fun _ => 0))), (q5, .inl (cs 0, 580, .inl (fun _ => 0))), (q6, .inl (cs 0, 4, .inl (fun _ => 0))), (q7, .inl (cs 0, 4, .inl (fun _ => 0))), (q8, .inl (cs 0, 16, .inl (fun _ => 0))), (q9, .inl (cs 0, 16, .inl (fun _ => 0))), (q10, .inl (cs 0, 12, .inl (fun _ => 0))), (q11, .inl (cs 0, 4, .inl (upd (upd (upd (upd (fun _ => 0) 0 (-1)) 1 (-1)) 2 (-1)) 3 (-1)))), (q12, .inl (cs 0, 4, .inl (fun _ => 0))), (q13, .inl (cs 0, 160, .inl (fun _ => 0))), (q14, .inl (cs 0, 4, .inl (fun _ => 0)))]) rfl rfl rfl rfl ?_
  refine gs_aload_n X dX12_init_133 rfl 0 rfl ?_
  refine gs_iconst (v := 4) X dX12_init_134 (by decide) ?_
  refine gn_newi X hK hA 4 (by decide) ⟨Nat.le_of_ble_eq_true rfl, Nat.le_of_ble_eq_true rfl⟩ dX12_init_135 (fun q15 => ?_)
  refine gn_putF X hK hini 12 (T := TX12) (N := 40) rfl inM tyX12_ok nmX12 32 (by decide) rfl (hu_in 1186 (by decide +kernel) (by decide +kernel)) rfl rfl rfl rfl (Nat.le_of_ble_eq_true rfl) dX12_init_137 ?_
  refine gn_norm (pc2 := 140) (kc2 := 15) (ks2 := 2398) (σ2 := [(a, .inr (12, [.ref (q1), .ref (q2), .int 0, .ref (q3), .ref (q4), .int 0, .int 0, .int 0, .int 0, .int 0, .int 0, .int 0, .ref (q5), .ref (q6), .ref (q7), .int 0, .int 0, .int 0, .int 0, .int 0, .int 0, .int 0, .ref (q8), .ref (q9), .int 0, .int 0, .ref (q10), .int 0, .ref (q11), .ref (q12), .ref (q13), .ref (q14), .ref (q15), .null, .null, .int 0, .int 0, .int 0, .int 0, .int 0])), (q1, .inl (cs 0, 580, .inl (fun _ => 0))), (q2, .inl (cs 0, 580, .inl (fun _ => 0))), (q3, .inl (cs 0, 230, .inl (fun _ => 0))), (q4, .inl (cs 0, 200, .inl (fun _ => 0))), (q5, .inl (cs 0, 580, .inl (fun _ => 0))), (q6, .inl (cs 0, 4, .inl (fun _ => 0))), (q7, .inl (cs 0, 4, .inl (fun _ => 0))), (q8, .inl (cs 0, 16, .inl (fun _ => 0))), (q9, .inl (cs 0, 16, .inl (fun _ => 0))), (q10, .inl (cs 0, 12, .inl (fun _ => 0))), (q11, .inl (cs 0, 4, .inl (upd (upd (upd (upd (fun _ => 0) 0 (-1)) 1 (-1)) 2 (-1)) 3 (-1)))), (q12, .inl (cs 0, 4, .inl (fun _ => 0))), (q13, .inl (cs 0, 160, .inl (fun _ => 0))), (q14, .inl (cs 0, 4, .inl (fun _ => 0))), (q15, .inl (cs 0, 4, .inl (fun _ => 0)))]) rfl rfl rfl rfl ?_
  refine gs_aload_n X dX12_init_140 rfl 0 rfl ?_
  refine gs_iconst (v := 4) X dX12_init_141 (by decide) ?_
  refine gn_newi X hK hA 4 (by decide) ⟨Nat.le_of_ble_eq_true rfl, Nat.le_of_ble_eq_true rfl⟩ dX12_init_142 (fun q16 => ?_)
  refine gn_putF X hK hini 12 (T := TX12) (N := 40) rfl inM tyX12_ok nmX12 33 (by decide) rfl (hu_in 1187 (by decide +kernel) (by decide +kernel)) rfl rfl rfl rfl (Nat.le_of_ble_eq_true rfl) dX12_init_144 ?_
  refine gn_norm (pc2 := 147) (kc2 := 16) (ks2 := 2402) (σ2 := [(a, .inr (12, [.ref (q1), .ref (q2), .int 0, .ref (q3), .ref (q4), .int 0, .int 0, .int 0, .int 0, .int 0, .int 0, .int 0, .ref (q5), .ref (q6), .ref (q7), .int 0, .int 0, .int 0, .int 0, .int 0, .int 0, .int 0, .ref (q8), .ref (q9), .int 0, .int 0, .ref (q10), .int 0, .ref (q11), .ref (q12), .ref (q13), .ref (q14), .ref (q15), .ref (q16), .null, .int 0, .int 0, .int 0, .int 0, .int 0])), (q1, .inl (cs 0, 580, .inl (fun _ => 0))), (q2, .inl (cs 0, 580, .inl (fun _ => 0))), (q3, .inl (cs 0, 230, .inl (fun _ => 0))), (q4, .inl (cs 0, 200, .inl (fun _ => 0))), (q5, .inl (cs 0, 580, .inl (fun _ => 0))), (q6, .inl (cs 0, 4, .inl (fun _ => 0))), (q7, .inl (cs 0, 4, .inl (fun _ => 0))), (q8, .inl (cs 0, 16, .inl (fun _ => 0))), (q9, .inl (cs 0, 16, .inl (fun _ => 0))), (q10, .inl (cs 0, 12, .inl (fun _ => 0))), (q11, .inl (cs 0, 4, .inl (upd (upd (upd (upd (fun _ => 0) 0 (-1)) 1 (-1)) 2 (-1)) 3 (-1)))), (q12, .inl (cs 0, 4, .inl (fun _ => 0))), (q13, .inl (cs 0, 160, .inl (fun _ => 0))), (q14, .inl (cs 0, 4, .inl (fun _ => 0))), (q15, .inl (cs 0, 4, .inl (fun _ => 0))), (q16, .inl (cs 0, 4, .inl (fun _ => 0)))]) rfl rfl rfl rfl ?_
  refine gs_aload_n X dX12_init_147 rfl 0 rfl ?_
  refine gs_bipush (v := 30) X dX12_init_148 (by decide) ?_
  refine gn_newi X hK hA 30 (by decide) ⟨Nat.le_of_ble_eq_true rfl, Nat.le_of_ble_eq_true rfl⟩ dX12_init_150 (fun q17 => ?_)
  refine gn_putF X hK hini 12 (T := TX12) (N := 40) rfl inM tyX12_ok nmX12 34 (by decide) rfl (hu_in 1188 (by decide +kernel) (by decide +kernel)) rfl rfl rfl rfl (Nat.le_of_ble_eq_true rfl) dX12_init_152 ?_
  refine gn_norm (pc2 := 155) (kc2 := 17) (ks2 := 2432) (σ2 := [(a, .inr (12, [.ref (q1), .ref (q2), .int 0, .ref (q3), .ref (q4), .int 0, .int 0, .int 0, .int 0, .int 0, .int 0, .int 0, .ref (q5), .ref (q6), .ref (q7), .int 0, .int 0, .int 0, .int 0, .int 0, .int 0, .int 0, .ref (q8), .ref (q9), .int 0, .int 0, .ref (q10), .int 0, .ref (q11), .ref (q12), .ref (q13), .ref (q14), .ref (q15), .ref (q16), .ref (q17), .int 0, .int 0, .int 0, .int 0, .int 0])), (q1, .inl (cs 0, 580, .inl (fun _ => 0))), (q2, .inl (cs 0, 580, .inl (fun _ => 0))), (q3, .inl (cs 0, 230, .inl (fun _ => 0))), (q4, .inl (cs 0, 200, .inl (fun _ => 0))), (q5, .inl (cs 0, 580, .inl (fun _ => 0))), (q6, .inl (cs 0, 4, .inl (fun _ => 0))), (q7, .inl (cs 0, 4, .inl (fun _ => 0))), (q8, .inl (cs 0, 16, .inl (fun _ => 0))), (q9, .inl (cs 0, 16, .inl (fun _ => 0))), (q10, .inl (cs 0, 12, .inl (fun _ => 0))), (q11, .inl (cs 0, 4, .inl (upd (upd (upd (upd (fun _ => 0) 0 (-1)) 1 (-1)) 2 (-1)) 3 (-1)))), (q12, .inl (cs 0, 4, .inl (fun _ => 0))), (q13, .inl (cs 0, 160, .inl (fun _ => 0))), (q14, .inl (cs 0, 4, .inl (fun _ => 0))), (q15, .inl (cs 0, 4, .inl (fun _ => 0))), (q16, .inl (cs 0, 4, .inl (fun _ => 0))), (q17, .inl (cs 0, 30, .inl (fun _ => 0)))]) rfl rfl rfl rfl ?_
  refine gs_aload_n X dX12_init_155 rfl 0 rfl ?_
  refine gn_get X hK 12 (T := TX12) (N := 40) rfl inM 0 (by decide) rfl (hu_in 1154 (by decide +kernel) (by decide +kernel)) rfl rfl dX12_init_156 ?_
  refine gs_iconst (v := 2) X dX12_init_159 (by decide) ?_
  refine gs_bipush (v := 12) X dX12_init_160 (by decide) ?_
  refine gn_iast X hK 1 rfl 2 (by decide) (by decide) dX12_init_162 ?_
  refine gn_norm (pc2 := 163) (kc2 := 17) (ks2 := 2432) (σ2 := [(a, .inr (12, [.ref (q1), .ref (q2), .int 0, .ref (q3), .ref (q4), .int 0, .int 0, .int 0, .int 0, .int 0, .int 0, .int 0, .ref (q5), .ref (q6), .ref (q7), .int 0, .int 0, .int 0, .int 0, .int 0, .int 0, .int 0, .ref (q8), .ref (q9), .int 0, .int 0, .ref (q10), .int 0, .ref (q11), .ref (q12), .ref (q13), .ref (q14), .ref (q15), .ref (q16), .ref (q17), .int 0, .int 0, .int 0, .int 0, .int 0])), (q1, .inl (cs 0, 580, .inl (upd (fun _ => 0) 2 (12)))), (q2, .inl (cs 0, 580, .inl (fun _ => 0))), (q3, .inl (cs 0, 230, .inl (fun _ => 0))), (q4, .inl (cs 0, 200, .inl (fun _ => 0))), (q5, .inl (cs 0, 580, .inl (fun _ => 0))), (q6, .inl (cs 0, 4, .inl (fun _ => 0))), (q7, .inl (cs 0, 4, .inl (fun _ => 0))), (q8, .inl (cs 0, 16, .inl (fun _ => 0))), (q9, .inl (cs 0, 16, .inl (fun _ => 0))), (q10, .inl (cs 0, 12, .inl (fun _ => 0))), (q11, .inl (cs 0, 4, .inl (upd (upd (upd (upd (fun _ => 0) 0 (-1)) 1 (-1)) 2 (-1)) 3 (-1)))), (q12, .inl (cs 0, 4, .inl (fun _ => 0))), (q13, .inl (cs 0, 160, .inl (fun _ => 0))), (q14, .inl (cs 0, 4, .inl (fun _ => 0))), (q15, .inl (cs 0, 4, .inl (fun _ => 0))), (q16, .inl (cs 0, 4, .inl (fun _ => 0))), (q17, .inl (cs 0, 30, .inl (fun _ => 0)))]) rfl rfl rfl rfl ?_
  refine gs_aload_n X dX12_init_163 rfl 0 rfl ?_
  refine gn_get X hK 12 (T := TX12) (N := 40) rfl inM 0 (by decide) rfl (hu_in 1154 (by decide +kernel) (by decide +kernel)) rfl rfl dX12_init_164 ?_
  refine gs_iconst (v := 4) X dX12_init_167 (by decide) ?_
  refine gs_iconst (v := 1) X dX12_init_168 (by decide) ?_
  refine gn_iast X hK 1 rfl 4 (by decide) (by decide) dX12_init_169 ?_
  refine gn_norm (pc2 := 170) (kc2 := 17) (ks2 := 2432) (σ2 := [(a, .inr (12, [.ref (q1), .ref (q2), .int 0, .ref (q3), .ref (q4), .int 0, .int 0, .int 0, .int 0, .int 0, .int 0, .int 0, .ref (q5), .ref (q6), .ref (q7), .int 0, .int 0, .int 0, .int 0, .int 0, .int 0, .int 0, .ref (q8), .ref (q9), .int 0, .int 0, .ref (q10), .int 0, .ref (q11), .ref (q12), .ref (q13), .ref (q14), .ref (q15), .ref (q16), .ref (q17), .int 0, .int 0, .int 0, .int 0, .int 0])), (q1, .inl (cs 0, 580, .inl (upd (upd (fun _ => 0) 2 (12)) 4 (1)))), (q2, .inl (cs 0, 580, .inl (fun _ => 0))), (q3, .inl (cs 0, 230, .inl (fun _ => 0))), (q4, .inl (cs 0, 200, .inl (fun _ => 0))), (q5, .inl (cs 0, 580, .inl (fun _ => 0))), (q6, .inl (cs 0, 4, .inl (fun _ => 0))), (q7, .inl (cs 0, 4, .inl (fun _ => 0))), (q8, .inl (cs 0, 16, .inl (fun _ => 0))), (q9, .inl (cs 0, 16, .inl (fun _ => 0))), (q10, .inl (cs 0, 12, .inl (fun _ => 0))), (q11, .inl (cs 0, 4, .inl (upd (upd (upd (upd (fun _ => 0) 0 (-1)) 1 (-1)) 2 (-1)) 3 (-1)))), (q12, .inl (cs 0, 4, .inl (fun _ => 0))), (q13, .inl (cs 0, 160, .inl (fun _ => 0))), (q14, .inl (cs 0, 4, .inl (fun _ => 0))), (q15, .inl (cs 0, 4, .inl (fun _ => 0))), (q16, .inl (cs 0, 4, .inl (fun _ => 0))), (q17, .inl (cs 0, 30, .inl (fun _ => 0)))]) rfl rfl rfl rfl ?_
  refine gs_aload_n X dX12_init_170 rfl 0 rfl ?_
  refine gn_get X hK 12 (T := TX12) (N := 40) rfl inM 0 (by decide) rfl (hu_in 1154 (by decide +kernel) (by decide +kernel)) rfl rfl dX12_init_171 ?_
  refine gs_bipush (v := 8) X dX12_init_174 (by decide) ?_
  refine gs_iconst (v := 5) X dX12_init_176 (by decide) ?_
  refine gn_iast X hK 1 rfl 8 (by decide) (by decide) dX12_init_177 ?_
  refine gn_norm (pc2 := 178) (kc2 := 17) (ks2 := 2432) (σ2 := [(a, .inr (12, [.ref (q1), .ref (q2), .int 0, .ref (q3), .ref (q4), .int 0, .int 0, .int 0, .int 0, .int 0, .int 0, .int 0, .ref (q5), .ref (q6), .ref (q7), .int 0, .int 0, .int 0, .int 0, .int 0, .int 0, .int 0, .ref (q8), .ref (q9), .int 0, .int 0, .ref (q10), .int 0, .ref (q11), .ref (q12), .ref (q13), .ref (q14), .ref (q15), .ref (q16), .ref (q17), .int 0, .int 0, .int 0, .int 0, .int 0])), (q1, .inl (cs 0, 580, .inl (upd (upd (upd (fun _ => 0) 2 (12)) 4 (1)) 8 (5)))), (q2, .inl (cs 0, 580, .inl (fun _ => 0))), (q3, .inl (cs 0, 230, .inl (fun _ => 0))), (q4, .inl (cs 0, 200, .inl (fun _ => 0))), (q5, .inl (cs 0, 580, .inl (fun _ => 0))), (q6, .inl (cs 0, 4, .inl (fun _ => 0))), (q7, .inl (cs 0, 4, .inl (fun _ => 0))), (q8, .inl (cs 0, 16, .inl (fun _ => 0))), (q9, .inl (cs 0, 16, .inl (fun _ => 0))), (q10, .inl (cs 0, 12, .inl (fun _ => 0))), (q11, .inl (cs 0, 4, .inl (upd (upd (upd (upd (fun _ => 0) 0 (-1)) 1 (-1)) 2 (-1)) 3 (-1)))), (q12, .inl (cs 0, 4, .inl (fun _ => 0))), (q13, .inl (cs 0, 160, .inl (fun _ => 0))), (q14, .inl (cs 0, 4, .inl (fun _ => 0))), (q15, .inl (cs 0, 4, .inl (fun _ => 0))), (q16, .inl (cs 0, 4, .inl (fun _ => 0))), (q17, .inl (cs 0, 30, .inl (fun _ => 0)))]) rfl rfl rfl rfl ?_
  refine gs_iconst (v := nI 0) X dX12_init_178 (by decide) ?_
  refine gs_istore_n X dX12_init_179 rfl (by decide) rfl ?_
  refine cn_bear (f0 := lpG 52 3 6 0 (upd (upd (upd (fun _ => 0) 2 12) 4 1) 8 5)) rfl X hK ?_ 6 0 _ (by decide) rfl
  refine gs_iconst (v := nI 0) X dX12_init_202 (by decide) ?_
  refine gs_istore_n X dX12_init_203 rfl (by decide) rfl ?_
  refine cn_news (f0 := (lpG 58 4 16 0 (lpG 52 3 6 0 (upd (upd (upd (fun _ => 0) 2 12) 4 1) 8 5)))) rfl X hK ?_ 16 0 _ (by decide) rfl
  exact gn_ret X ⟨rfl, rfl⟩ ⟨fun i => ql [(100, a), (0, q1), (1, q2), (3, q3), (4, q4), (12, q5), (13, q6), (14, q7), (22, q8), (23, q9), (26, q10), (28, q11), (29, q12), (30, q13), (31, q14), (32, q15), (33, q16), (34, q17)] i, rfl, rfl⟩ dX12_init_226
