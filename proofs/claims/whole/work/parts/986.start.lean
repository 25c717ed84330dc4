/-! THE START: the two are made, and the loop begins with the invariant -/
def ta0 (k : Nat) : Nat → Int32 := bif Nat.beq k 10 then lpF (-1) 4 0 (fun _ => 0) else bif Nat.beq k 103 || Nat.beq k 203 then (fun _ => 12) else bif Nat.beq k 105 || Nat.beq k 205 then (fun _ => 5) else bif Nat.beq k 109 || Nat.beq k 209 then (fun _ => 1) else bif Nat.beq k 110 || Nat.beq k 210 then lpF 4 16 0 (fun _ => 0) else bif Nat.beq k 112 || Nat.beq k 212 then lpF 3 6 0 (fun _ => 0) else (fun _ => 0)
def tau0 : SC := (ta0, fun _ => 0)
def sig0 : SM := fun k => bif Nat.beq k 0 then lpG 58 4 16 0 (lpG 52 3 6 0 (upd (upd (upd (fun _ => 0) 2 12) 4 1) 8 5)) else bif Nat.beq k 28 then upd (upd (upd (upd (fun _ => 0) 0 (-1)) 1 (-1)) 2 (-1)) 3 (-1) else (fun _ => 0)
def v00 : VT := fun k _ => bif Nat.beq k 3 then 12 else bif Nat.beq k 5 then 5 else bif Nat.beq k 10 then 4 else bif Nat.beq k 12 then 3 else 0
theorem Inv_0 : Inv tau0 sig0 := by
  refine ⟨⟨v00, [], ⟨by decide +kernel, by decide +kernel, by decide +kernel, by decide +kernel, by decide +kernel, fun o ho => absurd ho (Nat.not_lt_zero _), by decide +kernel, by decide +kernel, by decide +kernel, fun r hr => absurd hr (Nat.not_lt_zero _), by decide +kernel, trivial⟩, ⟨by decide +kernel, by decide +kernel, by decide +kernel, by decide +kernel, by decide +kernel, by decide +kernel, by decide +kernel, fun o ho => absurd ho (Nat.not_lt_zero _), by decide +kernel, by decide +kernel, by decide +kernel, fun r hr => absurd hr (Nat.not_lt_zero _), by decide +kernel, trivial⟩, ⟨by decide +kernel, by decide +kernel, by decide +kernel, by decide +kernel, by decide +kernel, by decide +kernel, by decide +kernel, by decide +kernel, fun o ho => absurd ho (Nat.not_lt_zero _), by decide +kernel, by decide +kernel, by decide +kernel, fun r hr => absurd hr (Nat.not_lt_zero _)⟩, ⟨by decide, by decide +kernel, fun q hq => absurd hq List.not_mem_nil⟩, by decide +kernel, by decide +kernel, by decide +kernel⟩, ⟨by decide +kernel, Or.inl (by decide +kernel)⟩, ⟨0, by decide, by decide +kernel, by decide +kernel, fun j hj => absurd hj (Nat.not_lt_zero _)⟩, ⟨0, by decide, by decide +kernel, by decide +kernel, by decide +kernel⟩, ?_, ?_, ⟨0, by decide, by decide +kernel, by decide +kernel, fun j hj => absurd hj (Nat.not_lt_zero _)⟩⟩
  · intro t ht
    have h1 : ∀ t, t < 4 → tau0.1 10 t = sig0 28 t ∧ tau0.1 11 t = sig0 29 t ∧ sig0 29 t = nI 0 ∧ sig0 28 t = -1 := by decide +kernel
    obtain ⟨a, b, c, d⟩ := h1 t ht
    exact ⟨a, b, ⟨0, by decide, c⟩, Or.inl d⟩
  · intro t ht
    have h1 : ∀ t, t < 4 → tau0.1 13 t = sig0 31 t ∧ sig0 31 t = 0 := by decide +kernel
    exact ⟨(h1 t ht).1, Or.inl (h1 t ht).2⟩
def adF (q0 q1 qp qr qv q : Nat → Nat) (k : Nat) : Nat := bif Nat.blt k 100 then q k else bif Nat.blt k 200 then q0 (k - 100) else bif Nat.blt k 300 then q1 (k - 200) else bif Nat.blt k 400 then qr (k - 300) else bif Nat.blt k 500 then qp (k - 400) else qv (k - 500)
theorem st_go {p : Program} {l : Launch} {e : Env} {s : State} {m : MethodId} {below : List Frame} {meth : Method} {c : Code} {D : va_G} {cs : Nat → ClassId} {sK sV : Nat → Nat} {tA : Nat} {b Ln kc ks : Nat} {xs : Nat → Int32} {q0 q1 qp qr qv q qm : Nat → Nat} (hL : Ln ≤ 2560) (hkc : kc ≤ 600000 ∧ ks ≤ 7302250) (X : hc p s m #[Value.ref b] meth c RL code 4 (some .boolean)) (hK : kC D cs sK sV tA (fun q : Nat => s.heap.size ≤ q) s) (hKm : kM D (cs 0) (fun q : Nat => s.heap.size ≤ q) s) (hX : va_X b Ln xs s s.heap) (hbl : b < s.heap.size) : gs kc ks p l e room_1 s m #[Value.ref b] below meth c wI D vwCl (fun q : Nat => s.heap.size ≤ q) 4 (lw_Z below #[Value.ref b] s) 18 [(0, .ref b), (1, .ref (q 16)), (2, .ref (qm 100)), (3, .int (nI 0))] [] (wHN cs q0 q1 qp qr qv q ++ wMn cs qm) := by
  refine gn_fn 10 (g := fun j => some (adF q0 q1 qp qr qv q (140 + j))) rfl (h6 rfl rfl rfl rfl rfl rfl) ?_
  refine gn_fn 32 (g := fun j => some (adF q0 q1 qp qr qv q (240 + j))) rfl (h6 rfl rfl rfl rfl rfl rfl) ?_
  refine gn_fn 55 (g := fun j => some (adF q0 q1 qp qr qv q (410 + j))) rfl (h5 rfl rfl rfl rfl rfl) ?_
  refine ws_subst (σ2 := wL (adF q0 q1 qp qr qv q) cs (qm 100) qm (cs 0) (tau0, sig0)) rfl ?_
  intro H locs ls hP hD hS h
  refine W.widen hkc.1 hkc.2 ?_
  exact wl_law_l18 (ad := adF q0 q1 qp qr qv q) (am := qm) (h := qm 100) (cA := cs 0) X hK hKm hX hbl hFU (nI 0) (tau0, sig0) (law_l hL 512 0 hFU (tau0, sig0) (by omega) (by decide) (by decide) Inv_0) H locs ls hP hD hS h
set_option maxHeartbeats 4000000 in
theorem whole_start {p : Program} {e : Env} {s : State} {m : MethodId} {below : List Frame} {meth : Method} {c : Code} (l : Launch) (hflags : l.flags = flags0) {b L : Nat} {xs : Nat → Int32} (hL : L ≤ 2560) (C0 : lw_At p s m meth c b L xs) : W p l e room_1 s m #[Value.ref b] below meth c s.heap [] 0 0 (lw_Z below #[Value.ref b] s) (entryFrame m ([Value.ref b] : List Value).toArray 4) := by
  obtain ⟨D, cs, sK, sV, tA, hK, hAO, hAA⟩ := law_entry C0
  have hKN : kN D cs (fun q : Nat => s.heap.size ≤ q) s := ⟨hK.1, hK.2.1, hAO, hAA⟩
  have hKm : kM D (cs 0) (fun q : Nat => s.heap.size ≤ q) s := va_K.sub hK.1 [0] rfl
  obtain ⟨hx, hb, hr, hml, hown, hts, hX, hbl, hlk, hgv⟩ := C0
  have X : hc p s m #[Value.ref b] meth c RL code 4 (some .boolean) := ⟨hx, hb, hml, hown, fun w hw => hts w (hu_tb hw), hr, hlk⟩
  have hA : ∀ q : Nat, s.heap.size ≤ q → (fun q : Nat => s.heap.size ≤ q) q := fun q h => h
  have G : gs 0 0 p l e room_1 s m #[Value.ref b] below meth c wI D vwCl (fun q : Nat => s.heap.size ≤ q) 4 (lw_Z below #[Value.ref b] s) 0 (lv_args 0 [.ref b]) [] [] := by
    refine gn_new X hKN hA 11 (C := RX11) (T := TX11) (N := 16) rfl inC11 tyX11_ok ⟨hu_in 22 (by decide +kernel) (by decide +kernel), hu_in 23 (by decide +kernel) (by decide +kernel), hu_in 1 (by decide +kernel) (by decide +kernel)⟩ (fs := [.null, .null, .int 0, .null, .null, .null, .null, .int 0, .null, .int 0, .null, .null, .null, .null, .null, .null]) rfl ⟨Nat.le_of_ble_eq_true rfl, Nat.le_of_ble_eq_true rfl⟩ dL_law_0 (fun a => ?_)
    refine gs_dup X dL_law_3 rfl ?_
    refine gn_callI (As := []) X hKN hA rfl (cn_X11 a) cwK11 (hu_in 24 (by decide +kernel) (by decide +kernel)) rfl ⟨rfl, rfl, Nat.le_of_ble_eq_true rfl, Nat.le_of_ble_eq_true rfl⟩ ⟨Nat.le_of_ble_eq_true rfl, Nat.le_of_ble_eq_true rfl⟩ rfl (Nat.le_of_ble_eq_true rfl) dL_law_4 (fun u hu => ?_)
    obtain ⟨q0, q1, qp, qr, qv, q, e1, rfl⟩ := hu
    subst e1
    refine gs_astore_n X dL_law_7 rfl (by decide) rfl ?_
    refine gn_new X hKN hA 12 (C := RX12) (T := TX12) (N := 40) rfl inM tyX12_ok ⟨hu_in 1148 (by decide +kernel) (by decide +kernel), hu_in 1149 (by decide +kernel) (by decide +kernel), hu_in 14 (by decide +kernel) (by decide +kernel)⟩ (fs := [.null, .null, .int 0, .null, .null, .int 0, .int 0, .int 0, .int 0, .int 0, .int 0, .int 0, .null, .null, .null, .int 0, .int 0, .int 0, .int 0, .int 0, .int 0, .int 0, .null, .null, .int 0, .int 0, .null, .int 0, .null, .null, .null, .null, .null, .null, .null, .int 0, .int 0, .int 0, .int 0, .int 0]) rfl ⟨Nat.le_of_ble_eq_true rfl, Nat.le_of_ble_eq_true rfl⟩ dL_law_8 (fun h => ?_)
    refine gs_dup X dL_law_11 rfl ?_
    refine gn_callI (As := []) X hKN hA rfl (cn_X12 h) cwK12 (hu_in 1150 (by decide +kernel) (by decide +kernel)) rfl ⟨rfl, rfl, Nat.le_of_ble_eq_true rfl, Nat.le_of_ble_eq_true rfl⟩ ⟨Nat.le_of_ble_eq_true rfl, Nat.le_of_ble_eq_true rfl⟩ rfl (Nat.le_of_ble_eq_true rfl) dL_law_12 (fun u hu => ?_)
    obtain ⟨qm, e2, rfl⟩ := hu
    subst e2
    refine gs_astore_n X dL_law_15 rfl (by decide) rfl ?_
    refine gs_iconst (v := nI 0) X dL_law_16 (by decide) ?_
    refine gs_istore_n X dL_law_17 rfl (by decide) rfl ?_
    refine gs_sub [3, 2, 1, 0] rfl ?_
    exact st_go hL ⟨Nat.le_of_ble_eq_true rfl, Nat.le_of_ble_eq_true rfl⟩ X hK hKm hX hbl
  have hl := lv_entry ([.ref b] : List Value) (n := 4) (Nat.le_of_ble_eq_true rfl)
  rw [lg_entry_eq]
  exact G s.heap [] _ (fun k q hq => by simp at hq) ⟨fun i j p q hi => by simp at hi, fun k q hq => by simp at hq⟩ va_S.rf hl
