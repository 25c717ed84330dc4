/-! PURE: the class's town -/
def enc (a : Nat) : Int32 := if a < 10000 then nI a else (-1 : Int32) - nI (a - 10000)
def clen : List RS → Nat
  | [] => 0
  | (s, _, _) :: ss => (if s < 3 then 3 else 1) + clen ss
def stC (f : Nat → Int32) : Nat → List RS → Prop
  | _, [] => True
  | p, (s, a, b) :: ss => if s < 3 then f p = nI (s + 3) ∧ f (p + 1) = enc a ∧ f (p + 2) = enc b ∧ stC f (p + 3) ss else f p = nI (s - 3) ∧ stC f (p + 1) ss
def ruC (kinds doings ends code : Nat → Int32) : Nat → Nat → List RU → Prop
  | _, _, [] => True
  | r, p, (kd, d, ss) :: rs => kinds r = nI kd ∧ doings r = nI d ∧ ends r = nI (p + clen ss) ∧ stC code p ss ∧ ruC kinds doings ends code (r + 1) (p + clen ss) rs
def vclen (pr : List RU) : Nat := (pr.map fun q => clen q.2.2).sum
def twC (τ : SC) (b : Nat) (v : VT) (pr : List RU) : Prop := τ.1 (b + 13) 0 = nI (v 13 0) ∧ τ.1 (b + 2) 0 = nI (v 2 0) ∧ τ.1 (b + 3) 0 = nI (v 3 0) ∧ τ.1 (b + 5) 0 = nI (v 5 0) ∧ τ.1 (b + 6) 0 = nI (v 6 0) ∧ τ.1 (b + 7) 0 = nI (v 7 0) ∧ τ.1 (b + 8) 0 = nI (v 8 0) ∧ (∀ o, o < v 13 0 → τ.1 (b + 14) o = nI (v 14 o) ∧ τ.1 (b + 15) o = nI (v 15 o) ∧ τ.1 (b + 16) o = nI (v 16 o) ∧ τ.1 (b + 17) o = nI (v 17 o)) ∧ (∀ j, j < 6 → τ.1 (b + 11) j = nI (v 11 j) ∧ τ.1 (b + 12) j = nI (v 12 j)) ∧ (∀ j, j < 16 → τ.1 (b + 10) j = nI (v 10 j)) ∧ τ.1 (b + 18) 0 = nI (v 18 0) ∧ (∀ r, r < v 18 0 → ∀ i, i < 4 → τ.1 (b + 19) (4 * r + i) = nI (v 19 (4 * r + i))) ∧ τ.1 (b + 20) 0 = nI pr.length ∧ ruC (τ.1 (b + 21)) (τ.1 (b + 22)) (τ.1 (b + 23)) (τ.1 (b + 24)) 0 0 pr
/-- what an hour can change in the class: hour, mood, hands, waits, done, the facts -/
def eqC (τ υ : SC) : Prop := (∀ k, k ≠ 102 → k ≠ 105 → k ≠ 106 → k ≠ 107 → k ≠ 108 → k ≠ 126 → υ.1 k = τ.1 k) ∧ υ.2 = τ.2
theorem eqC.rf {τ : SC} : eqC τ τ := ⟨fun _ _ _ _ _ _ _ => rfl, rfl⟩
theorem eqC.tr {a b c : SC} (h1 : eqC a b) (h2 : eqC b c) : eqC a c := ⟨fun k a1 a2 a3 a4 a5 a6 => (h2.1 k a1 a2 a3 a4 a5 a6).trans (h1.1 k a1 a2 a3 a4 a5 a6), h2.2.trans h1.2⟩
theorem sc_ne {τ : SC} {k j : Nat} {f : Nat → Int32} (h : j ≠ k) : (sc τ k f).1 j = τ.1 j := if_neg h
theorem eqC_sc {τ : SC} {k : Nat} {f : Nat → Int32} (h : k = 102 ∨ k = 105 ∨ k = 106 ∨ k = 107 ∨ k = 108 ∨ k = 126) : eqC τ (sc τ k f) := ⟨fun j a1 a2 a3 a4 a5 a6 => sc_ne (by omega), rfl⟩
section TC
variable {τ : SC} {v : VT} {pr : List RU} {o : Nat}
theorem tc_hour (h : twC τ 100 v pr) (x : Nat) : twC (sc τ 102 (fun _ => nI x)) 100 (vs v 2 x) pr := ⟨h.1, rfl, h.2.2⟩
theorem tc_mood (h : twC τ 100 v pr) (x : Nat) : twC (sc τ 105 (fun _ => nI x)) 100 (vs v 5 x) pr := ⟨h.1, h.2.1, h.2.2.1, rfl, h.2.2.2.2⟩
theorem tc_hands (h : twC τ 100 v pr) (x : Nat) : twC (sc τ 106 (fun _ => nI x)) 100 (vs v 6 x) pr := ⟨h.1, h.2.1, h.2.2.1, h.2.2.2.1, rfl, h.2.2.2.2.2⟩
theorem tc_waits (h : twC τ 100 v pr) (x : Nat) : twC (sc τ 107 (fun _ => nI x)) 100 (vs v 7 x) pr := ⟨h.1, h.2.1, h.2.2.1, h.2.2.2.1, h.2.2.2.2.1, rfl, h.2.2.2.2.2.2⟩
theorem tc_done (h : twC τ 100 v pr) (x : Nat) : twC (sc τ 108 (fun _ => nI x)) 100 (vs v 8 x) pr := ⟨h.1, h.2.1, h.2.2.1, h.2.2.2.1, h.2.2.2.2.1, h.2.2.2.2.2.1, rfl, h.2.2.2.2.2.2.2⟩
theorem tc_facts (h : twC τ 100 v pr) (f : Nat → Int32) : twC (sc τ 126 f) 100 v pr := h
theorem ec_dueS (hT : twC τ 100 v pr) (ho : o < v 13 0) (hv : vOK v) : fc_to_dueWithShift τ (nI o) = some (nI (vdS v o)) := by
  have h0 := hv.1
  have h1 := (hv.2.2.2.2.2.2.2.2.1 o ho).2.2.2
  have c := hT.2.2.2.2.2.2.2.1 o ho
  have e17 : τ.1 117 o = nI (v 17 o) := c.2.2.2
  have e15 : τ.1 115 o = nI (v 15 o) := c.2.1
  have e11 : τ.1 111 (v 17 o) = nI (v 11 (v 17 o)) := (hT.2.2.2.2.2.2.2.2.1 (v 17 o) (by omega)).1
  unfold fc_to_dueWithShift
  simp (disch := omega) only [pb_in, pb_oc, pb_cl, e17, e15, e11, pb_add]
  rfl
theorem pb_habs : ∀ a, a < 100 → ∀ b, b < 100 → habs (nI a - nI b) = nI (vab a b) := by decide +kernel
theorem ec_late (hT : twC τ 100 v pr) (ho : o < v 13 0) (hv : vOK v) : fc_to_late τ (nI o) = some (nI (vLate v o)) := by
  have h := vdS_le ho hv
  have h2 := hv.2.2.2.2.2.1
  have e : τ.1 106 0 = nI (v 6 0) := hT.2.2.2.2.1
  unfold fc_to_late
  rw [ec_dueS hT ho hv, pb_bs, e, pb_habs _ (by omega) _ (by omega)]
  rfl
theorem ec_isInTime (hT : twC τ 100 v pr) (ho : o < v 13 0) (hv : vOK v) : fc_to_isInTime τ (nI o) = some (if vTime v o = true then 1 else 0) := by
  have h0 := hv.1
  have h1 := (hv.2.2.2.2.2.2.2.2.1 o ho).2.2.2
  have h2 := vLate_le ho hv
  have h3 := (hv.2.2.2.2.2.2.2.2.2.1 (v 17 o) (by omega)).2
  have e17 : τ.1 117 o = nI (v 17 o) := (hT.2.2.2.2.2.2.2.1 o ho).2.2.2
  have e12 : τ.1 112 (v 17 o) = nI (v 12 (v 17 o)) := (hT.2.2.2.2.2.2.2.2.1 (v 17 o) (by omega)).2
  unfold fc_to_isInTime
  rw [ec_late hT ho hv, pb_bs]
  simp (disch := omega) only [pb_in, pb_oc, pb_cl, e17, e12, pb_lt]
  unfold vTime
  by_cases h : vLate v o ≤ v 12 (v 17 o)
  · rw [if_neg (by omega), if_pos (by simpa using h)]
  · rw [if_pos (by omega), if_neg (by simpa using h)]
theorem ec_Ncheers : ∀ k, k < 6 → 1 ≤ k → ∀ g, g < 10 → ∀ h, h < 17 → fN_cheers k (nI g) (nI h) = some (vCh k g h) := by decide +kernel
theorem ec_Npays : ∀ k, k < 6 → 1 ≤ k → ∀ o, o < 6 → fN_pays k (nI o) = some (nI (vPays k o)) := by decide +kernel
theorem ec_bit : ∀ w, w < 64 → ∀ k, k < 6 → fc_hh_bit (nI w) (nI k) = some (nI (vbit w k)) := by decide +kernel
theorem ec_clr : ∀ w, w < 64 → ∀ k, k < 6 → fc_hh_withBit (nI w) (nI k) (0 : Int32) = some (nI (vclr w k)) := by decide +kernel
theorem ec_set : ∀ w, w < 64 → ∀ k, k < 6 → fc_hh_withBit (nI w) (nI k) (1 : Int32) = some (nI (vset w k)) := by decide +kernel
theorem ec_held : ∀ m, m < 10 → ∀ c, c < 12 → fc_hh_held (nI m + (nI c - nI 3)) (9 : Int32) = some (nI (vW m c)) := by decide +kernel
theorem ec_handsAfter : ∀ h, h < 100 → ∀ m, m < 10 → fc_to_handsAfter (nI h) (nI m) = some (nI (min 99 (h + 6 - m / 2))) := by decide +kernel
theorem ec_nine : ∀ l, l < 100 → hmax (0 : Int32) ((9 : Int32) - nI l) = nI (9 - l) := by decide +kernel
theorem ec_under : ∀ a, a < 6 → ∀ b, b < 6 → fc_ru_isOrUnder (nI a) (nI b) = some (if vunder a b = true then 1 else 0) := by decide +kernel
def hmb (nw m : Int32) : Option Int32 := if (nw &&& (3 : Int32)) = 0 then (Option.bind (fc_hh_held (m + (nw >>> ((2 : Int32) &&& 31))) (9 : Int32)) fun q2 => (some q2)) else (if (nw &&& (3 : Int32)) = 1 then (Option.bind (fc_hh_held (m - (nw >>> ((2 : Int32) &&& 31))) (9 : Int32)) fun q3 => (some q3)) else (if (nw &&& (3 : Int32)) = 2 then (if (5 : Int32) ≤ m then (some (hmax (5 : Int32) (m - (nw >>> ((2 : Int32) &&& 31))))) else (some (hmin (5 : Int32) (m + (nw >>> ((2 : Int32) &&& 31)))))) else (some m)))
theorem hmb_ok : ∀ m, m < 10 → ∀ n, n < 16 → hmb (nI n) (nI m) = some (nI (vNews n m)) := by decide +kernel
theorem ec_news (hT : twC τ 100 v pr) (hv : vOK v) {h m : Nat} (hh : h < 16) (hm : m ≤ 9) : fc_to_moodByNews τ (nI h) (nI m) = some (nI (vNews (v 10 h) m)) := by
  have h1 := hv.2.2.2.2.2.2.2.2.2.2.1 h hh
  have e : τ.1 110 h = nI (v 10 h) := hT.2.2.2.2.2.2.2.2.2.1 h hh
  rw [← hmb_ok m (by omega) (v 10 h) (by omega)]
  unfold fc_to_moodByNews
  rw [if_neg (nI_pos (by omega)), if_pos (show nI h < (16 : Int32) by rw [show (16 : Int32) = nI 16 from rfl, pb_lt (by omega) (by decide)]; exact hh), pb_in (by omega) hh, pb_oc, pb_cl (by omega), e, pb_hl, pb_oc]
  rfl
end TC
