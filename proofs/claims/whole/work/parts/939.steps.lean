/-! PURE: steps of keep, again -/
theorem cpy_at {f g : Nat → Int32} {n j : Nat} (h : j < n) : va_cpy f g 0 0 n j = f j := by
  unfold va_cpy
  rw [if_pos (by omega)]
  congr 1
  omega
theorem cpS {τ : SC} {k : Nat} {f : Nat → Int32} {F : SC → Option SC} {P : SC → Prop} (h : ∀ υ : SC, υ.1 k = f → (∀ j, j ≠ k → υ.1 j = τ.1 j) → υ.2 = τ.2 → ∃ ω, F υ = some ω ∧ P ω) : ∃ ω, hl (sc τ k f) F = some ω ∧ P ω := h _ (sc_at τ k f) (fun j hj => sc_ne hj) rfl
theorem cpB {x : Option SC} {υ : SC} {F : SC → Option SC} {P : SC → Prop} (e : x = some υ) (h : ∃ ω, F υ = some ω ∧ P ω) : ∃ ω, Option.bind x F = some ω ∧ P ω := by rw [e]; exact h
theorem stC_cong3 {f g : Nat → Int32} (h : ∀ j, j < 200 → g j = f j) : ∀ (ss : List RS) (p : Nat), p + clen ss ≤ 200 → stC f p ss → stC g p ss := by
  intro ss
  induction ss with
  | nil => intro p _ _; trivial
  | cons q ss ih =>
    intro p hp hs
    obtain ⟨a, b, c⟩ := q
    unfold stC at hs ⊢
    unfold clen at hp
    split at hs
    · rename_i e
      rw [if_pos e] at hp ⊢
      obtain ⟨h1, h2, h3, h4⟩ := hs
      exact ⟨by rw [h _ (by omega)]; exact h1, by rw [h _ (by omega)]; exact h2, by rw [h _ (by omega)]; exact h3, ih _ (by omega) h4⟩
    · rename_i e
      rw [if_neg e] at hp ⊢
      obtain ⟨h1, h4⟩ := hs
      exact ⟨by rw [h _ (by omega)]; exact h1, ih _ (by omega) h4⟩
theorem vclen_cons (a b : Nat) (ss : List RS) (rs : List RU) : vclen ((a, b, ss) :: rs) = clen ss + vclen rs := rfl
theorem ruC_cong3 {k1 k2 k3 k4 g1 g2 g3 g4 : Nat → Int32} (e1 : ∀ j, j < 8 → g1 j = k1 j) (e2 : ∀ j, j < 8 → g2 j = k2 j) (e3 : ∀ j, j < 8 → g3 j = k3 j) (e4 : ∀ j, j < 200 → g4 j = k4 j) : ∀ (rs : List RU) (r p : Nat), r + rs.length ≤ 8 → p + vclen rs ≤ 200 → ruC k1 k2 k3 k4 r p rs → ruC g1 g2 g3 g4 r p rs := by
  intro rs
  induction rs with
  | nil => intro r p _ _ _; trivial
  | cons q rs ih =>
    intro r p hr hp hs
    obtain ⟨a, b, ss⟩ := q
    obtain ⟨h1, h2, h3, h5, h6⟩ := hs
    rw [List.length_cons] at hr
    rw [vclen_cons] at hp
    exact ⟨by rw [e1 _ (by omega)]; exact h1, by rw [e2 _ (by omega)]; exact h2, by rw [e3 _ (by omega)]; exact h3, stC_cong3 e4 _ _ (by omega) h5, ih _ _ (by omega) (by omega) h6⟩
section S7
variable {τ : SC} {σ : SM} {f : Nat → Int32} {v : VT} {pr : List RU} {o : Nat}
theorem ec_moment_T1 (hT : twC τ 200 v pr) (hv : vOK v) : fc_to_moment_T1 τ = some (nI (vMom v)) := ec_moment (τ := ⟨fun k => τ.1 (k + 100), τ.2⟩) (v := v) (pr := pr) hT hv
theorem mom_nums {u : VT} (hu : vOK u) : hushr (nI (vMom u)) 23 = nI (u 2 0) ∧ hushr (nI (vMom u)) 19 &&& (15 : Int32) = nI (u 5 0) ∧ hushr (nI (vMom u)) 12 &&& (127 : Int32) = nI (u 6 0) ∧ hushr (nI (vMom u)) 6 &&& (63 : Int32) = nI (u 7 0) ∧ nI (vMom u) &&& (63 : Int32) = nI (u 8 0) := by
  have h0 := hu.1
  have h2 := hu.2.1
  have h3 := hu.2.2.2.1
  have h5 := hu.2.2.2.2.1
  have h6 := hu.2.2.2.2.2.1
  obtain ⟨hw, hdn⟩ := vW64 hu
  have hM : vMom u < 4294967296 := by unfold vMom; omega
  refine ⟨?_, ?_, ?_, ?_, ?_⟩
  · unfold hushr
    rw [pk_ushrN (by omega) 23 23 (by decide)]
    congr 1
    unfold vMom
    omega
  · unfold hushr
    rw [pk_ushrN (by omega) 19 19 (by decide), show (15 : Int32) = nI (2 ^ 4 - 1) from rfl, fa_mask]
    congr 1
    unfold vMom
    omega
  · unfold hushr
    rw [pk_ushrN (by omega) 12 12 (by decide), show (127 : Int32) = nI (2 ^ 7 - 1) from rfl, fa_mask]
    congr 1
    unfold vMom
    omega
  · unfold hushr
    rw [pk_ushrN (by omega) 6 6 (by decide), show (63 : Int32) = nI (2 ^ 6 - 1) from rfl, fa_mask]
    congr 1
    unfold vMom
    omega
  · rw [show (63 : Int32) = nI (2 ^ 6 - 1) from rfl, fa_mask]
    congr 1
    unfold vMom
    omega
theorem ec_copy10 (hT : twC τ 100 v pr) (hv : vOK v) (hp : pOK pr) (hc : vclen pr ≤ 200) : ∃ υ, fc_to_copyFrom_T1_T0 τ = some υ ∧ twC υ 200 v pr ∧ υ.1 204 0 = τ.1 104 0 ∧ υ.1 209 0 = τ.1 109 0 ∧ (∀ k, (k < 200 ∨ 225 ≤ k) → υ.1 k = τ.1 k) ∧ υ.2 = τ.2 := by
  obtain ⟨m2, m5, m6, m7, m8⟩ := mom_nums hv
  have R : ∃ υ, fc_ru_copyFrom_R1_R0 τ = some υ ∧ (υ.1 220 0 = τ.1 120 0 ∧ υ.1 221 = va_cpy (τ.1 121) (τ.1 221) 0 0 8 ∧ υ.1 222 = va_cpy (τ.1 122) (τ.1 222) 0 0 8 ∧ υ.1 223 = va_cpy (τ.1 123) (τ.1 223) 0 0 8 ∧ υ.1 224 = va_cpy (τ.1 124) (τ.1 224) 0 0 200 ∧ (∀ k, (k < 220 ∨ 225 ≤ k) → υ.1 k = τ.1 k) ∧ υ.2 = τ.2) := by
    unfold fc_ru_copyFrom_R1_R0
    refine cpS fun υ1 e1 r1 z1 => ?_
    refine cpS fun υ2 e2 r2 z2 => ?_
    refine cpS fun υ3 e3 r3 z3 => ?_
    refine cpS fun υ4 e4 r4 z4 => ?_
    refine cpS fun υ5 e5 r5 z5 => ?_
    refine ⟨_, rfl, ?_, ?_, ?_, ?_, ?_, fun k hk => ?_, ?_⟩
    · simp (disch := omega) only [r1, r2, r3, r4, r5, e1, e2, e3, e4, e5]
    · simp (disch := omega) only [r1, r2, r3, r4, r5, e1, e2, e3, e4, e5]
    · simp (disch := omega) only [r1, r2, r3, r4, r5, e1, e2, e3, e4, e5]
    · simp (disch := omega) only [r1, r2, r3, r4, r5, e1, e2, e3, e4, e5]
    · simp (disch := omega) only [r1, r2, r3, r4, r5, e1, e2, e3, e4, e5]
    · simp (disch := omega) only [r1, r2, r3, r4, r5]
    · rw [z5, z4, z3, z2, z1]
  obtain ⟨ω, ea, c0, c1, c2, c3, c4, cr, cz⟩ := R
  have hTω : twC ω 100 v pr := twC_cg (fun k h1 h2 => cr k (by omega)) hT
  unfold fc_to_copyFrom_T1_T0
  refine cpB ea ?_
  rw [ec_moment hTω hv, pb_bs]
  have R2 : ∃ υ, fc_to_recall_T1 (nI (vMom v)) ω = some υ ∧ (υ.1 202 0 = nI (v 2 0) ∧ υ.1 205 0 = nI (v 5 0) ∧ υ.1 206 0 = nI (v 6 0) ∧ υ.1 207 0 = nI (v 7 0) ∧ υ.1 208 0 = nI (v 8 0) ∧ (∀ k, (k < 202 ∨ 208 < k ∨ k = 203 ∨ k = 204) → υ.1 k = ω.1 k) ∧ υ.2 = ω.2) := by
    unfold fc_to_recall_T1
    rw [m2, m5, m6, m7, m8]
    refine cpS fun υ11 e11 r11 z11 => ?_
    refine cpS fun υ12 e12 r12 z12 => ?_
    refine cpS fun υ13 e13 r13 z13 => ?_
    refine cpS fun υ14 e14 r14 z14 => ?_
    refine cpS fun υ15 e15 r15 z15 => ?_
    refine ⟨_, rfl, ?_, ?_, ?_, ?_, ?_, fun k hk => ?_, ?_⟩
    · simp (disch := omega) only [r11, r12, r13, r14, r15, e11, e12, e13, e14, e15]
    · simp (disch := omega) only [r11, r12, r13, r14, r15, e11, e12, e13, e14, e15]
    · simp (disch := omega) only [r11, r12, r13, r14, r15, e11, e12, e13, e14, e15]
    · simp (disch := omega) only [r11, r12, r13, r14, r15, e11, e12, e13, e14, e15]
    · simp (disch := omega) only [r11, r12, r13, r14, r15, e11, e12, e13, e14, e15]
    · simp (disch := omega) only [r11, r12, r13, r14, r15]
    · rw [z15, z14, z13, z12, z11]
  obtain ⟨π, eb, d2, d5, d6, d7, d8, dr, dz⟩ := R2
  refine cpB eb ?_
  refine cpS fun υ21 e21 r21 z21 => ?_
  refine cpS fun υ22 e22 r22 z22 => ?_
  refine cpS fun υ23 e23 r23 z23 => ?_
  refine cpS fun υ24 e24 r24 z24 => ?_
  refine cpS fun υ25 e25 r25 z25 => ?_
  refine cpS fun υ26 e26 r26 z26 => ?_
  refine cpS fun υ27 e27 r27 z27 => ?_
  refine cpS fun υ28 e28 r28 z28 => ?_
  refine cpS fun υ29 e29 r29 z29 => ?_
  refine cpS fun υ30 e30 r30 z30 => ?_
  refine cpS fun υ31 e31 r31 z31 => ?_
  refine cpS fun υ32 e32 r32 z32 => ?_
  refine cpS fun υ33 e33 r33 z33 => ?_
  have F : ∀ k, (k < 200 ∨ 225 ≤ k) → υ33.1 k = τ.1 k := fun k hk => by simp (disch := omega) only [r21, r22, r23, r24, r25, r26, r27, r28, r29, r30, r31, r32, r33, dr, cr]
  obtain ⟨h1, h2, h3, h4, h5, h6, h7, h8, h9, h10, h11, h12, h13, h14⟩ := hT
  have q6 := hv.1
  have q18 := hv.2.2.2.2.2.2.2.2.2.2.2.1
  refine ⟨υ33, rfl, ⟨?_, ?_, ?_, ?_, ?_, ?_, ?_, fun o ho => ?_, fun j hj => ?_, fun j hj => ?_, ?_, fun r hr i hi => ?_, ?_, ?_⟩, ?_, ?_, F, ?_⟩
  · show υ33.1 213 0 = _
    simp (disch := omega) only [r21, r22, r23, r24, r25, r26, r27, r28, r29, r30, r31, r32, r33, e21, e22, e23, e24, e25, e26, e27, e28, e29, e30, e31, e32, e33, dr, cr, d2, d5, d6, d7, d8, c0, c1, c2, c3, c4]
    exact h1
  · show υ33.1 202 0 = _
    simp (disch := omega) only [r21, r22, r23, r24, r25, r26, r27, r28, r29, r30, r31, r32, r33, e21, e22, e23, e24, e25, e26, e27, e28, e29, e30, e31, e32, e33, dr, cr, d2, d5, d6, d7, d8, c0, c1, c2, c3, c4]
  · show υ33.1 203 0 = _
    simp (disch := omega) only [r21, r22, r23, r24, r25, r26, r27, r28, r29, r30, r31, r32, r33, e21, e22, e23, e24, e25, e26, e27, e28, e29, e30, e31, e32, e33, dr, cr, d2, d5, d6, d7, d8, c0, c1, c2, c3, c4]
    exact h3
  · show υ33.1 205 0 = _
    simp (disch := omega) only [r21, r22, r23, r24, r25, r26, r27, r28, r29, r30, r31, r32, r33, e21, e22, e23, e24, e25, e26, e27, e28, e29, e30, e31, e32, e33, dr, cr, d2, d5, d6, d7, d8, c0, c1, c2, c3, c4]
  · show υ33.1 206 0 = _
    simp (disch := omega) only [r21, r22, r23, r24, r25, r26, r27, r28, r29, r30, r31, r32, r33, e21, e22, e23, e24, e25, e26, e27, e28, e29, e30, e31, e32, e33, dr, cr, d2, d5, d6, d7, d8, c0, c1, c2, c3, c4]
  · show υ33.1 207 0 = _
    simp (disch := omega) only [r21, r22, r23, r24, r25, r26, r27, r28, r29, r30, r31, r32, r33, e21, e22, e23, e24, e25, e26, e27, e28, e29, e30, e31, e32, e33, dr, cr, d2, d5, d6, d7, d8, c0, c1, c2, c3, c4]
  · show υ33.1 208 0 = _
    simp (disch := omega) only [r21, r22, r23, r24, r25, r26, r27, r28, r29, r30, r31, r32, r33, e21, e22, e23, e24, e25, e26, e27, e28, e29, e30, e31, e32, e33, dr, cr, d2, d5, d6, d7, d8, c0, c1, c2, c3, c4]
  · show υ33.1 214 o = _ ∧ υ33.1 215 o = _ ∧ υ33.1 216 o = _ ∧ υ33.1 217 o = _
    simp (disch := omega) only [r21, r22, r23, r24, r25, r26, r27, r28, r29, r30, r31, r32, r33, e21, e22, e23, e24, e25, e26, e27, e28, e29, e30, e31, e32, e33, dr, cr, d2, d5, d6, d7, d8, c0, c1, c2, c3, c4]
    rw [cpy_at (by omega), cpy_at (by omega), cpy_at (by omega), cpy_at (by omega)]
    exact h8 o ho
  · show υ33.1 211 j = _ ∧ υ33.1 212 j = _
    simp (disch := omega) only [r21, r22, r23, r24, r25, r26, r27, r28, r29, r30, r31, r32, r33, e21, e22, e23, e24, e25, e26, e27, e28, e29, e30, e31, e32, e33, dr, cr, d2, d5, d6, d7, d8, c0, c1, c2, c3, c4]
    rw [cpy_at (by omega), cpy_at (by omega)]
    exact h9 j hj
  · show υ33.1 210 j = _
    simp (disch := omega) only [r21, r22, r23, r24, r25, r26, r27, r28, r29, r30, r31, r32, r33, e21, e22, e23, e24, e25, e26, e27, e28, e29, e30, e31, e32, e33, dr, cr, d2, d5, d6, d7, d8, c0, c1, c2, c3, c4]
    rw [cpy_at (by omega)]
    exact h10 j hj
  · show υ33.1 218 0 = _
    simp (disch := omega) only [r21, r22, r23, r24, r25, r26, r27, r28, r29, r30, r31, r32, r33, e21, e22, e23, e24, e25, e26, e27, e28, e29, e30, e31, e32, e33, dr, cr, d2, d5, d6, d7, d8, c0, c1, c2, c3, c4]
    exact h11
  · show υ33.1 219 (4 * r + i) = _
    simp (disch := omega) only [r21, r22, r23, r24, r25, r26, r27, r28, r29, r30, r31, r32, r33, e21, e22, e23, e24, e25, e26, e27, e28, e29, e30, e31, e32, e33, dr, cr, d2, d5, d6, d7, d8, c0, c1, c2, c3, c4]
    rw [cpy_at (by omega)]
    exact h12 r hr i hi
  · show υ33.1 220 0 = _
    simp (disch := omega) only [r21, r22, r23, r24, r25, r26, r27, r28, r29, r30, r31, r32, r33, e21, e22, e23, e24, e25, e26, e27, e28, e29, e30, e31, e32, e33, dr, cr, d2, d5, d6, d7, d8, c0, c1, c2, c3, c4]
    exact h13
  · show ruC (υ33.1 221) (υ33.1 222) (υ33.1 223) (υ33.1 224) 0 0 pr
    simp (disch := omega) only [r21, r22, r23, r24, r25, r26, r27, r28, r29, r30, r31, r32, r33, e21, e22, e23, e24, e25, e26, e27, e28, e29, e30, e31, e32, e33, dr, cr, d2, d5, d6, d7, d8, c0, c1, c2, c3, c4]
    exact ruC_cong3 (fun j hj => cpy_at hj) (fun j hj => cpy_at hj) (fun j hj => cpy_at hj) (fun j hj => cpy_at hj) _ _ _ (by have := hp.1; omega) (by omega) h14
  · simp (disch := omega) only [r21, r22, r23, r24, r25, r26, r27, r28, r29, r30, r31, r32, r33, e21, e22, e23, e24, e25, e26, e27, e28, e29, e30, e31, e32, e33, dr, cr, d2, d5, d6, d7, d8, c0, c1, c2, c3, c4]
  · simp (disch := omega) only [r21, r22, r23, r24, r25, r26, r27, r28, r29, r30, r31, r32, r33, e21, e22, e23, e24, e25, e26, e27, e28, e29, e30, e31, e32, e33, dr, cr, d2, d5, d6, d7, d8, c0, c1, c2, c3, c4]
  · rw [z33, z32, z31, z30, z29, z28, z27, z26, z25, z24, z23, z22, z21, dz, cz]
theorem ec_copy01 (hT : twC τ 200 v pr) (hv : vOK v) (hp : pOK pr) (hc : vclen pr ≤ 200) : ∃ υ, fc_to_copyFrom_T1 τ = some υ ∧ twC υ 100 v pr ∧ υ.1 104 0 = τ.1 204 0 ∧ υ.1 109 0 = τ.1 209 0 ∧ (∀ k, (k < 100 ∨ 125 ≤ k) → υ.1 k = τ.1 k) ∧ υ.2 = τ.2 := by
  obtain ⟨m2, m5, m6, m7, m8⟩ := mom_nums hv
  have R : ∃ υ, fc_ru_copyFrom_R0_R1 τ = some υ ∧ (υ.1 120 0 = τ.1 220 0 ∧ υ.1 121 = va_cpy (τ.1 221) (τ.1 121) 0 0 8 ∧ υ.1 122 = va_cpy (τ.1 222) (τ.1 122) 0 0 8 ∧ υ.1 123 = va_cpy (τ.1 223) (τ.1 123) 0 0 8 ∧ υ.1 124 = va_cpy (τ.1 224) (τ.1 124) 0 0 200 ∧ (∀ k, (k < 120 ∨ 125 ≤ k) → υ.1 k = τ.1 k) ∧ υ.2 = τ.2) := by
    unfold fc_ru_copyFrom_R0_R1
    refine cpS fun υ1 e1 r1 z1 => ?_
    refine cpS fun υ2 e2 r2 z2 => ?_
    refine cpS fun υ3 e3 r3 z3 => ?_
    refine cpS fun υ4 e4 r4 z4 => ?_
    refine cpS fun υ5 e5 r5 z5 => ?_
    refine ⟨_, rfl, ?_, ?_, ?_, ?_, ?_, fun k hk => ?_, ?_⟩
    · simp (disch := omega) only [r1, r2, r3, r4, r5, e1, e2, e3, e4, e5]
    · simp (disch := omega) only [r1, r2, r3, r4, r5, e1, e2, e3, e4, e5]
    · simp (disch := omega) only [r1, r2, r3, r4, r5, e1, e2, e3, e4, e5]
    · simp (disch := omega) only [r1, r2, r3, r4, r5, e1, e2, e3, e4, e5]
    · simp (disch := omega) only [r1, r2, r3, r4, r5, e1, e2, e3, e4, e5]
    · simp (disch := omega) only [r1, r2, r3, r4, r5]
    · rw [z5, z4, z3, z2, z1]
  obtain ⟨ω, ea, c0, c1, c2, c3, c4, cr, cz⟩ := R
  have hTω : twC ω 200 v pr := twC_cg (fun k h1 h2 => cr k (by omega)) hT
  unfold fc_to_copyFrom_T1
  refine cpB ea ?_
  rw [ec_moment_T1 hTω hv, pb_bs]
  have R2 : ∃ υ, fc_to_recall (nI (vMom v)) ω = some υ ∧ (υ.1 102 0 = nI (v 2 0) ∧ υ.1 105 0 = nI (v 5 0) ∧ υ.1 106 0 = nI (v 6 0) ∧ υ.1 107 0 = nI (v 7 0) ∧ υ.1 108 0 = nI (v 8 0) ∧ (∀ k, (k < 102 ∨ 108 < k ∨ k = 103 ∨ k = 104) → υ.1 k = ω.1 k) ∧ υ.2 = ω.2) := by
    unfold fc_to_recall
    rw [m2, m5, m6, m7, m8]
    refine cpS fun υ11 e11 r11 z11 => ?_
    refine cpS fun υ12 e12 r12 z12 => ?_
    refine cpS fun υ13 e13 r13 z13 => ?_
    refine cpS fun υ14 e14 r14 z14 => ?_
    refine cpS fun υ15 e15 r15 z15 => ?_
    refine ⟨_, rfl, ?_, ?_, ?_, ?_, ?_, fun k hk => ?_, ?_⟩
    · simp (disch := omega) only [r11, r12, r13, r14, r15, e11, e12, e13, e14, e15]
    · simp (disch := omega) only [r11, r12, r13, r14, r15, e11, e12, e13, e14, e15]
    · simp (disch := omega) only [r11, r12, r13, r14, r15, e11, e12, e13, e14, e15]
    · simp (disch := omega) only [r11, r12, r13, r14, r15, e11, e12, e13, e14, e15]
    · simp (disch := omega) only [r11, r12, r13, r14, r15, e11, e12, e13, e14, e15]
    · simp (disch := omega) only [r11, r12, r13, r14, r15]
    · rw [z15, z14, z13, z12, z11]
  obtain ⟨π, eb, d2, d5, d6, d7, d8, dr, dz⟩ := R2
  refine cpB eb ?_
  refine cpS fun υ21 e21 r21 z21 => ?_
  refine cpS fun υ22 e22 r22 z22 => ?_
  refine cpS fun υ23 e23 r23 z23 => ?_
  refine cpS fun υ24 e24 r24 z24 => ?_
  refine cpS fun υ25 e25 r25 z25 => ?_
  refine cpS fun υ26 e26 r26 z26 => ?_
  refine cpS fun υ27 e27 r27 z27 => ?_
  refine cpS fun υ28 e28 r28 z28 => ?_
  refine cpS fun υ29 e29 r29 z29 => ?_
  refine cpS fun υ30 e30 r30 z30 => ?_
  refine cpS fun υ31 e31 r31 z31 => ?_
  refine cpS fun υ32 e32 r32 z32 => ?_
  refine cpS fun υ33 e33 r33 z33 => ?_
  have F : ∀ k, (k < 100 ∨ 125 ≤ k) → υ33.1 k = τ.1 k := fun k hk => by simp (disch := omega) only [r21, r22, r23, r24, r25, r26, r27, r28, r29, r30, r31, r32, r33, dr, cr]
  obtain ⟨h1, h2, h3, h4, h5, h6, h7, h8, h9, h10, h11, h12, h13, h14⟩ := hT
  have q6 := hv.1
  have q18 := hv.2.2.2.2.2.2.2.2.2.2.2.1
  refine ⟨υ33, rfl, ⟨?_, ?_, ?_, ?_, ?_, ?_, ?_, fun o ho => ?_, fun j hj => ?_, fun j hj => ?_, ?_, fun r hr i hi => ?_, ?_, ?_⟩, ?_, ?_, F, ?_⟩
  · show υ33.1 113 0 = _
    simp (disch := omega) only [r21, r22, r23, r24, r25, r26, r27, r28, r29, r30, r31, r32, r33, e21, e22, e23, e24, e25, e26, e27, e28, e29, e30, e31, e32, e33, dr, cr, d2, d5, d6, d7, d8, c0, c1, c2, c3, c4]
    exact h1
  · show υ33.1 102 0 = _
    simp (disch := omega) only [r21, r22, r23, r24, r25, r26, r27, r28, r29, r30, r31, r32, r33, e21, e22, e23, e24, e25, e26, e27, e28, e29, e30, e31, e32, e33, dr, cr, d2, d5, d6, d7, d8, c0, c1, c2, c3, c4]
  · show υ33.1 103 0 = _
    simp (disch := omega) only [r21, r22, r23, r24, r25, r26, r27, r28, r29, r30, r31, r32, r33, e21, e22, e23, e24, e25, e26, e27, e28, e29, e30, e31, e32, e33, dr, cr, d2, d5, d6, d7, d8, c0, c1, c2, c3, c4]
    exact h3
  · show υ33.1 105 0 = _
    simp (disch := omega) only [r21, r22, r23, r24, r25, r26, r27, r28, r29, r30, r31, r32, r33, e21, e22, e23, e24, e25, e26, e27, e28, e29, e30, e31, e32, e33, dr, cr, d2, d5, d6, d7, d8, c0, c1, c2, c3, c4]
  · show υ33.1 106 0 = _
    simp (disch := omega) only [r21, r22, r23, r24, r25, r26, r27, r28, r29, r30, r31, r32, r33, e21, e22, e23, e24, e25, e26, e27, e28, e29, e30, e31, e32, e33, dr, cr, d2, d5, d6, d7, d8, c0, c1, c2, c3, c4]
  · show υ33.1 107 0 = _
    simp (disch := omega) only [r21, r22, r23, r24, r25, r26, r27, r28, r29, r30, r31, r32, r33, e21, e22, e23, e24, e25, e26, e27, e28, e29, e30, e31, e32, e33, dr, cr, d2, d5, d6, d7, d8, c0, c1, c2, c3, c4]
  · show υ33.1 108 0 = _
    simp (disch := omega) only [r21, r22, r23, r24, r25, r26, r27, r28, r29, r30, r31, r32, r33, e21, e22, e23, e24, e25, e26, e27, e28, e29, e30, e31, e32, e33, dr, cr, d2, d5, d6, d7, d8, c0, c1, c2, c3, c4]
  · show υ33.1 114 o = _ ∧ υ33.1 115 o = _ ∧ υ33.1 116 o = _ ∧ υ33.1 117 o = _
    simp (disch := omega) only [r21, r22, r23, r24, r25, r26, r27, r28, r29, r30, r31, r32, r33, e21, e22, e23, e24, e25, e26, e27, e28, e29, e30, e31, e32, e33, dr, cr, d2, d5, d6, d7, d8, c0, c1, c2, c3, c4]
    rw [cpy_at (by omega), cpy_at (by omega), cpy_at (by omega), cpy_at (by omega)]
    exact h8 o ho
  · show υ33.1 111 j = _ ∧ υ33.1 112 j = _
    simp (disch := omega) only [r21, r22, r23, r24, r25, r26, r27, r28, r29, r30, r31, r32, r33, e21, e22, e23, e24, e25, e26, e27, e28, e29, e30, e31, e32, e33, dr, cr, d2, d5, d6, d7, d8, c0, c1, c2, c3, c4]
    rw [cpy_at (by omega), cpy_at (by omega)]
    exact h9 j hj
  · show υ33.1 110 j = _
    simp (disch := omega) only [r21, r22, r23, r24, r25, r26, r27, r28, r29, r30, r31, r32, r33, e21, e22, e23, e24, e25, e26, e27, e28, e29, e30, e31, e32, e33, dr, cr, d2, d5, d6, d7, d8, c0, c1, c2, c3, c4]
    rw [cpy_at (by omega)]
    exact h10 j hj
  · show υ33.1 118 0 = _
    simp (disch := omega) only [r21, r22, r23, r24, r25, r26, r27, r28, r29, r30, r31, r32, r33, e21, e22, e23, e24, e25, e26, e27, e28, e29, e30, e31, e32, e33, dr, cr, d2, d5, d6, d7, d8, c0, c1, c2, c3, c4]
    exact h11
  · show υ33.1 119 (4 * r + i) = _
    simp (disch := omega) only [r21, r22, r23, r24, r25, r26, r27, r28, r29, r30, r31, r32, r33, e21, e22, e23, e24, e25, e26, e27, e28, e29, e30, e31, e32, e33, dr, cr, d2, d5, d6, d7, d8, c0, c1, c2, c3, c4]
    rw [cpy_at (by omega)]
    exact h12 r hr i hi
  · show υ33.1 120 0 = _
    simp (disch := omega) only [r21, r22, r23, r24, r25, r26, r27, r28, r29, r30, r31, r32, r33, e21, e22, e23, e24, e25, e26, e27, e28, e29, e30, e31, e32, e33, dr, cr, d2, d5, d6, d7, d8, c0, c1, c2, c3, c4]
    exact h13
  · show ruC (υ33.1 121) (υ33.1 122) (υ33.1 123) (υ33.1 124) 0 0 pr
    simp (disch := omega) only [r21, r22, r23, r24, r25, r26, r27, r28, r29, r30, r31, r32, r33, e21, e22, e23, e24, e25, e26, e27, e28, e29, e30, e31, e32, e33, dr, cr, d2, d5, d6, d7, d8, c0, c1, c2, c3, c4]
    exact ruC_cong3 (fun j hj => cpy_at hj) (fun j hj => cpy_at hj) (fun j hj => cpy_at hj) (fun j hj => cpy_at hj) _ _ _ (by have := hp.1; omega) (by omega) h14
  · simp (disch := omega) only [r21, r22, r23, r24, r25, r26, r27, r28, r29, r30, r31, r32, r33, e21, e22, e23, e24, e25, e26, e27, e28, e29, e30, e31, e32, e33, dr, cr, d2, d5, d6, d7, d8, c0, c1, c2, c3, c4]
  · simp (disch := omega) only [r21, r22, r23, r24, r25, r26, r27, r28, r29, r30, r31, r32, r33, e21, e22, e23, e24, e25, e26, e27, e28, e29, e30, e31, e32, e33, dr, cr, d2, d5, d6, d7, d8, c0, c1, c2, c3, c4]
  · rw [z33, z32, z31, z30, z29, z28, z27, z26, z25, z24, z23, z22, z21, dz, cz]
theorem twM_cg {g : Nat → Int32} (h : ∀ j, j < 580 → g j = f j) (hv : vOK v) (hp : pOK pr) (hT : twM f v pr) : twM g v pr := by
  have q6 := hv.1
  have q18 := hv.2.2.2.2.2.2.2.2.2.2.2.1
  obtain ⟨h0, h1, h2, h8, h9, ho, hs, hn, h6, hr, h5, hru⟩ := hT
  refine ⟨by rw [h _ (by omega)]; exact h0, by rw [h _ (by omega)]; exact h1, by rw [h _ (by omega)]; exact h2, by rw [h _ (by omega)]; exact h8, by rw [h _ (by omega)]; exact h9, fun o q => ?_, fun j hj => ?_, fun j hj => ?_, by rw [h _ (by omega)]; exact h6, fun r q i hi => ?_, by rw [h _ (by omega)]; exact h5, ruM_cong3 (fun j _ _ c => h j c) _ _ _ (by have := hp.1; omega) (by have := hp.2.1; omega) hru⟩
  · rw [h _ (by omega), h _ (by omega), h _ (by omega), h _ (by omega), h _ (by omega), h _ (by omega)]
    exact ho o q
  · rw [h _ (by omega), h _ (by omega)]
    exact hs j hj
  · rw [h _ (by omega)]
    exact hn j hj
  · rw [h _ (by omega)]
    exact hr r q i hi
theorem em_keep_l : ∀ (m k n : Nat) (g : Nat → Int32), k + m = 580 → m < n → (∀ j, j < k → g j = σ 0 j) → ∃ g2, fm_keep_l2 n (nI k) (sf σ 1 g) = some ((1 : Int32), sf (sf σ 1 g2) 2 (fun _ => 1)) ∧ ∀ j, j < 580 → g2 j = σ 0 j := by
  intro m
  induction m with
  | zero =>
    intro k n g hk hn h1
    obtain ⟨q, rfl⟩ : ∃ q, n = q + 1 := ⟨n - 1, by omega⟩
    unfold fm_keep_l2
    rw [if_pos (show (580 : Int32) ≤ nI k by rw [show (580 : Int32) = nI 580 from rfl, pb_le (by decide) (by omega)]; omega)]
    exact ⟨g, rfl, fun j hj => h1 j (by omega)⟩
  | succ m ih =>
    intro k n g hk hn h1
    obtain ⟨q, rfl⟩ : ∃ q, n = q + 1 := ⟨n - 1, by omega⟩
    unfold fm_keep_l2
    rw [if_neg (show ¬ (580 : Int32) ≤ nI k by rw [show (580 : Int32) = nI 580 from rfl, pb_le (by decide) (by omega)]; omega)]
    simp (disch := omega) only [pb_in, pb_oc, pb_cl, pb_hl, pb_sfsf, show (1 : Int32) = nI 1 from rfl, pb_add]
    rw [show sf σ 1 g 1 = g from rfl, show sf σ 1 g 0 k = σ 0 k from rfl]
    refine ih (k + 1) q _ (by omega) (by omega) (fun j hj => ?_)
    by_cases e : j = k
    · subst e
      exact up_eq
    · rw [up_ne e]
      exact h1 j (by omega)
theorem em_again_l : ∀ (m k n : Nat) (g : Nat → Int32), k + m = 580 → m < n → (∀ j, j < k → g j = σ 1 j) → ∃ g2, fm_again_l12 n (nI k) (sf σ 0 g) = some (g2 0, sf σ 0 g2) ∧ ∀ j, j < 580 → g2 j = σ 1 j := by
  intro m
  induction m with
  | zero =>
    intro k n g hk hn h1
    obtain ⟨q, rfl⟩ : ∃ q, n = q + 1 := ⟨n - 1, by omega⟩
    unfold fm_again_l12
    rw [if_pos (show (580 : Int32) ≤ nI k by rw [show (580 : Int32) = nI 580 from rfl, pb_le (by decide) (by omega)]; omega)]
    exact ⟨g, rfl, fun j hj => h1 j (by omega)⟩
  | succ m ih =>
    intro k n g hk hn h1
    obtain ⟨q, rfl⟩ : ∃ q, n = q + 1 := ⟨n - 1, by omega⟩
    unfold fm_again_l12
    rw [if_neg (show ¬ (580 : Int32) ≤ nI k by rw [show (580 : Int32) = nI 580 from rfl, pb_le (by decide) (by omega)]; omega)]
    simp (disch := omega) only [pb_in, pb_oc, pb_cl, pb_hl, pb_sfsf, show (1 : Int32) = nI 1 from rfl, pb_add]
    rw [show sf σ 0 g 0 = g from rfl, show sf σ 0 g 1 k = σ 1 k from rfl]
    refine ih (k + 1) q _ (by omega) (by omega) (fun j hj => ?_)
    by_cases e : j = k
    · subst e
      exact up_eq
    · rw [up_ne e]
      exact h1 j (by omega)
theorem st_keep (h : Inv τ σ) : stp (fc_hh_keep τ) (fm_keep σ) := by
  obtain ⟨⟨v, pr, t1, t2, t3, t4, t5, t6, t7⟩, ⟨k1, k2⟩, i3, i4, i5, i6, i7⟩ := id h
  obtain ⟨υ, u1, u2, u3, u4, u5, u6⟩ := ec_copy10 t2 t3 t4 t5
  obtain ⟨g, g1, g2⟩ := em_keep_l (σ := σ) 580 0 hFU (σ 1) (by omega) (by unfold hFU; omega) (fun j hj => by omega)
  rw [sf_id] at g1
  unfold fc_hh_keep fm_keep
  rw [u1, pb_bs, pb_hl, show (0 : Int32) = nI 0 from rfl, g1]
  have C : ∀ k, k ≠ 2 → (k < 200 ∨ 225 ≤ k) → (sc υ 2 (fun _ => (1 : Int32))).1 k = τ.1 k := fun k a b => (sc_ne a).trans (u5 k b)
  refine ⟨_, _, _, rfl, rfl, ⟨v, pr, ?_⟩, ⟨rfl, Or.inr ⟨rfl, v, pr, ?_⟩⟩, ?_, ?_, ?_, ?_, ?_⟩
  · exact frC_town (fun k a b => C k (by omega) (by omega)) ⟨t1, t2, t3, t4, t5, t6, t7⟩
  · refine ⟨twM_cg g2 t3 t4 t1, twC_cg (fun k a b => sc_ne (by omega)) u2, t3, t4, t5, ?_, ?_⟩
    · show υ.1 204 0 = g 3
      rw [u3, g2 3 (by decide)]
      exact t6
    · show υ.1 209 0 = g 4
      rw [u4, g2 4 (by decide)]
      exact t7
  · unfold ivTape
    rw [C 6 (by decide) (by decide), C 7 (by decide) (by decide)]
    exact i3
  · unfold ivRows
    rw [C 8 (by decide) (by decide), C 9 (by decide) (by decide)]
    exact i4
  · unfold ivSheet
    rw [C 10 (by decide) (by decide), C 11 (by decide) (by decide), show (sc υ 2 (fun _ => (1 : Int32))).2 = τ.2 from u6]
    exact i5
  · unfold ivShelf
    rw [C 13 (by decide) (by decide), C 14 (by decide) (by decide), C 15 (by decide) (by decide)]
    exact i6
  · unfold ivTrace
    rw [C 503 (by decide) (by decide), C 504 (by decide) (by decide)]
    exact i7
theorem st_again (h : Inv τ σ) : stp (fc_hh_again τ) (fm_again σ) := by
  obtain ⟨-, ⟨k1, k2⟩, -⟩ := id h
  unfold fc_hh_again fm_again
  rw [k1]
  rcases k2 with k2 | ⟨k2, v, pr, t1, t2, t3, t4, t5, t6, t7⟩
  · rw [k2]
    exact ⟨_, τ, σ, rfl, rfl, h⟩
  · rw [k2, if_pos (show ¬ (1 : Int32) = 0 by decide), if_pos (show ¬ (1 : Int32) = 0 by decide)]
    obtain ⟨υ, u1, u2, u3, u4, u5, u6⟩ := ec_copy01 t2 t3 t4 t5
    obtain ⟨g, g1, g2⟩ := em_again_l (σ := σ) 580 0 hFU (σ 0) (by omega) (by unfold hFU; omega) (fun j hj => by omega)
    rw [sf_id] at g1
    rw [u1, pb_bs, show (0 : Int32) = nI 0 from rfl, g1]
    have T := twM_cg g2 t3 t4 t1
    rw [show υ.1 113 0 = g 0 from u2.1.trans T.1.symm]
    refine ⟨_, _, _, rfl, rfl, Inv_fr h frM_0 ⟨fun k hk => u5 k (by rcases hk with z | z | z | z | z | z | z | z | z | z | z | z | z <;> omega), u6⟩ ⟨v, pr, T, u2, t3, t4, t5, ?_, ?_⟩⟩
    · show υ.1 104 0 = g 3
      rw [u3, g2 3 (by decide)]
      exact t6
    · show υ.1 109 0 = g 4
      rw [u4, g2 4 (by decide)]
      exact t7
end S7
