/-! PURE: step of liar -/
def st3 (a : Option Int32) (τ : SC) (b : Option (Int32 × SM)) : Prop := ∃ r ω, a = some r ∧ b = some (r, ω) ∧ Inv τ ω
theorem st3_of {a : Option Int32} {τ : SC} {b : Option (Int32 × SM)} (h : stp (a.bind fun r => some (r, τ)) b) : st3 a τ b := by
  obtain ⟨r, υ, ω, h1, h2, h3⟩ := h
  cases a with
  | none => cases h1
  | some x =>
    rw [qbs] at h1
    have e := Option.some.inj h1
    have e1 : x = r := congrArg Prod.fst e
    have e2 : τ = υ := congrArg Prod.snd e
    subst e1 e2
    exact ⟨x, ω, rfl, h2, h3⟩
def sg (w : Nat) : Bool := decide (w = 1 ∨ w = 2 ∨ w = 4 ∨ w = 8 ∨ w = 16 ∨ w = 32)
def bcI (w : Nat) : Int32 := (fc_j6_bitCount_0f7a4 (nI w)).getD 0
theorem bc_fin : ∀ w, w < 64 → fc_j6_bitCount_0f7a4 (nI w) = some (bcI w) ∧ decide (bcI w = 1) = sg w := by decide +kernel
theorem sg_fin : ∀ w, w < 64 → ∀ k, k < 6 → Nat.testBit (if sg w = true then w else 0) k = decide (w = 2 ^ k) := by decide +kernel
theorem btt_fin : ∀ b, b < 64 → ∀ o, o < 6 → decide (((nI b >>> (nI o &&& 31)) &&& (1 : Int32)) = (1 : Int32)) = Nat.testBit b o := by decide +kernel
section LI
variable {τ : SC} {σ : SM} {v : VT} {pr : List RU}
def al (v : VT) : Nat → Nat → Nat
  | 0, _ => 0
  | q + 1, s => (if sg (WR v s) = true then WR v s else 0) ||| al v q (s + 1)
theorem al_bit (hv : vOK v) {k : Nat} (hk : k < 6) : ∀ q s, (al v q s).testBit k = true ↔ ∃ i, s ≤ i ∧ i < s + q ∧ WR v i = 2 ^ k := by
  intro q
  induction q with
  | zero =>
    intro s
    constructor
    · intro h
      rw [show (al v 0 s).testBit k = false from Nat.zero_testBit k] at h
      cases h
    · rintro ⟨i, h1, h2, -⟩
      omega
  | succ q ih =>
    intro s
    show ((if sg (WR v s) = true then WR v s else 0) ||| al v q (s + 1)).testBit k = true ↔ _
    rw [Nat.testBit_or, sg_fin _ (WR_lt hv s) k hk, Bool.or_eq_true, ih (s + 1), decide_eq_true_eq]
    constructor
    · rintro (h | ⟨i, h1, h2, h3⟩)
      · exact ⟨s, Nat.le_refl _, by omega, h⟩
      · exact ⟨i, by omega, by omega, h3⟩
    · rintro ⟨i, h1, h2, h3⟩
      by_cases e : i = s
      · left
        rw [← e]
        exact h3
      · exact Or.inr ⟨i, by omega, by omega, h3⟩
theorem WR_n (s : Nat) : WR v s < 2 ^ v 18 0 := ws_lt _ _
theorem al_lt : ∀ q s, al v q s < 2 ^ v 18 0 := by
  intro q
  induction q with
  | zero => intro s; exact Nat.two_pow_pos _
  | succ q ih =>
    intro s
    refine Nat.or_lt_two_pow ?_ (ih (s + 1))
    split
    · exact WR_n s
    · exact Nat.two_pow_pos _
theorem li_s (hT : twC τ 100 v pr) (hv : vOK v) (K45 : Int32 → Option Int32) : ∀ (q s fu : Nat) (x1 : Int32) (t : Nat), s + q = 500 → q < fu → cF (P0 v) q s = some t → fc_hh_liar_l4 τ K45 fu x1 (nI s) = some (-3) := by
  intro q
  induction q with
  | zero => intro s fu x1 t _ _ h; cases h
  | succ q ih =>
    intro s fu x1 t hq hf h
    obtain ⟨n', rfl⟩ : ∃ q, fu = q + 1 := ⟨fu - 1, by omega⟩
    have IH := fun x1 t => ih (s + 1) n' x1 t (by omega) (by omega)
    have hl := WR_lt hv s
    rw [fc_hh_liar_l4]
    generalize fc_hh_liar_l4 τ K45 n' = K at IH ⊢
    rw [if_neg (show ¬ (500 : Int32) ≤ nI s by rw [show (500 : Int32) = nI 500 from rfl, pb_le (by omega) (by omega)]; omega), wr_ok hT hv (by omega), qbs]
    have h' : (if P0 v s = true then some s else cF (P0 v) q (s + 1)) = some t := h
    by_cases c0 : WR v s = 0
    · rw [if_neg (pNN (pb_ez (by omega)) c0)]
    · rw [if_neg (show ¬ P0 v s = true from fun z => c0 (of_decide_eq_true z))] at h'
      rw [if_pos (pN (pb_ez (by omega)) c0), (bc_fin _ hl).1, qbs]
      unfold fc_hh_liar_b39
      rw [nI_a1, qhl, IH _ t h', IH _ t h', ite_self]
theorem li_n (hT : twC τ 100 v pr) (hv : vOK v) (K45 : Int32 → Option Int32) : ∀ (q s fu acc : Nat), s + q = 500 → q < fu → cF (P0 v) q s = none → fc_hh_liar_l4 τ K45 fu (nI acc) (nI s) = K45 (nI (acc ||| al v q s)) := by
  intro q
  induction q with
  | zero =>
    intro s fu acc hq hf _
    obtain ⟨n', rfl⟩ : ∃ q, fu = q + 1 := ⟨fu - 1, by omega⟩
    unfold fc_hh_liar_l4
    rw [if_pos (show (500 : Int32) ≤ nI s by rw [show (500 : Int32) = nI 500 from rfl, pb_le (by omega) (by omega)]; omega)]
    show _ = K45 (nI (acc ||| 0))
    rw [Nat.or_zero]
  | succ q ih =>
    intro s fu acc hq hf h
    obtain ⟨n', rfl⟩ : ∃ q, fu = q + 1 := ⟨fu - 1, by omega⟩
    have IH := fun acc => ih (s + 1) n' acc (by omega) (by omega)
    have hl := WR_lt hv s
    rw [fc_hh_liar_l4]
    generalize fc_hh_liar_l4 τ K45 n' = K at IH ⊢
    rw [if_neg (show ¬ (500 : Int32) ≤ nI s by rw [show (500 : Int32) = nI 500 from rfl, pb_le (by omega) (by omega)]; omega), wr_ok hT hv (by omega), qbs]
    have h' : (if P0 v s = true then some s else cF (P0 v) q (s + 1)) = none := h
    by_cases c0 : WR v s = 0
    · rw [if_pos (show P0 v s = true from decide_eq_true c0)] at h'
      cases h'
    · rw [if_neg (show ¬ P0 v s = true from fun z => c0 (of_decide_eq_true z))] at h'
      obtain ⟨e1, e2⟩ := bc_fin _ hl
      rw [if_pos (pN (pb_ez (by omega)) c0), e1, qbs]
      unfold fc_hh_liar_b39
      rw [nI_a1, qhl, fa_or, IH _ h', IH _ h']
      show _ = K45 (nI (acc ||| ((if sg (WR v s) = true then WR v s else 0) ||| al v q (s + 1))))
      rw [← e2, ← Nat.or_assoc]
      by_cases c : bcI (WR v s) = 1
      · rw [if_neg (fun z => z c), if_pos (decide_eq_true c)]
      · rw [if_pos c, if_neg (fun z => c (of_decide_eq_true z)), Nat.or_zero]
theorem lr_l (hT : twM (σ 0) v pr) (hv : vOK v) (hn : cF (P0 v) 500 0 = none) : ∀ (q k fu : Nat) (σ' : SM), k + q = v 18 0 → q + 1 < fu → FF σ σ' → ∃ σ2, fm_liar_l23 fu (-3) 1 (nI k) σ' = some (bl (al v 500 0) q k, σ2) ∧ FF σ σ2 := by
  have b6 := hv.2.2.2.2.2.2.2.2.2.2.2.1
  intro q
  induction q with
  | zero =>
    intro k fu σ' hq hf hF
    obtain ⟨n', rfl⟩ : ∃ q, fu = q + 1 := ⟨fu - 1, by omega⟩
    unfold fm_liar_l23
    rw [hF.z, hT.2.2.2.2.2.2.2.2.1, if_pos (show nI (v 18 0) ≤ nI k by rw [pb_le (by omega) (by omega)]; omega)]
    exact ⟨σ', rfl, hF⟩
  | succ q ih =>
    intro k fu σ' hq hf hF
    obtain ⟨n', rfl⟩ : ∃ q, fu = q + 2 := ⟨fu - 2, by omega⟩
    have IH := fun σ' => ih (k + 1) (n' + 1) σ' (by omega) (by omega)
    have hT' : twM (σ' 0) v pr := by rw [hF.z]; exact hT
    obtain ⟨σ2, f1, f2, f3, f4⟩ := ff_ok hT' hv (hPK hv (show k < v 18 0 by omega))
    have hle := cN_le (P := PK v k) 500 0
    have hF2 : FF σ σ2 := fun i a1 a2 a3 a4 => (f2 i a1 a2 a3 a4).trans (hF i a1 a2 a3 a4)
    have LAST : fm_liar_l23 (n' + 1) (nI k) 1 (nI (k + 1)) σ2 = some (nI k, σ2) := by
      unfold fm_liar_l23
      rw [if_neg (show ¬ (1 : Int32) = 0 by decide), if_pos (show 0 ≤ nI k from nI_pos' (by omega)), ite_self]
    rw [fm_liar_l23]
    generalize fm_liar_l23 (n' + 1) = K at IH LAST ⊢
    rw [hF.z, hT.2.2.2.2.2.2.2.2.1, if_neg (show ¬ nI (v 18 0) ≤ nI k by rw [pb_le (by omega) (by omega)]; omega), if_neg (show ¬ (1 : Int32) = 0 by decide), if_neg (show ¬ 0 ≤ (-3 : Int32) by decide), f1, qbs, f3]
    unfold fm_liar_b60
    rw [nI_a1, show bl (al v 500 0) (q + 1) k = if ¬ ((nI (al v 500 0) >>> (nI k &&& 31)) &&& (1 : Int32)) = (1 : Int32) then bl (al v 500 0) q (k + 1) else nI k from rfl]
    have hal : al v 500 0 < 64 := Nat.lt_of_lt_of_le (al_lt 500 0) (Nat.pow_le_pow_right (n := 2) (by decide) b6)
    have hb := btt_fin (al v 500 0) hal k (by omega)
    have key : 0 < cN (PK v k) 500 0 ↔ (al v 500 0).testBit k = true := by
      rw [cN_pos, al_bit hv (by omega)]
      constructor
      · rintro ⟨i, h1, h2, h3⟩
        refine ⟨i, h1, h2, ?_⟩
        rcases of_decide_eq_true h3 with h4 | h4
        · have := (cF_none 500 0 hn).2 i h1 h2
          rw [show P0 v i = true from decide_eq_true h4] at this
          cases this
        · exact h4
      · rintro ⟨i, h1, h2, h3⟩
        exact ⟨i, h1, h2, decide_eq_true (Or.inr h3)⟩
    by_cases c : 0 < cN (PK v k) 500 0
    · rw [if_neg (show ¬ nI (cN (PK v k) 500 0) ≤ 0 by rw [pb_lz (by omega)]; omega), LAST, if_neg (show ¬ ¬ ((nI (al v 500 0) >>> (nI k &&& 31)) &&& (1 : Int32)) = (1 : Int32) from fun z => z (of_decide_eq_true (hb.trans (key.mp c))))]
      exact ⟨σ2, rfl, hF2⟩
    · rw [if_pos (show nI (cN (PK v k) 500 0) ≤ 0 by rw [pb_lz (by omega)]; omega), if_pos (show ¬ ((nI (al v 500 0) >>> (nI k &&& 31)) &&& (1 : Int32)) = (1 : Int32) from fun z => c (key.mpr (hb.symm.trans (decide_eq_true z))))]
      exact IH σ2 hF2
theorem st_cause3 (h : Inv τ σ) (x1 : Int32) : st3 (fc_hh_cause τ x1) τ (fm_cause x1 σ) := st3_of (st_cause h x1)
theorem st_liar (h : Inv τ σ) : st3 (fc_hh_liar τ) τ (fm_liar σ) := by
  obtain ⟨⟨v, pr, tt⟩, -⟩ := id h
  obtain ⟨t1, t2, t3, t4, t5, t6, t7⟩ := id tt
  have b6 := t3.2.2.2.2.2.2.2.2.2.2.2.1
  unfold fc_hh_liar fm_liar fm_liar_b20
  obtain ⟨σ2, f1, f2, f3, f4⟩ := ff_ok t1 t3 (hP0 t3)
  have hle := cN_le (P := P0 v) 500 0
  rw [f1, qbs, f3]
  have I : ∀ ω, FF σ ω → Inv τ ω := fun ω hω => Inv_same h tt hω.fr hω.z frC.rf rfl rfl t2
  cases hc : cF (P0 v) 500 0 with
  | some t =>
    obtain ⟨a1, a2, a3, a4⟩ := cF_some 500 0 t hc
    rw [if_pos (show ¬ nI (cN (P0 v) 500 0) = 0 by rw [pb_ez (by omega)]; omega)]
    have L := li_s t2 t3 (fun x1 => (if ¬ x1 = 0 then (Option.bind (fc_j6_numberOfTrailingZeros_0f7a4 x1) fun q4 => (some q4)) else (some (-3 : Int32)))) 500 0 hFU 0 t rfl (by unfold hFU; omega) hc
    rw [show nI 0 = (0 : Int32) from rfl] at L
    rw [L]
    refine ⟨_, σ2, rfl, ?_, I σ2 f2⟩
    show fm_liar_l23 (999 + 1) (-3) 0 0 σ2 = some (-3, σ2)
    unfold fm_liar_l23
    rw [if_pos (show (0 : Int32) = 0 from rfl), ite_self]
  | none =>
    rw [(cF_none 500 0 hc).1, if_neg (show ¬ ¬ nI 0 = 0 from fun z => z rfl)]
    have L := li_n t2 t3 (fun x1 => (if ¬ x1 = 0 then (Option.bind (fc_j6_numberOfTrailingZeros_0f7a4 x1) fun q4 => (some q4)) else (some (-3 : Int32)))) 500 0 hFU 0 rfl (by unfold hFU; omega) hc
    rw [show nI 0 = (0 : Int32) from rfl, Nat.zero_or] at L
    rw [L]
    obtain ⟨σ3, r1, r2⟩ := lr_l (σ := σ) t1 t3 hc (v 18 0) 0 hFU σ2 (Nat.zero_add _) (by unfold hFU; omega) f2
    rw [show nI 0 = (0 : Int32) from rfl] at r1
    rw [r1]
    exact ⟨_, σ3, bl_fin (v 18 0) (by omega) _ (al_lt 500 0), rfl, I σ3 r2⟩
end LI
