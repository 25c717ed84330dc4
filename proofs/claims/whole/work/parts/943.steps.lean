/-! PURE: step of act -/
section S11
variable {τ0 : SC} {σ0 : SM} {N A : Int32} {kd : Nat}
/-- the voice of class and reference alike; p: it has parted by 0 -/
def RV (N A : Int32) (kd : Nat) (τ0 : SC) (σ0 : SM) (p : Bool) (τ : SC) (σ : SM) : Prop := ∃ n, n ≤ 30 ∧ τ.1 504 0 = nI n ∧ σ 35 0 = nI n ∧ (∀ j, j < n → τ.1 503 j = σ 34 j) ∧ τ.1 502 0 = (if p = true then 1 else 0) ∧ σ 39 0 = (if p = true then 1 else 0) ∧ τ.1 500 0 = N ∧ σ 37 0 = N ∧ τ.1 501 0 = A ∧ σ 38 0 = A ∧ σ 36 0 = nI kd ∧ (∀ k, k < 500 → τ.1 k = τ0.1 k) ∧ τ.2 = τ0.2 ∧ (∀ k, k < 34 → σ k = σ0 k)
def SV (N A : Int32) (kd : Nat) (τ0 : SC) (σ0 : SM) (a : Option (Int32 × SC)) (b : Option (Int32 × SM)) : Prop := ∃ r υ ω, a = some (r, υ) ∧ b = some (r, ω) ∧ RV N A kd τ0 σ0 false υ ω
/-- the same, where it may have parted: the answers are alike where it hasn't -/
def SW (N A : Int32) (kd : Nat) (τ0 : SC) (σ0 : SM) (a : Option (Int32 × SC)) (b : Option (Int32 × SM)) : Prop := ∃ r r' υ ω p, a = some (r, υ) ∧ b = some (r', ω) ∧ RV N A kd τ0 σ0 p υ ω ∧ (p = false → r = r')
theorem sv_run {τ : SC} {σ : SM} (h : RV N A kd τ0 σ0 false τ σ) (b : Int32) {F : SC → Option (Int32 × SC)} {G : SM → Option (Int32 × SM)} {P : Option (Int32 × SC) → Option (Int32 × SM) → Prop} (k : ∀ υ ω, RV N A kd τ0 σ0 false υ ω → P (F υ) (G ω)) : P (Option.bind (fc_vo_begin b τ) F) (Option.bind (fm_runs b σ) G) := by
  obtain ⟨n, hn, h1, h2, h3, h4, h5, h6, h7, h8, h9, h10, h11, h12, h13⟩ := id h
  unfold fc_vo_begin fm_runs
  rw [h1, h2, h4, if_neg (show ¬ ¬ (if false = true then (1 : Int32) else 0) = 0 by decide)]
  by_cases e : n = 30
  · subst e
    rw [if_pos (show (30 : Int32) ≤ nI 30 by decide), if_pos (show (30 : Int32) ≤ nI 30 by decide)]
    exact k τ σ h
  · rw [if_neg (show ¬ (30 : Int32) ≤ nI n by rw [show (30 : Int32) = nI 30 from rfl, pb_le (by decide) (by omega)]; omega), if_neg (show ¬ (30 : Int32) ≤ nI n by rw [show (30 : Int32) = nI 30 from rfl, pb_le (by decide) (by omega)]; omega)]
    simp (disch := omega) only [pb_in, pb_oc, pb_cl, pb_hl, pb_bs]
    refine k _ _ ⟨n + 1, by omega, ?_, ?_, fun j hj => ?_, h4, h5, h6, h7, h8, h9, h10, fun q hq => ?_, h12, fun q hq => ?_⟩
    · show τ.1 504 0 + 1 = _
      rw [h1, show (1 : Int32) = nI 1 from rfl, pb_add]
    · show σ 35 0 + 1 = _
      rw [h2, show (1 : Int32) = nI 1 from rfl, pb_add]
    · show upd (τ.1 503) n b j = upd (σ 34) n b j
      by_cases e : j = n
      · rw [e, up_eq, up_eq]
      · rw [up_ne e, up_ne e]
        exact h3 j (by omega)
    · simp (disch := omega) only [sc_ne]
      exact h11 q hq
    · show sf (sf σ 34 _) 35 _ q = _
      unfold sf
      rw [if_neg (by omega), if_neg (by omega)]
      exact h13 q hq
theorem sv_call {a : Option (Int32 × SC)} {b : Option (Int32 × SM)} (h : SV N A kd τ0 σ0 a b) {F : Int32 × SC → Option (Int32 × SC)} {G : Int32 × SM → Option (Int32 × SM)} {P : Option (Int32 × SC) → Option (Int32 × SM) → Prop} (k : ∀ r υ ω, RV N A kd τ0 σ0 false υ ω → P (F (r, υ)) (G (r, ω))) : P (Option.bind a F) (Option.bind b G) := by
  obtain ⟨r, υ, ω, h1, h2, h3⟩ := h
  rw [h1, h2]
  exact k r υ ω h3
theorem sw_call {a : Option (Int32 × SC)} {b : Option (Int32 × SM)} (h : SW N A kd τ0 σ0 a b) {F : Int32 × SC → Option (Int32 × SC)} {G : Int32 × SM → Option (Int32 × SM)} {P : Option (Int32 × SC) → Option (Int32 × SM) → Prop} (k0 : ∀ r υ ω, RV N A kd τ0 σ0 false υ ω → P (F (r, υ)) (G (r, ω))) (k1 : ∀ r r' υ ω, RV N A kd τ0 σ0 true υ ω → P (F (r, υ)) (G (r', ω))) : P (Option.bind a F) (Option.bind b G) := by
  obtain ⟨r, r', υ, ω, p, h1, h2, h3, h4⟩ := h
  rw [h1, h2]
  cases p with
  | false => rw [h4 rfl]; exact k0 r' υ ω h3
  | true => exact k1 r r' υ ω h3
theorem sv_ret {r r' : Int32} {υ : SC} {ω : SM} (h : RV N A kd τ0 σ0 false υ ω) (e : r = r') : SV N A kd τ0 σ0 (some (r, υ)) (some (r', ω)) := ⟨r, υ, ω, rfl, by rw [e], h⟩
theorem sv_sw {a : Option (Int32 × SC)} {b : Option (Int32 × SM)} (h : SV N A kd τ0 σ0 a b) : SW N A kd τ0 σ0 a b := by
  obtain ⟨r, υ, ω, h1, h2, h3⟩ := h
  exact ⟨r, r, υ, ω, false, h1, h2, h3, fun _ => rfl⟩
theorem rv_N {p : Bool} {τ : SC} {σ : SM} (h : RV N A kd τ0 σ0 p τ σ) : τ.1 500 0 = N ∧ σ 37 0 = N ∧ τ.1 501 0 = A ∧ σ 38 0 = A ∧ σ 36 0 = nI kd := by
  obtain ⟨n, hn, h1, h2, h3, h4, h5, h6, h7, h8, h9, h10, h11, h12⟩ := h
  exact ⟨h6, h7, h8, h9, h10⟩
/-- the bodies of the plain guild -/
def gK (x2 : Int32) (τ : SC) : Option (Int32 × SC) := (Option.bind (fc_vo_begin (10 : Int32) τ) fun τ2 => (some (((x2 * (3 : Int32)) - (τ2.1 500 0)), τ2)))
theorem sv_gK {τ : SC} {σ : SM} (h : RV N A kd τ0 σ0 false τ σ) (x : Int32) : SV N A kd τ0 σ0 (gK x τ) (fm_knocksPlain x σ) := by
  unfold gK fm_knocksPlain
  refine sv_run h 10 fun υ ω q => ?_
  exact sv_ret q (by rw [(rv_N q).1, (rv_N q).2.1])
theorem sv_knocks {τ : SC} {σ : SM} (hk1 : 1 ≤ kd) (hk : kd ≤ 5) (h : RV N A kd τ0 σ0 false τ σ) (x : Int32) : SV N A kd τ0 σ0 (fN_knocks kd x τ) (fm_knocks x σ) := by
  unfold fm_knocks
  rw [(rv_N h).2.2.2.2]
  rcases (show kd = 1 ∨ kd = 2 ∨ kd = 3 ∨ kd = 4 ∨ kd = 5 by omega) with rfl | rfl | rfl | rfl | rfl
  · show SV _ _ _ _ _ (fc_ba_knocks_G1 x τ) (Option.bind (fm_runs (20 : Int32) σ) fun σ8 => (Option.bind (fm_knocksPlain x σ8) fun p_ => hl p_.1 fun q9 => hl p_.2 fun σ10 => (some ((q9 - (3 : Int32)), σ10))))
    unfold fc_ba_knocks_G1
    exact sv_run h 20 fun υ ω q => sv_call (sv_gK q x) fun r υ ω q => sv_ret q rfl
  · show SV _ _ _ _ _ (gK x τ) (Option.bind (fm_knocksPlain x σ) fun p_ => hl p_.1 fun q1 => hl p_.2 fun σ2 => (some (q1, σ2)))
    obtain ⟨r, υ, ω, h1, h2, h3⟩ := sv_gK h x
    rw [h1, h2]
    exact sv_ret h3 rfl
  · show SV _ _ _ _ _ (fc_do_knocks_G3 x τ) (Option.bind (fm_runs (50 : Int32) σ) fun σ8 => (Option.bind (fm_knocksPlain x σ8) fun p_ => hl p_.1 fun q9 => hl p_.2 fun σ10 => (some ((q9 ^^^ (9 : Int32)), σ10))))
    unfold fc_do_knocks_G3
    exact sv_run h 50 fun υ ω q => sv_call (sv_gK q x) fun r υ ω q => sv_ret q rfl
  · show SV _ _ _ _ _ (gK x τ) (Option.bind (fm_knocksPlain x σ) fun p_ => hl p_.1 fun q1 => hl p_.2 fun σ2 => (some (q1, σ2)))
    obtain ⟨r, υ, ω, h1, h2, h3⟩ := sv_gK h x
    rw [h1, h2]
    exact sv_ret h3 rfl
  · show SV _ _ _ _ _ (gK x τ) (Option.bind (fm_knocksPlain x σ) fun p_ => hl p_.1 fun q1 => hl p_.2 fun σ2 => (some (q1, σ2)))
    obtain ⟨r, υ, ω, h1, h2, h3⟩ := sv_gK h x
    rw [h1, h2]
    exact sv_ret h3 rfl
def gT (kd : Nat) (x2 : Int32) (τ : SC) : Option (Int32 × SC) := (Option.bind (fc_vo_begin (11 : Int32) τ) fun τ2 => (Option.bind (fN_knocks kd x2 τ2) fun p_ => hl p_.1 fun q3 => hl p_.2 fun τ4 => (some ((q3 + ((2 : Int32) * (τ4.1 501 0))), τ4))))
theorem sv_gT {τ : SC} {σ : SM} (hk1 : 1 ≤ kd) (hk : kd ≤ 5) (h : RV N A kd τ0 σ0 false τ σ) (x : Int32) : SV N A kd τ0 σ0 (gT kd x τ) (fm_tellsPlain x σ) := by
  unfold gT fm_tellsPlain
  refine sv_run h 11 fun υ ω q => sv_call (sv_knocks hk1 hk q x) fun r υ ω q => ?_
  exact sv_ret q (by show r + 2 * υ.1 501 0 = r + 2 * ω 38 0; rw [(rv_N q).2.2.1, (rv_N q).2.2.2.1])
theorem sv_tells {τ : SC} {σ : SM} (hk1 : 1 ≤ kd) (hk : kd ≤ 5) (h : RV N A kd τ0 σ0 false τ σ) (x : Int32) : SV N A kd τ0 σ0 (fN_tells kd x τ) (fm_tells x σ) := by
  have L : ∀ (y : Int32) {υ : SC} {ω : SM}, RV N A kd τ0 σ0 false υ ω → SV N A kd τ0 σ0 (Option.bind (fc_vo_begin (30 : Int32) υ) fun τ2 => (Option.bind (gT kd (y - (τ2.1 500 0)) τ2) fun p_ => hl p_.1 fun q3 => hl p_.2 fun τ4 => (some (q3, τ4)))) (fm_tells_b16 y ω) := by
    intro y υ ω q
    unfold fm_tells_b16
    refine sv_run q 30 fun υ ω q => ?_
    rw [(rv_N q).1, (rv_N q).2.1]
    exact sv_call (sv_gT hk1 hk q _) fun r υ ω q => sv_ret q rfl
  unfold fm_tells
  rw [(rv_N h).2.2.2.2]
  rcases (show kd = 1 ∨ kd = 2 ∨ kd = 3 ∨ kd = 4 ∨ kd = 5 by omega) with rfl | rfl | rfl | rfl | rfl
  · show SV _ _ _ _ _ (gT 1 x τ) (Option.bind (fm_tellsPlain x σ) fun p_ => hl p_.1 fun q1 => hl p_.2 fun σ2 => (some (q1, σ2)))
    obtain ⟨r, υ, ω, h1, h2, h3⟩ := sv_gT hk1 hk h x
    rw [h1, h2]
    exact sv_ret h3 rfl
  · exact L x h
  · exact L x h
  · show SV _ _ _ _ _ (gT 4 x τ) (Option.bind (fm_tellsPlain x σ) fun p_ => hl p_.1 fun q1 => hl p_.2 fun σ2 => (some (q1, σ2)))
    obtain ⟨r, υ, ω, h1, h2, h3⟩ := sv_gT hk1 hk h x
    rw [h1, h2]
    exact sv_ret h3 rfl
  · show SV _ _ _ _ _ (Option.bind (fc_vo_begin (60 : Int32) τ) fun τ2 => (Option.bind (gT 5 x τ2) fun p_ => hl p_.1 fun q3 => hl p_.2 fun τ4 => (some ((q3 * (τ4.1 500 0)), τ4)))) (Option.bind (fm_runs (60 : Int32) σ) fun σ8 => (Option.bind (fm_tellsPlain x σ8) fun p_ => hl p_.1 fun q9 => hl p_.2 fun σ10 => (some ((q9 * (σ10 37 0)), σ10))))
    refine sv_run h 60 fun υ ω q => sv_call (sv_gT hk1 hk q x) fun r υ ω q => ?_
    exact sv_ret q (by show r * υ.1 500 0 = r * ω 37 0; rw [(rv_N q).1, (rv_N q).2.1])
def gH (x2 : Int32) (τ : SC) : Option (Int32 × SC) := (Option.bind (fc_vo_begin (12 : Int32) τ) fun τ2 => (hl ((τ2.1 501 0) - (τ2.1 500 0)) fun v3 => (if ¬ v3 = 0 then (oc (decide (¬ v3 = 0)) (some ((hrem x2 v3), τ2))) else (hl (sc τ2 502 (fun _ => (1 : Int32))) fun τ4 => (some ((0 : Int32), τ4))))))
theorem sw_gH (hAN : (A - N = 0) = (N = A)) {τ : SC} {σ : SM} (h : RV N A kd τ0 σ0 false τ σ) (x : Int32) : SW N A kd τ0 σ0 (gH x τ) (fm_thanksPlain x σ) := by
  unfold gH fm_thanksPlain
  refine sv_run h 12 fun υ ω q => ?_
  obtain ⟨n, hn, h1, h2, h3, h4, h5, h6, h7, h8, h9, h10, h11, h12, h13⟩ := id q
  rw [h5, h6, h7, h8, h9]
  unfold fm_thanksPlain_b25 fm_thanksPlain_b30
  simp only [pb_hl]
  rw [show sf ω 39 (fun _ => (0 : Int32)) 38 0 = A from h9, show sf ω 39 (fun _ => (0 : Int32)) 37 0 = N from h7]
  simp only [hAN]
  by_cases e : N = A
  · have e2 : A - N = 0 := by rw [hAN]; exact e
    rw [if_neg (show ¬ ¬ N = A from fun z => z e), if_neg (show ¬ ¬ N = A from fun z => z e), if_neg (show ¬ ¬ (if false = true then (1 : Int32) else 0) = 0 by decide)]
    refine ⟨0, 0, _, _, true, rfl, rfl, ⟨n, hn, h1, h2, h3, rfl, rfl, h6, h7, h8, h9, h10, fun k hk => (sc_ne (by omega)).trans (h11 k hk), h12, fun k hk => ?_⟩, fun z => by cases z⟩
    show (if k = 39 then _ else ω k) = _
    rw [if_neg (by omega)]
    exact h13 k hk
  · rw [if_pos (show ¬ N = A from e), if_pos (show ¬ N = A from e), if_neg (show ¬ ¬ (if false = true then (1 : Int32) else 0) = 0 by decide)]
    simp only [e, not_false_eq_true, decide_true, pb_oc]
    refine ⟨_, _, _, _, false, rfl, rfl, ⟨n, hn, h1, h2, h3, h4, rfl, h6, h7, h8, h9, h10, h11, h12, fun k hk => ?_⟩, fun _ => rfl⟩
    show (if k = 39 then _ else ω k) = _
    rw [if_neg (by omega)]
    exact h13 k hk
/-- where it has parted no body begins -/
theorem rv_begin {τ : SC} {σ : SM} (h : RV N A kd τ0 σ0 true τ σ) (b : Int32) : fc_vo_begin b τ = some τ := by
  obtain ⟨n, hn, h1, h2, h3, h4, -⟩ := h
  unfold fc_vo_begin
  rw [h4]
  rfl
theorem rv_knocks (hk1 : 1 ≤ kd) (hk : kd ≤ 5) {τ : SC} {σ : SM} (h : RV N A kd τ0 σ0 true τ σ) (x : Int32) : ∃ r, fN_knocks kd x τ = some (r, τ) := by
  rcases (show kd = 1 ∨ kd = 2 ∨ kd = 3 ∨ kd = 4 ∨ kd = 5 by omega) with rfl | rfl | rfl | rfl | rfl
  · show ∃ r, fc_ba_knocks_G1 x τ = _
    unfold fc_ba_knocks_G1 fc_gu_knocks_G1
    simp only [rv_begin h, pb_bs, pb_hl]
    exact ⟨_, rfl⟩
  · show ∃ r, fc_gu_knocks_G2 x τ = _
    unfold fc_gu_knocks_G2
    simp only [rv_begin h, pb_bs, pb_hl]
    exact ⟨_, rfl⟩
  · show ∃ r, fc_do_knocks_G3 x τ = _
    unfold fc_do_knocks_G3 fc_gu_knocks_G3
    simp only [rv_begin h, pb_bs, pb_hl]
    exact ⟨_, rfl⟩
  · show ∃ r, fc_gu_knocks_G4 x τ = _
    unfold fc_gu_knocks_G4
    simp only [rv_begin h, pb_bs, pb_hl]
    exact ⟨_, rfl⟩
  · show ∃ r, fc_gu_knocks_G5 x τ = _
    unfold fc_gu_knocks_G5
    simp only [rv_begin h, pb_bs, pb_hl]
    exact ⟨_, rfl⟩
theorem rv_tells3 {τ : SC} {σ : SM} (h : RV N A 3 τ0 σ0 true τ σ) (x : Int32) : ∃ r, fN_tells 3 x τ = some (r, τ) := by
  show ∃ r, (Option.bind (fc_vo_begin (30 : Int32) τ) fun τ2 => (Option.bind (gT 3 (x - (τ2.1 500 0)) τ2) fun p_ => hl p_.1 fun q3 => hl p_.2 fun τ4 => (some (q3, τ4)))) = _
  rw [rv_begin h, pb_bs]
  unfold gT
  rw [rv_begin h, pb_bs]
  obtain ⟨r, hr⟩ := rv_knocks (by decide) (by decide) h (x - τ.1 500 0)
  rw [hr]
  exact ⟨_, rfl⟩
def gB (x2 : Int32) (τ : SC) : Option (Int32 × SC) := (Option.bind (fc_vo_begin (40 : Int32) τ) fun τ2 => (Option.bind (gH x2 τ2) fun p_ => hl p_.1 fun q3 => hl p_.2 fun τ4 => (some (((1 : Int32) - q3), τ4))))
theorem sw_gB (hAN : (A - N = 0) = (N = A)) {τ : SC} {σ : SM} (h : RV N A kd τ0 σ0 false τ σ) (x : Int32) : SW N A kd τ0 σ0 (gB x τ) (fm_thanksOfBook x σ) := by
  unfold gB fm_thanksOfBook
  refine sv_run h 40 fun υ ω q => ?_
  exact sw_call (sw_gH hAN q x) (fun r υ ω q => sv_sw (sv_ret q rfl)) (fun r r' υ ω q => ⟨_, _, _, _, true, rfl, rfl, q, fun z => by cases z⟩)
theorem sw_thanks (hk1 : 1 ≤ kd) (hk : kd ≤ 5) (hAN : (A - N = 0) = (N = A)) {τ : SC} {σ : SM} (h : RV N A kd τ0 σ0 false τ σ) (x : Int32) : SW N A kd τ0 σ0 (fN_thanks kd x τ) (fm_thanks x σ) := by
  unfold fm_thanks
  rw [(rv_N h).2.2.2.2]
  have P : SW N A kd τ0 σ0 (gH x τ) (Option.bind (fm_thanksPlain x σ) fun p_ => hl p_.1 fun q7 => hl p_.2 fun σ8 => (some (q7, σ8))) := by
    obtain ⟨r, r', υ, ω, p, h1, h2, h3, h4⟩ := sw_gH hAN h x
    rw [h1, h2]
    exact ⟨r, r', υ, ω, p, rfl, rfl, h3, h4⟩
  rcases (show kd = 1 ∨ kd = 2 ∨ kd = 3 ∨ kd = 4 ∨ kd = 5 by omega) with rfl | rfl | rfl | rfl | rfl
  · exact P
  · exact P
  · exact P
  · show SW _ _ _ _ _ (gB x τ) (Option.bind (fm_thanksOfBook x σ) fun p_ => hl p_.1 fun q7 => hl p_.2 fun σ8 => (some (q7, σ8)))
    obtain ⟨r, r', υ, ω, p, h1, h2, h3, h4⟩ := sw_gB hAN h x
    rw [h1, h2]
    exact ⟨r, r', υ, ω, p, rfl, rfl, h3, h4⟩
  · show SW _ _ _ _ _ (Option.bind (fc_vo_begin (61 : Int32) τ) fun τ2 => (Option.bind (gB x τ2) fun p_ => hl p_.1 fun q3 => hl p_.2 fun τ4 => (Option.bind (fN_knocks 5 (τ4.1 501 0) τ4) fun p_ => hl p_.1 fun q5 => hl p_.2 fun τ6 => (some ((q3 + q5), τ6))))) (Option.bind (fm_runs (61 : Int32) σ) fun σ2 => (Option.bind (fm_thanksOfBook x σ2) fun p_ => hl p_.1 fun q3 => hl p_.2 fun σ4 => (if (σ4 39 0) = 0 then (Option.bind (fm_knocks (σ4 38 0) σ4) fun p_ => hl p_.1 fun q5 => hl p_.2 fun σ6 => (some ((q3 + q5), σ6))) else (some ((0 : Int32), σ4)))))
    refine sv_run h 61 fun υ ω q => sw_call (sw_gB hAN q x) (fun r υ ω q => ?_) (fun r r' υ ω q => ?_)
    · simp only [pb_hl]
      rw [(rv_N q).2.2.1, (rv_N q).2.2.2.1]
      have e : ω 39 0 = 0 := by
        obtain ⟨n, hn, h1, h2, h3, h4, h5, -⟩ := q
        exact h5
      rw [if_pos e]
      exact sv_call (sv_knocks hk1 hk q A) fun r υ ω q => sv_sw (sv_ret q rfl)
    · simp only [pb_hl]
      have e : ω 39 0 = 1 := by
        obtain ⟨n, hn, h1, h2, h3, h4, h5, -⟩ := q
        exact h5
      obtain ⟨z, hz⟩ := rv_knocks hk1 hk q (υ.1 501 0)
      rw [if_neg (show ¬ ω 39 0 = 0 by rw [e]; decide), hz]
      exact ⟨_, _, _, _, true, rfl, rfl, q, fun z => by cases z⟩
def gD (kd : Nat) (x2 : Int32) (τ : SC) : Option (Int32 × SC) := (Option.bind (fc_vo_begin (13 : Int32) τ) fun τ2 => (Option.bind (fN_tells kd x2 τ2) fun p_ => hl p_.1 fun q3 => hl p_.2 fun τ4 => (Option.bind (fN_thanks kd x2 τ4) fun p_ => hl p_.1 fun q5 => hl p_.2 fun τ6 => (some ((q3 ^^^ q5), τ6)))))
theorem sw_gD (hk1 : 1 ≤ kd) (hk : kd ≤ 5) (hAN : (A - N = 0) = (N = A)) {τ : SC} {σ : SM} (h : RV N A kd τ0 σ0 false τ σ) (x : Int32) : SW N A kd τ0 σ0 (gD kd x τ) (fm_dealsPlain x σ) := by
  unfold gD fm_dealsPlain
  refine sv_run h 13 fun υ ω q => sv_call (sv_tells hk1 hk q x) fun r υ ω q => ?_
  exact sw_call (sw_thanks hk1 hk hAN q x) (fun r υ ω q => sv_sw (sv_ret q rfl)) (fun r r' υ ω q => ⟨_, _, _, _, true, rfl, rfl, q, fun z => by cases z⟩)
theorem sw_deals (hk1 : 1 ≤ kd) (hk : kd ≤ 5) (hAN : (A - N = 0) = (N = A)) {τ : SC} {σ : SM} (h : RV N A kd τ0 σ0 false τ σ) (x : Int32) : SW N A kd τ0 σ0 (fN_deals kd x τ) (fm_deals x σ) := by
  unfold fm_deals
  rw [(rv_N h).2.2.2.2]
  have P : SW N A kd τ0 σ0 (gD kd x τ) (Option.bind (fm_dealsPlain x σ) fun p_ => hl p_.1 fun q7 => hl p_.2 fun σ8 => (some (q7, σ8))) := by
    obtain ⟨r, r', υ, ω, p, h1, h2, h3, h4⟩ := sw_gD hk1 hk hAN h x
    rw [h1, h2]
    exact ⟨r, r', υ, ω, p, rfl, rfl, h3, h4⟩
  rcases (show kd = 1 ∨ kd = 2 ∨ kd = 3 ∨ kd = 4 ∨ kd = 5 by omega) with rfl | rfl | rfl | rfl | rfl
  · exact P
  · exact P
  · show SW _ _ _ _ _ (Option.bind (fc_vo_begin (51 : Int32) τ) fun τ2 => (Option.bind (gD 3 x τ2) fun p_ => hl p_.1 fun q3 => hl p_.2 fun τ4 => (Option.bind (fN_tells 3 (τ4.1 501 0) τ4) fun p_ => hl p_.1 fun q5 => hl p_.2 fun τ6 => (some ((q3 - q5), τ6))))) (Option.bind (fm_runs (51 : Int32) σ) fun σ2 => (Option.bind (fm_dealsPlain x σ2) fun p_ => hl p_.1 fun q3 => hl p_.2 fun σ4 => (if (σ4 39 0) = 0 then (Option.bind (fm_tells (σ4 38 0) σ4) fun p_ => hl p_.1 fun q5 => hl p_.2 fun σ6 => (some ((q3 - q5), σ6))) else (some ((0 : Int32), σ4)))))
    refine sv_run h 51 fun υ ω q => sw_call (sw_gD hk1 hk hAN q x) (fun r υ ω q => ?_) (fun r r' υ ω q => ?_)
    · simp only [pb_hl]
      rw [(rv_N q).2.2.1, (rv_N q).2.2.2.1]
      have e : ω 39 0 = 0 := by
        obtain ⟨n, hn, h1, h2, h3, h4, h5, -⟩ := q
        exact h5
      rw [if_pos e]
      exact sv_call (sv_tells hk1 hk q A) fun r υ ω q => sv_sw (sv_ret q rfl)
    · simp only [pb_hl]
      have e : ω 39 0 = 1 := by
        obtain ⟨n, hn, h1, h2, h3, h4, h5, -⟩ := q
        exact h5
      obtain ⟨z, hz⟩ := rv_tells3 q (υ.1 501 0)
      rw [if_neg (show ¬ ω 39 0 = 0 by rw [e]; decide), hz]
      exact ⟨_, _, _, _, true, rfl, rfl, q, fun z => by cases z⟩
  · exact P
  · exact P
theorem hAN_fin : ∀ a, a < 6 → ∀ k, k < 6 → (nI a - nI k = 0 ↔ nI k = nI a) := by decide +kernel
theorem st_act {τ : SC} {σ : SM} (h : Inv τ σ) (x1 x2 x3 : Int32) : stp (fc_hh_act x1 x2 x3 τ) (fm_act x1 x2 x3 σ) := by
  obtain ⟨i1, i2, i3, i4, i5, i6, i7⟩ := id h
  have I0 : Inv (sc (sc τ 502 (fun _ => 0)) 504 (fun _ => 0)) (sf σ 35 (fun _ => 0)) := ⟨i1, i2, i3, i4, i5, i6, ⟨0, by decide, rfl, rfl, fun j hj => by omega⟩⟩
  unfold fc_hh_act fm_act fc_vo_clear
  simp only [pb_hl, pb_bs, rg_within, rg_isShelf, ri_0_3]
  by_cases c1 : (0 : Int32) ≤ x1 ∧ x1 ≤ 3
  · obtain ⟨t, -, ht, rfl⟩ := rk_0_3 c1
    simp only [if_pos c1, one0, if_false]
    by_cases c2 : (0 : Int32) ≤ x2 ∧ x2 ≤ 3
    · simp only [if_pos c2, one0, if_false]
      obtain ⟨w, -, hw, rfl⟩ := rk_0_3 c2
      rcases shelf_see I0 (show t < 4 by omega) with ⟨s1, s2, s3⟩ | ⟨v, pr, k, tt, hk, s1, s2, s3, s4, s5⟩ | ⟨k, z, hk, hz, s1, s2, s3, s4, s5, s6, s7⟩
      · rw [s1, s2]
        exact ⟨_, _, _, rfl, rfl, I0⟩
      · obtain ⟨t1, t2, t3, -⟩ := id tt
        have b6 := t3.1
        have bk := t3.2.2.2.2.2.2.2.2.1 k hk
        rw [s1, s2]
        simp (disch := omega) only [pb_bs, one0, not_false_eq_true, if_true, pb_in, pb_oc, pb_cl]
        rw [s5]
        simp (disch := omega) only [pb_bs, pb_in, pb_oc, pb_cl]
        have m1 : (sf (sf σ 35 fun _ => 0) 39 fun _ => 0) 32 t = nI k := s4
        rw [m1, em_its0 (σ := sf (sf σ 35 fun _ => 0) 39 fun _ => 0) t1 hk t3, pb_bs]
        have m2 : (sf (sf (sf σ 35 fun _ => 0) 39 fun _ => 0) 36 fun _ => nI (v 14 k)) 32 t = nI k := s4
        rw [m2]
        have m3 : (sf (sf (sf (sf σ 35 fun _ => 0) 39 fun _ => 0) 36 fun _ => nI (v 14 k)) 37 fun _ => nI k) 32 t = nI k := s4
        rw [m3, em_its3 (σ := sf (sf (sf (sf σ 35 fun _ => 0) 39 fun _ => 0) 36 fun _ => nI (v 14 k)) 37 fun _ => nI k) t1 hk t3, pb_bs]
        obtain ⟨g1, -, -, g4⟩ := t2.2.2.2.2.2.2.2.1 k hk
        have n1 : (sc (sc (sc τ 502 fun _ => 0) 504 fun _ => 0) 500 fun _ => nI k).1 117 k = nI (v 17 k) := g4
        rw [n1]
        have n2 : (sc (sc (sc (sc τ 502 fun _ => 0) 504 fun _ => 0) 500 fun _ => nI k) 501 fun _ => nI (v 17 k)).1 114 k = nI (v 14 k) := g1
        rw [n2]
        simp (disch := omega) only [pb_bs, pb_in, pb_oc, pb_cl]
        have hAN : (nI (v 17 k) - nI k = 0) = (nI k = nI (v 17 k)) := propext (hAN_fin _ (by omega) _ (by omega))
        have R : RV (nI k) (nI (v 17 k)) (v 14 k) τ σ false (sc (sc (sc (sc τ 502 fun _ => 0) 504 fun _ => 0) 500 fun _ => nI k) 501 fun _ => nI (v 17 k)) (sf (sf (sf (sf (sf σ 35 fun _ => 0) 39 fun _ => 0) 36 fun _ => nI (v 14 k)) 37 fun _ => nI k) 38 fun _ => nI (v 17 k)) := by
          refine ⟨0, by decide, rfl, rfl, fun j hj => by omega, rfl, rfl, rfl, rfl, rfl, rfl, rfl, fun q hq => ?_, rfl, fun q hq => ?_⟩
          · simp (disch := omega) only [sc_ne]
          · unfold sf
            rw [if_neg (by omega), if_neg (by omega), if_neg (by omega), if_neg (by omega), if_neg (by omega)]
        have F : ∀ {p : Bool} {υ : SC} {ω : SM}, RV (nI k) (nI (v 17 k)) (v 14 k) τ σ p υ ω → Inv υ ω := by
          intro p υ ω q
          obtain ⟨n, hn, h1, h2, h3, h4, h5, h6, h7, h8, h9, h10, h11, h12, h13⟩ := q
          obtain ⟨v', pr', i1'⟩ := i1
          refine ⟨⟨v', pr', ?_⟩, ⟨?_, ?_⟩, ?_, ?_, ?_, ?_, ⟨n, hn, h2, h1, h3⟩⟩
          · rw [h13 0 (by decide)]
            exact frC_town (fun q a b => h11 q (by omega)) i1'
          · rw [h11 2 (by decide), h13 2 (by decide)]
            exact i2.1
          · rw [h13 2 (by decide), h13 1 (by decide)]
            rcases i2.2 with z | ⟨z, v2, pr2, u1, u2, u3, u4, u5, u6, u7⟩
            · exact Or.inl z
            · exact Or.inr ⟨z, v2, pr2, u1, twC_cg (fun q a b => h11 q (by omega)) u2, u3, u4, u5, (congrFun (h11 204 (by decide)) 0).trans u6, (congrFun (h11 209 (by decide)) 0).trans u7⟩
          · unfold ivTape
            rw [h11 6 (by decide), h11 7 (by decide), h13 4 (by decide), h13 5 (by decide)]
            exact i3
          · unfold ivRows
            rw [h11 8 (by decide), h11 9 (by decide), h13 26 (by decide), h13 27 (by decide)]
            exact i4
          · unfold ivSheet
            rw [h11 10 (by decide), h11 11 (by decide), h13 28 (by decide), h13 29 (by decide), h13 30 (by decide), h12]
            exact i5
          · unfold ivShelf
            rw [h11 13 (by decide), h11 14 (by decide), h11 15 (by decide), h13 31 (by decide), h13 32 (by decide), h13 33 (by decide)]
            exact i6
        have E : ∀ {a : Option (Int32 × SC)} {b : Option (Int32 × SM)}, SW (nI k) (nI (v 17 k)) (v 14 k) τ σ a b → stp (Option.bind a fun p_ => fc_hh_act_b173 p_.1 p_.2) (Option.bind b fun p_ => fm_act_b123 p_.1 p_.2) := by
          intro a b q
          obtain ⟨r, r', υ, ω, p, h1, h2, h3, h4⟩ := q
          rw [h1, h2, pb_bs, pb_bs]
          unfold fc_hh_act_b173 fm_act_b123
          have e1 : υ.1 502 0 = (if p = true then 1 else 0) ∧ ω 39 0 = (if p = true then 1 else 0) := by
            obtain ⟨n, hn, h1, h2, h3, h4, h5, -⟩ := h3
            exact ⟨h4, h5⟩
          show stp (if υ.1 502 0 = 0 then some (r, υ) else some (-15, υ)) (if ω 39 0 = 0 then some (r', ω) else some (-15, ω))
          rw [e1.1, e1.2]
          cases p with
          | false =>
            rw [h4 rfl]
            exact ⟨_, _, _, rfl, rfl, F h3⟩
          | true => exact ⟨_, _, _, rfl, rfl, F h3⟩
        rcases (show w = 0 ∨ w = 1 ∨ w = 2 ∨ w = 3 by omega) with rfl | rfl | rfl | rfl
        · exact E (sv_sw (sv_knocks bk.1.1 bk.1.2 R x3))
        · exact E (sv_sw (sv_tells bk.1.1 bk.1.2 R x3))
        · exact E (sw_thanks bk.1.1 bk.1.2 hAN R x3)
        · exact E (sw_deals bk.1.1 bk.1.2 hAN R x3)
      · rw [s1, s2]
        exact ⟨_, _, _, rfl, rfl, I0⟩
    · simp only [if_neg c2, zer0, if_true]
      exact ⟨_, _, _, rfl, rfl, I0⟩
  · simp only [if_neg c1, zer0, if_true]
    exact ⟨_, _, _, rfl, rfl, I0⟩
end S11
