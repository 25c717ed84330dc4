/-! PURE: the class's rules -/
theorem pb_neg {a : Nat} (h : a < 10000) : (-1 : Int32) - nI a < 0 := by
  rw [Int32.lt_iff_toInt_lt, fb_subI (by rw [nI_toInt (by omega), pb_neg1]; omega) (by rw [nI_toInt (by omega), pb_neg1]; omega), nI_toInt (by omega), pb_neg1, show (0 : Int32).toInt = 0 by decide]
  omega
theorem pb_shl1 {t : Nat} (h : t < 1073741824) : nI t <<< ((1 : Int32) &&& 31) = nI (2 * t) := by
  rw [pk_shlN ((1 : Int32) &&& 31) 1 (by decide) (by omega)]
  congr 1
  omega
theorem pb_shr1 {t : Nat} (h : t < 2147483648) : nI t >>> ((1 : Int32) &&& 31) = nI (t / 2) := by
  rw [pk_shrN (by omega) ((1 : Int32) &&& 31) 1 (by decide)]
theorem pb_and2 {t : Nat} (h : t < 1073741824) : nI (t / 2) &&& (nI t ||| (-2 : Int32)) = nI (if t % 2 = 1 then t / 2 else t / 2 / 2 * 2) := by
  rw [show (-2 : Int32) = nI (2 ^ 32 - 2) by decide +kernel, fa_or, fa_and]
  congr 1
  apply Nat.eq_of_testBit_eq
  intro i
  rw [Nat.testBit_and, Nat.testBit_or, show (2 : Nat) ^ 32 - 2 = (2 ^ 31 - 1) * 2 ^ 1 by decide, Nat.testBit_mul_two_pow]
  by_cases hi : 1 ≤ i
  · simp only [hi, decide_true, Bool.true_and, Nat.testBit_two_pow_sub_one]
    by_cases h3 : i < 32
    · simp only [show i - 1 < 31 by omega, decide_true, Bool.or_true, Bool.and_true]
      split
      · rfl
      · rw [show t / 2 / 2 * 2 = (t / 2 / 2 ^ 1) * 2 ^ 1 by rw [Nat.pow_one], Nat.testBit_mul_two_pow]
        simp only [hi, decide_true, Bool.true_and, Nat.testBit_div_two_pow]
        rw [show i - 1 + 1 = i by omega]
    · have hp : (1073741824 : Nat) ≤ 2 ^ i := by calc 1073741824 = 2 ^ 30 := by decide
        _ ≤ 2 ^ i := Nat.pow_le_pow_right (by decide) (by omega)
      have z1 : (t / 2).testBit i = false := Nat.testBit_lt_two_pow (by omega)
      rw [z1, Bool.false_and]
      split
      · exact z1.symm
      · exact (Nat.testBit_lt_two_pow (by omega)).symm
  · have : i = 0 := by omega
    subst this
    simp only [Nat.testBit_zero]
    split
    · rename_i e
      simp [e]
    · rename_i e
      have e0 : t % 2 = 0 := by omega
      simp [e0]
section CRU
variable {τ : SC} {v : VT} {pr : List RU} {o : Nat} {fa : Nat → Nat}
theorem ec_valueOf (hF : ∀ i, i < 5 → τ.1 126 i = nI (fa i)) {a : Nat} (ha : a < 10005) : fc_ru_valueOf_R0 τ (enc a) = some (nI (vvl fa a)) := by
  unfold fc_ru_valueOf_R0 enc vvl
  by_cases h : a < 10000
  · rw [if_pos h, if_pos h, pb_hl, if_pos (pb_neg h)]
  · rw [if_neg h, if_neg h, pb_hl]
    have key : ∀ i, i < 5 → (-1 : Int32) - ((-1 : Int32) - nI i) = nI i := by decide +kernel
    have hi : a - 10000 < 5 := by omega
    rw [key _ hi, if_neg (nI_pos (by omega)), if_neg (show ¬ (5 : Int32) ≤ nI (a - 10000) by rw [show (5 : Int32) = nI 5 from rfl, pb_le (by decide) (by omega)]; omega), pb_in (by omega) hi, pb_oc, pb_cl (by omega), hF _ hi]
theorem ec_b189 {K : Int32 → Option Int32} {KK : Int32 → Int32 → Int32 → Option Int32} {x2 x3 : Int32} {p : Nat} : fc_ru_holds_R0_b189 τ K KK x2 x3 (nI p) = KK x2 x3 (nI (p + 1)) := by
  unfold fc_ru_holds_R0_b189
  rw [show (1 : Int32) = nI 1 from rfl, pb_add]
theorem ec_b169_0 {K : Int32 → Option Int32} {KK : Int32 → Int32 → Int32 → Option Int32} {x2 : Int32} {t p : Nat} (h : t < 1073741824) : fc_ru_holds_R0_b169 τ K KK x2 (nI t) (nI p) (nI 0) = KK x2 (nI (2 * t)) (nI (p + 3)) := by
  unfold fc_ru_holds_R0_b169 fc_ru_holds_R0_b184
  rw [if_pos (show nI 0 = 0 from rfl), pb_shl1 h, pb_hl, show (2 : Int32) = nI 2 from rfl, pb_add, ec_b189, show (0 : Int32) = nI 0 from rfl, fa_or, Nat.or_zero]
theorem ec_b169_1 {K : Int32 → Option Int32} {KK : Int32 → Int32 → Int32 → Option Int32} {x2 : Int32} {t p : Nat} (h : t < 1073741824) : fc_ru_holds_R0_b169 τ K KK x2 (nI t) (nI p) (nI 1) = KK x2 (nI (2 * t + 1)) (nI (p + 3)) := by
  unfold fc_ru_holds_R0_b169 fc_ru_holds_R0_b184
  rw [if_neg (by decide), pb_shl1 h, pb_hl, show (2 : Int32) = nI 2 from rfl, pb_add, ec_b189, show (1 : Int32) = nI 1 from rfl, show nI (2 * t) ||| nI 1 = nI (2 * t + 1) from fa_or_sum (k := 1) (a := 1) t (by decide)]
set_option maxHeartbeats 4000000 in
theorem ec_holds_l (hF : ∀ i, i < 5 → τ.1 126 i = nI (fa i)) (hfa : ∀ i, fa i ≤ 99) (K : Int32 → Option Int32) : ∀ (ss : List RS) (p t d n : Nat), stC (τ.1 124) p ss → p + clen ss ≤ 200 → vokS d ss = true → t < 2 ^ (d + 1) → d ≤ 28 → ss.length < n → fc_ru_holds_R0_l5 τ K n (nI (p + clen ss)) (nI t) (nI p) = K (nI (ss.foldl (vstp fa) t)) := by
  intro ss
  induction ss with
  | nil =>
    intro p t d n _ hp _ _ _ hn
    obtain ⟨m, rfl⟩ : ∃ m, n = m + 1 := ⟨n - 1, by omega⟩
    have e : clen ([] : List RS) = 0 := rfl
    rw [e] at hp
    unfold fc_ru_holds_R0_l5
    rw [e, if_pos (show nI (p + 0) ≤ nI p by rw [pb_le (by omega) (by omega)]; omega)]
    rfl
  | cons q ss ih =>
    intro p t d n hst hp hok ht hd hn
    obtain ⟨s, a, b⟩ := q
    obtain ⟨m, rfl⟩ : ∃ m, n = m + 1 := ⟨n - 1, by omega⟩
    simp only [List.length_cons] at hn
    have ht30 : t < 1073741824 := Nat.lt_of_lt_of_le ht (by calc 2 ^ (d + 1) ≤ 2 ^ 29 := Nat.pow_le_pow_right (by decide) (by omega)
      _ ≤ 1073741824 := by decide)
    have ecl : clen ((s, a, b) :: ss) = (if s < 3 then 3 else 1) + clen ss := rfl
    rw [List.foldl_cons]
    have hvl : ∀ a, a < 10005 → vvl fa a < 10000 := by
      intro a _
      have := hfa (a - 10000)
      unfold vvl
      split <;> omega
    by_cases hs : s < 3
    · have hok2 : (d < 28 ∧ a < 10005 ∧ b < 10005) ∧ vokS (d + 1) ss = true := by
        unfold vokS at hok
        rw [if_pos hs] at hok
        simpa using hok
      obtain ⟨⟨g1, g2, g3⟩, g4⟩ := hok2
      rw [if_pos hs] at ecl
      have hst2 : τ.1 124 p = nI (s + 3) ∧ τ.1 124 (p + 1) = enc a ∧ τ.1 124 (p + 2) = enc b ∧ stC (τ.1 124) (p + 3) ss := by
        unfold stC at hst
        rwa [if_pos hs] at hst
      obtain ⟨s1, s2, s3, s4⟩ := hst2
      have hnew := vstp_lt (fa := fa) (t := t) (d := d) (q := (s, a, b)) (Or.inl g1) ht
      rw [if_pos (show (s, a, b).1 < 3 from hs)] at hnew
      have IH := ih (p + 3) (vstp fa t (s, a, b)) (d + 1) m s4 (by omega) g4 hnew (by omega) (by omega)
      rw [show p + 3 + clen ss = p + clen ((s, a, b) :: ss) by omega] at IH
      have hva := hvl a g2
      have hvb := hvl b g3
      unfold fc_ru_holds_R0_l5
      rw [← IH]
      rw [if_neg (show ¬ nI (p + clen ((s, a, b) :: ss)) ≤ nI p by rw [pb_le (by omega) (by omega)]; omega), if_neg (show ¬ (200 : Int32) ≤ nI p by rw [show (200 : Int32) = nI 200 from rfl, pb_le (by decide) (by omega)]; omega), pb_in (by omega) (by omega), pb_oc, pb_cl (by omega), s1, pb_hl, if_pos (show ¬ nI (s + 3) = 0 by rw [pb_ez (by omega)]; omega), if_pos (show ¬ nI (s + 3) = (1 : Int32) by rw [show (1 : Int32) = nI 1 from rfl, pb_eq (by omega) (by decide)]; omega), if_pos (show ¬ nI (s + 3) = (2 : Int32) by rw [show (2 : Int32) = nI 2 from rfl, pb_eq (by omega) (by decide)]; omega)]
      simp (disch := omega) only [pb_lit, pb_add, pb_le, pb_in, pb_oc, pb_cl]
      rw [s2, s3, ec_valueOf hF g2, ec_valueOf hF g3, if_neg (show ¬ 200 ≤ p + 2 by omega)]
      simp (disch := omega) only [pb_bs, pb_eq, pb_le]
      rcases (show s = 0 ∨ s = 1 ∨ s = 2 by omega) with rfl | rfl | rfl
      · rw [if_neg (show ¬ ¬ (0 : Nat) + 3 = 3 by simp)]
        by_cases hc : vvl fa a < vvl fa b
        · rw [if_neg (show ¬ vvl fa b ≤ vvl fa a by omega), ec_b169_1 ht30]
          simp [vstp, hc]
        · rw [if_pos (show vvl fa b ≤ vvl fa a by omega), ec_b169_0 ht30]
          simp [vstp, hc]
      · rw [if_pos (show ¬ (1 : Nat) + 3 = 3 by simp), if_neg (show ¬ ¬ (1 : Nat) + 3 = 4 by simp)]
        by_cases hc : vvl fa a = vvl fa b
        · rw [if_neg (show ¬ ¬ vvl fa a = vvl fa b by simpa using hc), ec_b169_1 ht30]
          simp [vstp, hc]
        · rw [if_pos (show ¬ vvl fa a = vvl fa b from hc), ec_b169_0 ht30]
          simp [vstp, hc]
      · rw [if_pos (show ¬ (2 : Nat) + 3 = 3 by simp), if_pos (show ¬ (2 : Nat) + 3 = 4 by simp)]
        by_cases hc : vvl fa b < vvl fa a
        · rw [if_neg (show ¬ vvl fa a ≤ vvl fa b by omega), ec_b169_1 ht30]
          simp [vstp, hc]
        · rw [if_pos (show vvl fa a ≤ vvl fa b by omega), ec_b169_0 ht30]
          simp [vstp, hc]
    · have hok2 : s < 6 ∧ (if s = 3 then vokS d ss else vokS (d - 1) ss) = true := by
        unfold vokS at hok
        rw [if_neg hs] at hok
        simpa using hok
      obtain ⟨g1, g4⟩ := hok2
      rw [if_neg hs] at ecl
      have hst2 : τ.1 124 p = nI (s - 3) ∧ stC (τ.1 124) (p + 1) ss := by
        unfold stC at hst
        rwa [if_neg hs] at hst
      obtain ⟨s1, s4⟩ := hst2
      have hnew := vstp_lt (fa := fa) (t := t) (d := d) (q := (s, a, b)) (Or.inr (show 3 ≤ (s, a, b).1 by show 3 ≤ s; omega)) ht
      rw [if_neg (show ¬ (s, a, b).1 < 3 from hs)] at hnew
      have IH : fc_ru_holds_R0_l5 τ K m (nI (p + 1 + clen ss)) (nI (vstp fa t (s, a, b))) (nI (p + 1)) = K (nI (ss.foldl (vstp fa) (vstp fa t (s, a, b)))) := by
        by_cases h3s : s = 3
        · rw [if_pos h3s] at g4
          rw [if_pos (show (s, a, b).1 = 3 from h3s)] at hnew
          exact ih (p + 1) (vstp fa t (s, a, b)) d m s4 (by omega) g4 hnew (by omega) (by omega)
        · rw [if_neg h3s] at g4
          rw [if_neg (show ¬ (s, a, b).1 = 3 from h3s)] at hnew
          exact ih (p + 1) (vstp fa t (s, a, b)) (d - 1) m s4 (by omega) g4 hnew (by omega) (by omega)
      rw [show p + 1 + clen ss = p + clen ((s, a, b) :: ss) by omega] at IH
      unfold fc_ru_holds_R0_l5
      rw [← IH]
      rw [if_neg (show ¬ nI (p + clen ((s, a, b) :: ss)) ≤ nI p by rw [pb_le (by omega) (by omega)]; omega), if_neg (show ¬ (200 : Int32) ≤ nI p by rw [show (200 : Int32) = nI 200 from rfl, pb_le (by decide) (by omega)]; omega), pb_in (by omega) (by omega), pb_oc, pb_cl (by omega), s1, pb_hl]
      rcases (show s = 3 ∨ s = 4 ∨ s = 5 by omega) with rfl | rfl | rfl
      · rw [if_neg (show ¬ ¬ nI (3 - 3) = 0 by decide), pb_hl, ec_b189, show (1 : Int32) = nI 1 from rfl, fb_xorI]
        rfl
      · rw [if_pos (show ¬ nI (4 - 3) = 0 by decide), if_neg (show ¬ ¬ nI (4 - 3) = (1 : Int32) by decide), pb_hl, ec_b189, pb_shr1 (by omega), pb_and2 ht30]
        rfl
      · rw [if_pos (show ¬ nI (5 - 3) = 0 by decide), if_pos (show ¬ nI (5 - 3) = (1 : Int32) by decide), if_neg (show ¬ ¬ nI (5 - 3) = (2 : Int32) by decide), pb_hl, ec_b189, pb_shr1 (by omega), show nI t &&& (1 : Int32) = nI (t % 2) from fa_mask t 1, fa_or]
        rfl
theorem vfold_lt {fa : Nat → Nat} : ∀ (qs : List RS) (t d : Nat), vokS d qs = true → t < 2 ^ (d + 1) → d ≤ 28 → qs.foldl (vstp fa) t < 2 ^ 29 := by
  intro qs
  induction qs with
  | nil =>
    intro t d _ ht hd
    exact Nat.lt_of_lt_of_le ht (Nat.pow_le_pow_right (by decide) (by omega))
  | cons q qs ih =>
    intro t d hok ht hd
    obtain ⟨s, a, b⟩ := q
    rw [List.foldl_cons]
    by_cases hs : s < 3
    · have hok2 : (d < 28 ∧ a < 10005 ∧ b < 10005) ∧ vokS (d + 1) qs = true := by
        unfold vokS at hok
        rw [if_pos hs] at hok
        simpa using hok
      have hnew := vstp_lt (fa := fa) (t := t) (d := d) (q := (s, a, b)) (Or.inl hok2.1.1) ht
      rw [if_pos (show (s, a, b).1 < 3 from hs)] at hnew
      exact ih _ (d + 1) hok2.2 hnew (by have := hok2.1.1; omega)
    · have hok2 : s < 6 ∧ (if s = 3 then vokS d qs else vokS (d - 1) qs) = true := by
        unfold vokS at hok
        rw [if_neg hs] at hok
        simpa using hok
      have hnew := vstp_lt (fa := fa) (t := t) (d := d) (q := (s, a, b)) (Or.inr (show 3 ≤ (s, a, b).1 by show 3 ≤ s; omega)) ht
      rw [if_neg (show ¬ (s, a, b).1 < 3 from hs)] at hnew
      by_cases h3s : s = 3
      · rw [if_pos h3s] at hok2
        rw [if_pos (show (s, a, b).1 = 3 from h3s)] at hnew
        exact ih _ d hok2.2 hnew hd
      · rw [if_neg h3s] at hok2
        rw [if_neg (show ¬ (s, a, b).1 = 3 from h3s)] at hnew
        exact ih _ (d - 1) hok2.2 hnew (by omega)
theorem ec_holds (hF : ∀ i, i < 5 → τ.1 126 i = nI (fa i)) (hfa : ∀ i, fa i ≤ 99) {ss : List RS} {p : Nat} (hst : stC (τ.1 124) p ss) (hp : p + clen ss ≤ 200) (hok : vokS 0 ss = true) (hl : ss.length < 1000) : fc_ru_holds_R0 τ (nI p) (nI (p + clen ss)) = some (if vholds fa ss = true then 1 else 0) := by
  unfold fc_ru_holds_R0
  rw [show (1 : Int32) = nI 1 from rfl, ec_holds_l hF hfa _ ss p 1 0 hFU hst hp hok (by decide) (by omega) (by unfold hFU; omega)]
  have hb := vfold_lt (fa := fa) ss 1 0 hok (by decide) (by omega)
  unfold fc_ru_holds_R0_b195 vholds
  rw [show nI (ss.foldl (vstp fa) 1) &&& (1 : Int32) = nI (ss.foldl (vstp fa) 1 % 2) from fa_mask _ 1]
  by_cases hc : ss.foldl (vstp fa) 1 % 2 = 1
  · rw [hc, if_neg (by decide), if_pos (by decide)]
    rfl
  · rw [show ss.foldl (vstp fa) 1 % 2 = 0 by omega, if_pos (by decide), if_neg (by decide)]
theorem clen_le : ∀ ss : List RS, ss.length ≤ clen ss := by
  intro ss
  induction ss with
  | nil => exact Nat.le_refl _
  | cons q ss ih =>
    obtain ⟨s, a, b⟩ := q
    have e : clen ((s, a, b) :: ss) = (if s < 3 then 3 else 1) + clen ss := rfl
    rw [e, List.length_cons]
    split <;> omega
theorem ec_tell_l (hF : ∀ i, i < 5 → τ.1 126 i = nI (fa i)) (hfa : ∀ i, fa i ≤ 99) {kd : Nat} (hkd : kd ≤ 5) : ∀ (rs : List RU) (r p n : Nat), ruC (τ.1 121) (τ.1 122) (τ.1 123) (τ.1 124) r p rs → τ.1 120 0 = nI (r + rs.length) → r + rs.length ≤ 8 → p + vclen rs ≤ 200 → (∀ q ∈ rs, vokR q) → rs.length < n → fc_ru_tell_R0_l4 τ n (nI kd) (nI p) (nI r) = some (nI (vwill fa kd rs)) := by
  intro rs
  induction rs with
  | nil =>
    intro r p n _ h5 hr _ _ hn
    obtain ⟨m, rfl⟩ : ∃ m, n = m + 1 := ⟨n - 1, by omega⟩
    simp only [List.length_nil] at h5 hr
    unfold fc_ru_tell_R0_l4
    rw [h5, if_pos (show nI (r + 0) ≤ nI r by rw [pb_le (by omega) (by omega)]; omega)]
    rfl
  | cons q rs ih =>
    intro r p n hru h5 hr hp hok hn
    obtain ⟨m, rfl⟩ : ∃ m, n = m + 1 := ⟨n - 1, by omega⟩
    obtain ⟨k, d, ss⟩ := q
    obtain ⟨g1, g2, g3, g4, g5⟩ := hru
    simp only [List.length_cons] at h5 hr hn
    have hl : vclen ((k, d, ss) :: rs) = clen ss + vclen rs := by simp [vclen]
    rw [hl] at hp
    obtain ⟨c1, c2, c3⟩ := hok _ List.mem_cons_self
    have IH := ih (r + 1) (p + clen ss) m g5 (by rw [h5]; congr 1; omega) (by omega) (by omega) (fun q hq => hok q (List.mem_cons_of_mem _ hq)) (by omega)
    have hb : fc_ru_tell_R0_b52 τ (fc_ru_tell_R0_l4 τ m) (nI kd) (nI r) = some (nI (vwill fa kd rs)) := by
      unfold fc_ru_tell_R0_b52
      rw [pb_in (by omega) (by omega), pb_oc, pb_cl (by omega), pb_hl, g3, show (1 : Int32) = nI 1 from rfl, pb_add]
      exact IH
    have hlen := clen_le ss
    have hh := ec_holds hF hfa (p := p) g4 (by omega) c3 (by omega)
    unfold fc_ru_tell_R0_l4
    rw [h5, if_neg (show ¬ nI (r + (rs.length + 1)) ≤ nI r by rw [pb_le (by omega) (by omega)]; omega), if_neg (show ¬ (8 : Int32) ≤ nI r by rw [show (8 : Int32) = nI 8 from rfl, pb_le (by decide) (by omega)]; omega), pb_in (by omega) (by omega), pb_oc, pb_cl (by omega), g1, ec_under kd (by omega) k (Nat.lt_succ_of_le c1), pb_bs, pb_oc, g3, hh, pb_bs, pb_oc, g2, hb]
    rw [show vwill fa kd ((k, d, ss) :: rs) = if vunder kd k = true ∧ vholds fa ss = true then d else vwill fa kd rs from rfl]
    by_cases hu : vunder kd k = true
    · rw [if_pos hu, if_neg (by decide)]
      by_cases hd : vholds fa ss = true
      · rw [if_pos hd, if_neg (by decide), if_pos ⟨hu, hd⟩]
      · rw [if_neg hd, if_pos (by decide), if_neg (fun z => hd z.2)]
    · rw [if_neg hu, if_pos (by decide), if_neg (fun z => hu z.1)]
end CRU
