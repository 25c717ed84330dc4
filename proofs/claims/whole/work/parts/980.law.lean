/-! PURE: the law's loop ends with 1 -/
theorem law_t {Ln : Nat} (hL : Ln ≤ 2560) : (nI Ln - (5 : Int32)).toInt = (Ln : Int) - 5 := by
  rw [Int32.toInt_sub, pb_toInt (by omega), show (5 : Int32).toInt = 5 from by decide, fb_bmod (by omega) (by omega)]
theorem law_c {Ln i : Nat} (hL : Ln ≤ 2560) (hi : i ≤ 2570) (h : Ln < i + 5) : nI Ln - (5 : Int32) < nI i := by
  rw [Int32.lt_iff_toInt_lt, law_t hL, pb_toInt (by omega)]
  omega
theorem law_d {Ln i : Nat} (hL : Ln ≤ 2560) (hi : i ≤ 2570) (h : ¬ Ln < i + 5) : ¬ nI Ln - (5 : Int32) < nI i := by
  rw [Int32.lt_iff_toInt_lt, law_t hL, pb_toInt (by omega)]
  omega
set_option maxHeartbeats 4000000 in
theorem law_l {xs : Nat → Int32} {Ln : Nat} (hL : Ln ≤ 2560) : ∀ (m i fu : Nat) (ρ : SL), Ln < i + 5 * m + 5 → m < fu → i ≤ 2570 → Inv ρ.1 ρ.2 → fl_law_l18 xs Ln fu (nI i) ρ = some 1 := by
  intro m
  induction m with
  | zero =>
    intro i fu ρ h1 h2 h3 hI
    obtain ⟨q, rfl⟩ : ∃ q, fu = q + 1 := ⟨fu - 1, by omega⟩
    rw [fl_law_l18, if_pos (law_c (by omega) (by omega) (by omega))]
  | succ m ih =>
    intro i fu ρ h1 h2 h3 hI
    obtain ⟨q, rfl⟩ : ∃ q, fu = q + 1 := ⟨fu - 1, by omega⟩
    rw [fl_law_l18]
    by_cases c : Ln < i + 5
    · rw [if_pos (law_c (by omega) (by omega) c)]
    · have IH : ∀ υ ω, Inv υ ω → fl_law_b1782 xs Ln (fl_law_l18 xs Ln q) (nI i) (υ, ω) = some 1 := fun υ ω h => by
        unfold fl_law_b1782
        rw [show nI i + (5 : Int32) = nI (i + 5) from pb_add i 5]
        exact ih (i + 5) q (υ, ω) (by omega) (by omega) (by omega) h
      generalize fl_law_b1782 xs Ln (fl_law_l18 xs Ln q) (nI i) = K at IH ⊢
      obtain ⟨τ, σ⟩ := ρ
      have hI : Inv τ σ := hI
      have e1 : nI i + (1 : Int32) = nI (i + 1) := pb_add i 1
      have e2 : nI i + (2 : Int32) = nI (i + 2) := pb_add i 2
      have e3 : nI i + (3 : Int32) = nI (i + 3) := pb_add i 3
      have e4 : nI i + (4 : Int32) = nI (i + 4) := pb_add i 4
      rw [if_neg (law_d (by omega) (by omega) c)]
      have h0 : hin (nI i) Ln = true := pb_in (by omega) (by omega)
      have h1 : hin (nI (i + 1)) Ln = true := pb_in (by omega) (by omega)
      have h2 : hin (nI (i + 2)) Ln = true := pb_in (by omega) (by omega)
      have h3 : hin (nI (i + 3)) Ln = true := pb_in (by omega) (by omega)
      have h4 : hin (nI (i + 4)) Ln = true := pb_in (by omega) (by omega)
      rw [e1, e2, e3, e4, h0, h1, h2, h3, h4, pb_oc]
      generalize xs (nI i).toNatClampNeg &&& (63 : Int32) = a0
      generalize xs (nI (i + 1)).toNatClampNeg = a1
      generalize xs (nI (i + 2)).toNatClampNeg = a2
      generalize xs (nI (i + 3)).toNatClampNeg = a3
      generalize xs (nI (i + 4)).toNatClampNeg = a4
      by_cases c0 : a0 = 0
      · rw [if_pos c0]
        obtain ⟨r, υ, ω, q1, q2, q3⟩ := st_guild hI a1 a2 a3 a4
        simp only [pb_oc, q1, q2, qbs, qhl, if_true]
        exact IH υ ω q3
      rw [if_neg c0]
      by_cases c1 : a0 = 1
      · rw [if_pos c1]
        obtain ⟨r, υ, q1, q2, q3⟩ := st_guildOf hI a1 a2
        simp only [pb_oc, q1, q2, qbs, qhl, if_true]
        exact IH υ σ q3
      rw [if_neg c1]
      by_cases c2 : a0 = 2
      · rw [if_pos c2]
        obtain ⟨r, υ, ω, q1, q2, q3⟩ := st_change hI a1 a2 a3
        simp only [pb_oc, q1, q2, qbs, qhl, if_true]
        exact IH υ ω q3
      rw [if_neg c2]
      by_cases c3 : a0 = 3
      · rw [if_pos c3]
        obtain ⟨r, υ, ω, q1, q2, q3⟩ := st_remake hI a1 a2
        simp only [pb_oc, q1, q2, qbs, qhl, if_true]
        exact IH υ ω q3
      rw [if_neg c3]
      by_cases c4 : a0 = 4
      · rw [if_pos c4]
        obtain ⟨r, υ, ω, q1, q2, q3⟩ := st_news hI a1 a2
        simp only [pb_oc, q1, q2, qbs, qhl, if_true]
        exact IH υ ω q3
      rw [if_neg c4]
      by_cases c5 : a0 = 5
      · rw [if_pos c5]
        obtain ⟨r, υ, ω, q1, q2, q3⟩ := st_street hI a1 a2 a3
        simp only [pb_oc, q1, q2, qbs, qhl, if_true]
        exact IH υ ω q3
      rw [if_neg c5]
      by_cases c6 : a0 = 6
      · rw [if_pos c6]
        obtain ⟨r, q1, q2⟩ := st_streetOf hI a1 a2
        simp only [pb_oc, q1, q2, qbs, qhl, if_true]
        exact IH τ σ hI
      rw [if_neg c6]
      by_cases c7 : a0 = 7
      · rw [if_pos c7]
        obtain ⟨r, υ, ω, q1, q2, q3⟩ := st_heart hI a1 a2
        simp only [pb_oc, q1, q2, qbs, qhl, if_true]
        exact IH υ ω q3
      rw [if_neg c7]
      by_cases c8 : a0 = 8
      · rw [if_pos c8]
        obtain ⟨r, υ, ω, q1, q2, q3⟩ := st_ends hI a1
        simp only [pb_oc, q1, q2, qbs, qhl, if_true]
        exact IH υ ω q3
      rw [if_neg c8]
      by_cases c9 : a0 = 9
      · rw [if_pos c9]
        obtain ⟨r, υ, ω, q1, q2, q3⟩ := st_anew hI 
        simp only [pb_oc, q1, q2, qbs, qhl, if_true]
        exact IH υ ω q3
      rw [if_neg c9]
      by_cases c10 : a0 = 10
      · rw [if_pos c10]
        obtain ⟨r, q1, q2⟩ := st_state hI a1
        simp only [pb_oc, q1, q2, qbs, qhl, if_true]
        exact IH τ σ hI
      rw [if_neg c10]
      by_cases c11 : a0 = 11
      · rw [if_pos c11]
        obtain ⟨r, υ, ω, q1, q2, q3⟩ := st_feed hI ((hlshl (Int32.toInt64 a1) (32 : Int32)) ||| ((Int32.toInt64 a2) &&& (4294967295 : Int64))) a3
        simp only [pb_oc, q1, q2, qbs, qhl, if_true]
        exact IH υ ω q3
      rw [if_neg c11]
      by_cases c12 : a0 = 12
      · rw [if_pos c12]
        obtain ⟨r, υ, ω, q1, q2, q3⟩ := st_rules hI 
        simp only [pb_oc, q1, q2, qbs, qhl, if_true]
        exact IH υ ω q3
      rw [if_neg c12]
      by_cases c13 : a0 = 13
      · rw [if_pos c13]
        obtain ⟨r, υ, ω, q1, q2, q3⟩ := st_hour hI 
        simp only [pb_oc, q1, q2, qbs, qhl, if_true]
        exact IH υ ω q3
      rw [if_neg c13]
      by_cases c14 : a0 = 14
      · rw [if_pos c14]
        obtain ⟨r, υ, ω, q1, q2, q3⟩ := st_on hI a1
        simp only [pb_oc, q1, q2, qbs, qhl, if_true]
        exact IH υ ω q3
      rw [if_neg c14]
      by_cases c15 : a0 = 15
      · rw [if_pos c15]
        obtain ⟨r, υ, ω, q1, q2, q3⟩ := st_when hI a1
        simp only [pb_oc, q1, q2, qbs, qhl, if_true]
        exact IH υ ω q3
      rw [if_neg c15]
      by_cases c16 : a0 = 16
      · rw [if_pos c16]
        obtain ⟨r, υ, ω, q1, q2, q3⟩ := st_giftFor hI a1
        simp only [pb_oc, q1, q2, qbs, qhl, if_true]
        exact IH υ ω q3
      rw [if_neg c16]
      by_cases c17 : a0 = 17
      · rw [if_pos c17]
        obtain ⟨r, υ, ω, q1, q2, q3⟩ := st_dueFor hI a1
        simp only [pb_oc, q1, q2, qbs, qhl, if_true]
        exact IH υ ω q3
      rw [if_neg c17]
      by_cases c18 : a0 = 18
      · rw [if_pos c18]
        obtain ⟨r, υ, ω, q1, q2, q3⟩ := st_shows hI a1
        simp only [pb_oc, q1, q2, qbs, qhl, if_true]
        exact IH υ ω q3
      rw [if_neg c18]
      by_cases c19 : a0 = 19
      · rw [if_pos c19]
        obtain ⟨r, υ, ω, q1, q2, q3⟩ := st_right hI a1
        simp only [pb_oc, q1, q2, qbs, qhl, if_true]
        exact IH υ ω q3
      rw [if_neg c19]
      by_cases c20 : a0 = 20
      · rw [if_pos c20]
        obtain ⟨r, q1, q2⟩ := st_queues hI a1
        simp only [pb_oc, q1, q2, qbs, qhl, if_true]
        exact IH τ σ hI
      rw [if_neg c20]
      by_cases c21 : a0 = 21
      · rw [if_pos c21]
        obtain ⟨r, q1, q2⟩ := st_errands hI a1 a2
        simp only [pb_oc, q1, q2, qbs, qhl, if_true]
        exact IH τ σ hI
      rw [if_neg c21]
      by_cases c22 : a0 = 22
      · rw [if_pos c22]
        obtain ⟨r, υ, ω, q1, q2, q3⟩ := st_best hI a1
        simp only [pb_oc, q1, q2, qbs, qhl, if_true]
        exact IH υ ω q3
      rw [if_neg c22]
      by_cases c23 : a0 = 23
      · rw [if_pos c23]
        obtain ⟨r, υ, ω, q1, q2, q3⟩ := st_ith hI a1 a2
        simp only [pb_oc, q1, q2, qbs, qhl, if_true]
        exact IH υ ω q3
      rw [if_neg c23]
      by_cases c24 : a0 = 24
      · rw [if_pos c24]
        obtain ⟨r, υ, ω, q1, q2, q3⟩ := st_ways hI a1
        simp only [pb_oc, q1, q2, qbs, qhl, if_true]
        exact IH υ ω q3
      rw [if_neg c24]
      by_cases c25 : a0 = 25
      · rw [if_pos c25]
        obtain ⟨r, υ, ω, q1, q2, q3⟩ := st_charter hI a1 a2
        simp only [pb_oc, q1, q2, qbs, qhl, if_true]
        exact IH υ ω q3
      rw [if_neg c25]
      by_cases c26 : a0 = 26
      · rw [if_pos c26]
        obtain ⟨r, υ, ω, q1, q2, q3⟩ := st_bars hI a1 a2
        simp only [pb_oc, q1, q2, qbs, qhl, if_true]
        exact IH υ ω q3
      rw [if_neg c26]
      by_cases c27 : a0 = 27
      · rw [if_pos c27]
        obtain ⟨r, υ, ω, q1, q2, q3⟩ := st_game hI a1
        simp only [pb_oc, q1, q2, qbs, qhl, if_true]
        exact IH υ ω q3
      rw [if_neg c27]
      by_cases c28 : a0 = 28
      · rw [if_pos c28]
        obtain ⟨r, υ, ω, q1, q2, q3⟩ := st_play hI a1
        simp only [pb_oc, q1, q2, qbs, qhl, if_true]
        exact IH υ ω q3
      rw [if_neg c28]
      by_cases c29 : a0 = 29
      · rw [if_pos c29]
        obtain ⟨r, υ, ω, q1, q2, q3⟩ := st_report hI a1 a2 a3 a4
        simp only [pb_oc, q1, q2, qbs, qhl, if_true]
        exact IH υ ω q3
      rw [if_neg c29]
      by_cases c30 : a0 = 30
      · rw [if_pos c30]
        obtain ⟨r, υ, ω, q1, q2, q3⟩ := st_forget hI 
        simp only [pb_oc, q1, q2, qbs, qhl, if_true]
        exact IH υ ω q3
      rw [if_neg c30]
      by_cases c31 : a0 = 31
      · rw [if_pos c31]
        obtain ⟨r, ω, q1, q2, q3⟩ := st_cause3 hI a1
        simp only [pb_oc, q1, q2, qbs, qhl, if_true]
        exact IH τ ω q3
      rw [if_neg c31]
      by_cases c32 : a0 = 32
      · rw [if_pos c32]
        obtain ⟨r, ω, q1, q2, q3⟩ := st_liar hI 
        simp only [pb_oc, q1, q2, qbs, qhl, if_true]
        exact IH τ ω q3
      rw [if_neg c32]
      by_cases c33 : a0 = 33
      · rw [if_pos c33]
        obtain ⟨r, υ, ω, q1, q2, q3⟩ := st_seed hI a1
        simp only [pb_oc, q1, q2, qbs, qhl, if_true]
        exact IH υ ω q3
      rw [if_neg c33]
      by_cases c34 : a0 = 34
      · rw [if_pos c34]
        obtain ⟨r, υ, ω, q1, q2, q3⟩ := st_lot hI 
        simp only [pb_oc, q1, q2, qbs, qhl, if_true]
        exact IH υ ω q3
      rw [if_neg c34]
      by_cases c35 : a0 = 35
      · rw [if_pos c35]
        obtain ⟨r, υ, ω, q1, q2, q3⟩ := st_times hI a1 a2
        simp only [pb_oc, q1, q2, qbs, qhl, if_true]
        exact IH υ ω q3
      rw [if_neg c35]
      by_cases c36 : a0 = 36
      · rw [if_pos c36]
        obtain ⟨r, υ, ω, q1, q2, q3⟩ := st_prove hI a1
        simp only [pb_oc, q1, q2, qbs, qhl, if_true]
        exact IH υ ω q3
      rw [if_neg c36]
      by_cases c37 : a0 = 37
      · rw [if_pos c37]
        obtain ⟨r, q1, q2⟩ := st_row hI a1 a2
        simp only [pb_oc, q1, q2, qbs, qhl, if_true]
        exact IH τ σ hI
      rw [if_neg c37]
      by_cases c38 : a0 = 38
      · rw [if_pos c38]
        obtain ⟨r, υ, ω, q1, q2, q3⟩ := st_alterRow hI a1 a2 a3
        simp only [pb_oc, q1, q2, qbs, qhl, if_true]
        exact IH υ ω q3
      rw [if_neg c38]
      by_cases c39 : a0 = 39
      · rw [if_pos c39]
        obtain ⟨r, υ, ω, q1, q2, q3⟩ := st_judge hI 
        simp only [pb_oc, q1, q2, qbs, qhl, if_true]
        exact IH υ ω q3
      rw [if_neg c39]
      by_cases c40 : a0 = 40
      · rw [if_pos c40]
        obtain ⟨r, υ, ω, q1, q2, q3⟩ := st_sheet hI a1 a2 a3
        simp only [pb_oc, q1, q2, qbs, qhl, if_true]
        exact IH υ ω q3
      rw [if_neg c40]
      by_cases c41 : a0 = 41
      · rw [if_pos c41]
        obtain ⟨r, υ, ω, q1, q2, q3⟩ := st_write hI a1 a2 a3
        simp only [pb_oc, q1, q2, qbs, qhl, if_true]
        exact IH υ ω q3
      rw [if_neg c41]
      by_cases c42 : a0 = 42
      · rw [if_pos c42]
        obtain ⟨r, q1, q2⟩ := st_item hI a1 a2 a3
        simp only [pb_oc, q1, q2, qbs, qhl, if_true]
        exact IH τ σ hI
      rw [if_neg c42]
      by_cases c43 : a0 = 43
      · rw [if_pos c43]
        obtain ⟨r, υ, ω, q1, q2, q3⟩ := st_goAll hI a1 a2 a3
        simp only [pb_oc, q1, q2, qbs, qhl, if_true]
        exact IH υ ω q3
      rw [if_neg c43]
      by_cases c44 : a0 = 44
      · rw [if_pos c44]
        obtain ⟨r, υ, ω, q1, q2, q3⟩ := st_wouldBe hI a1 a2 a3
        simp only [pb_oc, q1, q2, qbs, qhl, if_true]
        exact IH υ ω q3
      rw [if_neg c44]
      by_cases c45 : a0 = 45
      · rw [if_pos c45]
        obtain ⟨r, υ, ω, q1, q2, q3⟩ := st_shelf hI a1 a2 a3
        simp only [pb_oc, q1, q2, qbs, qhl, if_true]
        exact IH υ ω q3
      rw [if_neg c45]
      by_cases c46 : a0 = 46
      · rw [if_pos c46]
        obtain ⟨r, q1, q2⟩ := st_taken hI a1 a2
        simp only [pb_oc, q1, q2, qbs, qhl, if_true]
        exact IH τ σ hI
      rw [if_neg c46]
      by_cases c47 : a0 = 47
      · rw [if_pos c47]
        obtain ⟨r, υ, ω, q1, q2, q3⟩ := st_act hI a1 a2 a3
        simp only [pb_oc, q1, q2, qbs, qhl, if_true]
        exact IH υ ω q3
      rw [if_neg c47]
      by_cases c48 : a0 = 48
      · rw [if_pos c48]
        obtain ⟨r, q1, q2⟩ := st_trace hI a1
        simp only [pb_oc, q1, q2, qbs, qhl, if_true]
        exact IH τ σ hI
      rw [if_neg c48]
      by_cases c49 : a0 = 49
      · rw [if_pos c49]
        obtain ⟨r, q1, q2⟩ := st_many hI a1
        simp only [pb_oc, q1, q2, qbs, qhl, if_true]
        exact IH τ σ hI
      rw [if_neg c49]
      by_cases c50 : a0 = 50
      · rw [if_pos c50]
        obtain ⟨r, υ, ω, q1, q2, q3⟩ := st_keep hI 
        simp only [pb_oc, q1, q2, qbs, qhl, if_true]
        exact IH υ ω q3
      rw [if_neg c50]
      by_cases c51 : a0 = 51
      · rw [if_pos c51]
        obtain ⟨r, υ, ω, q1, q2, q3⟩ := st_again hI 
        simp only [pb_oc, q1, q2, qbs, qhl, if_true]
        exact IH υ ω q3
      rw [if_neg c51]
      exact IH τ σ hI
