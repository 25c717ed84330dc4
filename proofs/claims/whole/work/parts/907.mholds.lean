/-! PURE: the reference's conditions and rules, walked -/
section MH
variable {σ : SM} {v : VT} {pr : List RU} {o : Nat}
theorem em_b153_0 {K : Int64 → Option Int32} {KK : Int32 → Int32 → Int64 → Int32 → Option Int32} {x1 x2 : Int32} {t k : Nat} : fm_holds_b153 σ K KK x1 x2 (lN t) (nI k) (nI 0) = KK x1 x2 (lN (2 * t)) (nI (k + 1)) := by
  unfold fm_holds_b153 fm_holds_b170 fm_holds_b229
  rw [if_pos (show nI 0 = 0 from rfl), show (2 : Int64) = lN 2 from rfl, show (0 : Int64) = lN 0 from rfl, lN_mul, lN_add, show (1 : Int32) = nI 1 from rfl, pb_add]
  rfl
theorem em_b153_1 {K : Int64 → Option Int32} {KK : Int32 → Int32 → Int64 → Int32 → Option Int32} {x1 x2 : Int32} {t k : Nat} : fm_holds_b153 σ K KK x1 x2 (lN t) (nI k) (nI 1) = KK x1 x2 (lN (2 * t + 1)) (nI (k + 1)) := by
  unfold fm_holds_b153 fm_holds_b170 fm_holds_b229
  rw [if_neg (by decide), show (2 : Int64) = lN 2 from rfl, show (1 : Int64) = lN 1 from rfl, lN_mul, lN_add, show (1 : Int32) = nI 1 from rfl, pb_add]
  rfl
theorem em_b229 {K : Int64 → Option Int32} {KK : Int32 → Int32 → Int64 → Int32 → Option Int32} {x1 x2 : Int32} {x : Int64} {k : Nat} : fm_holds_b229 σ K KK x1 x2 x (nI k) = KK x1 x2 x (nI (k + 1)) := by
  unfold fm_holds_b229
  rw [show (1 : Int32) = nI 1 from rfl, pb_add]
theorem em_b228 {K : Int64 → Option Int32} {KK : Int32 → Int32 → Int64 → Int32 → Option Int32} {x1 x2 : Int32} {x : Int64} {k : Nat} : fm_holds_b228 σ K KK x1 x2 (nI k) x = KK x1 x2 x (nI (k + 1)) := by
  unfold fm_holds_b228
  rw [em_b229]
set_option maxHeartbeats 4000000 in
theorem em_holds_l (hT : twM (σ 0) v pr) (ho : o < v 13 0) (hv : vOK v) {r : Nat} (hr : r < 8) (K : Int64 → Option Int32) : ∀ (ss : List RS) (k t d n : Nat), stM (σ 0) k ss → σ 0 (77 + 4 * r) = nI (k + ss.length) → k + ss.length ≤ 150 → vokS d ss = true → t < 2 ^ (d + 1) → d ≤ 28 → ss.length < n → fm_holds_l17 σ K n (nI r) (nI o) (lN t) (nI k) = K (lN (ss.foldl (vstp (vfact v o)) t)) := by
  intro ss
  induction ss with
  | nil =>
    intro k t d n hst hE hk hok ht hd hn
    obtain ⟨m, rfl⟩ : ∃ m, n = m + 1 := ⟨n - 1, by omega⟩
    unfold fm_holds_l17
    simp (disch := omega) only [pb_lit, pb_mul, pb_add, pb_in, pb_oc, pb_cl, pb_hl]
    rw [show 74 + 4 * r + 3 = 77 + 4 * r by omega, hE, if_pos (by rw [pb_le (by simp only [List.length_nil]; omega) (by simp only [List.length_nil] at hk; omega)]; simp)]
    rfl
  | cons q ss ih =>
    intro k t d n hst hE hk hok ht hd hn
    obtain ⟨s, a, b⟩ := q
    obtain ⟨m, rfl⟩ : ∃ m, n = m + 1 := ⟨n - 1, by omega⟩
    obtain ⟨h1, h2, h3, hst⟩ := hst
    simp only [List.length_cons] at hE hk hn
    have ht32 : t < 4294967296 := Nat.lt_of_lt_of_le ht (by calc 2 ^ (d + 1) ≤ 2 ^ 29 := Nat.pow_le_pow_right (by decide) (by omega)
      _ ≤ 4294967296 := by decide)
    unfold fm_holds_l17
    simp (disch := omega) only [pb_lit, pb_mul, pb_add, pb_in, pb_oc, pb_cl, pb_hl]
    rw [show 74 + 4 * r + 3 = 77 + 4 * r by omega, hE, if_neg (show ¬ nI (k + (ss.length + 1)) ≤ nI k by rw [pb_le (by omega) (by omega)]; omega), h1, show 130 + 3 * k + 1 = 131 + 3 * k by omega, h2, show 130 + 3 * k + 2 = 132 + 3 * k by omega, h3]
    rw [List.foldl_cons]
    have hE2 : σ 0 (77 + 4 * r) = nI (k + 1 + ss.length) := by rw [hE]; congr 1; omega
    by_cases hs : s < 3
    · have hok2 : (d < 28 ∧ a < 10005 ∧ b < 10005) ∧ vokS (d + 1) ss = true := by
        unfold vokS at hok
        rw [if_pos hs] at hok
        simpa using hok
      obtain ⟨⟨g1, g2, g3⟩, g4⟩ := hok2
      have hnew := vstp_lt (fa := vfact v o) (t := t) (d := d) (q := (s, a, b)) (Or.inl g1) ht
      rw [if_pos (show (s, a, b).1 < 3 from hs)] at hnew
      have IH := ih (k + 1) (vstp (vfact v o) t (s, a, b)) (d + 1) m hst hE2 (by omega) g4 hnew (by omega) (by omega)
      rw [← IH]
      have hva := vvl_le ho hv (a := a)
      have hvb := vvl_le ho hv (a := b)
      rw [em_valueOf hT ho hv g2, em_valueOf hT ho hv g3]
      simp (disch := omega) only [pb_bs, pb_eq, pb_le]
      rw [if_neg (show ¬ 3 ≤ s by omega)]
      rcases (show s = 0 ∨ s = 1 ∨ s = 2 by omega) with rfl | rfl | rfl
      · rw [if_neg (show ¬ ¬ (0 : Nat) = 0 by simp)]
        by_cases hc : vvl (vfact v o) a < vvl (vfact v o) b
        · rw [if_neg (show ¬ vvl (vfact v o) b ≤ vvl (vfact v o) a by omega), em_b153_1]
          simp [vstp, hc]
        · rw [if_pos (show vvl (vfact v o) b ≤ vvl (vfact v o) a by omega), em_b153_0]
          simp [vstp, hc]
      · rw [if_pos (show ¬ (1 : Nat) = 0 by simp), if_neg (show ¬ ¬ (1 : Nat) = 1 by simp)]
        by_cases hc : vvl (vfact v o) a = vvl (vfact v o) b
        · rw [if_neg (show ¬ ¬ vvl (vfact v o) a = vvl (vfact v o) b by simpa using hc), em_b153_1]
          simp [vstp, hc]
        · rw [if_pos (show ¬ vvl (vfact v o) a = vvl (vfact v o) b from hc), em_b153_0]
          simp [vstp, hc]
      · rw [if_pos (show ¬ (2 : Nat) = 0 by simp), if_pos (show ¬ (2 : Nat) = 1 by simp)]
        by_cases hc : vvl (vfact v o) b < vvl (vfact v o) a
        · rw [if_neg (show ¬ vvl (vfact v o) a ≤ vvl (vfact v o) b by omega), em_b153_1]
          simp [vstp, hc]
        · rw [if_pos (show vvl (vfact v o) a ≤ vvl (vfact v o) b by omega), em_b153_0]
          simp [vstp, hc]
    · have hok2 : s < 6 ∧ (if s = 3 then vokS d ss else vokS (d - 1) ss) = true := by
        unfold vokS at hok
        rw [if_neg hs] at hok
        simpa using hok
      obtain ⟨g1, g4⟩ := hok2
      have hnew := vstp_lt (fa := vfact v o) (t := t) (d := d) (q := (s, a, b)) (Or.inr (show 3 ≤ (s, a, b).1 by show 3 ≤ s; omega)) ht
      rw [if_neg (show ¬ (s, a, b).1 < 3 from hs)] at hnew
      simp (disch := omega) only [pb_eq, pb_le]
      rw [if_pos (show 3 ≤ s by omega)]
      by_cases h3s : s = 3
      · subst h3s
        rw [if_pos rfl] at g4 hnew
        have IH := ih (k + 1) (vstp (vfact v o) t (3, a, b)) d m hst hE2 (by omega) g4 hnew (by omega) (by omega)
        rw [← IH, if_neg (show ¬ ¬ (3 : Nat) = 3 by simp), em_b229, show (1 : Int64) = lN 1 from rfl, fb_xorL]
        rfl
      · rw [if_neg h3s] at g4
        rw [if_neg (show ¬ (s, a, b).1 = 3 from h3s)] at hnew
        have IH := ih (k + 1) (vstp (vfact v o) t (s, a, b)) (d - 1) m hst hE2 (by omega) g4 hnew (by omega) (by omega)
        rw [← IH, if_pos (show ¬ s = 3 from h3s)]
        have e1 : lN t &&& (1 : Int64) = lN (t % 2) := fb_maskL t 1
        have e2 : lN t / (2 : Int64) = lN (t / 2) := pk_lDiv (by omega) (by decide) (by decide)
        rw [e1, e2]
        by_cases h4s : s = 4
        · subst h4s
          rw [if_pos (show (4 : Nat) = 4 from rfl)]
          have e3 := pb_lcmp1 (a := t % 2) (Nat.mod_lt _ (by decide))
          by_cases hb2 : t % 2 = 1
          · rw [if_neg (show ¬ ¬ lg_cmp (lN (t % 2)) 1 = nI 0 from fun z => z (e3.mpr hb2)), em_b228]
            simp [vstp, hb2]
          · rw [if_pos (show ¬ lg_cmp (lN (t % 2)) 1 = nI 0 from fun z => hb2 (e3.mp z)), em_b228, pb_lm2 (by omega)]
            simp [vstp, hb2]
        · rw [if_neg (show ¬ s = 4 from h4s), em_b228, fb_orL]
          have : s = 5 := by omega
          subst this
          rfl
theorem em_holds (hT : twM (σ 0) v pr) (ho : o < v 13 0) (hv : vOK v) {r k : Nat} (hr : r < 8) {ss : List RS} (hst : stM (σ 0) k ss) (hB : σ 0 (76 + 4 * r) = nI k) (hE : σ 0 (77 + 4 * r) = nI (k + ss.length)) (hk : k + ss.length ≤ 150) (hok : vokS 0 ss = true) : fm_holds σ (nI r) (nI o) = some (if vholds (vfact v o) ss = true then 1 else 0) := by
  unfold fm_holds
  simp (disch := omega) only [pb_lit, pb_mul, pb_add, pb_in, pb_oc, pb_cl, pb_hl]
  rw [show 74 + 4 * r + 2 = 76 + 4 * r by omega, hB, show (1 : Int64) = lN 1 from rfl, em_holds_l hT ho hv hr _ ss k 1 0 hFU hst hE hk hok (by decide) (by omega) (by unfold hFU; omega)]
  have hb : ∀ (qs : List RS) (t d : Nat), vokS d qs = true → t < 2 ^ (d + 1) → d ≤ 28 → qs.foldl (vstp (vfact v o)) t < 2 ^ 29 := by
    intro qs
    induction qs with
    | nil =>
      intro t d _ ht hd
      exact Nat.lt_of_lt_of_le ht (Nat.pow_le_pow_right (by decide) (by omega))
    | cons q qs ih =>
      intro t d hok ht hd
      obtain ⟨s, a, b⟩ := q
      rw [List.foldl_cons]
      by_cases hs : s < 3
      · have hok2 : (d < 28 ∧ a < 10005 ∧ b < 10005) ∧ vokS (d + 1) qs = true := by
          unfold vokS at hok
          rw [if_pos hs] at hok
          simpa using hok
        have hnew := vstp_lt (fa := vfact v o) (t := t) (d := d) (q := (s, a, b)) (Or.inl hok2.1.1) ht
        rw [if_pos (show (s, a, b).1 < 3 from hs)] at hnew
        exact ih _ (d + 1) hok2.2 hnew (by have := hok2.1.1; omega)
      · have hok2 : s < 6 ∧ (if s = 3 then vokS d qs else vokS (d - 1) qs) = true := by
          unfold vokS at hok
          rw [if_neg hs] at hok
          simpa using hok
        have hnew := vstp_lt (fa := vfact v o) (t := t) (d := d) (q := (s, a, b)) (Or.inr (show 3 ≤ (s, a, b).1 by show 3 ≤ s; omega)) ht
        rw [if_neg (show ¬ (s, a, b).1 < 3 from hs)] at hnew
        by_cases h3s : s = 3
        · rw [if_pos h3s] at hok2
          rw [if_pos (show (s, a, b).1 = 3 from h3s)] at hnew
          exact ih _ d hok2.2 hnew hd
        · rw [if_neg h3s] at hok2
          rw [if_neg (show ¬ (s, a, b).1 = 3 from h3s)] at hnew
          exact ih _ (d - 1) hok2.2 hnew (by omega)
  have hb2 := hb ss 1 0 hok (by decide) (by omega)
  have e1 : hlrem (lN (ss.foldl (vstp (vfact v o)) 1)) (2 : Int64) = lN (ss.foldl (vstp (vfact v o)) 1 % 2) := pk_lRem (by omega) (by decide) (by decide)
  have e3 := pb_lcmp1 (a := ss.foldl (vstp (vfact v o)) 1 % 2) (Nat.mod_lt _ (by decide))
  rw [e1]
  unfold vholds
  by_cases hc : ss.foldl (vstp (vfact v o)) 1 % 2 = 1
  · rw [if_neg (show ¬ ¬ lg_cmp (lN (ss.foldl (vstp (vfact v o)) 1 % 2)) (lN 1) = nI 0 from fun z => z (e3.mpr hc)), if_pos (by simpa using hc)]
  · rw [if_pos (show ¬ lg_cmp (lN (ss.foldl (vstp (vfact v o)) 1 % 2)) (lN 1) = nI 0 from fun z => hc (e3.mp z)), if_neg (by simpa using hc)]
end MH
