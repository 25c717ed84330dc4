/-! PURE: will, and what changes the reference's row -/
section MW
variable {σ : SM} {v : VT} {pr : List RU} {o : Nat}
theorem em_will_l (hT : twM (σ 0) v pr) (ho : o < v 13 0) (hv : vOK v) : ∀ (rs : List RU) (r k n : Nat), ruM (σ 0) r k rs → σ 0 5 = nI (r + rs.length) → r + rs.length ≤ 8 → k + vlen rs ≤ 150 → (∀ q ∈ rs, vokR q) → rs.length < n → fm_will_l2 σ n (nI o) (nI r) = some (nI (vwill (vfact v o) (v 14 o) rs)) := by
  intro rs
  induction rs with
  | nil =>
    intro r k n _ h5 hr _ _ hn
    obtain ⟨m, rfl⟩ : ∃ m, n = m + 1 := ⟨n - 1, by omega⟩
    simp only [List.length_nil] at h5 hr
    unfold fm_will_l2
    rw [h5, if_pos (show nI (r + 0) ≤ nI r by rw [pb_le (by omega) (by omega)]; omega)]
    rfl
  | cons q rs ih =>
    intro r k n hru h5 hr hk hok hn
    obtain ⟨m, rfl⟩ : ∃ m, n = m + 1 := ⟨n - 1, by omega⟩
    obtain ⟨kd, d, ss⟩ := q
    obtain ⟨g1, g2, g3, g4, g5, g6⟩ := hru
    simp only [List.length_cons] at h5 hr hn
    have hl : vlen ((kd, d, ss) :: rs) = ss.length + vlen rs := by simp [vlen]
    rw [hl] at hk
    obtain ⟨c1, c2, c3⟩ := hok _ List.mem_cons_self
    have hkind := (hv.2.2.2.2.2.2.2.2.1 o ho).1
    have IH := ih (r + 1) (k + ss.length) m g6 (by rw [h5]; congr 1; omega) (by omega) (by omega) (fun q hq => hok q (List.mem_cons_of_mem _ hq)) (by omega)
    have hb : fm_will_b58 σ (fm_will_l2 σ m) (nI o) (nI r) = some (nI (vwill (vfact v o) (v 14 o) rs)) := by
      unfold fm_will_b58
      rw [show (1 : Int32) = nI 1 from rfl, pb_add]
      exact IH
    have hh := em_holds hT ho hv (r := r) (k := k) (by omega) g5 g3 g4 (by omega) c3
    unfold fm_will_l2
    rw [h5, if_neg (show ¬ nI (r + (rs.length + 1)) ≤ nI r by rw [pb_le (by omega) (by omega)]; omega), em_its0 hT ho hv, hh]
    simp (disch := omega) only [pb_bs, pb_lit, pb_mul, pb_add, pb_in, pb_oc, pb_cl]
    rw [g1, em_under (v 14 o) (by omega) kd (Nat.lt_succ_of_le c1), show 74 + 4 * r + 1 = 75 + 4 * r by omega, g2, pb_bs, hb]
    rw [show vwill (vfact v o) (v 14 o) ((kd, d, ss) :: rs) = if vunder (v 14 o) kd = true ∧ vholds (vfact v o) ss = true then d else vwill (vfact v o) (v 14 o) rs from rfl]
    by_cases hu : vunder (v 14 o) kd = true
    · rw [if_pos hu, if_neg (by decide)]
      by_cases hd : vholds (vfact v o) ss = true
      · rw [if_pos hd, if_neg (by decide), if_pos ⟨hu, hd⟩]
      · rw [if_neg hd, if_pos (by decide), if_neg (fun z => hd z.2)]
    · rw [if_neg hu, if_pos (by decide), if_neg (fun z => hu z.1)]
theorem em_will (hT : twM (σ 0) v pr) (ho : o < v 13 0) (hv : vOK v) (hp : pOK pr) : fm_will σ (nI o) = some (nI (vWill v pr o)) := by
  unfold fm_will
  exact em_will_l hT ho hv pr 0 0 hFU hT.2.2.2.2.2.2.2.2.2.2.2 (by rw [Nat.zero_add]; exact hT.2.2.2.2.2.2.2.2.2.2.1) (by have := hp.1; omega) (by have := hp.2.1; omega) hp.2.2 (by have := hp.1; unfold hFU; omega)
end MW
theorem vwill_le {fa : Nat → Nat} {kd : Nat} : ∀ (rs : List RU), (∀ q ∈ rs, vokR q) → vwill fa kd rs ≤ 2 := by
  intro rs
  induction rs with
  | nil => intro _; exact Nat.zero_le _
  | cons q rs ih =>
    intro h
    obtain ⟨k, d, ss⟩ := q
    show (if vunder kd k = true ∧ vholds fa ss = true then d else vwill fa kd rs) ≤ 2
    split
    · exact (h _ List.mem_cons_self).2.1
    · exact ih (fun q hq => h q (List.mem_cons_of_mem _ hq))
theorem stM_cong {f g : Nat → Int32} (h : ∀ j, 74 ≤ j → g j = f j) : ∀ (ss : List RS) (k : Nat), stM f k ss → stM g k ss := by
  intro ss
  induction ss with
  | nil => intro k _; trivial
  | cons q ss ih =>
    intro k hs
    obtain ⟨a, b, c⟩ := q
    obtain ⟨h1, h2, h3, h4⟩ := hs
    exact ⟨by rw [h _ (by omega)]; exact h1, by rw [h _ (by omega)]; exact h2, by rw [h _ (by omega)]; exact h3, ih _ h4⟩
theorem ruM_cong {f g : Nat → Int32} (h : ∀ j, 74 ≤ j → g j = f j) : ∀ (rs : List RU) (r k : Nat), ruM f r k rs → ruM g r k rs := by
  intro rs
  induction rs with
  | nil => intro r k _; trivial
  | cons q rs ih =>
    intro r k hs
    obtain ⟨a, b, ss⟩ := q
    obtain ⟨h1, h2, h3, h4, h5, h6⟩ := hs
    exact ⟨by rw [h _ (by omega)]; exact h1, by rw [h _ (by omega)]; exact h2, by rw [h _ (by omega)]; exact h3, by rw [h _ (by omega)]; exact h4, stM_cong h _ _ h5, ih _ _ h6⟩
theorem up_ne {f : Nat → Int32} {k j : Nat} {x : Int32} (h : j ≠ k) : upd f k x j = f j := if_neg h
theorem up_eq {f : Nat → Int32} {k : Nat} {x : Int32} : upd f k x k = x := if_pos rfl
section TU
variable {f : Nat → Int32} {v : VT} {pr : List RU}
theorem tw_hour (h : twM f v pr) (x : Nat) : twM (upd f 1 (nI x)) (vs v 2 x) pr := by
  obtain ⟨h0, h1, h2, h8, h9, ho, hs, hn, h6, hr, h5, hru⟩ := h
  exact ⟨h0, rfl, h2, h8, h9, fun o q => ⟨(up_ne (by omega)).trans (ho o q).1, (up_ne (by omega)).trans (ho o q).2.1, (up_ne (by omega)).trans (ho o q).2.2.1, (up_ne (by omega)).trans (ho o q).2.2.2.1, (up_ne (by omega)).trans (ho o q).2.2.2.2.1, (up_ne (by omega)).trans (ho o q).2.2.2.2.2⟩, fun j q => ⟨(up_ne (by omega)).trans (hs j q).1, (up_ne (by omega)).trans (hs j q).2⟩, fun j q => (up_ne (by omega)).trans (hn j q), h6, fun r q i hi => (up_ne (by omega)).trans (hr r q i hi), h5, ruM_cong (fun j q => up_ne (by omega)) _ _ _ hru⟩
theorem tw_score (h : twM f v pr) (y : Int32) : twM (upd f 3 y) v pr := by
  obtain ⟨h0, h1, h2, h8, h9, ho, hs, hn, h6, hr, h5, hru⟩ := h
  exact ⟨h0, h1, h2, h8, h9, fun o q => ⟨(up_ne (by omega)).trans (ho o q).1, (up_ne (by omega)).trans (ho o q).2.1, (up_ne (by omega)).trans (ho o q).2.2.1, (up_ne (by omega)).trans (ho o q).2.2.2.1, (up_ne (by omega)).trans (ho o q).2.2.2.2.1, (up_ne (by omega)).trans (ho o q).2.2.2.2.2⟩, fun j q => ⟨(up_ne (by omega)).trans (hs j q).1, (up_ne (by omega)).trans (hs j q).2⟩, fun j q => (up_ne (by omega)).trans (hn j q), h6, fun r q i hi => (up_ne (by omega)).trans (hr r q i hi), h5, ruM_cong (fun j q => up_ne (by omega)) _ _ _ hru⟩
theorem tw_zed (h : twM f v pr) (y : Int32) : twM (upd f 4 y) v pr := by
  obtain ⟨h0, h1, h2, h8, h9, ho, hs, hn, h6, hr, h5, hru⟩ := h
  exact ⟨h0, h1, h2, h8, h9, fun o q => ⟨(up_ne (by omega)).trans (ho o q).1, (up_ne (by omega)).trans (ho o q).2.1, (up_ne (by omega)).trans (ho o q).2.2.1, (up_ne (by omega)).trans (ho o q).2.2.2.1, (up_ne (by omega)).trans (ho o q).2.2.2.2.1, (up_ne (by omega)).trans (ho o q).2.2.2.2.2⟩, fun j q => ⟨(up_ne (by omega)).trans (hs j q).1, (up_ne (by omega)).trans (hs j q).2⟩, fun j q => (up_ne (by omega)).trans (hn j q), h6, fun r q i hi => (up_ne (by omega)).trans (hr r q i hi), h5, ruM_cong (fun j q => up_ne (by omega)) _ _ _ hru⟩
theorem tw_mood (h : twM f v pr) (x : Nat) : twM (upd f 8 (nI x)) (vs v 5 x) pr := by
  obtain ⟨h0, h1, h2, h8, h9, ho, hs, hn, h6, hr, h5, hru⟩ := h
  exact ⟨h0, h1, h2, rfl, h9, fun o q => ⟨(up_ne (by omega)).trans (ho o q).1, (up_ne (by omega)).trans (ho o q).2.1, (up_ne (by omega)).trans (ho o q).2.2.1, (up_ne (by omega)).trans (ho o q).2.2.2.1, (up_ne (by omega)).trans (ho o q).2.2.2.2.1, (up_ne (by omega)).trans (ho o q).2.2.2.2.2⟩, fun j q => ⟨(up_ne (by omega)).trans (hs j q).1, (up_ne (by omega)).trans (hs j q).2⟩, fun j q => (up_ne (by omega)).trans (hn j q), h6, fun r q i hi => (up_ne (by omega)).trans (hr r q i hi), h5, ruM_cong (fun j q => up_ne (by omega)) _ _ _ hru⟩
theorem tw_hands (h : twM f v pr) (x : Nat) : twM (upd f 9 (nI x)) (vs v 6 x) pr := by
  obtain ⟨h0, h1, h2, h8, h9, ho, hs, hn, h6, hr, h5, hru⟩ := h
  exact ⟨h0, h1, h2, h8, rfl, fun o q => ⟨(up_ne (by omega)).trans (ho o q).1, (up_ne (by omega)).trans (ho o q).2.1, (up_ne (by omega)).trans (ho o q).2.2.1, (up_ne (by omega)).trans (ho o q).2.2.2.1, (up_ne (by omega)).trans (ho o q).2.2.2.2.1, (up_ne (by omega)).trans (ho o q).2.2.2.2.2⟩, fun j q => ⟨(up_ne (by omega)).trans (hs j q).1, (up_ne (by omega)).trans (hs j q).2⟩, fun j q => (up_ne (by omega)).trans (hn j q), h6, fun r q i hi => (up_ne (by omega)).trans (hr r q i hi), h5, ruM_cong (fun j q => up_ne (by omega)) _ _ _ hru⟩
def vclr (w k : Nat) : Nat := w - vbit w k * 2 ^ k
def vset (w k : Nat) : Nat := w + (1 - vbit w k) * 2 ^ k
theorem vclr_bit : ∀ w, w < 64 → ∀ k, k < 6 → ∀ j, j < 6 → vbit (vclr w k) j = if j = k then 0 else vbit w j := by decide +kernel
theorem vset_bit : ∀ w, w < 64 → ∀ k, k < 6 → ∀ j, j < 6 → vbit (vset w k) j = if j = k then 1 else vbit w j := by decide +kernel
theorem vclr_lt : ∀ n, n < 7 → ∀ w, w < 2 ^ n → ∀ k, k < n → vclr w k < 2 ^ n := by decide +kernel
theorem vset_lt : ∀ n, n < 7 → ∀ w, w < 2 ^ n → ∀ k, k < n → vset w k < 2 ^ n := by decide +kernel
theorem tw_clr (h : twM f v pr) (hv : vOK v) {q : Nat} (hq : q < v 13 0) : twM (upd f (14 + 6 * q) (nI 0)) (vs v 7 (vclr (v 7 0) q)) pr := by
  have hn6 := hv.1
  have hw : v 7 0 < 64 := Nat.lt_of_lt_of_le hv.2.2.2.2.2.2.1 (Nat.pow_le_pow_right (by decide) hn6)
  obtain ⟨h0, h1, h2, h8, h9, ho, hs, hn, h6, hr, h5, hru⟩ := h
  refine ⟨(up_ne (by omega)).trans h0, (up_ne (by omega)).trans h1, (up_ne (by omega)).trans h2, (up_ne (by omega)).trans h8, (up_ne (by omega)).trans h9, fun o hoo => ?_, fun j hj => ⟨(up_ne (by omega)).trans (hs j hj).1, (up_ne (by omega)).trans (hs j hj).2⟩, fun j hj => (up_ne (by omega)).trans (hn j hj), (up_ne (by omega)).trans h6, fun r hr2 i hi => (up_ne (by omega)).trans (hr r hr2 i hi), (up_ne (by omega)).trans h5, ruM_cong (fun j hj => up_ne (by omega)) _ _ _ hru⟩
  have ho2 : o < v 13 0 := hoo
  refine ⟨(up_ne (by omega)).trans (ho o ho2).1, (up_ne (by omega)).trans (ho o ho2).2.1, (up_ne (by omega)).trans (ho o ho2).2.2.1, (up_ne (by omega)).trans (ho o ho2).2.2.2.1, ?_, (up_ne (by omega)).trans (ho o ho2).2.2.2.2.2⟩
  show _ = nI (vbit (vclr (v 7 0) q) o)
  rw [vclr_bit _ hw q (by omega) o (by omega)]
  by_cases e : o = q
  · subst e
    rw [up_eq, if_pos rfl]
  · rw [if_neg e, up_ne (by omega)]
    exact (ho o ho2).2.2.2.2.1
theorem tw_set (h : twM f v pr) (hv : vOK v) {q : Nat} (hq : q < v 13 0) : twM (upd f (15 + 6 * q) (nI 1)) (vs v 8 (vset (v 8 0) q)) pr := by
  have hn6 := hv.1
  have hw : v 8 0 < 64 := Nat.lt_of_lt_of_le hv.2.2.2.2.2.2.2.1 (Nat.pow_le_pow_right (by decide) hn6)
  obtain ⟨h0, h1, h2, h8, h9, ho, hs, hn, h6, hr, h5, hru⟩ := h
  refine ⟨(up_ne (by omega)).trans h0, (up_ne (by omega)).trans h1, (up_ne (by omega)).trans h2, (up_ne (by omega)).trans h8, (up_ne (by omega)).trans h9, fun o hoo => ?_, fun j hj => ⟨(up_ne (by omega)).trans (hs j hj).1, (up_ne (by omega)).trans (hs j hj).2⟩, fun j hj => (up_ne (by omega)).trans (hn j hj), (up_ne (by omega)).trans h6, fun r hr2 i hi => (up_ne (by omega)).trans (hr r hr2 i hi), (up_ne (by omega)).trans h5, ruM_cong (fun j hj => up_ne (by omega)) _ _ _ hru⟩
  have ho2 : o < v 13 0 := hoo
  refine ⟨(up_ne (by omega)).trans (ho o ho2).1, (up_ne (by omega)).trans (ho o ho2).2.1, (up_ne (by omega)).trans (ho o ho2).2.2.1, (up_ne (by omega)).trans (ho o ho2).2.2.2.1, (up_ne (by omega)).trans (ho o ho2).2.2.2.2.1, ?_⟩
  show _ = nI (vbit (vset (v 8 0) q) o)
  rw [vset_bit _ hw q (by omega) o (by omega)]
  by_cases e : o = q
  · subst e
    rw [up_eq, if_pos rfl]
  · rw [if_neg e, up_ne (by omega)]
    exact (ho o ho2).2.2.2.2.2
end TU
