/-! PURE: single numbers of the town become others; steps of news, street, streetOf, heart, ends, seed, forget -/
section TV
variable {f : Nat → Int32} {v : VT} {pr : List RU} {τ : SC}
theorem va_hit {v : VT} {k j x : Nat} {q : Nat} : va v k j x k q = if q = j then x else v k q := by simp [va]
theorem tw_news (h : twM f v pr) {a : Nat} (ha : a < 16) (hv6 : v 13 0 ≤ 6) (x : Nat) : twM (upd f (58 + a) (nI x)) (va v 10 a x) pr := by
  obtain ⟨h0, h1, h2, h8, h9, ho, hs, hn, h6, hr, h5, hru⟩ := h
  exact ⟨(up_ne (by omega)).trans h0, (up_ne (by omega)).trans h1, (up_ne (by omega)).trans h2, (up_ne (by omega)).trans h8, (up_ne (by omega)).trans h9, fun o q => by
    have q2 : o < v 13 0 := q
    exact ⟨(up_ne (by omega)).trans (ho o q2).1, (up_ne (by omega)).trans (ho o q2).2.1, (up_ne (by omega)).trans (ho o q2).2.2.1, (up_ne (by omega)).trans (ho o q2).2.2.2.1, (up_ne (by omega)).trans (ho o q2).2.2.2.2.1, (up_ne (by omega)).trans (ho o q2).2.2.2.2.2⟩, fun j q => ⟨(up_ne (by omega)).trans (hs j q).1, (up_ne (by omega)).trans (hs j q).2⟩, fun j q => (by
    rw [va_hit]
    by_cases e : j = a
    · subst e
      rw [if_pos rfl]
      exact up_eq
    · rw [if_neg e, up_ne (by omega)]
      exact hn j q), (up_ne (by omega)).trans h6, fun r q i hi => (up_ne (by omega)).trans (hr r q i hi), (up_ne (by omega)).trans h5, ruM_cong (fun j q => up_ne (by omega)) _ _ _ hru⟩
theorem tw_shift (h : twM f v pr) {a : Nat} (ha : a < 6) (hv6 : v 13 0 ≤ 6) (x : Nat) : twM (upd f (46 + a) (nI x)) (va v 11 a x) pr := by
  obtain ⟨h0, h1, h2, h8, h9, ho, hs, hn, h6, hr, h5, hru⟩ := h
  exact ⟨(up_ne (by omega)).trans h0, (up_ne (by omega)).trans h1, (up_ne (by omega)).trans h2, (up_ne (by omega)).trans h8, (up_ne (by omega)).trans h9, fun o q => by
    have q2 : o < v 13 0 := q
    exact ⟨(up_ne (by omega)).trans (ho o q2).1, (up_ne (by omega)).trans (ho o q2).2.1, (up_ne (by omega)).trans (ho o q2).2.2.1, (up_ne (by omega)).trans (ho o q2).2.2.2.1, (up_ne (by omega)).trans (ho o q2).2.2.2.2.1, (up_ne (by omega)).trans (ho o q2).2.2.2.2.2⟩, fun j q => ⟨(by
    rw [va_hit]
    by_cases e : j = a
    · subst e
      rw [if_pos rfl]
      exact up_eq
    · rw [if_neg e, up_ne (by omega)]
      exact (hs j q).1), (up_ne (by omega)).trans (hs j q).2⟩, fun j q => (up_ne (by omega)).trans (hn j q), (up_ne (by omega)).trans h6, fun r q i hi => (up_ne (by omega)).trans (hr r q i hi), (up_ne (by omega)).trans h5, ruM_cong (fun j q => up_ne (by omega)) _ _ _ hru⟩
theorem tw_bear (h : twM f v pr) {a : Nat} (ha : a < 6) (hv6 : v 13 0 ≤ 6) (x : Nat) : twM (upd f (52 + a) (nI x)) (va v 12 a x) pr := by
  obtain ⟨h0, h1, h2, h8, h9, ho, hs, hn, h6, hr, h5, hru⟩ := h
  exact ⟨(up_ne (by omega)).trans h0, (up_ne (by omega)).trans h1, (up_ne (by omega)).trans h2, (up_ne (by omega)).trans h8, (up_ne (by omega)).trans h9, fun o q => by
    have q2 : o < v 13 0 := q
    exact ⟨(up_ne (by omega)).trans (ho o q2).1, (up_ne (by omega)).trans (ho o q2).2.1, (up_ne (by omega)).trans (ho o q2).2.2.1, (up_ne (by omega)).trans (ho o q2).2.2.2.1, (up_ne (by omega)).trans (ho o q2).2.2.2.2.1, (up_ne (by omega)).trans (ho o q2).2.2.2.2.2⟩, fun j q => ⟨(up_ne (by omega)).trans (hs j q).1, (by
    rw [va_hit]
    by_cases e : j = a
    · subst e
      rw [if_pos rfl]
      exact up_eq
    · rw [if_neg e, up_ne (by omega)]
      exact (hs j q).2)⟩, fun j q => (up_ne (by omega)).trans (hn j q), (up_ne (by omega)).trans h6, fun r q i hi => (up_ne (by omega)).trans (hr r q i hi), (up_ne (by omega)).trans h5, ruM_cong (fun j q => up_ne (by omega)) _ _ _ hru⟩
theorem tw_end (h : twM f v pr) (x : Nat) : twM (upd f (2) (nI x)) (vs v 3 x) pr := by
  obtain ⟨h0, h1, h2, h8, h9, ho, hs, hn, h6, hr, h5, hru⟩ := h
  exact ⟨h0, h1, rfl, h8, h9, fun o q => by
    have q2 : o < v 13 0 := q
    exact ⟨(up_ne (by omega)).trans (ho o q2).1, (up_ne (by omega)).trans (ho o q2).2.1, (up_ne (by omega)).trans (ho o q2).2.2.1, (up_ne (by omega)).trans (ho o q2).2.2.2.1, (up_ne (by omega)).trans (ho o q2).2.2.2.2.1, (up_ne (by omega)).trans (ho o q2).2.2.2.2.2⟩, fun j q => ⟨(up_ne (by omega)).trans (hs j q).1, (up_ne (by omega)).trans (hs j q).2⟩, fun j q => (up_ne (by omega)).trans (hn j q), h6, fun r q i hi => (up_ne (by omega)).trans (hr r q i hi), h5, ruM_cong (fun j q => up_ne (by omega)) _ _ _ hru⟩
theorem tw_reports0 (h : twM f v pr) (x : Nat) (hx : x = 0) : twM (upd f (6) (nI x)) (vs v 18 x) pr := by
  obtain ⟨h0, h1, h2, h8, h9, ho, hs, hn, h6, hr, h5, hru⟩ := h
  exact ⟨h0, h1, h2, h8, h9, fun o q => by
    have q2 : o < v 13 0 := q
    exact ⟨(up_ne (by omega)).trans (ho o q2).1, (up_ne (by omega)).trans (ho o q2).2.1, (up_ne (by omega)).trans (ho o q2).2.2.1, (up_ne (by omega)).trans (ho o q2).2.2.2.1, (up_ne (by omega)).trans (ho o q2).2.2.2.2.1, (up_ne (by omega)).trans (ho o q2).2.2.2.2.2⟩, fun j q => ⟨(up_ne (by omega)).trans (hs j q).1, (up_ne (by omega)).trans (hs j q).2⟩, fun j q => (up_ne (by omega)).trans (hn j q), rfl, fun r q i hi => absurd (show r < x from q) (by omega), h5, ruM_cong (fun j q => up_ne (by omega)) _ _ _ hru⟩
theorem tw_kind (h : twM f v pr) {a : Nat} (ha : a < 6) (hv6 : v 13 0 ≤ 6) (x : Nat) : twM (upd f (10 + 6 * a) (nI x)) (va v 14 a x) pr := by
  obtain ⟨h0, h1, h2, h8, h9, ho, hs, hn, h6, hr, h5, hru⟩ := h
  exact ⟨(up_ne (by omega)).trans h0, (up_ne (by omega)).trans h1, (up_ne (by omega)).trans h2, (up_ne (by omega)).trans h8, (up_ne (by omega)).trans h9, fun o q => by
    have q2 : o < v 13 0 := q
    exact ⟨(by
    rw [va_hit]
    by_cases e : o = a
    · subst e
      rw [if_pos rfl]
      exact up_eq
    · rw [if_neg e, up_ne (by omega)]
      exact (ho o q).1), (up_ne (by omega)).trans (ho o q).2.1, (up_ne (by omega)).trans (ho o q).2.2.1, (up_ne (by omega)).trans (ho o q).2.2.2.1, (up_ne (by omega)).trans (ho o q).2.2.2.2.1, (up_ne (by omega)).trans (ho o q).2.2.2.2.2⟩, fun j q => ⟨(up_ne (by omega)).trans (hs j q).1, (up_ne (by omega)).trans (hs j q).2⟩, fun j q => (up_ne (by omega)).trans (hn j q), (up_ne (by omega)).trans h6, fun r q i hi => (up_ne (by omega)).trans (hr r q i hi), (up_ne (by omega)).trans h5, ruM_cong (fun j q => up_ne (by omega)) _ _ _ hru⟩
theorem tw_due (h : twM f v pr) {a : Nat} (ha : a < 6) (hv6 : v 13 0 ≤ 6) (x : Nat) : twM (upd f (11 + 6 * a) (nI x)) (va v 15 a x) pr := by
  obtain ⟨h0, h1, h2, h8, h9, ho, hs, hn, h6, hr, h5, hru⟩ := h
  exact ⟨(up_ne (by omega)).trans h0, (up_ne (by omega)).trans h1, (up_ne (by omega)).trans h2, (up_ne (by omega)).trans h8, (up_ne (by omega)).trans h9, fun o q => by
    have q2 : o < v 13 0 := q
    exact ⟨(up_ne (by omega)).trans (ho o q).1, (by
    rw [va_hit]
    by_cases e : o = a
    · subst e
      rw [if_pos rfl]
      exact up_eq
    · rw [if_neg e, up_ne (by omega)]
      exact (ho o q).2.1), (up_ne (by omega)).trans (ho o q).2.2.1, (up_ne (by omega)).trans (ho o q).2.2.2.1, (up_ne (by omega)).trans (ho o q).2.2.2.2.1, (up_ne (by omega)).trans (ho o q).2.2.2.2.2⟩, fun j q => ⟨(up_ne (by omega)).trans (hs j q).1, (up_ne (by omega)).trans (hs j q).2⟩, fun j q => (up_ne (by omega)).trans (hn j q), (up_ne (by omega)).trans h6, fun r q i hi => (up_ne (by omega)).trans (hr r q i hi), (up_ne (by omega)).trans h5, ruM_cong (fun j q => up_ne (by omega)) _ _ _ hru⟩
theorem tw_gift (h : twM f v pr) {a : Nat} (ha : a < 6) (hv6 : v 13 0 ≤ 6) (x : Nat) : twM (upd f (12 + 6 * a) (nI x)) (va v 16 a x) pr := by
  obtain ⟨h0, h1, h2, h8, h9, ho, hs, hn, h6, hr, h5, hru⟩ := h
  exact ⟨(up_ne (by omega)).trans h0, (up_ne (by omega)).trans h1, (up_ne (by omega)).trans h2, (up_ne (by omega)).trans h8, (up_ne (by omega)).trans h9, fun o q => by
    have q2 : o < v 13 0 := q
    exact ⟨(up_ne (by omega)).trans (ho o q).1, (up_ne (by omega)).trans (ho o q).2.1, (by
    rw [va_hit]
    by_cases e : o = a
    · subst e
      rw [if_pos rfl]
      exact up_eq
    · rw [if_neg e, up_ne (by omega)]
      exact (ho o q).2.2.1), (up_ne (by omega)).trans (ho o q).2.2.2.1, (up_ne (by omega)).trans (ho o q).2.2.2.2.1, (up_ne (by omega)).trans (ho o q).2.2.2.2.2⟩, fun j q => ⟨(up_ne (by omega)).trans (hs j q).1, (up_ne (by omega)).trans (hs j q).2⟩, fun j q => (up_ne (by omega)).trans (hn j q), (up_ne (by omega)).trans h6, fun r q i hi => (up_ne (by omega)).trans (hr r q i hi), (up_ne (by omega)).trans h5, ruM_cong (fun j q => up_ne (by omega)) _ _ _ hru⟩
theorem tw_place (h : twM f v pr) {a : Nat} (ha : a < 6) (hv6 : v 13 0 ≤ 6) (x : Nat) : twM (upd f (13 + 6 * a) (nI x)) (va v 17 a x) pr := by
  obtain ⟨h0, h1, h2, h8, h9, ho, hs, hn, h6, hr, h5, hru⟩ := h
  exact ⟨(up_ne (by omega)).trans h0, (up_ne (by omega)).trans h1, (up_ne (by omega)).trans h2, (up_ne (by omega)).trans h8, (up_ne (by omega)).trans h9, fun o q => by
    have q2 : o < v 13 0 := q
    exact ⟨(up_ne (by omega)).trans (ho o q).1, (up_ne (by omega)).trans (ho o q).2.1, (up_ne (by omega)).trans (ho o q).2.2.1, (by
    rw [va_hit]
    by_cases e : o = a
    · subst e
      rw [if_pos rfl]
      exact up_eq
    · rw [if_neg e, up_ne (by omega)]
      exact (ho o q).2.2.2.1), (up_ne (by omega)).trans (ho o q).2.2.2.2.1, (up_ne (by omega)).trans (ho o q).2.2.2.2.2⟩, fun j q => ⟨(up_ne (by omega)).trans (hs j q).1, (up_ne (by omega)).trans (hs j q).2⟩, fun j q => (up_ne (by omega)).trans (hn j q), (up_ne (by omega)).trans h6, fun r q i hi => (up_ne (by omega)).trans (hr r q i hi), (up_ne (by omega)).trans h5, ruM_cong (fun j q => up_ne (by omega)) _ _ _ hru⟩
theorem tc_news (h : twC τ 100 v pr) {a : Nat} (x : Nat) : twC (sc τ 110 (upd (τ.1 110) a (nI x))) 100 (va v 10 a x) pr := by
  obtain ⟨h1, h2, h3, h4, h5, h6, h7, h8, h9, h10, h11, h12, h13, h14⟩ := h
  exact ⟨h1, h2, h3, h4, h5, h6, h7, h8, h9, fun j q => (by
    rw [va_hit]
    show upd (τ.1 110) a (nI x) j = _
    by_cases e : j = a
    · subst e
      rw [if_pos rfl]
      exact up_eq
    · rw [if_neg e, up_ne e]
      exact h10 j q), h11, h12, h13, h14⟩
theorem tc_shift (h : twC τ 100 v pr) {a : Nat} (x : Nat) : twC (sc τ 111 (upd (τ.1 111) a (nI x))) 100 (va v 11 a x) pr := by
  obtain ⟨h1, h2, h3, h4, h5, h6, h7, h8, h9, h10, h11, h12, h13, h14⟩ := h
  exact ⟨h1, h2, h3, h4, h5, h6, h7, h8, fun j q => ⟨(by
    rw [va_hit]
    show upd (τ.1 111) a (nI x) j = _
    by_cases e : j = a
    · subst e
      rw [if_pos rfl]
      exact up_eq
    · rw [if_neg e, up_ne e]
      exact (h9 j q).1), (h9 j q).2⟩, h10, h11, h12, h13, h14⟩
theorem tc_bear (h : twC τ 100 v pr) {a : Nat} (x : Nat) : twC (sc τ 112 (upd (τ.1 112) a (nI x))) 100 (va v 12 a x) pr := by
  obtain ⟨h1, h2, h3, h4, h5, h6, h7, h8, h9, h10, h11, h12, h13, h14⟩ := h
  exact ⟨h1, h2, h3, h4, h5, h6, h7, h8, fun j q => ⟨(h9 j q).1, (by
    rw [va_hit]
    show upd (τ.1 112) a (nI x) j = _
    by_cases e : j = a
    · subst e
      rw [if_pos rfl]
      exact up_eq
    · rw [if_neg e, up_ne e]
      exact (h9 j q).2)⟩, h10, h11, h12, h13, h14⟩
theorem tc_end (h : twC τ 100 v pr) (x : Nat) : twC (sc τ 103 (fun _ => nI x)) 100 (vs v 3 x) pr := by
  obtain ⟨h1, h2, h3, h4, h5, h6, h7, h8, h9, h10, h11, h12, h13, h14⟩ := h
  exact ⟨h1, h2, rfl, h4, h5, h6, h7, h8, h9, h10, h11, h12, h13, h14⟩
theorem tc_kind (h : twC τ 100 v pr) {a : Nat} (x : Nat) : twC (sc τ 114 (upd (τ.1 114) a (nI x))) 100 (va v 14 a x) pr := by
  obtain ⟨h1, h2, h3, h4, h5, h6, h7, h8, h9, h10, h11, h12, h13, h14⟩ := h
  exact ⟨h1, h2, h3, h4, h5, h6, h7, fun o q => ⟨(by
    rw [va_hit]
    show upd (τ.1 114) a (nI x) o = _
    by_cases e : o = a
    · subst e
      rw [if_pos rfl]
      exact up_eq
    · rw [if_neg e, up_ne e]
      exact (h8 o q).1), (h8 o q).2.1, (h8 o q).2.2.1, (h8 o q).2.2.2⟩, h9, h10, h11, h12, h13, h14⟩
theorem tc_due (h : twC τ 100 v pr) {a : Nat} (x : Nat) : twC (sc τ 115 (upd (τ.1 115) a (nI x))) 100 (va v 15 a x) pr := by
  obtain ⟨h1, h2, h3, h4, h5, h6, h7, h8, h9, h10, h11, h12, h13, h14⟩ := h
  exact ⟨h1, h2, h3, h4, h5, h6, h7, fun o q => ⟨(h8 o q).1, (by
    rw [va_hit]
    show upd (τ.1 115) a (nI x) o = _
    by_cases e : o = a
    · subst e
      rw [if_pos rfl]
      exact up_eq
    · rw [if_neg e, up_ne e]
      exact (h8 o q).2.1), (h8 o q).2.2.1, (h8 o q).2.2.2⟩, h9, h10, h11, h12, h13, h14⟩
theorem tc_gift (h : twC τ 100 v pr) {a : Nat} (x : Nat) : twC (sc τ 116 (upd (τ.1 116) a (nI x))) 100 (va v 16 a x) pr := by
  obtain ⟨h1, h2, h3, h4, h5, h6, h7, h8, h9, h10, h11, h12, h13, h14⟩ := h
  exact ⟨h1, h2, h3, h4, h5, h6, h7, fun o q => ⟨(h8 o q).1, (h8 o q).2.1, (by
    rw [va_hit]
    show upd (τ.1 116) a (nI x) o = _
    by_cases e : o = a
    · subst e
      rw [if_pos rfl]
      exact up_eq
    · rw [if_neg e, up_ne e]
      exact (h8 o q).2.2.1), (h8 o q).2.2.2⟩, h9, h10, h11, h12, h13, h14⟩
theorem tc_place (h : twC τ 100 v pr) {a : Nat} (x : Nat) : twC (sc τ 117 (upd (τ.1 117) a (nI x))) 100 (va v 17 a x) pr := by
  obtain ⟨h1, h2, h3, h4, h5, h6, h7, h8, h9, h10, h11, h12, h13, h14⟩ := h
  exact ⟨h1, h2, h3, h4, h5, h6, h7, fun o q => ⟨(h8 o q).1, (h8 o q).2.1, (h8 o q).2.2.1, (by
    rw [va_hit]
    show upd (τ.1 117) a (nI x) o = _
    by_cases e : o = a
    · subst e
      rw [if_pos rfl]
      exact up_eq
    · rw [if_neg e, up_ne e]
      exact (h8 o q).2.2.2)⟩, h9, h10, h11, h12, h13, h14⟩
theorem vOK_news (h : vOK v) {a x : Nat} (hx : x ≤ 15) : vOK (va v 10 a x) := ⟨h.1, h.2.1, h.2.2.1, h.2.2.2.1, h.2.2.2.2.1, h.2.2.2.2.2.1, h.2.2.2.2.2.2.1, h.2.2.2.2.2.2.2.1, h.2.2.2.2.2.2.2.2.1, h.2.2.2.2.2.2.2.2.2.1, fun j hj => by
    rw [va_hit]
    have := h.2.2.2.2.2.2.2.2.2.2.1 j hj
    split <;> omega, h.2.2.2.2.2.2.2.2.2.2.2⟩
theorem vOK_shift (h : vOK v) {a x : Nat} (hx : x ≤ 9) : vOK (va v 11 a x) := ⟨h.1, h.2.1, h.2.2.1, h.2.2.2.1, h.2.2.2.2.1, h.2.2.2.2.2.1, h.2.2.2.2.2.2.1, h.2.2.2.2.2.2.2.1, h.2.2.2.2.2.2.2.2.1, fun j hj => by
    have := h.2.2.2.2.2.2.2.2.2.1 j hj
    refine ⟨?_, this.2⟩
    rw [va_hit]
    split <;> omega, h.2.2.2.2.2.2.2.2.2.2⟩
theorem vOK_bear (h : vOK v) {a x : Nat} (hx : x ≤ 14) : vOK (va v 12 a x) := ⟨h.1, h.2.1, h.2.2.1, h.2.2.2.1, h.2.2.2.2.1, h.2.2.2.2.2.1, h.2.2.2.2.2.2.1, h.2.2.2.2.2.2.2.1, h.2.2.2.2.2.2.2.2.1, fun j hj => by
    have := h.2.2.2.2.2.2.2.2.2.1 j hj
    refine ⟨this.1, ?_⟩
    rw [va_hit]
    split <;> omega, h.2.2.2.2.2.2.2.2.2.2⟩
theorem vOK_end (h : vOK v) {x : Nat} (h1 : 1 ≤ x) (h2 : x ≤ 16) (h3 : v 2 0 ≤ x) : vOK (vs v 3 x) := ⟨h.1, h3, h1, h2, h.2.2.2.2⟩
theorem vOK_kind (h : vOK v) {a x : Nat} (h1 : 1 ≤ x) (h2 : x ≤ 5) : vOK (va v 14 a x) := ⟨h.1, h.2.1, h.2.2.1, h.2.2.2.1, h.2.2.2.2.1, h.2.2.2.2.2.1, h.2.2.2.2.2.2.1, h.2.2.2.2.2.2.2.1, fun o ho => by
    have := h.2.2.2.2.2.2.2.2.1 o ho
    refine ⟨?_, this.2⟩
    rw [va_hit]
    split <;> omega, h.2.2.2.2.2.2.2.2.2⟩
theorem vOK_due (h : vOK v) {a x : Nat} (h1 : x ≤ 60) : vOK (va v 15 a x) := ⟨h.1, h.2.1, h.2.2.1, h.2.2.2.1, h.2.2.2.2.1, h.2.2.2.2.2.1, h.2.2.2.2.2.2.1, h.2.2.2.2.2.2.2.1, fun o ho => by
    have := h.2.2.2.2.2.2.2.2.1 o ho
    refine ⟨this.1, ?_, this.2.2⟩
    rw [va_hit]
    split <;> omega, h.2.2.2.2.2.2.2.2.2⟩
theorem vOK_gift (h : vOK v) {a x : Nat} (h1 : x ≤ 9) : vOK (va v 16 a x) := ⟨h.1, h.2.1, h.2.2.1, h.2.2.2.1, h.2.2.2.2.1, h.2.2.2.2.2.1, h.2.2.2.2.2.2.1, h.2.2.2.2.2.2.2.1, fun o ho => by
    have := h.2.2.2.2.2.2.2.2.1 o ho
    refine ⟨this.1, this.2.1, ?_, this.2.2.2⟩
    rw [va_hit]
    split <;> omega, h.2.2.2.2.2.2.2.2.2⟩
theorem vOK_place (h : vOK v) {a x : Nat} (h1 : x ≤ 5) : vOK (va v 17 a x) := ⟨h.1, h.2.1, h.2.2.1, h.2.2.2.1, h.2.2.2.2.1, h.2.2.2.2.2.1, h.2.2.2.2.2.2.1, h.2.2.2.2.2.2.2.1, fun o ho => by
    have := h.2.2.2.2.2.2.2.2.1 o ho
    refine ⟨this.1, this.2.1, this.2.2.1, ?_⟩
    rw [va_hit]
    split <;> omega, h.2.2.2.2.2.2.2.2.2⟩
end TV
