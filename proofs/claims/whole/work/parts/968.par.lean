/-! PURE: the parsers, side by side -/
theorem vlen_app (rs : List RU) (q : RU) : vlen (rs ++ [q]) = vlen rs + q.2.2.length := by
  unfold vlen
  rw [List.map_append, List.sum_append]
  rfl
theorem vclen_app (rs : List RU) (q : RU) : vclen (rs ++ [q]) = vclen rs + clen q.2.2 := by
  unfold vclen
  rw [List.map_append, List.sum_append]
  show _ + (clen q.2.2 + 0) = _
  rfl
theorem clen_app : ∀ (D E : List RS), clen (D ++ E) = clen D + clen E := by
  intro D
  induction D with
  | nil => intro E; exact (Nat.zero_add _).symm
  | cons q D ih =>
    intro E
    obtain ⟨s, a, b⟩ := q
    show (if s < 3 then 3 else 1) + clen (D ++ E) = (if s < 3 then 3 else 1) + clen D + clen E
    rw [ih, Nat.add_assoc]
theorem stM_lo {f g : Nat → Int32} : ∀ (ss : List RS) (k : Nat), (∀ j, 130 + 3 * k ≤ j → j < 130 + 3 * (k + ss.length) → g j = f j) → stM f k ss → stM g k ss := by
  intro ss
  induction ss with
  | nil => intro k _ _; trivial
  | cons q ss ih =>
    obtain ⟨s, a, b⟩ := q
    intro k h hs
    obtain ⟨h1, h2, h3, h4⟩ := hs
    have hl : ((s, a, b) :: ss).length = ss.length + 1 := rfl
    rw [hl] at h
    refine ⟨?_, ?_, ?_, ih (k + 1) (fun j a1 a2 => h j (by omega) (by omega)) h4⟩
    · rw [h _ (by omega) (by omega)]; exact h1
    · rw [h _ (by omega) (by omega)]; exact h2
    · rw [h _ (by omega) (by omega)]; exact h3
theorem stM_ap {f : Nat → Int32} : ∀ (D E : List RS) (k : Nat), stM f k D → stM f (k + D.length) E → stM f k (D ++ E) := by
  intro D
  induction D with
  | nil => intro E k _ h; exact h
  | cons q D ih =>
    obtain ⟨s, a, b⟩ := q
    intro E k h1 h2
    obtain ⟨a1, a2, a3, a4⟩ := h1
    exact ⟨a1, a2, a3, ih E (k + 1) a4 (by rw [show k + 1 + D.length = k + ((s, a, b) :: D).length by show _ = k + (D.length + 1); omega]; exact h2)⟩
theorem ruM_lo {f g : Nat → Int32} : ∀ (rs : List RU) (r k : Nat), (∀ j, 74 + 4 * r ≤ j → j < 74 + 4 * (r + rs.length) → g j = f j) → (∀ j, 130 + 3 * k ≤ j → j < 130 + 3 * (k + vlen rs) → g j = f j) → ruM f r k rs → ruM g r k rs := by
  intro rs
  induction rs with
  | nil => intro r k _ _ _; trivial
  | cons q rs ih =>
    obtain ⟨kd, d, ss⟩ := q
    intro r k h1 h2 h
    obtain ⟨a1, a2, a3, a4, a5, a6⟩ := h
    have hl : ((kd, d, ss) :: rs).length = rs.length + 1 := rfl
    rw [hl] at h1
    rw [vlen_cons] at h2
    refine ⟨?_, ?_, ?_, ?_, stM_lo ss k (fun j b1 b2 => h2 j b1 (by omega)) a5, ih (r + 1) (k + ss.length) (fun j b1 b2 => h1 j (by omega) (by omega)) (fun j b1 b2 => h2 j (by omega) (by omega)) a6⟩
    · rw [h1 _ (by omega) (by omega)]; exact a1
    · rw [h1 _ (by omega) (by omega)]; exact a2
    · rw [h1 _ (by omega) (by omega)]; exact a3
    · rw [h1 _ (by omega) (by omega)]; exact a4
theorem ruM_ap {f : Nat → Int32} {kd d : Nat} {ss : List RS} : ∀ (rs : List RU) (r k : Nat), ruM f r k rs → f (74 + 4 * (r + rs.length)) = nI kd → f (75 + 4 * (r + rs.length)) = nI d → f (76 + 4 * (r + rs.length)) = nI (k + vlen rs) → f (77 + 4 * (r + rs.length)) = nI (k + vlen rs + ss.length) → stM f (k + vlen rs) ss → ruM f r k (rs ++ [(kd, d, ss)]) := by
  intro rs
  induction rs with
  | nil => intro r k _ h1 h2 h3 h4 h5; exact ⟨h1, h2, h3, h4, h5, trivial⟩
  | cons q rs ih =>
    obtain ⟨kd', d', ss'⟩ := q
    intro r k h h1 h2 h3 h4 h5
    obtain ⟨a1, a2, a3, a4, a5, a6⟩ := h
    have hl : r + ((kd', d', ss') :: rs).length = r + 1 + rs.length := by show r + (rs.length + 1) = _; omega
    rw [hl] at h1 h2 h3 h4
    rw [vlen_cons, ← Nat.add_assoc] at h3 h4 h5
    exact ⟨a1, a2, a3, a4, a5, ih (r + 1) (k + ss'.length) a6 h1 h2 h3 h4 h5⟩
theorem stC_lo {f g : Nat → Int32} : ∀ (ss : List RS) (p : Nat), (∀ j, p ≤ j → j < p + clen ss → g j = f j) → stC f p ss → stC g p ss := by
  intro ss
  induction ss with
  | nil => intro p _ _; trivial
  | cons q ss ih =>
    obtain ⟨s, a, b⟩ := q
    intro p h hs
    have h : ∀ j, p ≤ j → j < p + ((if s < 3 then 3 else 1) + clen ss) → g j = f j := h
    have hs : if s < 3 then f p = nI (s + 3) ∧ f (p + 1) = enc a ∧ f (p + 2) = enc b ∧ stC f (p + 3) ss else f p = nI (s - 3) ∧ stC f (p + 1) ss := hs
    show if s < 3 then g p = nI (s + 3) ∧ g (p + 1) = enc a ∧ g (p + 2) = enc b ∧ stC g (p + 3) ss else g p = nI (s - 3) ∧ stC g (p + 1) ss
    by_cases c : s < 3
    · rw [if_pos c] at h hs ⊢
      obtain ⟨h1, h2, h3, h4⟩ := hs
      refine ⟨?_, ?_, ?_, ih (p + 3) (fun j a1 a2 => h j (by omega) (by omega)) h4⟩
      · rw [h _ (by omega) (by omega)]; exact h1
      · rw [h _ (by omega) (by omega)]; exact h2
      · rw [h _ (by omega) (by omega)]; exact h3
    · rw [if_neg c] at h hs ⊢
      obtain ⟨h1, h4⟩ := hs
      refine ⟨?_, ih (p + 1) (fun j a1 a2 => h j (by omega) (by omega)) h4⟩
      rw [h _ (by omega) (by omega)]; exact h1
theorem stC_ap {f : Nat → Int32} : ∀ (D E : List RS) (p : Nat), stC f p D → stC f (p + clen D) E → stC f p (D ++ E) := by
  intro D
  induction D with
  | nil => intro E p _ h; exact h
  | cons q D ih =>
    obtain ⟨s, a, b⟩ := q
    intro E p h1 h2
    have h1 : if s < 3 then f p = nI (s + 3) ∧ f (p + 1) = enc a ∧ f (p + 2) = enc b ∧ stC f (p + 3) D else f p = nI (s - 3) ∧ stC f (p + 1) D := h1
    have h2 : stC f (p + ((if s < 3 then 3 else 1) + clen D)) E := h2
    show if s < 3 then f p = nI (s + 3) ∧ f (p + 1) = enc a ∧ f (p + 2) = enc b ∧ stC f (p + 3) (D ++ E) else f p = nI (s - 3) ∧ stC f (p + 1) (D ++ E)
    by_cases c : s < 3
    · rw [if_pos c] at h1 h2 ⊢
      rw [← Nat.add_assoc] at h2
      exact ⟨h1.1, h1.2.1, h1.2.2.1, ih E (p + 3) h1.2.2.2 h2⟩
    · rw [if_neg c] at h1 h2 ⊢
      rw [← Nat.add_assoc] at h2
      exact ⟨h1.1, ih E (p + 1) h1.2 h2⟩
theorem ruC_lo {k1 k2 k3 k4 g1 g2 g3 g4 : Nat → Int32} : ∀ (rs : List RU) (r p : Nat), (∀ j, r ≤ j → j < r + rs.length → g1 j = k1 j ∧ g2 j = k2 j ∧ g3 j = k3 j) → (∀ j, p ≤ j → j < p + vclen rs → g4 j = k4 j) → ruC k1 k2 k3 k4 r p rs → ruC g1 g2 g3 g4 r p rs := by
  intro rs
  induction rs with
  | nil => intro r p _ _ _; trivial
  | cons q rs ih =>
    obtain ⟨kd, d, ss⟩ := q
    intro r p h1 h2 h
    obtain ⟨a1, a2, a3, a4, a5⟩ := h
    have hl : ((kd, d, ss) :: rs).length = rs.length + 1 := rfl
    rw [hl] at h1
    rw [vclen_cons] at h2
    obtain ⟨e1, e2, e3⟩ := h1 r (Nat.le_refl _) (by omega)
    refine ⟨by rw [e1]; exact a1, by rw [e2]; exact a2, by rw [e3]; exact a3, stC_lo ss p (fun j b1 b2 => h2 j b1 (by omega)) a4, ih (r + 1) (p + clen ss) (fun j b1 b2 => h1 j (by omega) (by omega)) (fun j b1 b2 => h2 j (by omega) (by omega)) a5⟩
theorem ruC_ap {k1 k2 k3 k4 : Nat → Int32} {kd d : Nat} {ss : List RS} : ∀ (rs : List RU) (r p : Nat), ruC k1 k2 k3 k4 r p rs → k1 (r + rs.length) = nI kd → k2 (r + rs.length) = nI d → k3 (r + rs.length) = nI (p + vclen rs + clen ss) → stC k4 (p + vclen rs) ss → ruC k1 k2 k3 k4 r p (rs ++ [(kd, d, ss)]) := by
  intro rs
  induction rs with
  | nil => intro r p _ h1 h2 h3 h4; exact ⟨h1, h2, h3, h4, trivial⟩
  | cons q rs ih =>
    obtain ⟨kd', d', ss'⟩ := q
    intro r p h h1 h2 h3 h4
    obtain ⟨a1, a2, a3, a4, a5⟩ := h
    have hl : r + ((kd', d', ss') :: rs).length = r + 1 + rs.length := by show r + (rs.length + 1) = _; omega
    rw [hl] at h1 h2 h3
    rw [vclen_cons, ← Nat.add_assoc] at h3 h4
    exact ⟨a1, a2, a3, a4, ih (r + 1) (p + clen ss') a5 h1 h2 h3 h4⟩
/-! depth of truths -/
def EX (k : Nat) (E : List RS) : Prop := ∀ d rest, d + k ≤ 28 → vokS d (E ++ rest) = vokS (d + 1) rest
theorem EX.mono {k k' : Nat} {E : List RS} (h : EX k E) (hk : k ≤ k') : EX k' E := fun d rest hd => h d rest (by omega)
theorem EX_cmp {s a b : Nat} (hs : s < 3) (ha : a < 10005) (hb : b < 10005) : EX 1 [(s, a, b)] := by
  intro d rest hd
  show (if s < 3 then decide (d < 28 ∧ a < 10005 ∧ b < 10005) && vokS (d + 1) rest else _) = _
  rw [if_pos hs, decide_eq_true ⟨by omega, ha, hb⟩, Bool.true_and]
theorem EX_not {k : Nat} {E : List RS} (h : EX k E) : EX k (E ++ [(3, 0, 0)]) := by
  intro d rest hd
  rw [List.append_assoc, h d _ hd]
  show (if (3 : Nat) < 3 then _ else decide (3 < 6) && (if (3 : Nat) = 3 then vokS (d + 1) rest else _)) = _
  rw [if_neg (by decide), if_pos rfl]
  rfl
theorem EX_bin {k s : Nat} {E F : List RS} (hs : s = 4 ∨ s = 5) (h1 : EX (k + 1) E) (h2 : EX k F) : EX (k + 1) (E ++ (F ++ [(s, 0, 0)])) := by
  intro d rest hd
  rw [List.append_assoc, List.append_assoc, h1 d _ hd, h2 (d + 1) _ (by omega)]
  show (if s < 3 then _ else decide (s < 6) && (if s = 3 then _ else vokS (d + 1 + 1 - 1) rest)) = _
  rw [if_neg (by omega), if_neg (by omega), decide_eq_true (by omega), Bool.true_and]
  rfl
/-! tokens' places -/
section TP
variable {b : Nat → Nat} {n : Nat}
theorem nx_ok {p : Nat} (hp : p ≤ n) : p ≤ (nx b n p).2.2.1 ∧ (nx b n p).2.2.1 ≤ (nx b n p).2.2.2.1 ∧ (nx b n p).2.2.2.1 ≤ n ∧ (¬ (nx b n p).2.1 = 20 → (nx b n p).2.2.1 < (nx b n p).2.2.2.1) ∧ ((nx b n p).2.1 = 20 → (nx b n p).2.2.1 = n) := by
  obtain ⟨k1, k2⟩ := skp_le b hp
  have h := nxq_ok (b := b) k2
  unfold nx
  rcases h with ⟨h0, -, h1, h2⟩ | ⟨h0, h1, h2, h3⟩
  · exact ⟨by omega, by omega, by omega, fun z => absurd h0 z, fun _ => h1⟩
  · exact ⟨by omega, by omega, by omega, fun _ => by omega, fun z => absurd z h0⟩
theorem pos_le : ∀ i, pos b n i ≤ n := by
  intro i
  induction i with
  | zero => exact Nat.zero_le _
  | succ i ih => exact (nx_ok ih).2.2.1
theorem tk_tf (i : Nat) : TF b n (tk b n i) := nxq_tf (skp_le b (pos_le i)).2
def fr (b : Nat → Nat) (n i : Nat) : Nat := (tk b n i).2.2.1
theorem fr_to (i : Nat) : (tk b n i).2.2.2.1 ≤ fr b n (i + 1) := (nx_ok (pos_le (i + 1))).1
theorem fr_n (i : Nat) : fr b n i ≤ n := Nat.le_trans (nx_ok (pos_le i)).2.1 (nx_ok (pos_le i)).2.2.1
theorem fr_s {i : Nat} (h : ¬ (tk b n i).2.1 = 20) : fr b n i + 1 ≤ fr b n (i + 1) := by
  have h1 := (nx_ok (b := b) (pos_le (n := n) i)).2.2.2.1 h
  have h2 := fr_to (b := b) (n := n) i
  have h1 : fr b n i < (tk b n i).2.2.2.1 := h1
  omega
theorem fr_3 {i : Nat} (h : (tk b n i).2.1 = 11 ∨ (tk b n i).2.1 = 12) : fr b n i + 3 ≤ fr b n (i + 1) := by
  have h2 := fr_to (b := b) (n := n) i
  rcases h with h | h
  · have := (wk_11.mp ((tf_word (tk_tf i) (by decide)).mp h).2).1
    have : (tk b n i).2.2.2.1 = fr b n i + 3 := this
    omega
  · have := (wk_12.mp ((tf_word (tk_tf i) (by decide)).mp h).2).1
    have : (tk b n i).2.2.2.1 = fr b n i + 3 := this
    omega
theorem fr_2 {i : Nat} (h : (tk b n i).2.1 = 10) : fr b n i + 2 ≤ fr b n (i + 1) := by
  have h2 := fr_to (b := b) (n := n) i
  have := (wk_10.mp ((tf_word (tk_tf i) (by decide)).mp h).2).1
  have : (tk b n i).2.2.2.1 = fr b n i + 2 := this
  omega
theorem tk_num {i : Nat} (h : (tk b n i).2.1 = 19) : (tk b n i).2.2.2.2 < 10000 := by
  revert h
  unfold tk nx nxq
  generalize skp b n (pos b n i) = q
  intro h
  by_cases c0 : n ≤ q
  · rw [if_pos c0]; exact (by decide : 0 < 10000)
  · rw [if_neg c0] at h ⊢
    by_cases c1 : isL (b q) = true
    · rw [if_pos c1]; exact (by decide : 0 < 10000)
    · rw [if_neg c1] at h ⊢
      by_cases c2 : isD (b q) = true
      · rw [if_pos c2] at h ⊢
        have h : (if run (fun i => isD (b i)) (n - q) q - q ≤ 4 then 19 else 18) = 19 := h
        show dv b (run (fun i => isD (b i)) (n - q) q - q) q 0 < 10000
        have hl := run_le (fun i => isD (b i)) (n - q) q
        have hd := dv_lt (b := b) (q := q) (run (fun i => isD (b i)) (n - q) q - q) (fun i a1 a2 => run_in (fun i => isD (b i)) (n - q) q i a1 (by omega))
        by_cases c4 : run (fun i => isD (b i)) (n - q) q - q ≤ 4
        · have : 10 ^ (run (fun i => isD (b i)) (n - q) q - q) ≤ 10 ^ 4 := Nat.pow_le_pow_right (by decide) c4
          omega
        · rw [if_neg c4] at h; omega
      · rw [if_neg c2]; exact (by decide : 0 < 10000)
theorem tk_cd (i : Nat) (hb : ∀ j, j < n → b j < 256) : (tk b n i).2.1 < 1000 := by
  have hd := wdc_le (b := b) (q := (tk b n i).2.2.1) (t := (tk b n i).2.2.2.1)
  rcases (tk_tf (b := b) (n := n) i).2.2 with ⟨h1, h2⟩ | ⟨h1, h2⟩ | ⟨h1, h2⟩ | ⟨h1, h3, h2⟩
  · omega
  · omega
  · split at h2 <;> omega
  · have := hb _ h3
    omega
end TP
