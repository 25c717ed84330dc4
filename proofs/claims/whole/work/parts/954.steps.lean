/-! PURE: step of feed -/
section S22
variable {τ : SC} {σ : SM}
theorem fd_nar (z : Int8) : vp_nar .byte (Int8.toInt32 z) = Int8.toInt32 z := by
  show Int8.toInt32 (Int32.toInt8 (Int8.toInt32 z)) = Int8.toInt32 z
  rw [Int8.toInt8_toInt32]
theorem fd_gen (e : Int64) (y : Int32) (s : Nat) (hs : s ≤ 56) (h1 : (y.toInt64 &&& 63).toBitVec.smod 64 = BitVec.ofNat 64 s) (h2 : (y.toInt64.toUInt64 &&& Int64.toUInt64 63).toBitVec % 64 = BitVec.ofNat 64 s) : ∃ b, b < 256 ∧ Int64.toInt32 (hlshr e y &&& (255 : Int64)) = nI b ∧ (hlushr e y).toInt32.toInt8 = (nI b).toInt8 := by
  have hsn : (BitVec.ofNat 64 s).toNat = s := by
    rw [BitVec.toNat_ofNat]
    omega
  have k1 : (hlshr e y &&& (255 : Int64)).toBitVec = (e.toBitVec.sshiftRight s) &&& 255#64 := by
    unfold hlshr
    rw [Int64.toBitVec_and, Int64.toBitVec_shiftRight, h1, BitVec.sshiftRight_eq', hsn]
    rfl
  have k2 : (hlushr e y).toBitVec = e.toBitVec >>> s := by
    unfold hlushr
    rw [UInt64.toBitVec_toInt64, UInt64.toBitVec_shiftRight, h2, BitVec.ushiftRight_eq', hsn]
    rfl
  have hb : (Int64.toInt32 (hlshr e y &&& (255 : Int64))).toBitVec.toNat < 256 := by
    rw [Int64.toBitVec_toInt32, k1, BitVec.signExtend_eq_setWidth_of_le _ (by decide), BitVec.toNat_setWidth]
    have : (e.toBitVec.sshiftRight s &&& 255#64).toNat ≤ 255 := by
      rw [BitVec.toNat_and]
      exact Nat.and_le_right
    omega
  refine ⟨_, hb, ?_, ?_⟩
  · apply Int32.toBitVec_inj.mp
    apply BitVec.eq_of_toNat_eq
    rw [pk_tn (by omega)]
  · have e1 : nI (Int64.toInt32 (hlshr e y &&& (255 : Int64))).toBitVec.toNat = Int64.toInt32 (hlshr e y &&& (255 : Int64)) := by
      apply Int32.toBitVec_inj.mp
      apply BitVec.eq_of_toNat_eq
      rw [pk_tn (by omega)]
    rw [e1]
    apply Int8.toBitVec_inj.mp
    rw [Int32.toBitVec_toInt8, Int32.toBitVec_toInt8, Int64.toBitVec_toInt32, Int64.toBitVec_toInt32, k1, k2, BitVec.signExtend_eq_setWidth_of_le _ (by decide), BitVec.signExtend_eq_setWidth_of_le _ (by decide), BitVec.signExtend_eq_setWidth_of_le _ (by decide), BitVec.signExtend_eq_setWidth_of_le _ (by decide)]
    apply BitVec.eq_of_getLsbD_eq
    intro i hi
    have hm : (255#64).getLsbD i = true := by
      rcases (show i = 0 ∨ i = 1 ∨ i = 2 ∨ i = 3 ∨ i = 4 ∨ i = 5 ∨ i = 6 ∨ i = 7 by omega) with rfl | rfl | rfl | rfl | rfl | rfl | rfl | rfl <;> decide
    simp only [BitVec.getLsbD_setWidth, BitVec.getLsbD_and, BitVec.getLsbD_ushiftRight, BitVec.getLsbD_sshiftRight, hm, Bool.and_true, decide_eq_true (show i < 8 from hi), decide_eq_true (show i < 32 by omega), Bool.true_and, show ¬ 64 ≤ i by omega, decide_false, Bool.not_false, show s + i < 64 by omega, if_true]
theorem fd_byte (e : Int64) : ∀ k, k < 8 → ∃ b, b < 256 ∧ Int64.toInt32 (hlshr e (nI (8 * k)) &&& (255 : Int64)) = nI b ∧ (hlushr e (nI (8 * k))).toInt32.toInt8 = (nI b).toInt8 := by
  intro k hk
  rcases (show k = 0 ∨ k = 1 ∨ k = 2 ∨ k = 3 ∨ k = 4 ∨ k = 5 ∨ k = 6 ∨ k = 7 by omega) with rfl | rfl | rfl | rfl | rfl | rfl | rfl | rfl
  · exact fd_gen e _ 0 (by decide) (by decide +kernel) (by decide +kernel)
  · exact fd_gen e _ 8 (by decide) (by decide +kernel) (by decide +kernel)
  · exact fd_gen e _ 16 (by decide) (by decide +kernel) (by decide +kernel)
  · exact fd_gen e _ 24 (by decide) (by decide +kernel) (by decide +kernel)
  · exact fd_gen e _ 32 (by decide) (by decide +kernel) (by decide +kernel)
  · exact fd_gen e _ 40 (by decide) (by decide +kernel) (by decide +kernel)
  · exact fd_gen e _ 48 (by decide) (by decide +kernel) (by decide +kernel)
  · exact fd_gen e _ 56 (by decide) (by decide +kernel) (by decide +kernel)
theorem fd_l (x1 : Int64) {n t : Nat} (hn : n ≤ 8) (ht : t + n ≤ 200) (c7 : τ.1 7 0 = nI t) : ∀ (m k n1 n2 : Nat) (g h c : Nat → Int32), k + m = n → m < n1 → m < n2 → c 0 = nI (t + k) → (∀ j, j < t + k → ∃ b, b < 256 ∧ g j = nI b ∧ h j = (nI b).toInt8.toInt32) → ∃ g2 h2 c2, c2 0 = nI (t + n) ∧ fm_feed_l32 n2 x1 (nI n) (nI k) (sf (sf σ 4 g) 5 c) = some (nI (t + n), sf (sf σ 4 g2) 5 c2) ∧ fc_hh_feed_l31 n1 x1 (nI n) (nI k) (sc τ 6 h) = some (nI (t + n), sc (sc τ 6 h2) 7 (fun _ => nI (t + n))) ∧ (∀ j, j < t + n → ∃ b, b < 256 ∧ g2 j = nI b ∧ h2 j = (nI b).toInt8.toInt32) := by
  intro m
  induction m with
  | zero =>
    intro k n1 n2 g h c hk h1 h2 hc hg
    obtain ⟨q1, rfl⟩ : ∃ q, n1 = q + 1 := ⟨n1 - 1, by omega⟩
    obtain ⟨q2, rfl⟩ : ∃ q, n2 = q + 1 := ⟨n2 - 1, by omega⟩
    have hkn : k = n := by omega
    subst hkn
    unfold fm_feed_l32 fc_hh_feed_l31
    rw [if_pos (show nI k ≤ nI k by rw [pb_le (by omega) (by omega)]; exact Nat.le_refl _), if_pos (show nI k ≤ nI k by rw [pb_le (by omega) (by omega)]; exact Nat.le_refl _), qhl, sc_at, show (sc τ 6 h).1 7 0 = nI t from c7, pb_add]
    rw [show (sf (sf σ 4 g) 5 c) 5 0 = nI (t + k) from hc]
    exact ⟨g, h, c, hc, rfl, rfl, hg⟩
  | succ m ih =>
    intro k n1 n2 g h c hk h1 h2 hc hg
    obtain ⟨q1, rfl⟩ : ∃ q, n1 = q + 1 := ⟨n1 - 1, by omega⟩
    obtain ⟨q2, rfl⟩ : ∃ q, n2 = q + 1 := ⟨n2 - 1, by omega⟩
    obtain ⟨b, hb, b1, b2⟩ := fd_byte x1 k (by omega)
    have IH := ih (k + 1) q1 q2 (upd g (t + k) (nI b)) (upd h (t + k) ((nI b).toInt8.toInt32)) (fun _ => nI (t + k + 1)) (by omega) (by omega) (by omega) rfl (fun j hj => by
      by_cases e : j = t + k
      · subst e
        rw [up_eq, up_eq]
        exact ⟨b, hb, rfl, rfl⟩
      · rw [up_ne e, up_ne e]
        exact hg j (by omega))
    unfold fm_feed_l32 fc_hh_feed_l31
    rw [if_neg (show ¬ nI n ≤ nI k by rw [pb_le (by omega) (by omega)]; omega), if_neg (show ¬ nI n ≤ nI k by rw [pb_le (by omega) (by omega)]; omega)]
    simp only [show (8 : Int32) = nI 8 from rfl, show (1 : Int32) = nI 1 from rfl, pb_mul, b1, b2, fd_nar]
    rw [show (sc τ 6 h).1 7 0 = nI t from c7, show (sc τ 6 h).1 6 = h from rfl, show (sf (sf σ 4 g) 5 c) 5 0 = nI (t + k) from hc, show (sf (sf σ 4 g) 5 c) 4 = g from rfl, pb_add, pb_add, pb_in (by omega) (by omega), pb_oc, pb_oc, pb_cl (by omega)]
    simp only [qhl, sc_sc]
    rw [show (sf (sf (sf σ 4 g) 5 c) 4 (upd g (t + k) (nI b))) 5 0 = nI (t + k) from hc, pb_add]
    rw [show sf (sf (sf (sf σ 4 g) 5 c) 4 (upd g (t + k) (nI b))) 5 (fun _ => nI (t + k + 1)) = sf (sf σ 4 (upd g (t + k) (nI b))) 5 (fun _ => nI (t + k + 1)) from by
      funext i
      unfold sf
      by_cases e5 : i = 5
      · simp only [if_pos e5]
      · simp only [if_neg e5]
        by_cases e4 : i = 4
        · simp only [if_pos e4]
        · simp only [if_neg e4]]
    exact IH
theorem Inv_tape {g2 h2 c2 : Nat → Int32} {N : Nat} (h : Inv τ σ) (hN : N ≤ 200) (hc : c2 0 = nI N) (hg : ∀ j, j < N → ∃ b, b < 256 ∧ g2 j = nI b ∧ h2 j = (nI b).toInt8.toInt32) : Inv (sc (sc τ 6 h2) 7 (fun _ => nI N)) (sf (sf σ 4 g2) 5 c2) := by
  obtain ⟨⟨v, pr, t1, t2, t3, t4, t5, t6, t7⟩, ⟨k1, k2⟩, i3, i4, i5, i6, i7⟩ := h
  refine ⟨⟨v, pr, t1, twC_cg (fun k a1 a2 => ?_) t2, t3, t4, t5, t6, t7⟩, ⟨k1, ?_⟩, ⟨N, hN, hc, rfl, hg⟩, i4, i5, i6, i7⟩
  · rw [sc_ne (by omega), sc_ne (by omega)]
  · rcases k2 with k2 | ⟨k2, w, qr, s1, s2, s3, s4, s5, s6, s7⟩
    · exact Or.inl k2
    · exact Or.inr ⟨k2, w, qr, s1, twC_cg (fun k a1 a2 => by rw [sc_ne (by omega), sc_ne (by omega)]) s2, s3, s4, s5, s6, s7⟩
theorem st_feed (h : Inv τ σ) (x1 : Int64) (x3 : Int32) : stp (fc_hh_feed x1 x3 τ) (fm_feed x1 x3 σ) := by
  obtain ⟨-, -, ⟨t, ht, a1, a2, a3⟩, -⟩ := id h
  unfold fc_hh_feed fm_feed
  rw [ri_1_8, qbs]
  by_cases c1 : (1 : Int32) ≤ x3 ∧ x3 ≤ 8
  · rw [if_pos c1, if_neg (show ¬ x3 < 1 by rw [rg_nlt]; exact c1.1), if_pos c1.2, if_pos (show ¬ (1 : Int32) = 0 by decide), a1, a2]
    obtain ⟨n, hn1, hn, rfl⟩ := rk_1_8 c1
    rw [pb_add, show (200 : Int32) = nI 200 from rfl]
    by_cases c2 : t + n ≤ 200
    · rw [if_pos (show nI (t + n) ≤ nI 200 by rw [pb_le (by omega) (by omega)]; exact c2), if_pos (show nI (t + n) ≤ nI 200 by rw [pb_le (by omega) (by omega)]; exact c2)]
      have hF : n < hFU := by unfold hFU; omega
      obtain ⟨g2, h2, cc, e0, e1, e2, e3⟩ := fd_l (τ := τ) (σ := σ) x1 hn c2 a2 n 0 hFU hFU (σ 4) (τ.1 6) (σ 5) (by omega) hF hF a1 a3
      rw [sf_id, sf_id, show nI 0 = (0 : Int32) from rfl] at e1
      rw [sc_id, show nI 0 = (0 : Int32) from rfl] at e2
      rw [e1, e2]
      exact ⟨_, _, _, rfl, rfl, Inv_tape h c2 e0 e3⟩
    · rw [if_neg (show ¬ nI (t + n) ≤ nI 200 by rw [pb_le (by omega) (by omega)]; exact c2), if_neg (show ¬ nI (t + n) ≤ nI 200 by rw [pb_le (by omega) (by omega)]; exact c2)]
      exact ⟨_, τ, σ, rfl, rfl, h⟩
  · rw [if_neg c1, if_neg (show ¬ ¬ (0 : Int32) = 0 from fun z => z rfl)]
    by_cases d1 : x3 < 1
    · rw [if_pos d1]
      exact ⟨_, τ, σ, rfl, rfl, h⟩
    · rw [if_neg d1, if_neg (show ¬ x3 ≤ 8 from fun w => c1 ⟨rg_nlt ▸ d1, w⟩)]
      exact ⟨_, τ, σ, rfl, rfl, h⟩
end S22
