/-! PURE: the class's scan -/
def TPc (τ : SC) (b : Nat → Nat) (n : Nat) : Prop := ∀ j, j < n → b j < 256 ∧ τ.1 6 j = (nI (b j)).toInt8.toInt32
def pos (b : Nat → Nat) (n : Nat) : Nat → Nat
  | 0 => 0
  | i + 1 => (nx b n (pos b n i)).2.2.2.1
def tk (b : Nat → Nat) (n i : Nat) : TK := nx b n (pos b n i)
theorem bf_fin : ∀ c, c < 256 → fc_rd_isLetter ((nI c).toInt8.toInt32) = some (bI (isL c)) ∧ fc_rd_isDigit ((nI c).toInt8.toInt32) = some (bI (isD c)) ∧ decide ((nI c).toInt8.toInt32 = 32) = decide (c = 32) ∧ ((nI c).toInt8.toInt32 &&& (255 : Int32)) = nI c := by decide +kernel
theorem bl_128 : ∀ c, c < 128 → (nI c).toInt8.toInt32 = nI c := by decide +kernel
theorem wl_fin : ∀ w, w < 18 → fc_j0_length_8abf5 w = some (nI (WT.getD w []).length) ∧ (WT.getD w []).length < 10 ∧ fc_rd_word (nI w) = some w := by decide +kernel
theorem wc_fin : ∀ w, w < 18 → ∀ i, i < (WT.getD w []).length → fc_j0_charAt_5068e w (nI i) = some (nI ((WT.getD w []).getD i 0)) ∧ (WT.getD w []).getD i 0 < 256 := by decide +kernel
def TB (τ : SC) (b : Nat → Nat) (n k : Nat) : Prop := τ.1 304 0 = nI k ∧ ∀ i, i < k → τ.1 301 i = nI (tk b n i).2.1 ∧ τ.1 302 i = nI (tk b n i).2.2.1 ∧ ((tk b n i).2.1 = 19 → τ.1 303 i = nI (tk b n i).2.2.2.2)
def FS4 (τ υ : SC) : Prop := (∀ k, k ≠ 301 → k ≠ 302 → k ≠ 303 → k ≠ 304 → υ.1 k = τ.1 k) ∧ υ.2 = τ.2
theorem FS4.rf {τ : SC} : FS4 τ τ := ⟨fun _ _ _ _ _ => rfl, rfl⟩
theorem FS4.tr {a b c : SC} (h1 : FS4 a b) (h2 : FS4 b c) : FS4 a c := ⟨fun k a1 a2 a3 a4 => (h2.1 k a1 a2 a3 a4).trans (h1.1 k a1 a2 a3 a4), h2.2.trans h1.2⟩
section SN
variable {τ : SC} {b : Nat → Nat} {n : Nat}
theorem TPc.fs {υ : SC} (h : TPc τ b n) (hf : FS4 τ υ) : TPc υ b n := by
  unfold TPc
  rw [hf.1 6 (by decide) (by decide) (by decide) (by decide)]
  exact h
theorem no_ok {k : Nat} (h : τ.1 304 0 = nI k) (hk : k < 200) (x1 x2 x3 : Int32) : ∃ τ', fc_rd_note x1 x2 x3 τ = some τ' ∧ FS4 τ τ' ∧ τ'.1 304 0 = nI (k + 1) ∧ τ'.1 301 = upd (τ.1 301) k x1 ∧ τ'.1 302 = upd (τ.1 302) k x2 ∧ τ'.1 303 = upd (τ.1 303) k x3 := by
  unfold fc_rd_note
  simp only [qhl]
  rw [h, if_neg (show ¬ (200 : Int32) ≤ nI k by rw [show (200 : Int32) = nI 200 from rfl, pb_le (by omega) (by omega)]; omega), pb_in (by omega) (by omega), pb_oc, pb_cl (by omega), show (sc τ 301 (upd (τ.1 301) k x1)).1 304 0 = nI k from h, pb_in (by omega) (by omega), pb_oc, pb_cl (by omega)]
  rw [show (sc (sc τ 301 (upd (τ.1 301) k x1)) 302 (upd ((sc τ 301 (upd (τ.1 301) k x1)).1 302) k x2)).1 304 0 = nI k from h, pb_in (by omega) (by omega), pb_oc, pb_cl (by omega)]
  refine ⟨_, rfl, ⟨fun j a1 a2 a3 a4 => ?_, rfl⟩, ?_, rfl, rfl, rfl⟩
  · rw [sc_ne a4, sc_ne a3, sc_ne a2, sc_ne a1]
  · show τ.1 304 0 + 1 = _
    rw [h, nI_a1]
theorem TB_s {k q : Nat} {x3 : Int32} {τ' : SC} (hB : TB τ b n k) (hq : tk b n k = nxq b n q) (e4 : τ'.1 304 0 = nI (k + 1)) (e1 : τ'.1 301 = upd (τ.1 301) k (nI (nxq b n q).2.1)) (e2 : τ'.1 302 = upd (τ.1 302) k (nI (nxq b n q).2.2.1)) (e3 : τ'.1 303 = upd (τ.1 303) k x3) (hx : (nxq b n q).2.1 = 19 → x3 = nI (nxq b n q).2.2.2.2) : TB τ' b n (k + 1) := by
  refine ⟨e4, fun i hi => ?_⟩
  rw [e1, e2, e3]
  by_cases e : i = k
  · subst e
    rw [up_eq, up_eq, up_eq, hq]
    exact ⟨rfl, rfl, hx⟩
  · rw [up_ne e, up_ne e, up_ne e]
    exact hB.2 i (by omega)
theorem nu_l (h : TPc τ b n) (hn : n ≤ 200) {q t e : Nat} (ht : t ≤ n) (he : e = min t (q + 4)) (hd : ∀ i, q ≤ i → i < t → isD (b i) = true) : ∀ (m p fu : Nat), e - p ≤ m → m < fu → q ≤ p → p ≤ e → fc_rd_numberOf_a6_l5 τ fu (nI q) (nI t) (nI (dv b (p - q) q 0)) (nI p) = some (nI (dv b (e - q) q 0)) := by
  intro m
  induction m with
  | zero =>
    intro p fu h1 h2 h3 h4
    obtain ⟨n', rfl⟩ : ∃ q, fu = q + 1 := ⟨fu - 1, by omega⟩
    have ep : p = e := by omega
    unfold fc_rd_numberOf_a6_l5
    rw [show (4 : Int32) = nI 4 from rfl, pb_add, ep]
    by_cases c : t ≤ e
    · rw [if_pos (pQ (pb_le (by omega) (by omega)) c)]
    · rw [if_neg (pN (pb_le (by omega) (by omega)) c), if_pos (pQ (pb_le (by omega) (by omega)) (show q + 4 ≤ e by omega))]
  | succ m ih =>
    intro p fu h1 h2 h3 h4
    obtain ⟨n', rfl⟩ : ∃ q, fu = q + 1 := ⟨fu - 1, by omega⟩
    by_cases ep : p = e
    · unfold fc_rd_numberOf_a6_l5
      rw [show (4 : Int32) = nI 4 from rfl, pb_add, ep]
      by_cases c : t ≤ e
      · rw [if_pos (pQ (pb_le (by omega) (by omega)) c)]
      · rw [if_neg (pN (pb_le (by omega) (by omega)) c), if_pos (pQ (pb_le (by omega) (by omega)) (show q + 4 ≤ e by omega))]
    · have hdp := of_decide_eq_true (hd p h3 (by omega))
      obtain ⟨g1, g2⟩ := h p (by omega)
      rw [fc_rd_numberOf_a6_l5, if_neg (pN (pb_le (by omega) (by omega)) (show ¬ t ≤ p by omega)), show (4 : Int32) = nI 4 from rfl, pb_add, if_neg (pN (pb_le (by omega) (by omega)) (show ¬ q + 4 ≤ p by omega)), pb_in (by omega) (by omega), pb_oc, pb_cl (by omega), g2, bl_128 _ (by omega), show (10 : Int32) = nI 10 from rfl, show (48 : Int32) = nI 48 from rfl, pb_mul, pb_add, pb_sub (by omega), qhl, nI_a1]
      have R := ih (p + 1) n' (by omega) (by omega) (by omega) (by omega)
      rw [show p + 1 - q = (p - q) + 1 by omega, dv_s, show q + (p - q) = p by omega] at R
      rw [show dv b (p - q) q 0 * 10 + b p - 48 = 10 * dv b (p - q) q 0 + (b p - 48) by omega]
      exact R
theorem iw_l (h : TPc τ b n) (hn : n ≤ 200) {q t w : Nat} (ht : t ≤ n) (hw : w < 18) (hl : t = q + (WT.getD w []).length) (h128 : ∀ i, q ≤ i → i < t → b i < 128) : ∀ (cs : List Nat) (i fu : Nat), (WT.getD w []).drop i = cs → i + cs.length = (WT.getD w []).length → cs.length < fu → fc_rd_isWord_a6_l15 τ fu w (nI q) (nI t) (nI (q + i)) = some (bI (mt b (q + i) cs)) := by
  intro cs
  induction cs with
  | nil =>
    intro i fu hd hi hf
    obtain ⟨n', rfl⟩ : ∃ q, fu = q + 1 := ⟨fu - 1, by have : (0 : Nat) < fu := hf; omega⟩
    have hi : i + 0 = (WT.getD w []).length := hi
    unfold fc_rd_isWord_a6_l15
    rw [if_pos (pQ (pb_le (by omega) (by omega)) (show t ≤ q + i by omega))]
    rfl
  | cons c cs ih =>
    intro i fu hd hi hf
    obtain ⟨n', rfl⟩ : ∃ q, fu = q + 1 := ⟨fu - 1, by have : cs.length + 1 < fu := hf; omega⟩
    have hi : i + (cs.length + 1) = (WT.getD w []).length := hi
    have hf : cs.length + 1 < n' + 1 := hf
    obtain ⟨k1, k2⟩ := wc_fin w hw i (by omega)
    have hlt : i < (WT.getD w []).length := by omega
    rw [List.drop_eq_getElem_cons hlt] at hd
    obtain ⟨hc, hcs⟩ := List.cons.inj hd
    have ec : (WT.getD w []).getD i 0 = c := by
      rw [List.getD_eq_getElem?_getD, List.getElem?_eq_getElem hlt]
      exact hc
    obtain ⟨g1, g2⟩ := h (q + i) (by omega)
    have g3 := h128 (q + i) (by omega) (by omega)
    have IH := ih (i + 1) n' hcs (by omega) (by omega)
    rw [fc_rd_isWord_a6_l15, if_neg (pN (pb_le (by omega) (by omega)) (show ¬ t ≤ q + i by omega)), pb_sub (by omega), show q + i - q = i by omega, k1, qbs, show decide (w < 18) = true from decide_eq_true hw, pb_oc, pb_in (by omega) (by omega), pb_oc, pb_cl (by omega), g2, bl_128 _ g3, ec, nI_a1, show q + i + 1 = q + (i + 1) by omega, IH]
    rw [ec] at k2
    show (if nI c = nI (b (q + i)) then some (bI (mt b (q + (i + 1)) cs)) else some 0) = some (bI (decide (b (q + i) = c) && mt b (q + i + 1) cs))
    by_cases e : c = b (q + i)
    · rw [if_pos (by rw [e]), decide_eq_true e.symm, Bool.true_and, show q + i + 1 = q + (i + 1) by omega]
    · rw [if_neg (show ¬ nI c = nI (b (q + i)) by rw [pb_eq (by omega) (by omega)]; exact e), decide_eq_false (fun z => e z.symm), Bool.false_and]
      rfl
theorem iw_ok (h : TPc τ b n) (hn : n ≤ 200) {q t w : Nat} (hqt : q ≤ t) (ht : t ≤ n) (hw : w < 18) (h128 : ∀ i, q ≤ i → i < t → b i < 128) : fc_rd_isWord_a6 τ w (nI q) (nI t) = some (bI (mW b q t w)) := by
  obtain ⟨k1, k2, k3⟩ := wl_fin w hw
  unfold fc_rd_isWord_a6
  rw [k1, qbs, show decide (w < 18) = true from decide_eq_true hw, pb_oc, pb_sub hqt]
  unfold mW
  by_cases c : t = q + (WT.getD w []).length
  · rw [if_pos (show nI (WT.getD w []).length = nI (t - q) by rw [show t - q = (WT.getD w []).length by omega]), decide_eq_true c, Bool.true_and]
    exact iw_l h hn ht hw c h128 (WT.getD w []) 0 hFU rfl (Nat.zero_add _) (by unfold hFU; omega)
  · rw [if_neg (show ¬ nI (WT.getD w []).length = nI (t - q) by rw [pb_eq (by omega) (by omega)]; omega), decide_eq_false c, Bool.false_and]
    rfl
theorem wo_l (h : TPc τ b n) (hn : n ≤ 200) {q t : Nat} (hqt : q ≤ t) (ht : t ≤ n) (h128 : ∀ i, q ≤ i → i < t → b i < 128) : ∀ (m k fu : Nat), k + m = 18 → m < fu → fc_rd_wordOf_a6_l2 τ fu (nI q) (nI t) (nI k) = some (nI (wd b q t m k)) := by
  intro m
  induction m with
  | zero =>
    intro k fu h1 h2
    obtain ⟨n', rfl⟩ : ∃ q, fu = q + 1 := ⟨fu - 1, by omega⟩
    unfold fc_rd_wordOf_a6_l2
    rw [if_pos (show (18 : Int32) ≤ nI k by rw [show (18 : Int32) = nI 18 from rfl, pb_le (by omega) (by omega)]; omega)]
    rfl
  | succ m ih =>
    intro k fu h1 h2
    obtain ⟨n', rfl⟩ : ∃ q, fu = q + 1 := ⟨fu - 1, by omega⟩
    rw [fc_rd_wordOf_a6_l2, if_neg (show ¬ (18 : Int32) ≤ nI k by rw [show (18 : Int32) = nI 18 from rfl, pb_le (by omega) (by omega)]; omega), (wl_fin k (by omega)).2.2, qbs, iw_ok h hn hqt ht (by omega) h128, qbs, nI_a1, ih (k + 1) n' (by omega) (by omega)]
    show _ = some (nI (if mW b q t k = true then k else wd b q t m (k + 1)))
    by_cases c : mW b q t k = true
    · rw [c, if_neg (show ¬ bI true = 0 by decide), if_pos rfl]
    · have c' : mW b q t k = false := by simpa using c
      rw [c', if_pos (show bI false = 0 from rfl), if_neg (show ¬ false = true by decide)]
theorem sl_l31 (h : TPc τ b n) (hn : n ≤ 200) (K12 : Int32 → Int32 → SC → Option SC) (K53 : Int32 → Int32 → Int32 → SC → Option SC) (x3 : Int32) : ∀ (m p fu : Nat), n - p ≤ m → m < fu → p ≤ n → fc_rd_scan_a6_l31 K12 K53 fu (nI n) x3 (nI p) τ = K53 (nI n) x3 (nI (run (fun i => isL (b i)) (n - p) p)) τ := by
  intro m
  induction m with
  | zero =>
    intro p fu h1 h2 h3
    obtain ⟨n', rfl⟩ : ∃ q, fu = q + 1 := ⟨fu - 1, by omega⟩
    unfold fc_rd_scan_a6_l31
    rw [if_pos (pQ (pb_le (by omega) (by omega)) (show n ≤ p by omega)), show n - p = 0 by omega]
    rfl
  | succ m ih =>
    intro p fu h1 h2 h3
    obtain ⟨n', rfl⟩ : ∃ q, fu = q + 1 := ⟨fu - 1, by omega⟩
    rw [fc_rd_scan_a6_l31]
    by_cases c : n ≤ p
    · rw [if_pos (pQ (pb_le (by omega) (by omega)) c), show n - p = 0 by omega]
      rfl
    · obtain ⟨g1, g2⟩ := h p (by omega)
      rw [if_neg (pN (pb_le (by omega) (by omega)) c), pb_in (by omega) (by omega), pb_oc, pb_cl (by omega), g2, (bf_fin _ g1).1, qbs, nI_a1]
      by_cases c2 : isL (b p) = true
      · rw [c2, if_neg (show ¬ bI true = 0 by decide), ih (p + 1) n' (by omega) (by omega) (by omega), ← run_s (P := fun i => isL (b i)) (show p < n by omega) c2]
      · have c3 : isL (b p) = false := by simpa using c2
        rw [c3, if_pos (show bI false = 0 from rfl), show n - p = (n - (p + 1)) + 1 by omega]
        show _ = K53 (nI n) x3 (nI (if isL (b p) = true then _ else p)) τ
        rw [if_neg c2]
theorem sl_l78 (h : TPc τ b n) (hn : n ≤ 200) (K12 : Int32 → Int32 → SC → Option SC) (K100 : Int32 → Int32 → Int32 → SC → Option SC) (x3 : Int32) : ∀ (m p fu : Nat), n - p ≤ m → m < fu → p ≤ n → fc_rd_scan_a6_l78 K12 K100 fu (nI n) x3 (nI p) τ = K100 (nI n) x3 (nI (run (fun i => isD (b i)) (n - p) p)) τ := by
  intro m
  induction m with
  | zero =>
    intro p fu h1 h2 h3
    obtain ⟨n', rfl⟩ : ∃ q, fu = q + 1 := ⟨fu - 1, by omega⟩
    unfold fc_rd_scan_a6_l78
    rw [if_pos (pQ (pb_le (by omega) (by omega)) (show n ≤ p by omega)), show n - p = 0 by omega]
    rfl
  | succ m ih =>
    intro p fu h1 h2 h3
    obtain ⟨n', rfl⟩ : ∃ q, fu = q + 1 := ⟨fu - 1, by omega⟩
    rw [fc_rd_scan_a6_l78]
    by_cases c : n ≤ p
    · rw [if_pos (pQ (pb_le (by omega) (by omega)) c), show n - p = 0 by omega]
      rfl
    · obtain ⟨g1, g2⟩ := h p (by omega)
      rw [if_neg (pN (pb_le (by omega) (by omega)) c), pb_in (by omega) (by omega), pb_oc, pb_cl (by omega), g2, (bf_fin _ g1).2.1, qbs, nI_a1]
      by_cases c2 : isD (b p) = true
      · rw [c2, if_neg (show ¬ bI true = 0 by decide), ih (p + 1) n' (by omega) (by omega) (by omega), ← run_s (P := fun i => isD (b i)) (show p < n by omega) c2]
      · have c3 : isD (b p) = false := by simpa using c2
        rw [c3, if_pos (show bI false = 0 from rfl), show n - p = (n - (p + 1)) + 1 by omega]
        show _ = K100 (nI n) x3 (nI (if isD (b p) = true then _ else p)) τ
        rw [if_neg c2]
theorem scan_l (hn : n ≤ 200) : ∀ (m p k fu : Nat) (τ : SC), n - p ≤ m → m < fu → p ≤ n → k ≤ p → TPc τ b n → TB τ b n k → (∀ i, i < k → ¬ (tk b n i).2.1 = 20) → nx b n p = tk b n k → ∃ τ' cnt, fc_rd_scan_a6_l12 fu (nI n) (nI p) τ = some τ' ∧ FS4 τ τ' ∧ cnt ≤ n ∧ TB τ' b n cnt ∧ (∀ i, i < cnt → ¬ (tk b n i).2.1 = 20) ∧ (tk b n cnt).2.1 = 20 := by
  intro m
  induction m with
  | zero =>
    intro p k fu τ h1 h2 h3 h4 hP hB hN hx
    obtain ⟨n', rfl⟩ : ∃ q, fu = q + 1 := ⟨fu - 1, by omega⟩
    have e : p = n := by omega
    unfold fc_rd_scan_a6_l12
    rw [if_pos (pQ (pb_le (by omega) (by omega)) (show n ≤ p by omega))]
    refine ⟨τ, k, rfl, FS4.rf, by omega, hB, hN, ?_⟩
    rw [← hx, e]
    unfold nx nxq
    rw [skp_z, if_pos (Nat.le_refl _)]
  | succ m ih =>
    intro p k fu τ h1 h2 h3 h4 hP hB hN hx
    obtain ⟨n', rfl⟩ : ∃ q, fu = q + 1 := ⟨fu - 1, by omega⟩
    have IH := fun p k τ => ih p k n' τ
    rw [fc_rd_scan_a6_l12]
    generalize fc_rd_scan_a6_l12 n' = K at IH ⊢
    by_cases c : n ≤ p
    · have e : p = n := by omega
      rw [if_pos (pQ (pb_le (by omega) (by omega)) c)]
      refine ⟨τ, k, rfl, FS4.rf, by omega, hB, hN, ?_⟩
      rw [← hx, e]
      unfold nx nxq
      rw [skp_z, if_pos (Nat.le_refl _)]
    · obtain ⟨g1, g2⟩ := hP p (by omega)
      obtain ⟨y1, y2, y3, y4⟩ := bf_fin _ g1
      rw [if_neg (pN (pb_le (by omega) (by omega)) c), qhl, nI_a1, pb_in (by omega) (by omega), pb_cl (by omega), g2, y1, y2, y4]
      simp only [pb_oc, qbs]
      -- a token at p: the rest
      have GO : ∀ (x3 : Int32) (t : Nat), nx b n p = nxq b n p → ¬ (nxq b n p).2.1 = 20 → (nxq b n p).2.2.1 = p → (nxq b n p).2.2.2.1 = t → p < t → t ≤ n → ((nxq b n p).2.1 = 19 → x3 = nI (nxq b n p).2.2.2.2) → ∃ τ' cnt, (Option.bind (fc_rd_note (nI (nxq b n p).2.1) (nI p) x3 τ) fun τ7 => (fc_rd_scan_a6_b154 K (nI n) (nI t) τ7)) = some τ' ∧ FS4 τ τ' ∧ cnt ≤ n ∧ TB τ' b n cnt ∧ (∀ i, i < cnt → ¬ (tk b n i).2.1 = 20) ∧ (tk b n cnt).2.1 = 20 := by
        intro x3 t a1 a2 a3 a4 a5 a6 a7
        obtain ⟨τ1, b1, b2, b3, b4, b5, b6⟩ := no_ok hB.1 (show k < 200 by omega) (nI (nxq b n p).2.1) (nI p) x3
        rw [b1, qbs]
        unfold fc_rd_scan_a6_b154
        have hk : tk b n k = nxq b n p := by rw [← hx, a1]
        have hB1 : TB τ1 b n (k + 1) := TB_s hB hk b3 b4 (by rw [a3]; exact b5) b6 a7
        have hpos : pos b n (k + 1) = t := by
          show (tk b n k).2.2.2.1 = t
          rw [hk, a4]
        obtain ⟨τ', cnt, d1, d2, d3⟩ := IH t (k + 1) τ1 (by omega) (by omega) a6 (by omega) (hP.fs b2) hB1 (fun i hi => by
          by_cases e : i = k
          · rw [e, hk]; exact a2
          · exact hN i (by omega)) (by unfold tk; rw [hpos])
        exact ⟨τ', cnt, d1, b2.tr d2, d3⟩
      by_cases c1 : isL (b p) = true
      · have c32 : ¬ b p = 32 := by
          have := of_decide_eq_true c1
          omega
        have e1 : nx b n p = nxq b n p := by unfold nx; rw [skp_n (by omega) c32]
        rw [c1, if_neg (show ¬ bI true = 0 by decide), sl_l31 hP hn _ _ _ (n - (p + 1)) (p + 1) hFU (Nat.le_refl _) (by unfold hFU; omega) (by omega)]
        have er := run_s (P := fun i => isL (b i)) (show p < n by omega) c1
        have el := run_le (fun i => isL (b i)) (n - (p + 1)) (p + 1)
        have ein := run_in (fun i => isL (b i)) (n - p) p
        rw [← er] at el ⊢
        show ∃ τ' cnt, fc_rd_scan_a6_b53 K (nI n) (nI p) (nI (run (fun i => isL (b i)) (n - p) p)) τ = some τ' ∧ _
        have eq : nxq b n p = (1, wdc b p (run (fun i => isL (b i)) (n - p) p), p, run (fun i => isL (b i)) (n - p) p, 0) := by
          unfold nxq
          rw [if_neg c, if_pos c1]
        have G := GO (0 : Int32) (run (fun i => isL (b i)) (n - p) p) e1 (by rw [eq]; have := wdc_le (b := b) (q := p) (t := run (fun i => isL (b i)) (n - p) p); show ¬ wdc b p _ = 20; omega) (by rw [eq]) (by rw [eq]) (by omega) (by omega) (by rw [eq]; intro z; have := wdc_le (b := b) (q := p) (t := run (fun i => isL (b i)) (n - p) p); have z : wdc b p _ = 19 := z; omega)
        rw [eq] at G
        unfold fc_rd_scan_a6_b53 fc_rd_wordOf_a6
        rw [show (0 : Int32) = nI 0 from rfl, wo_l hP hn (by omega) (by omega) (fun i a1 a2 => by have := of_decide_eq_true (ein i a1 a2); omega) 18 0 hFU rfl (by unfold hFU; omega), qbs]
        exact G
      · have c1' : isL (b p) = false := by simpa using c1
        rw [c1', if_pos (show bI false = 0 from rfl)]
        by_cases c2 : isD (b p) = true
        · have c32 : ¬ b p = 32 := by
            have := of_decide_eq_true c2
            omega
          have e1 : nx b n p = nxq b n p := by unfold nx; rw [skp_n (by omega) c32]
          rw [c2, if_neg (show ¬ bI true = 0 by decide), sl_l78 hP hn _ _ _ (n - (p + 1)) (p + 1) hFU (Nat.le_refl _) (by unfold hFU; omega) (by omega)]
          have er := run_s (P := fun i => isD (b i)) (show p < n by omega) c2
          have el := run_le (fun i => isD (b i)) (n - (p + 1)) (p + 1)
          have ein := run_in (fun i => isD (b i)) (n - p) p
          rw [← er] at el ⊢
          show ∃ τ' cnt, fc_rd_scan_a6_b100 K (nI n) (nI p) (nI (run (fun i => isD (b i)) (n - p) p)) τ = some τ' ∧ _
          have eq : nxq b n p = (2, if run (fun i => isD (b i)) (n - p) p - p ≤ 4 then 19 else 18, p, run (fun i => isD (b i)) (n - p) p, dv b (run (fun i => isD (b i)) (n - p) p - p) p 0) := by
            unfold nxq
            rw [if_neg c, if_neg c1, if_pos c2]
          generalize hrt : run (fun i => isD (b i)) (n - p) p = t at el ein eq ⊢
          have NU := nu_l hP hn (q := p) (t := t) (e := min t (p + 4)) (by omega) rfl ein (min t (p + 4) - p) p hFU (Nat.le_refl _) (by unfold hFU; omega) (Nat.le_refl _) (by omega)
          rw [Nat.sub_self] at NU
          have G := GO (nI (dv b (min t (p + 4) - p) p 0)) t e1 (by rw [eq]; show ¬ (if _ then 19 else 18) = 20; split <;> omega) (by rw [eq]) (by rw [eq]) (by omega) (by omega) (by
            rw [eq]
            intro z
            have z : (if t - p ≤ 4 then 19 else 18) = 19 := z
            by_cases c4 : t - p ≤ 4
            · rw [show min t (p + 4) = t by omega]
            · rw [if_neg c4] at z; omega)
          rw [eq] at G
          unfold fc_rd_scan_a6_b100 fc_rd_scan_a6_b116 fc_rd_numberOf_a6
          rw [show fc_rd_numberOf_a6_l5 τ hFU (nI p) (nI t) (0 : Int32) (nI p) = _ from NU, qbs, pb_sub (by omega), show (4 : Int32) = nI 4 from rfl]
          by_cases c4 : t - p ≤ 4
          · rw [if_pos (pQ (pb_le (by omega) (by omega)) c4)]
            rw [if_pos c4] at G
            exact G
          · rw [if_neg (pN (pb_le (by omega) (by omega)) c4)]
            rw [if_neg c4] at G
            exact G
        · have c2' : isD (b p) = false := by simpa using c2
          rw [c2', if_pos (show bI false = 0 from rfl)]
          by_cases c3 : b p = 32
          · rw [if_pos (of_decide_eq_true (y3.trans (decide_eq_true c3)))]
            unfold fc_rd_scan_a6_b154
            exact IH (p + 1) k τ (by omega) (by omega) (by omega) (by omega) hP hB hN (by rw [← hx]; unfold nx; rw [← skp_s (by omega) c3])
          · rw [if_neg (fun z => c3 (of_decide_eq_true (y3.symm.trans (decide_eq_true z))))]
            have e1 : nx b n p = nxq b n p := by unfold nx; rw [skp_n (by omega) c3]
            have eq : nxq b n p = (3, 100 + b p, p, p + 1, 0) := by
              unfold nxq
              rw [if_neg c, if_neg c1, if_neg c2]
            have G := GO (0 : Int32) (p + 1) e1 (by rw [eq]; show ¬ 100 + b p = 20; omega) (by rw [eq]) (by rw [eq]) (by omega) (by omega) (by rw [eq]; intro z; have z : 100 + b p = 19 := z; omega)
            rw [eq] at G
            rw [show (100 : Int32) = nI 100 from rfl, pb_add]
            exact G
theorem scan_ok (hn : n ≤ 200) (hP : TPc τ b n) : ∃ τ' cnt, fc_rd_scan_a6 (nI n) τ = some τ' ∧ (∀ k, k ≠ 301 → k ≠ 302 → k ≠ 303 → k ≠ 304 → k ≠ 305 → τ'.1 k = τ.1 k) ∧ τ'.2 = τ.2 ∧ τ'.1 305 0 = nI n ∧ cnt ≤ n ∧ TB τ' b n cnt ∧ (∀ i, i < cnt → ¬ (tk b n i).2.1 = 20) ∧ (tk b n cnt).2.1 = 20 := by
  unfold fc_rd_scan_a6
  simp only [qhl]
  obtain ⟨τ', cnt, d1, d2, d3, d4, d5, d6⟩ := scan_l (b := b) hn n 0 0 hFU (sc (sc τ 304 fun _ => (0 : Int32)) 305 fun _ => nI n) (by omega) (by unfold hFU; omega) (Nat.zero_le _) (Nat.le_refl _) (fun j hj => by rw [sc_ne (by omega), sc_ne (by omega)]; exact hP j hj) ⟨rfl, fun i hi => absurd hi (Nat.not_lt_zero i)⟩ (fun i hi => absurd hi (Nat.not_lt_zero i)) rfl
  refine ⟨τ', cnt, d1, fun k a1 a2 a3 a4 a5 => ?_, d2.2, ?_, d3, d4, d5, d6⟩
  · rw [d2.1 k a1 a2 a3 a4, sc_ne a5, sc_ne a4]
  · rw [d2.1 305 (by decide) (by decide) (by decide) (by decide), sc_at]
end SN
