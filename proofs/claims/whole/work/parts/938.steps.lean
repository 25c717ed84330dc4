/-! PURE: step of report -/
section S6
variable {τ : SC} {σ : SM} {f : Nat → Int32} {v : VT} {pr : List RU} {o : Nat}
theorem stM_cong3 {f g : Nat → Int32} (h : ∀ j, 130 ≤ j → j < 580 → g j = f j) : ∀ (ss : List RS) (k : Nat), k + ss.length ≤ 150 → stM f k ss → stM g k ss := by
  intro ss
  induction ss with
  | nil => intro k _ _; trivial
  | cons q ss ih =>
    intro k hk hs
    obtain ⟨a, b, c⟩ := q
    obtain ⟨h1, h2, h3, h4⟩ := hs
    rw [List.length_cons] at hk
    exact ⟨by rw [h _ (by omega) (by omega)]; exact h1, by rw [h _ (by omega) (by omega)]; exact h2, by rw [h _ (by omega) (by omega)]; exact h3, ih _ (by omega) h4⟩
theorem vlen_cons (a b : Nat) (ss : List RS) (rs : List RU) : vlen ((a, b, ss) :: rs) = ss.length + vlen rs := rfl
theorem ruM_cong3 {f g : Nat → Int32} (h : ∀ j, 74 ≤ j → (j < 106 ∨ 130 ≤ j) → j < 580 → g j = f j) : ∀ (rs : List RU) (r k : Nat), r + rs.length ≤ 8 → k + vlen rs ≤ 150 → ruM f r k rs → ruM g r k rs := by
  intro rs
  induction rs with
  | nil => intro r k _ _ _; trivial
  | cons q rs ih =>
    intro r k hr hk hs
    obtain ⟨a, b, ss⟩ := q
    obtain ⟨h1, h2, h3, h4, h5, h6⟩ := hs
    rw [List.length_cons] at hr
    rw [vlen_cons] at hk
    exact ⟨by rw [h _ (by omega) (by omega) (by omega)]; exact h1, by rw [h _ (by omega) (by omega) (by omega)]; exact h2, by rw [h _ (by omega) (by omega) (by omega)]; exact h3, by rw [h _ (by omega) (by omega) (by omega)]; exact h4, stM_cong3 (fun j a b => h j (by omega) (by omega) b) _ _ (by omega) h5, ih _ _ (by omega) (by omega) h6⟩
def vRep (v : VT) (a b c d : Nat) : VT := vs (va (va (va (va v 19 (4 * v 18 0) a) 19 (4 * v 18 0 + 1) b) 19 (4 * v 18 0 + 2) c) 19 (4 * v 18 0 + 3) d) 18 (v 18 0 + 1)
theorem vRep_19 {a b c d j : Nat} : vRep v a b c d 19 j = if j = 4 * v 18 0 + 3 then d else if j = 4 * v 18 0 + 2 then c else if j = 4 * v 18 0 + 1 then b else if j = 4 * v 18 0 then a else v 19 j := rfl
theorem vRep_old {a b c d j : Nat} (h : j < 4 * v 18 0) : vRep v a b c d 19 j = v 19 j := by
  rw [vRep_19, if_neg (by omega), if_neg (by omega), if_neg (by omega), if_neg (by omega)]
theorem vRep_0 {a b c d : Nat} : vRep v a b c d 19 (4 * v 18 0) = a := by
  rw [vRep_19, if_neg (by omega), if_neg (by omega), if_neg (by omega), if_pos rfl]
theorem vRep_1 {a b c d : Nat} : vRep v a b c d 19 (4 * v 18 0 + 1) = b := by
  rw [vRep_19, if_neg (by omega), if_neg (by omega), if_pos rfl]
theorem vRep_2 {a b c d : Nat} : vRep v a b c d 19 (4 * v 18 0 + 2) = c := by
  rw [vRep_19, if_neg (by omega), if_pos rfl]
theorem vRep_3 {a b c d : Nat} : vRep v a b c d 19 (4 * v 18 0 + 3) = d := by
  rw [vRep_19, if_pos rfl]
theorem vRep_ok (hv : vOK v) (h6 : v 18 0 < 6) {a b c d : Nat} (ha : a ≤ 15) (hb : b ≤ 1) (hc : c ≤ d) (hd : d ≤ 99) : vOK (vRep v a b c d) := by
  obtain ⟨k1, k2, k3, k4, k5, k6, k7, k8, k9, k10, k11, k12, k13⟩ := hv
  refine ⟨k1, k2, k3, k4, k5, k6, k7, k8, k9, k10, k11, show v 18 0 + 1 ≤ 6 by omega, fun r hr => ?_⟩
  have hr2 : r < v 18 0 + 1 := hr
  by_cases e : r = v 18 0
  · subst e
    rw [vRep_0, vRep_1, vRep_2, vRep_3]
    exact ⟨ha, hb, hc, hd⟩
  · rw [vRep_old (by omega), vRep_old (by omega), vRep_old (by omega), vRep_old (by omega)]
    exact k13 r (by omega)
theorem tw_rep (h : twM f v pr) (hv : vOK v) (hp : pOK pr) (h6 : v 18 0 < 6) {a b c d : Nat} : twM (upd (upd (upd (upd (upd f (106 + 4 * v 18 0) (nI a)) (106 + 4 * v 18 0 + 1) (nI b)) (106 + 4 * v 18 0 + 2) (nI c)) (106 + 4 * v 18 0 + 3) (nI d)) 6 (nI (v 18 0 + 1))) (vRep v a b c d) pr := by
  have n6 := hv.1
  obtain ⟨h0, h1, h2, h8, h9, ho, hs, hn, h6', hr, h5, hru⟩ := h
  refine ⟨?_, ?_, ?_, ?_, ?_, fun o hoo => ?_, fun j hj => ?_, fun j hj => ?_, rfl, fun r hr2 i hi => ?_, ?_, ?_⟩
  · simp (disch := omega) only [up_ne]; exact h0
  · simp (disch := omega) only [up_ne]; exact h1
  · simp (disch := omega) only [up_ne]; exact h2
  · simp (disch := omega) only [up_ne]; exact h8
  · simp (disch := omega) only [up_ne]; exact h9
  · have ho2 : o < v 13 0 := hoo
    simp (disch := omega) only [up_ne]; exact ho o ho2
  · simp (disch := omega) only [up_ne]; exact hs j hj
  · simp (disch := omega) only [up_ne]; exact hn j hj
  · have hr3 : r < v 18 0 + 1 := hr2
    by_cases e : r = v 18 0
    · subst e
      rcases (show i = 0 ∨ i = 1 ∨ i = 2 ∨ i = 3 by omega) with rfl | rfl | rfl | rfl
      · rw [show 4 * v 18 0 + 0 = 4 * v 18 0 from rfl, vRep_0]; simp (disch := omega) only [up_ne, up_eq, Nat.add_zero]
      · rw [vRep_1]; simp (disch := omega) only [up_ne, up_eq]
      · rw [vRep_2]; simp (disch := omega) only [up_ne, up_eq]
      · rw [vRep_3]; simp (disch := omega) only [up_ne, up_eq]
    · rw [vRep_old (by omega)]
      simp (disch := omega) only [up_ne]
      exact hr r (by omega) i hi
  · simp (disch := omega) only [up_ne]; exact h5
  · exact ruM_cong3 (fun j a b c => by simp (disch := omega) only [up_ne]) _ _ _ (by have := hp.1; omega) (by have := hp.2.1; omega) hru
theorem tc_rep (h : twC τ 100 v pr) {a b c d : Nat} : twC (sc (sc τ 119 (upd (upd (upd (upd (τ.1 119) (4 * v 18 0) (nI a)) (4 * v 18 0 + 1) (nI b)) (4 * v 18 0 + 2) (nI c)) (4 * v 18 0 + 3) (nI d))) 118 (fun _ => nI (v 18 0 + 1))) 100 (vRep v a b c d) pr := by
  obtain ⟨h1, h2, h3, h4, h5, h6, h7, h8, h9, h10, h11, h12, h13, h14⟩ := h
  refine ⟨h1, h2, h3, h4, h5, h6, h7, h8, h9, h10, rfl, fun r hr2 i hi => ?_, h13, h14⟩
  have hr3 : r < v 18 0 + 1 := hr2
  show upd (upd (upd (upd (τ.1 119) (4 * v 18 0) (nI a)) (4 * v 18 0 + 1) (nI b)) (4 * v 18 0 + 2) (nI c)) (4 * v 18 0 + 3) (nI d) (4 * r + i) = _
  by_cases e : r = v 18 0
  · subst e
    rcases (show i = 0 ∨ i = 1 ∨ i = 2 ∨ i = 3 by omega) with rfl | rfl | rfl | rfl
    · rw [show 4 * v 18 0 + 0 = 4 * v 18 0 from rfl, vRep_0]; simp (disch := omega) only [up_ne, up_eq]
    · rw [vRep_1]; simp (disch := omega) only [up_ne, up_eq]
    · rw [vRep_2]; simp (disch := omega) only [up_ne, up_eq]
    · rw [vRep_3]; simp (disch := omega) only [up_ne, up_eq]
  · rw [vRep_old (by omega)]
    simp (disch := omega) only [up_ne]
    exact h12 r (by omega) i hi
theorem ri_gen (x a b : Int32) : fm_isIn (Int32.toInt64 x) (Int32.toInt64 a) (Int32.toInt64 b) = some (if a ≤ x ∧ x ≤ b then 1 else 0) := rg_isIn x a b
theorem st_report (h : Inv τ σ) (x1 x2 x3 x4 : Int32) : stp (fc_hh_report x1 x2 x3 x4 τ) (fm_report x1 x2 x3 x4 σ) := by
  obtain ⟨⟨v, pr, t1, t2, t3, t4, t5, t6, t7⟩, -⟩ := id h
  have b6 := t3.2.2.2.2.2.2.2.2.2.2.2.1
  have E : ∀ (L : Int32) (L64 : Int64) (n : Nat), L = nI n → n ≤ 99 → L64 = Int32.toInt64 L → (0 : Int32) ≤ x1 ∧ x1 ≤ 15 → (0 : Int32) ≤ x2 ∧ x2 ≤ 1 → (if ¬ x2 = 0 then (9 : Int32) else 99) = L → stp (if x3 < 0 then some ((-1 : Int32), τ) else if x3 ≤ x4 then fc_hh_report_b42 x1 x2 x3 x4 L x4 τ else some (-1, τ)) (Option.bind (fm_isIn (Int32.toInt64 x3) (0 : Int64) L64) fun q3 => if q3 = 0 then some (-1, σ) else fm_report_b62 x1 x2 x3 x4 L64 (Int32.toInt64 x3) (Int32.toInt64 x4) σ) := by
    intro L L64 n hL hn hL64 c1 c2 _
    subst hL64
    unfold fc_hh_report_b42 fm_report_b62 fc_to_noteReport
    rw [show (0 : Int64) = Int32.toInt64 0 from rfl, rg_isIn, rg_isIn, pb_bs, pb_bs, show τ.1 118 0 = _ from t2.2.2.2.2.2.2.2.2.2.2.1, t1.2.2.2.2.2.2.2.2.1]
    by_cases c3 : x3 < 0
    · rw [if_pos c3, if_pos (show (if 0 ≤ x3 ∧ x3 ≤ L then (1 : Int32) else 0) = 0 by rw [if_neg (fun z => by have := z.1; rw [← rg_lt0] at this; exact this c3)])]
      exact ⟨_, τ, σ, rfl, rfl, h⟩
    · have c3' : 0 ≤ x3 := rg_lt0 ▸ c3
      rw [if_neg c3]
      by_cases c4 : x3 ≤ x4
      · rw [if_pos c4]
        by_cases c5 : x4 ≤ L
        · have c6 : x3 ≤ L := Int32.le_trans c4 c5
          simp only [if_pos c5, if_pos (show 0 ≤ x3 ∧ x3 ≤ L from ⟨c3', c6⟩), if_pos (show x3 ≤ x4 ∧ x4 ≤ L from ⟨c4, c5⟩), one0, if_false, not_false_eq_true, if_true]
          by_cases c7 : v 18 0 = 6
          · rw [c7]
            exact ⟨_, τ, σ, rfl, rfl, h⟩
          · rw [if_pos (show nI (v 18 0) < (6 : Int32) by rw [show (6 : Int32) = nI 6 from rfl, pb_lt (by omega) (by decide)]; omega), if_pos (show ¬ nI (v 18 0) = (6 : Int32) by rw [show (6 : Int32) = nI 6 from rfl, pb_eq (by omega) (by decide)]; omega)]
            subst hL
            obtain ⟨a, -, ha, rfl⟩ := rk_0_15 c1
            obtain ⟨b, -, hb, rfl⟩ := rk_0_1 c2
            obtain ⟨c, -, hc, rfl⟩ := rg_nat (a := 0) (m := n) (by omega) ⟨c3', c6⟩ (by omega)
            obtain ⟨d, -, hd, rfl⟩ := rg_nat (a := 0) (m := n) (by omega) ⟨Int32.le_trans c3' c4, c5⟩ (by omega)
            rw [pb_le (by omega) (by omega)] at c4
            simp only [show (106 : Int32) = nI 106 from rfl, show (4 : Int32) = nI 4 from rfl, show (3 : Int32) = nI 3 from rfl, show (2 : Int32) = nI 2 from rfl, show (1 : Int32) = nI 1 from rfl, pb_mul, Nat.mul_comm (v 18 0) 4]
            simp (disch := omega) only [pb_hl, pb_add, pb_in, pb_oc, pb_cl, sc_at, sc_ne, sc_sc, pb_sfsf, pb_sf0, up_ne, up_eq, pb_bs]
            rw [show τ.1 118 0 = _ from t2.2.2.2.2.2.2.2.2.2.2.1, t1.2.2.2.2.2.2.2.2.1, pb_add, pb_sub (by omega)]
            refine ⟨_, _, _, rfl, rfl, Inv_fr h frM_0 ?_ ⟨vRep v a b c d, pr, tw_rep t1 t3 t4 (by omega), tc_rep t2, vRep_ok t3 (by omega) ha (by omega) c4 (by omega), t4, t5, ?_, ?_⟩⟩
            · exact (frC_sc (by unfold rlC; omega)).tr (frC_sc (by unfold rlC; omega))
            · simp (disch := omega) only [up_ne, pb_sf0, sc_ne]; exact t6
            · simp (disch := omega) only [up_ne, pb_sf0, sc_ne]; exact t7
        · by_cases c6 : x3 ≤ L
          · simp only [if_neg c5, if_pos (show 0 ≤ x3 ∧ x3 ≤ L from ⟨c3', c6⟩), if_neg (show ¬ (x3 ≤ x4 ∧ x4 ≤ L) from fun z => c5 z.2), one0, zer0, if_false, not_true_eq_false, if_true]
            exact ⟨_, τ, σ, rfl, rfl, h⟩
          · simp only [if_neg c5, if_neg (show ¬ (0 ≤ x3 ∧ x3 ≤ L) from fun z => c6 z.2), zer0, if_true]
            exact ⟨_, τ, σ, rfl, rfl, h⟩
      · rw [if_neg c4]
        by_cases c6 : x3 ≤ L
        · simp only [if_pos (show 0 ≤ x3 ∧ x3 ≤ L from ⟨c3', c6⟩), if_neg (show ¬ (x3 ≤ x4 ∧ x4 ≤ L) from fun z => c4 z.1), one0, zer0, if_false, not_true_eq_false, if_true]
          exact ⟨_, τ, σ, rfl, rfl, h⟩
        · simp only [if_neg (show ¬ (0 ≤ x3 ∧ x3 ≤ L) from fun z => c6 z.2), zer0, if_true]
          exact ⟨_, τ, σ, rfl, rfl, h⟩
  unfold fc_hh_report fm_report fm_report_b38
  rw [rg_within, rg_within, ri_0_15, ri_0_1]
  by_cases c1 : (0 : Int32) ≤ x1 ∧ x1 ≤ 15
  · by_cases c2 : (0 : Int32) ≤ x2 ∧ x2 ≤ 1
    · simp only [if_pos c1, if_pos c2, pb_bs, one0, if_false]
      by_cases c3 : x2 = 0
      · simp only [if_neg (show ¬ ¬ x2 = 0 from fun z => z c3)]
        exact E 99 99 99 rfl (by decide) rfl c1 c2 (if_neg (fun z => z c3))
      · simp only [if_pos (show ¬ x2 = 0 from c3)]
        exact E 9 9 9 rfl (by decide) rfl c1 c2 (if_pos c3)
    · simp only [if_pos c1, if_neg c2, pb_bs, one0, zer0, if_true, if_false]
      exact ⟨_, τ, σ, rfl, rfl, h⟩
  · simp only [if_neg c1, pb_bs, zer0, if_true]
    exact ⟨_, τ, σ, rfl, rfl, h⟩
end S6
