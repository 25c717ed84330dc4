/-! PURE: steps of guildOf, change, anew, report -/
section S4
variable {τ : SC} {σ : SM} {f : Nat → Int32} {v : VT} {pr : List RU} {o : Nat}
theorem ec_cheersOf (hT : twC τ 100 v pr) (ho : o < v 13 0) (hv : vOK v) : fc_to_cheersOf τ (nI o) = some (vCh (v 14 o) (v 16 o) (v 2 0)) := by
  have h6 := hv.1
  have k := hv.2.2.2.2.2.2.2.2.1 o ho
  have b1 := hv.2.1
  have b2 := hv.2.2.2.1
  unfold fc_to_cheersOf
  obtain ⟨e1, -, e2, -⟩ := hT.2.2.2.2.2.2.2.1 o ho
  rw [pb_cl (by omega), show τ.1 114 o = _ from e1, show τ.1 116 o = _ from e2, show τ.1 102 0 = _ from hT.2.1]
  simp (disch := omega) only [pb_in, pb_oc, pb_cl]
  rw [ec_Ncheers _ (by omega) k.1.1 _ (by omega) _ (by omega)]
  rfl
theorem ec_paysOf (hT : twC τ 100 v pr) (ho : o < v 13 0) (hv : vOK v) : fc_to_paysOf τ (nI o) = some (nI (vPays (v 14 o) o)) := by
  have h6 := hv.1
  have k := hv.2.2.2.2.2.2.2.2.1 o ho
  unfold fc_to_paysOf
  obtain ⟨e1, -, e2, -⟩ := hT.2.2.2.2.2.2.2.1 o ho
  rw [pb_cl (by omega), show τ.1 114 o = _ from e1]
  simp (disch := omega) only [pb_in, pb_oc, pb_cl]
  rw [ec_Npays _ (by omega) k.1.1 _ (by omega)]
  rfl
theorem sw10 {x : Int32} (h : ¬ ((0 : Int32) ≤ x ∧ x ≤ 9)) {n : Nat} (hn : n ≤ 9) : (x = nI n) = False := by
  refine propext ⟨fun e => h ?_, False.elim⟩
  subst e
  exact rn_0_9 (Nat.zero_le _) hn
theorem st_guildOf (h : Inv τ σ) (x1 x2 : Int32) : st2 (fc_hh_guildOf x1 x2 τ) σ (fm_guildOf σ x1 x2) := by
  obtain ⟨⟨v, pr, t1, t2, t3, t4, t5, t6, t7⟩, -⟩ := id h
  have b6 := t3.1
  unfold fc_hh_guildOf fm_guildOf
  rw [rg_has τ (by omega) t2.1, rg_isOne σ (by omega) t1.1, ri_0_9]
  by_cases c1 : 0 ≤ x1 ∧ x1 < nI (v 13 0)
  · obtain ⟨a, ha, rfl⟩ := rg_one (by omega) c1
    obtain ⟨e1, e2, e3, e4⟩ := t2.2.2.2.2.2.2.2.1 a ha
    obtain ⟨g, hg⟩ := ec_will t2 ha t3 t4 t5
    by_cases c2 : (0 : Int32) ≤ x2 ∧ x2 ≤ 9
    · simp only [if_pos c1, if_pos c2, pb_bs, one0, if_false, not_false_eq_true, if_true]
      rw [ec_cheersOf t2 ha t3, ec_paysOf t2 ha t3, hg, ec_late t2 ha t3, em_cheers t1 ha t3, em_pays t1 ha t3, em_will t1 ha t3 t4, em_late t1 ha t3, show τ.1 107 0 = _ from t2.2.2.2.2.2.1, show τ.1 108 0 = _ from t2.2.2.2.2.2.2.1, ec_bit _ (vW64 t3).1 _ (by omega), ec_bit _ (vW64 t3).2 _ (by omega), pb_in (by omega) (by omega), pb_cl (by omega), show τ.1 114 a = _ from e1, show τ.1 115 a = _ from e2, show τ.1 116 a = _ from e3, show τ.1 117 a = _ from e4]
      simp only [pb_bs, pb_hl, pb_oc]
      obtain ⟨k, -, hk, rfl⟩ := rk_0_9 c2
      rcases (show k = 0 ∨ k = 1 ∨ k = 2 ∨ k = 3 ∨ k = 4 ∨ k = 5 ∨ k = 6 ∨ k = 7 ∨ k = 8 ∨ k = 9 by omega) with rfl | rfl | rfl | rfl | rfl | rfl | rfl | rfl | rfl | rfl
      · exact ⟨_, _, rfl, congrArg (fun z => z.bind some) (em_its0 t1 ha t3), h⟩
      · exact ⟨_, _, rfl, congrArg (fun z => z.bind some) (em_its1 t1 ha t3), h⟩
      · exact ⟨_, _, rfl, congrArg (fun z => z.bind some) (em_its2 t1 ha t3), h⟩
      · exact ⟨_, _, rfl, congrArg (fun z => z.bind some) (em_its3 t1 ha t3), h⟩
      · exact ⟨_, _, rfl, congrArg (fun z => z.bind some) (em_its4 t1 ha t3), h⟩
      · exact ⟨_, _, rfl, congrArg (fun z => z.bind some) (em_its5 t1 ha t3), h⟩
      · exact ⟨_, _, rfl, rfl, h⟩
      · exact ⟨_, _, rfl, rfl, h⟩
      · exact ⟨_, _, rfl, rfl, Inv_fr h frM.rf (frC_sc (by unfold rlC; omega)) ⟨v, pr, t1, tc_facts t2 g, t3, t4, t5, t6, t7⟩⟩
      · exact ⟨_, _, rfl, rfl, h⟩
    · simp only [if_pos c1, if_neg c2, pb_bs, one0, zer0, if_false, not_false_eq_true, not_true_eq_false, if_true]
      simp only [show (x2 = 0) = False from sw10 c2 (n := 0) (by decide), show (x2 = 1) = False from sw10 c2 (n := 1) (by decide), show (x2 = 2) = False from sw10 c2 (n := 2) (by decide), show (x2 = 3) = False from sw10 c2 (n := 3) (by decide), show (x2 = 4) = False from sw10 c2 (n := 4) (by decide), show (x2 = 5) = False from sw10 c2 (n := 5) (by decide), show (x2 = 6) = False from sw10 c2 (n := 6) (by decide), show (x2 = 7) = False from sw10 c2 (n := 7) (by decide), show (x2 = 8) = False from sw10 c2 (n := 8) (by decide), show (x2 = 9) = False from sw10 c2 (n := 9) (by decide), if_false]
      exact ⟨_, τ, rfl, rfl, h⟩
  · simp only [if_neg c1, pb_bs, zer0, if_true, not_true_eq_false, if_false]
    exact ⟨_, τ, rfl, rfl, h⟩
/-- waits, done: one's bit becomes another -/
def vput (w k x : Nat) : Nat := if x = 0 then vclr w k else vset w k
theorem vput_bit : ∀ x, x < 2 → ∀ w, w < 64 → ∀ k, k < 6 → ∀ j, j < 6 → vbit (vput w k x) j = if j = k then x else vbit w j := by decide +kernel
theorem vput_lt : ∀ x, x < 2 → ∀ n, n < 7 → ∀ w, w < 2 ^ n → ∀ k, k < n → vput w k x < 2 ^ n := by decide +kernel
theorem ec_put : ∀ x, x < 2 → ∀ w, w < 64 → ∀ k, k < 6 → fc_hh_withBit (nI w) (nI k) (nI x) = some (nI (vput w k x)) := by decide +kernel
theorem tw_wait (h : twM f v pr) (hv : vOK v) {q x : Nat} (hq : q < v 13 0) (hx : x < 2) : twM (upd f (14 + 6 * q) (nI x)) (vs v 7 (vput (v 7 0) q x)) pr := by
  have hn6 := hv.1
  have hw := (vW64 hv).1
  obtain ⟨h0, h1, h2, h8, h9, ho, hs, hn, h6, hr, h5, hru⟩ := h
  refine ⟨(up_ne (by omega)).trans h0, (up_ne (by omega)).trans h1, (up_ne (by omega)).trans h2, (up_ne (by omega)).trans h8, (up_ne (by omega)).trans h9, fun o hoo => ?_, fun j hj => ⟨(up_ne (by omega)).trans (hs j hj).1, (up_ne (by omega)).trans (hs j hj).2⟩, fun j hj => (up_ne (by omega)).trans (hn j hj), (up_ne (by omega)).trans h6, fun r hr2 i hi => (up_ne (by omega)).trans (hr r hr2 i hi), (up_ne (by omega)).trans h5, ruM_cong (fun j hj => up_ne (by omega)) _ _ _ hru⟩
  have ho2 : o < v 13 0 := hoo
  refine ⟨(up_ne (by omega)).trans (ho o ho2).1, (up_ne (by omega)).trans (ho o ho2).2.1, (up_ne (by omega)).trans (ho o ho2).2.2.1, (up_ne (by omega)).trans (ho o ho2).2.2.2.1, ?_, (up_ne (by omega)).trans (ho o ho2).2.2.2.2.2⟩
  show _ = nI (vbit (vput (v 7 0) q x) o)
  rw [vput_bit x hx _ hw q (by omega) o (by omega)]
  by_cases e : o = q
  · subst e
    rw [up_eq, if_pos rfl]
  · rw [if_neg e, up_ne (by omega)]
    exact (ho o ho2).2.2.2.2.1
theorem tw_dn (h : twM f v pr) (hv : vOK v) {q x : Nat} (hq : q < v 13 0) (hx : x < 2) : twM (upd f (15 + 6 * q) (nI x)) (vs v 8 (vput (v 8 0) q x)) pr := by
  have hn6 := hv.1
  have hw := (vW64 hv).2
  obtain ⟨h0, h1, h2, h8, h9, ho, hs, hn, h6, hr, h5, hru⟩ := h
  refine ⟨(up_ne (by omega)).trans h0, (up_ne (by omega)).trans h1, (up_ne (by omega)).trans h2, (up_ne (by omega)).trans h8, (up_ne (by omega)).trans h9, fun o hoo => ?_, fun j hj => ⟨(up_ne (by omega)).trans (hs j hj).1, (up_ne (by omega)).trans (hs j hj).2⟩, fun j hj => (up_ne (by omega)).trans (hn j hj), (up_ne (by omega)).trans h6, fun r hr2 i hi => (up_ne (by omega)).trans (hr r hr2 i hi), (up_ne (by omega)).trans h5, ruM_cong (fun j hj => up_ne (by omega)) _ _ _ hru⟩
  have ho2 : o < v 13 0 := hoo
  refine ⟨(up_ne (by omega)).trans (ho o ho2).1, (up_ne (by omega)).trans (ho o ho2).2.1, (up_ne (by omega)).trans (ho o ho2).2.2.1, (up_ne (by omega)).trans (ho o ho2).2.2.2.1, (up_ne (by omega)).trans (ho o ho2).2.2.2.2.1, ?_⟩
  show _ = nI (vbit (vput (v 8 0) q x) o)
  rw [vput_bit x hx _ hw q (by omega) o (by omega)]
  by_cases e : o = q
  · subst e
    rw [up_eq, if_pos rfl]
  · rw [if_neg e, up_ne (by omega)]
    exact (ho o ho2).2.2.2.2.2
theorem le_lt10 {x : Int32} {n : Nat} (hn : n < 1073741824) : (x < nI (n + 1)) = (x ≤ nI n) := propext (by rw [Int32.lt_iff_toInt_lt, Int32.le_iff_toInt_le, nI_toInt (by omega), nI_toInt (by omega)]; omega)
theorem st_change (h : Inv τ σ) (x1 x2 x3 : Int32) : stp (fc_hh_change x1 x2 x3 τ) (fm_change x1 x2 x3 σ) := by
  obtain ⟨⟨v, pr, t1, t2, t3, t4, t5, t6, t7⟩, -⟩ := id h
  have b6 := t3.1
  unfold fc_hh_change fm_change fm_change_b38 fm_change_b39
  rw [rg_has τ (by omega) t2.1, rg_isOne σ (by omega) t1.1, ri_1_5]
  simp only [show (10 : Int32) = nI (9 + 1) from rfl, show (6 : Int32) = nI (5 + 1) from rfl, le_lt10 (show 9 < 1073741824 by decide), le_lt10 (show 5 < 1073741824 by decide)]
  by_cases c1 : 0 ≤ x1 ∧ x1 < nI (v 13 0)
  · obtain ⟨a, ha, rfl⟩ := rg_one (by omega) c1
    obtain ⟨e1, e2, e3, e4⟩ := t2.2.2.2.2.2.2.2.1 a ha
    obtain ⟨m0, m1, m2, m3, m4, m5⟩ := t1.2.2.2.2.2.1 a ha
    by_cases c2 : (1 : Int32) ≤ x2 ∧ x2 ≤ 5
    · simp only [if_pos c1, if_pos c2, pb_bs, one0, zer0, if_true, if_false, pb_mul, pb_add]
      obtain ⟨k, hk1, hk, rfl⟩ := rk_1_5 c2
      simp only [pb_add, show fm_isIn (Int32.toInt64 x3) (0 : Int64) = fun y => fm_isIn (Int32.toInt64 x3) (Int32.toInt64 0) y from rfl]
      rcases (show k = 1 ∨ k = 2 ∨ k = 3 ∨ k = 4 ∨ k = 5 by omega) with rfl | rfl | rfl | rfl | rfl
      · simp only [show (nI 1 = (1 : Int32)) = True by decide, if_true, if_false]
        rw [show fm_greatestOf (nI 1) = some 60 from rfl, pb_bs, rg_isIn, pb_bs]
        by_cases c3 : 0 ≤ x3
        · by_cases c4 : x3 ≤ 60
          · obtain ⟨b, -, hb, rfl⟩ := rk_0_60 ⟨c3, c4⟩
            rw [if_pos c3, if_pos (show (0 : Int32) ≤ nI b ∧ nI b ≤ 60 from ⟨c3, c4⟩), ec_repl_115 (by omega), em_becomes (by omega), show τ.1 115 a = _ from e2, show 9 + 1 + (5 + 1) * a + 1 = 11 + 6 * a by omega, m1]
            simp only [if_pos c4]
            exact ⟨_, _, _, rfl, rfl, Inv_fr h frM_0 (frC_sc (by unfold rlC; omega)) ⟨va v 15 a b, pr, tw_due t1 (by omega) t3.1 b, tc_due t2 b, vOK_due t3 hb, t4, t5, t6.trans (up_ne (by omega)).symm, t7.trans (up_ne (by omega)).symm⟩⟩
          · simp only [if_pos c3, if_neg c4, c4, and_false, if_false]
            exact ⟨_, τ, σ, rfl, rfl, h⟩
        · simp only [if_neg c3, c3, false_and, if_false]
          exact ⟨_, τ, σ, rfl, rfl, h⟩
      · simp only [show (nI 2 = (1 : Int32)) = False by decide, show (nI 2 = (2 : Int32)) = True by decide, if_true, if_false]
        rw [show fm_greatestOf (nI 2) = some 9 from rfl, pb_bs, rg_isIn, pb_bs]
        by_cases c3 : 0 ≤ x3
        · by_cases c4 : x3 ≤ 9
          · obtain ⟨b, -, hb, rfl⟩ := rk_0_9 ⟨c3, c4⟩
            rw [if_pos c3, if_pos (show (0 : Int32) ≤ nI b ∧ nI b ≤ 9 from ⟨c3, c4⟩), ec_repl_116 (by omega), em_becomes (by omega), show τ.1 116 a = _ from e3, show 9 + 1 + (5 + 1) * a + 2 = 12 + 6 * a by omega, m2]
            simp only [if_pos (show nI b ≤ nI 9 from c4)]
            exact ⟨_, _, _, rfl, rfl, Inv_fr h frM_0 (frC_sc (by unfold rlC; omega)) ⟨va v 16 a b, pr, tw_gift t1 (by omega) t3.1 b, tc_gift t2 b, vOK_gift t3 hb, t4, t5, t6.trans (up_ne (by omega)).symm, t7.trans (up_ne (by omega)).symm⟩⟩
          · simp only [if_pos c3, if_neg (show ¬ x3 ≤ nI 9 from c4), c4, and_false, if_false]
            exact ⟨_, τ, σ, rfl, rfl, h⟩
        · simp only [if_neg c3, c3, false_and, if_false]
          exact ⟨_, τ, σ, rfl, rfl, h⟩
      · simp only [show (nI 3 = (1 : Int32)) = False by decide, show (nI 3 = (2 : Int32)) = False by decide, show (nI 3 = (3 : Int32)) = True by decide, if_true, if_false]
        rw [show fm_greatestOf (nI 3) = some 5 from rfl, pb_bs, rg_isIn, pb_bs]
        by_cases c3 : 0 ≤ x3
        · by_cases c4 : x3 ≤ 5
          · obtain ⟨b, -, hb, rfl⟩ := rg_nat (a := 0) (m := 5) (by decide) ⟨c3, c4⟩ (by decide)
            rw [if_pos c3, if_pos (show (0 : Int32) ≤ nI b ∧ nI b ≤ 5 from ⟨c3, c4⟩), ec_repl_117 (by omega), em_becomes (by omega), show τ.1 117 a = _ from e4, show 9 + 1 + (5 + 1) * a + 3 = 13 + 6 * a by omega, m3]
            simp only [if_pos (show nI b ≤ nI 5 from c4)]
            exact ⟨_, _, _, rfl, rfl, Inv_fr h frM_0 (frC_sc (by unfold rlC; omega)) ⟨va v 17 a b, pr, tw_place t1 (by omega) t3.1 b, tc_place t2 b, vOK_place t3 hb, t4, t5, t6.trans (up_ne (by omega)).symm, t7.trans (up_ne (by omega)).symm⟩⟩
          · simp only [if_pos c3, if_neg (show ¬ x3 ≤ nI 5 from c4), c4, and_false, if_false]
            exact ⟨_, τ, σ, rfl, rfl, h⟩
        · simp only [if_neg c3, c3, false_and, if_false]
          exact ⟨_, τ, σ, rfl, rfl, h⟩
      · simp only [show (nI 4 = (1 : Int32)) = False by decide, show (nI 4 = (2 : Int32)) = False by decide, show (nI 4 = (3 : Int32)) = False by decide, show (nI 4 = (4 : Int32)) = True by decide, if_true, if_false]
        rw [show fm_greatestOf (nI 4) = some 1 from rfl, pb_bs, rg_isIn, pb_bs]
        by_cases c3 : 0 ≤ x3
        · by_cases c4 : x3 ≤ 1
          · obtain ⟨b, -, hb, rfl⟩ := rk_0_1 ⟨c3, c4⟩
            unfold fc_hh_markWaits
            rw [if_pos c3, if_pos (show (0 : Int32) ≤ nI b ∧ nI b ≤ 1 from ⟨c3, c4⟩), em_becomes (by omega), show 9 + 1 + (5 + 1) * a + 4 = 14 + 6 * a by omega, m4, show τ.1 107 0 = _ from t2.2.2.2.2.2.1, ec_bit _ (vW64 t3).1 _ (by omega), ec_put _ (by omega) _ (vW64 t3).1 _ (by omega)]
            simp only [if_pos c4, pb_bs, pb_hl]
            exact ⟨_, _, _, rfl, rfl, Inv_fr h frM_0 (frC_sc (by unfold rlC; omega)) ⟨vs v 7 (vput (v 7 0) a b), pr, tw_wait t1 t3 ha (by omega), tc_waits t2 _, vOK_waits t3 (vput_lt _ (by omega) _ (by omega) _ t3.2.2.2.2.2.2.1 _ ha), t4, t5, t6.trans (up_ne (by omega)).symm, t7.trans (up_ne (by omega)).symm⟩⟩
          · simp only [if_pos c3, if_neg c4, c4, and_false, if_false]
            exact ⟨_, τ, σ, rfl, rfl, h⟩
        · simp only [if_neg c3, c3, false_and, if_false]
          exact ⟨_, τ, σ, rfl, rfl, h⟩
      · simp only [show (nI 5 = (1 : Int32)) = False by decide, show (nI 5 = (2 : Int32)) = False by decide, show (nI 5 = (3 : Int32)) = False by decide, show (nI 5 = (4 : Int32)) = False by decide, show (nI 5 = (5 : Int32)) = True by decide, if_true, if_false]
        rw [show fm_greatestOf (nI 5) = some 1 from rfl, pb_bs, rg_isIn, pb_bs]
        by_cases c3 : 0 ≤ x3
        · by_cases c4 : x3 ≤ 1
          · obtain ⟨b, -, hb, rfl⟩ := rk_0_1 ⟨c3, c4⟩
            unfold fc_hh_markDone
            rw [if_pos c3, if_pos (show (0 : Int32) ≤ nI b ∧ nI b ≤ 1 from ⟨c3, c4⟩), em_becomes (by omega), show 9 + 1 + (5 + 1) * a + 5 = 15 + 6 * a by omega, m5, show τ.1 108 0 = _ from t2.2.2.2.2.2.2.1, ec_bit _ (vW64 t3).2 _ (by omega), ec_put _ (by omega) _ (vW64 t3).2 _ (by omega)]
            simp only [if_pos c4, pb_bs, pb_hl]
            exact ⟨_, _, _, rfl, rfl, Inv_fr h frM_0 (frC_sc (by unfold rlC; omega)) ⟨vs v 8 (vput (v 8 0) a b), pr, tw_dn t1 t3 ha (by omega), tc_done t2 _, vOK_done t3 (vput_lt _ (by omega) _ (by omega) _ t3.2.2.2.2.2.2.2.1 _ ha), t4, t5, t6.trans (up_ne (by omega)).symm, t7.trans (up_ne (by omega)).symm⟩⟩
          · simp only [if_pos c3, if_neg c4, c4, and_false, if_false]
            exact ⟨_, τ, σ, rfl, rfl, h⟩
        · simp only [if_neg c3, c3, false_and, if_false]
          exact ⟨_, τ, σ, rfl, rfl, h⟩
    · have sw : ∀ n : Nat, 1 ≤ n → n ≤ 5 → (x2 = nI n) = False := fun n h1 h2 => propext ⟨fun e => c2 (e ▸ rn_1_5 h1 h2), False.elim⟩
      simp only [if_pos c1, if_neg c2, pb_bs, one0, zer0, if_true, if_false, show (x2 = 1) = False from sw 1 (by decide) (by decide), show (x2 = 2) = False from sw 2 (by decide) (by decide), show (x2 = 3) = False from sw 3 (by decide) (by decide), show (x2 = 4) = False from sw 4 (by decide) (by decide), show (x2 = 5) = False from sw 5 (by decide) (by decide), ite_self]
      exact ⟨_, τ, σ, rfl, rfl, h⟩
  · simp only [if_neg c1, pb_bs, zer0, if_true]
    exact ⟨_, τ, σ, rfl, rfl, h⟩
end S4
