/-! PURE: steps of guild, guildOf, change, anew, report -/
section S3
variable {τ : SC} {σ : SM} {f : Nat → Int32} {v : VT} {pr : List RU}
def vGuild (v : VT) (a b c d : Nat) : VT := vs (vs (va (va (va (va v 14 (v 13 0) a) 15 (v 13 0) b) 16 (v 13 0) c) 17 (v 13 0) d) 7 (vset (v 7 0) (v 13 0))) 13 (v 13 0 + 1)
theorem vGuild_14 {a b c d o : Nat} : vGuild v a b c d 14 o = if o = v 13 0 then a else v 14 o := rfl
theorem vGuild_15 {a b c d o : Nat} : vGuild v a b c d 15 o = if o = v 13 0 then b else v 15 o := rfl
theorem vGuild_16 {a b c d o : Nat} : vGuild v a b c d 16 o = if o = v 13 0 then c else v 16 o := rfl
theorem vGuild_17 {a b c d o : Nat} : vGuild v a b c d 17 o = if o = v 13 0 then d else v 17 o := rfl
theorem vset_nb : ∀ n, n < 6 → ∀ w, w < 2 ^ n → vset w n < 2 ^ (n + 1) ∧ w < 2 ^ (n + 1) ∧ vbit w n = 0 := by decide +kernel
theorem vGuild_ok (hv : vOK v) (h6 : v 13 0 < 6) {a b c d : Nat} (ha1 : 1 ≤ a) (ha : a ≤ 5) (hb : b ≤ 60) (hc : c ≤ 9) (hd : d ≤ 5) : vOK (vGuild v a b c d) := by
  obtain ⟨k1, k2, k3, k4, k5, k6, k7, k8, k9, k10, k11⟩ := hv
  refine ⟨show v 13 0 + 1 ≤ 6 by omega, k2, k3, k4, k5, k6, (vset_nb _ h6 _ k7).1, (vset_nb _ h6 _ k8).2.1, fun o ho => ?_, k10, k11⟩
  have ho2 : o < v 13 0 + 1 := ho
  rw [vGuild_14, vGuild_15, vGuild_16, vGuild_17]
  by_cases e : o = v 13 0
  · simp only [if_pos e]
    exact ⟨⟨ha1, ha⟩, hb, hc, hd⟩
  · simp only [if_neg e]
    exact k9 o (by omega)
theorem tw_guild (h : twM f v pr) (hv : vOK v) (h6 : v 13 0 < 6) {a b c d : Nat} : twM (upd (upd (upd (upd (upd (upd (upd f (10 + 6 * v 13 0) (nI a)) (10 + 6 * v 13 0 + 1) (nI b)) (10 + 6 * v 13 0 + 2) (nI c)) (10 + 6 * v 13 0 + 3) (nI d)) (10 + 6 * v 13 0 + 4) (nI 1)) (10 + 6 * v 13 0 + 5) (nI 0)) 0 (nI (v 13 0 + 1))) (vGuild v a b c d) pr := by
  have hw := vW64 hv
  have n7 := hv.2.2.2.2.2.2.1
  have n8 := hv.2.2.2.2.2.2.2.1
  obtain ⟨h0, h1, h2, h8, h9, ho, hs, hn, h6', hr, h5, hru⟩ := h
  refine ⟨rfl, ?_, ?_, ?_, ?_, fun o hoo => ?_, fun j hj => ?_, fun j hj => ?_, ?_, fun r hr2 i hi => ?_, ?_, ruM_cong (fun j hj => by simp (disch := omega) only [up_ne]) _ _ _ hru⟩
  · simp (disch := omega) only [up_ne]; exact h1
  · simp (disch := omega) only [up_ne]; exact h2
  · simp (disch := omega) only [up_ne]; exact h8
  · simp (disch := omega) only [up_ne]; exact h9
  · have ho2 : o < v 13 0 + 1 := hoo
    rw [vGuild_14, vGuild_15, vGuild_16, vGuild_17]
    show _ ∧ _ ∧ _ ∧ _ ∧ _ = nI (vbit (vset (v 7 0) (v 13 0)) o) ∧ _ = nI (vbit (v 8 0) o)
    rw [vset_bit _ hw.1 _ (by omega) _ (by omega)]
    by_cases e : o = v 13 0
    · subst e
      simp only [if_true]
      rw [(vset_nb _ h6 _ n8).2.2]
      refine ⟨?_, ?_, ?_, ?_, ?_, ?_⟩
      · simp (disch := omega) only [up_ne, up_eq]
      · rw [show 11 + 6 * v 13 0 = 10 + 6 * v 13 0 + 1 by omega]; simp (disch := omega) only [up_ne, up_eq]
      · rw [show 12 + 6 * v 13 0 = 10 + 6 * v 13 0 + 2 by omega]; simp (disch := omega) only [up_ne, up_eq]
      · rw [show 13 + 6 * v 13 0 = 10 + 6 * v 13 0 + 3 by omega]; simp (disch := omega) only [up_ne, up_eq]
      · rw [show 14 + 6 * v 13 0 = 10 + 6 * v 13 0 + 4 by omega]; simp (disch := omega) only [up_ne, up_eq]
      · rw [show 15 + 6 * v 13 0 = 10 + 6 * v 13 0 + 5 by omega]; simp (disch := omega) only [up_ne, up_eq]
    · simp only [if_neg e]
      have ho3 : o < v 13 0 := by omega
      simp (disch := omega) only [up_ne]
      exact ho o ho3
  · simp (disch := omega) only [up_ne]; exact hs j hj
  · simp (disch := omega) only [up_ne]; exact hn j hj
  · simp (disch := omega) only [up_ne]; exact h6'
  · have hr3 : r < v 18 0 := hr2
    simp (disch := omega) only [up_ne]; exact hr r hr3 i hi
  · simp (disch := omega) only [up_ne]; exact h5
theorem tc_guild (h : twC τ 100 v pr) {a b c d : Nat} : twC (sc (sc (sc (sc (sc (sc τ 114 (upd (τ.1 114) (v 13 0) (nI a))) 115 (upd (τ.1 115) (v 13 0) (nI b))) 116 (upd (τ.1 116) (v 13 0) (nI c))) 117 (upd (τ.1 117) (v 13 0) (nI d))) 107 (fun _ => nI (vset (v 7 0) (v 13 0)))) 113 (fun _ => nI (v 13 0 + 1))) 100 (vGuild v a b c d) pr := by
  obtain ⟨h1, h2, h3, h4, h5, h6, h7, h8, h9, h10, h11, h12, h13, h14⟩ := h
  refine ⟨rfl, h2, h3, h4, h5, rfl, h7, fun o hoo => ?_, h9, h10, h11, h12, h13, h14⟩
  have ho2 : o < v 13 0 + 1 := hoo
  rw [vGuild_14, vGuild_15, vGuild_16, vGuild_17]
  show upd (τ.1 114) (v 13 0) (nI a) o = _ ∧ upd (τ.1 115) (v 13 0) (nI b) o = _ ∧ upd (τ.1 116) (v 13 0) (nI c) o = _ ∧ upd (τ.1 117) (v 13 0) (nI d) o = _
  by_cases e : o = v 13 0
  · subst e
    simp only [if_true, up_eq]
    exact ⟨trivial, trivial, trivial, trivial⟩
  · simp only [if_neg e, up_ne e]
    exact h8 o (by omega)
theorem st_guild (h : Inv τ σ) (x1 x2 x3 x4 : Int32) : stp (fc_hh_guild x1 x2 x3 x4 τ) (fm_guild x1 x2 x3 x4 σ) := by
  obtain ⟨⟨v, pr, t1, t2, t3, t4, t5, t6, t7⟩, -⟩ := id h
  have b6 := t3.1
  unfold fc_hh_guild fm_guild fc_to_settle
  rw [show τ.1 113 0 = _ from t2.1, t1.1]
  simp only [rg_within, rg_isKind, rg_isStreet, ri_1_5, ri_0_60, ri_0_9, pb_bs, pb_hl]
  by_cases c1 : (1 : Int32) ≤ x1 ∧ x1 ≤ 5
  · by_cases c2 : (0 : Int32) ≤ x2 ∧ x2 ≤ 60
    · by_cases c3 : (0 : Int32) ≤ x3 ∧ x3 ≤ 9
      · by_cases c4 : (0 : Int32) ≤ x4 ∧ x4 ≤ 5
        · simp only [if_pos c1, if_pos c2, if_pos c3, if_pos c4, one0, zer0, if_false, if_true, not_false_eq_true]
          by_cases c5 : v 13 0 = 6
          · rw [c5]
            exact ⟨_, τ, σ, rfl, rfl, h⟩
          · rw [if_pos (show nI (v 13 0) < (6 : Int32) by rw [show (6 : Int32) = nI 6 from rfl, pb_lt (by omega) (by decide)]; omega), if_pos (show ¬ nI (v 13 0) = (6 : Int32) by rw [show (6 : Int32) = nI 6 from rfl, pb_eq (by omega) (by decide)]; omega)]
            obtain ⟨a, ha1, ha, rfl⟩ := rk_1_5 c1
            obtain ⟨b, -, hb, rfl⟩ := rk_0_60 c2
            obtain ⟨c, -, hc, rfl⟩ := rk_0_9 c3
            obtain ⟨d, -, hd, rfl⟩ := rg_nat (a := 0) (m := 5) (by decide) c4 (by decide)
            have n6 : v 13 0 < 6 := by omega
            rw [show (10 : Int32) = nI 10 from rfl, show (6 : Int32) = nI 6 from rfl, pb_mul, pb_add]
            rw [show (1 : Int32) = nI 1 from rfl, show (2 : Int32) = nI 2 from rfl, show (3 : Int32) = nI 3 from rfl, show (4 : Int32) = nI 4 from rfl, show (5 : Int32) = nI 5 from rfl, show (0 : Int32) = nI 0 from rfl]
            simp (disch := omega) only [pb_add, pb_in, pb_oc, pb_cl, sc_at, sc_ne, pb_sfsf, pb_sf0, up_ne, up_eq]
            rw [show τ.1 107 0 = _ from t2.2.2.2.2.2.1, show fc_hh_withBit (nI (v 7 0)) (nI (v 13 0)) (nI 1) = _ from ec_set _ (vW64 t3).1 _ n6, t1.1, pb_add, pb_sub (by omega)]
            refine ⟨nI (v 13 0), _, _, rfl, rfl, Inv_fr h frM_0 ?_ ⟨vGuild v a b c d, pr, tw_guild t1 t3 n6, tc_guild t2, vGuild_ok t3 n6 ha1 ha hb hc hd, t4, t5, ?_, ?_⟩⟩
            · exact (frC_sc (by unfold rlC; omega)).tr ((frC_sc (by unfold rlC; omega)).tr ((frC_sc (by unfold rlC; omega)).tr ((frC_sc (by unfold rlC; omega)).tr ((frC_sc (by unfold rlC; omega)).tr (frC_sc (by unfold rlC; omega))))))
            · simp (disch := omega) only [up_ne, pb_sf0, sc_ne]; exact t6
            · simp (disch := omega) only [up_ne, pb_sf0, sc_ne]; exact t7
        · simp only [if_pos c1, if_pos c2, if_pos c3, if_neg c4, one0, zer0, if_false, if_true, not_true_eq_false]
          exact ⟨_, τ, σ, rfl, rfl, h⟩
      · simp only [if_pos c1, if_pos c2, if_neg c3, one0, zer0, if_false, if_true]
        exact ⟨_, τ, σ, rfl, rfl, h⟩
    · simp only [if_pos c1, if_neg c2, one0, zer0, if_false, if_true]
      exact ⟨_, τ, σ, rfl, rfl, h⟩
  · simp only [if_neg c1, zer0, if_true]
    exact ⟨_, τ, σ, rfl, rfl, h⟩
end S3
