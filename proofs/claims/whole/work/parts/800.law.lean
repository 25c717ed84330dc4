def fl_law_b1782 (xs : Nat → Int32) (Ln : Nat) (K18 : Int32 → SL → Option Int32) (x3 : Int32) (ρ : SL) : Option Int32 := (K18 (x3 + (5 : Int32)) ρ)
def fl_law_l18 (xs : Nat → Int32) (Ln : Nat) : Nat → Int32 → SL → Option Int32
  | 0, _, _ => none
  | n + 1, x3, ρ => (if ((nI Ln) - (5 : Int32)) < x3 then (some (1 : Int32)) else (oc (hin x3 Ln) (if ((xs (Int32.toNatClampNeg x3)) &&& (63 : Int32)) = 0 then (oc (hin (x3 + (1 : Int32)) Ln) (oc (hin (x3 + (2 : Int32)) Ln) (oc (hin (x3 + (3 : Int32)) Ln) (oc (hin (x3 + (4 : Int32)) Ln) (Option.bind (fc_hh_guild (xs (Int32.toNatClampNeg (x3 + (1 : Int32)))) (xs (Int32.toNatClampNeg (x3 + (2 : Int32)))) (xs (Int32.toNatClampNeg (x3 + (3 : Int32)))) (xs (Int32.toNatClampNeg (x3 + (4 : Int32)))) ρ.1) fun p_ => hl p_.1 fun q1 => hl (p_.2, ρ.2) fun ρ2 => (oc (hin (x3 + (1 : Int32)) Ln) (oc (hin (x3 + (2 : Int32)) Ln) (oc (hin (x3 + (3 : Int32)) Ln) (oc (hin (x3 + (4 : Int32)) Ln) (Option.bind (fm_guild (xs (Int32.toNatClampNeg (x3 + (1 : Int32)))) (xs (Int32.toNatClampNeg (x3 + (2 : Int32)))) (xs (Int32.toNatClampNeg (x3 + (3 : Int32)))) (xs (Int32.toNatClampNeg (x3 + (4 : Int32)))) ρ2.2) fun p_ => hl p_.1 fun q3 => hl (ρ2.1, p_.2) fun ρ4 => (if q1 = q3 then (fl_law_b1782 xs Ln (fl_law_l18 xs Ln n) x3 ρ4) else none))))))))))) else (if ((xs (Int32.toNatClampNeg x3)) &&& (63 : Int32)) = 1 then (oc (hin (x3 + (1 : Int32)) Ln) (oc (hin (x3 + (2 : Int32)) Ln) (Option.bind (fc_hh_guildOf (xs (Int32.toNatClampNeg (x3 + (1 : Int32)))) (xs (Int32.toNatClampNeg (x3 + (2 : Int32)))) ρ.1) fun p_ => hl p_.1 fun q5 => hl (p_.2, ρ.2) fun ρ6 => (oc (hin (x3 + (1 : Int32)) Ln) (oc (hin (x3 + (2 : Int32)) Ln) (Option.bind (fm_guildOf ρ6.2 (xs (Int32.toNatClampNeg (x3 + (1 : Int32)))) (xs (Int32.toNatClampNeg (x3 + (2 : Int32))))) fun q7 => (if q5 = q7 then (fl_law_b1782 xs Ln (fl_law_l18 xs Ln n) x3 ρ6) else none))))))) else (if ((xs (Int32.toNatClampNeg x3)) &&& (63 : Int32)) = 2 then (oc (hin (x3 + (1 : Int32)) Ln) (oc (hin (x3 + (2 : Int32)) Ln) (oc (hin (x3 + (3 : Int32)) Ln) (Option.bind (fc_hh_change (xs (Int32.toNatClampNeg (x3 + (1 : Int32)))) (xs (Int32.toNatClampNeg (x3 + (2 : Int32)))) (xs (Int32.toNatClampNeg (x3 + (3 : Int32)))) ρ.1) fun p_ => hl p_.1 fun q9 => hl (p_.2, ρ.2) fun ρ10 => (oc (hin (x3 + (1 : Int32)) Ln) (oc (hin (x3 + (2 : Int32)) Ln) (oc (hin (x3 + (3 : Int32)) Ln) (Option.bind (fm_change (xs (Int32.toNatClampNeg (x3 + (1 : Int32)))) (xs (Int32.toNatClampNeg (x3 + (2 : Int32)))) (xs (Int32.toNatClampNeg (x3 + (3 : Int32)))) ρ10.2) fun p_ => hl p_.1 fun q11 => hl (ρ10.1, p_.2) fun ρ12 => (if q9 = q11 then (fl_law_b1782 xs Ln (fl_law_l18 xs Ln n) x3 ρ12) else none))))))))) else (if ((xs (Int32.toNatClampNeg x3)) &&& (63 : Int32)) = 3 then (oc (hin (x3 + (1 : Int32)) Ln) (oc (hin (x3 + (2 : Int32)) Ln) (Option.bind (fc_hh_remake (xs (Int32.toNatClampNeg (x3 + (1 : Int32)))) (xs (Int32.toNatClampNeg (x3 + (2 : Int32)))) ρ.1) fun p_ => hl p_.1 fun q13 => hl (p_.2, ρ.2) fun ρ14 => (oc (hin (x3 + (1 : Int32)) Ln) (oc (hin (x3 + (2 : Int32)) Ln) (Option.bind (fm_remake (xs (Int32.toNatClampNeg (x3 + (1 : Int32)))) (xs (Int32.toNatClampNeg (x3 + (2 : Int32)))) ρ14.2) fun p_ => hl p_.1 fun q15 => hl (ρ14.1, p_.2) fun ρ16 => (if q13 = q15 then (fl_law_b1782 xs Ln (fl_law_l18 xs Ln n) x3 ρ16) else none))))))) else (if ((xs (Int32.toNatClampNeg x3)) &&& (63 : Int32)) = 4 then (oc (hin (x3 + (1 : Int32)) Ln) (oc (hin (x3 + (2 : Int32)) Ln) (Option.bind (fc_hh_news (xs (Int32.toNatClampNeg (x3 + (1 : Int32)))) (xs (Int32.toNatClampNeg (x3 + (2 : Int32)))) ρ.1) fun p_ => hl p_.1 fun q17 => hl (p_.2, ρ.2) fun ρ18 => (oc (hin (x3 + (1 : Int32)) Ln) (oc (hin (x3 + (2 : Int32)) Ln) (Option.bind (fm_news (xs (Int32.toNatClampNeg (x3 + (1 : Int32)))) (xs (Int32.toNatClampNeg (x3 + (2 : Int32)))) ρ18.2) fun p_ => hl p_.1 fun q19 => hl (ρ18.1, p_.2) fun ρ20 => (if q17 = q19 then (fl_law_b1782 xs Ln (fl_law_l18 xs Ln n) x3 ρ20) else none))))))) else (if ((xs (Int32.toNatClampNeg x3)) &&& (63 : Int32)) = 5 then (oc (hin (x3 + (1 : Int32)) Ln) (oc (hin (x3 + (2 : Int32)) Ln) (oc (hin (x3 + (3 : Int32)) Ln) (Option.bind (fc_hh_street (xs (Int32.toNatClampNeg (x3 + (1 : Int32)))) (xs (Int32.toNatClampNeg (x3 + (2 : Int32)))) (xs (Int32.toNatClampNeg (x3 + (3 : Int32)))) ρ.1) fun p_ => hl p_.1 fun q21 => hl (p_.2, ρ.2) fun ρ22 => (oc (hin (x3 + (1 : Int32)) Ln) (oc (hin (x3 + (2 : Int32)) Ln) (oc (hin (x3 + (3 : Int32)) Ln) (Option.bind (fm_street (xs (Int32.toNatClampNeg (x3 + (1 : Int32)))) (xs (Int32.toNatClampNeg (x3 + (2 : Int32)))) (xs (Int32.toNatClampNeg (x3 + (3 : Int32)))) ρ22.2) fun p_ => hl p_.1 fun q23 => hl (ρ22.1, p_.2) fun ρ24 => (if q21 = q23 then (fl_law_b1782 xs Ln (fl_law_l18 xs Ln n) x3 ρ24) else none))))))))) else (if ((xs (Int32.toNatClampNeg x3)) &&& (63 : Int32)) = 6 then (oc (hin (x3 + (1 : Int32)) Ln) (oc (hin (x3 + (2 : Int32)) Ln) (Option.bind (fc_hh_streetOf ρ.1 (xs (Int32.toNatClampNeg (x3 + (1 : Int32)))) (xs (Int32.toNatClampNeg (x3 + (2 : Int32))))) fun q25 => (oc (hin (x3 + (1 : Int32)) Ln) (oc (hin (x3 + (2 : Int32)) Ln) (Option.bind (fm_streetOf ρ.2 (xs (Int32.toNatClampNeg (x3 + (1 : Int32)))) (xs (Int32.toNatClampNeg (x3 + (2 : Int32))))) fun q27 => (if q25 = q27 then (fl_law_b1782 xs Ln (fl_law_l18 xs Ln n) x3 ρ) else none))))))) else (if ((xs (Int32.toNatClampNeg x3)) &&& (63 : Int32)) = 7 then (oc (hin (x3 + (1 : Int32)) Ln) (oc (hin (x3 + (2 : Int32)) Ln) (Option.bind (fc_hh_heart (xs (Int32.toNatClampNeg (x3 + (1 : Int32)))) (xs (Int32.toNatClampNeg (x3 + (2 : Int32)))) ρ.1) fun p_ => hl p_.1 fun q29 => hl (p_.2, ρ.2) fun ρ30 => (oc (hin (x3 + (1 : Int32)) Ln) (oc (hin (x3 + (2 : Int32)) Ln) (Option.bind (fm_heart (xs (Int32.toNatClampNeg (x3 + (1 : Int32)))) (xs (Int32.toNatClampNeg (x3 + (2 : Int32)))) ρ30.2) fun p_ => hl p_.1 fun q31 => hl (ρ30.1, p_.2) fun ρ32 => (if q29 = q31 then (fl_law_b1782 xs Ln (fl_law_l18 xs Ln n) x3 ρ32) else none))))))) else (if ((xs (Int32.toNatClampNeg x3)) &&& (63 : Int32)) = 8 then (oc (hin (x3 + (1 : Int32)) Ln) (Option.bind (fc_hh_ends (xs (Int32.toNatClampNeg (x3 + (1 : Int32)))) ρ.1) fun p_ => hl p_.1 fun q33 => hl (p_.2, ρ.2) fun ρ34 => (oc (hin (x3 + (1 : Int32)) Ln) (Option.bind (fm_ends (xs (Int32.toNatClampNeg (x3 + (1 : Int32)))) ρ34.2) fun p_ => hl p_.1 fun q35 => hl (ρ34.1, p_.2) fun ρ36 => (if q33 = q35 then (fl_law_b1782 xs Ln (fl_law_l18 xs Ln n) x3 ρ36) else none))))) else (if ((xs (Int32.toNatClampNeg x3)) &&& (63 : Int32)) = 9 then (Option.bind (fc_hh_anew  ρ.1) fun p_ => hl p_.1 fun q37 => hl (p_.2, ρ.2) fun ρ38 => (Option.bind (fm_anew  ρ38.2) fun p_ => hl p_.1 fun q39 => hl (ρ38.1, p_.2) fun ρ40 => (if q37 = q39 then (fl_law_b1782 xs Ln (fl_law_l18 xs Ln n) x3 ρ40) else none))) else (if ((xs (Int32.toNatClampNeg x3)) &&& (63 : Int32)) = 10 then (oc (hin (x3 + (1 : Int32)) Ln) (Option.bind (fc_hh_state ρ.1 (xs (Int32.toNatClampNeg (x3 + (1 : Int32))))) fun q41 => (oc (hin (x3 + (1 : Int32)) Ln) (Option.bind (fm_state ρ.2 (xs (Int32.toNatClampNeg (x3 + (1 : Int32))))) fun q43 => (if q41 = q43 then (fl_law_b1782 xs Ln (fl_law_l18 xs Ln n) x3 ρ) else none))))) else (if ((xs (Int32.toNatClampNeg x3)) &&& (63 : Int32)) = 11 then (oc (hin (x3 + (1 : Int32)) Ln) (oc (hin (x3 + (2 : Int32)) Ln) (oc (hin (x3 + (3 : Int32)) Ln) (Option.bind (fc_hh_feed ((hlshl (Int32.toInt64 (xs (Int32.toNatClampNeg (x3 + (1 : Int32))))) (32 : Int32)) ||| ((Int32.toInt64 (xs (Int32.toNatClampNeg (x3 + (2 : Int32))))) &&& (4294967295 : Int64))) (xs (Int32.toNatClampNeg (x3 + (3 : Int32)))) ρ.1) fun p_ => hl p_.1 fun q45 => hl (p_.2, ρ.2) fun ρ46 => (oc (hin (x3 + (1 : Int32)) Ln) (oc (hin (x3 + (2 : Int32)) Ln) (oc (hin (x3 + (3 : Int32)) Ln) (Option.bind (fm_feed ((hlshl (Int32.toInt64 (xs (Int32.toNatClampNeg (x3 + (1 : Int32))))) (32 : Int32)) ||| ((Int32.toInt64 (xs (Int32.toNatClampNeg (x3 + (2 : Int32))))) &&& (4294967295 : Int64))) (xs (Int32.toNatClampNeg (x3 + (3 : Int32)))) ρ46.2) fun p_ => hl p_.1 fun q47 => hl (ρ46.1, p_.2) fun ρ48 => (if q45 = q47 then (fl_law_b1782 xs Ln (fl_law_l18 xs Ln n) x3 ρ48) else none))))))))) else (if ((xs (Int32.toNatClampNeg x3)) &&& (63 : Int32)) = 12 then (Option.bind (fc_hh_rules  ρ.1) fun p_ => hl p_.1 fun q49 => hl (p_.2, ρ.2) fun ρ50 => (Option.bind (fm_rules  ρ50.2) fun p_ => hl p_.1 fun q51 => hl (ρ50.1, p_.2) fun ρ52 => (if q49 = q51 then (fl_law_b1782 xs Ln (fl_law_l18 xs Ln n) x3 ρ52) else none))) else (if ((xs (Int32.toNatClampNeg x3)) &&& (63 : Int32)) = 13 then (Option.bind (fc_hh_hour  ρ.1) fun p_ => hl p_.1 fun q53 => hl (p_.2, ρ.2) fun ρ54 => (Option.bind (fm_hour  ρ54.2) fun p_ => hl p_.1 fun q55 => hl (ρ54.1, p_.2) fun ρ56 => (if q53 = q55 then (fl_law_b1782 xs Ln (fl_law_l18 xs Ln n) x3 ρ56) else none))) else (if ((xs (Int32.toNatClampNeg x3)) &&& (63 : Int32)) = 14 then (oc (hin (x3 + (1 : Int32)) Ln) (Option.bind (fc_hh_on (xs (Int32.toNatClampNeg (x3 + (1 : Int32)))) ρ.1) fun p_ => hl p_.1 fun q57 => hl (p_.2, ρ.2) fun ρ58 => (oc (hin (x3 + (1 : Int32)) Ln) (Option.bind (fm_on (xs (Int32.toNatClampNeg (x3 + (1 : Int32)))) ρ58.2) fun p_ => hl p_.1 fun q59 => hl (ρ58.1, p_.2) fun ρ60 => (if q57 = q59 then (fl_law_b1782 xs Ln (fl_law_l18 xs Ln n) x3 ρ60) else none))))) else (if ((xs (Int32.toNatClampNeg x3)) &&& (63 : Int32)) = 15 then (oc (hin (x3 + (1 : Int32)) Ln) (Option.bind (fc_hh_when (xs (Int32.toNatClampNeg (x3 + (1 : Int32)))) ρ.1) fun p_ => hl p_.1 fun q61 => hl (p_.2, ρ.2) fun ρ62 => (oc (hin (x3 + (1 : Int32)) Ln) (Option.bind (fm_when (xs (Int32.toNatClampNeg (x3 + (1 : Int32)))) ρ62.2) fun p_ => hl p_.1 fun q63 => hl (ρ62.1, p_.2) fun ρ64 => (if q61 = q63 then (fl_law_b1782 xs Ln (fl_law_l18 xs Ln n) x3 ρ64) else none))))) else (if ((xs (Int32.toNatClampNeg x3)) &&& (63 : Int32)) = 16 then (oc (hin (x3 + (1 : Int32)) Ln) (Option.bind (fc_hh_giftFor (xs (Int32.toNatClampNeg (x3 + (1 : Int32)))) ρ.1) fun p_ => hl p_.1 fun q65 => hl (p_.2, ρ.2) fun ρ66 => (oc (hin (x3 + (1 : Int32)) Ln) (Option.bind (fm_giftFor (xs (Int32.toNatClampNeg (x3 + (1 : Int32)))) ρ66.2) fun p_ => hl p_.1 fun q67 => hl (ρ66.1, p_.2) fun ρ68 => (if q65 = q67 then (fl_law_b1782 xs Ln (fl_law_l18 xs Ln n) x3 ρ68) else none))))) else (if ((xs (Int32.toNatClampNeg x3)) &&& (63 : Int32)) = 17 then (oc (hin (x3 + (1 : Int32)) Ln) (Option.bind (fc_hh_dueFor (xs (Int32.toNatClampNeg (x3 + (1 : Int32)))) ρ.1) fun p_ => hl p_.1 fun q69 => hl (p_.2, ρ.2) fun ρ70 => (oc (hin (x3 + (1 : Int32)) Ln) (Option.bind (fm_dueFor (xs (Int32.toNatClampNeg (x3 + (1 : Int32)))) ρ70.2) fun p_ => hl p_.1 fun q71 => hl (ρ70.1, p_.2) fun ρ72 => (if q69 = q71 then (fl_law_b1782 xs Ln (fl_law_l18 xs Ln n) x3 ρ72) else none))))) else (if ((xs (Int32.toNatClampNeg x3)) &&& (63 : Int32)) = 18 then (oc (hin (x3 + (1 : Int32)) Ln) (Option.bind (fc_hh_shows (xs (Int32.toNatClampNeg (x3 + (1 : Int32)))) ρ.1) fun p_ => hl p_.1 fun q73 => hl (p_.2, ρ.2) fun ρ74 => (oc (hin (x3 + (1 : Int32)) Ln) (Option.bind (fm_shows (xs (Int32.toNatClampNeg (x3 + (1 : Int32)))) ρ74.2) fun p_ => hl p_.1 fun q75 => hl (ρ74.1, p_.2) fun ρ76 => (if q73 = q75 then (fl_law_b1782 xs Ln (fl_law_l18 xs Ln n) x3 ρ76) else none))))) else (if ((xs (Int32.toNatClampNeg x3)) &&& (63 : Int32)) = 19 then (oc (hin (x3 + (1 : Int32)) Ln) (Option.bind (fc_hh_right (xs (Int32.toNatClampNeg (x3 + (1 : Int32)))) ρ.1) fun p_ => hl p_.1 fun q77 => hl (p_.2, ρ.2) fun ρ78 => (oc (hin (x3 + (1 : Int32)) Ln) (Option.bind (fm_right (xs (Int32.toNatClampNeg (x3 + (1 : Int32)))) ρ78.2) fun p_ => hl p_.1 fun q79 => hl (ρ78.1, p_.2) fun ρ80 => (if q77 = q79 then (fl_law_b1782 xs Ln (fl_law_l18 xs Ln n) x3 ρ80) else none))))) else (if ((xs (Int32.toNatClampNeg x3)) &&& (63 : Int32)) = 20 then (oc (hin (x3 + (1 : Int32)) Ln) (Option.bind (fc_hh_queues ρ.1 (xs (Int32.toNatClampNeg (x3 + (1 : Int32))))) fun q81 => (oc (hin (x3 + (1 : Int32)) Ln) (Option.bind (fm_queues ρ.2 (xs (Int32.toNatClampNeg (x3 + (1 : Int32))))) fun q83 => (if q81 = q83 then (fl_law_b1782 xs Ln (fl_law_l18 xs Ln n) x3 ρ) else none))))) else (if ((xs (Int32.toNatClampNeg x3)) &&& (63 : Int32)) = 21 then (oc (hin (x3 + (1 : Int32)) Ln) (oc (hin (x3 + (2 : Int32)) Ln) (Option.bind (fc_hh_errands ρ.1 (xs (Int32.toNatClampNeg (x3 + (1 : Int32)))) (xs (Int32.toNatClampNeg (x3 + (2 : Int32))))) fun q85 => (oc (hin (x3 + (1 : Int32)) Ln) (oc (hin (x3 + (2 : Int32)) Ln) (Option.bind (fm_errands ρ.2 (xs (Int32.toNatClampNeg (x3 + (1 : Int32)))) (xs (Int32.toNatClampNeg (x3 + (2 : Int32))))) fun q87 => (if q85 = q87 then (fl_law_b1782 xs Ln (fl_law_l18 xs Ln n) x3 ρ) else none))))))) else (if ((xs (Int32.toNatClampNeg x3)) &&& (63 : Int32)) = 22 then (oc (hin (x3 + (1 : Int32)) Ln) (Option.bind (fc_hh_best (xs (Int32.toNatClampNeg (x3 + (1 : Int32)))) ρ.1) fun p_ => hl p_.1 fun q89 => hl (p_.2, ρ.2) fun ρ90 => (oc (hin (x3 + (1 : Int32)) Ln) (Option.bind (fm_best (xs (Int32.toNatClampNeg (x3 + (1 : Int32)))) ρ90.2) fun p_ => hl p_.1 fun q91 => hl (ρ90.1, p_.2) fun ρ92 => (if q89 = q91 then (fl_law_b1782 xs Ln (fl_law_l18 xs Ln n) x3 ρ92) else none))))) else (if ((xs (Int32.toNatClampNeg x3)) &&& (63 : Int32)) = 23 then (oc (hin (x3 + (1 : Int32)) Ln) (oc (hin (x3 + (2 : Int32)) Ln) (Option.bind (fc_hh_ith (xs (Int32.toNatClampNeg (x3 + (1 : Int32)))) (xs (Int32.toNatClampNeg (x3 + (2 : Int32)))) ρ.1) fun p_ => hl p_.1 fun q93 => hl (p_.2, ρ.2) fun ρ94 => (oc (hin (x3 + (1 : Int32)) Ln) (oc (hin (x3 + (2 : Int32)) Ln) (Option.bind (fm_ith (xs (Int32.toNatClampNeg (x3 + (1 : Int32)))) (xs (Int32.toNatClampNeg (x3 + (2 : Int32)))) ρ94.2) fun p_ => hl p_.1 fun q95 => hl (ρ94.1, p_.2) fun ρ96 => (if q93 = q95 then (fl_law_b1782 xs Ln (fl_law_l18 xs Ln n) x3 ρ96) else none))))))) else (if ((xs (Int32.toNatClampNeg x3)) &&& (63 : Int32)) = 24 then (oc (hin (x3 + (1 : Int32)) Ln) (Option.bind (fc_hh_ways (xs (Int32.toNatClampNeg (x3 + (1 : Int32)))) ρ.1) fun p_ => hl p_.1 fun q97 => hl (p_.2, ρ.2) fun ρ98 => (oc (hin (x3 + (1 : Int32)) Ln) (Option.bind (fm_ways (xs (Int32.toNatClampNeg (x3 + (1 : Int32)))) ρ98.2) fun p_ => hl p_.1 fun q99 => hl (ρ98.1, p_.2) fun ρ100 => (if q97 = q99 then (fl_law_b1782 xs Ln (fl_law_l18 xs Ln n) x3 ρ100) else none))))) else (if ((xs (Int32.toNatClampNeg x3)) &&& (63 : Int32)) = 25 then (oc (hin (x3 + (1 : Int32)) Ln) (oc (hin (x3 + (2 : Int32)) Ln) (Option.bind (fc_hh_charter (xs (Int32.toNatClampNeg (x3 + (1 : Int32)))) (xs (Int32.toNatClampNeg (x3 + (2 : Int32)))) ρ.1) fun p_ => hl p_.1 fun q101 => hl (p_.2, ρ.2) fun ρ102 => (oc (hin (x3 + (1 : Int32)) Ln) (oc (hin (x3 + (2 : Int32)) Ln) (Option.bind (fm_charter (xs (Int32.toNatClampNeg (x3 + (1 : Int32)))) (xs (Int32.toNatClampNeg (x3 + (2 : Int32)))) ρ102.2) fun p_ => hl p_.1 fun q103 => hl (ρ102.1, p_.2) fun ρ104 => (if q101 = q103 then (fl_law_b1782 xs Ln (fl_law_l18 xs Ln n) x3 ρ104) else none))))))) else (if ((xs (Int32.toNatClampNeg x3)) &&& (63 : Int32)) = 26 then (oc (hin (x3 + (1 : Int32)) Ln) (oc (hin (x3 + (2 : Int32)) Ln) (Option.bind (fc_hh_bars (xs (Int32.toNatClampNeg (x3 + (1 : Int32)))) (xs (Int32.toNatClampNeg (x3 + (2 : Int32)))) ρ.1) fun p_ => hl p_.1 fun q105 => hl (p_.2, ρ.2) fun ρ106 => (oc (hin (x3 + (1 : Int32)) Ln) (oc (hin (x3 + (2 : Int32)) Ln) (Option.bind (fm_bars (xs (Int32.toNatClampNeg (x3 + (1 : Int32)))) (xs (Int32.toNatClampNeg (x3 + (2 : Int32)))) ρ106.2) fun p_ => hl p_.1 fun q107 => hl (ρ106.1, p_.2) fun ρ108 => (if q105 = q107 then (fl_law_b1782 xs Ln (fl_law_l18 xs Ln n) x3 ρ108) else none))))))) else (if ((xs (Int32.toNatClampNeg x3)) &&& (63 : Int32)) = 27 then (oc (hin (x3 + (1 : Int32)) Ln) (Option.bind (fc_hh_game (xs (Int32.toNatClampNeg (x3 + (1 : Int32)))) ρ.1) fun p_ => hl p_.1 fun q109 => hl (p_.2, ρ.2) fun ρ110 => (oc (hin (x3 + (1 : Int32)) Ln) (Option.bind (fm_game (xs (Int32.toNatClampNeg (x3 + (1 : Int32)))) ρ110.2) fun p_ => hl p_.1 fun q111 => hl (ρ110.1, p_.2) fun ρ112 => (if q109 = q111 then (fl_law_b1782 xs Ln (fl_law_l18 xs Ln n) x3 ρ112) else none))))) else (if ((xs (Int32.toNatClampNeg x3)) &&& (63 : Int32)) = 28 then (oc (hin (x3 + (1 : Int32)) Ln) (Option.bind (fc_hh_play (xs (Int32.toNatClampNeg (x3 + (1 : Int32)))) ρ.1) fun p_ => hl p_.1 fun q113 => hl (p_.2, ρ.2) fun ρ114 => (oc (hin (x3 + (1 : Int32)) Ln) (Option.bind (fm_play (xs (Int32.toNatClampNeg (x3 + (1 : Int32)))) ρ114.2) fun p_ => hl p_.1 fun q115 => hl (ρ114.1, p_.2) fun ρ116 => (if q113 = q115 then (fl_law_b1782 xs Ln (fl_law_l18 xs Ln n) x3 ρ116) else none))))) else (if ((xs (Int32.toNatClampNeg x3)) &&& (63 : Int32)) = 29 then (oc (hin (x3 + (1 : Int32)) Ln) (oc (hin (x3 + (2 : Int32)) Ln) (oc (hin (x3 + (3 : Int32)) Ln) (oc (hin (x3 + (4 : Int32)) Ln) (Option.bind (fc_hh_report (xs (Int32.toNatClampNeg (x3 + (1 : Int32)))) (xs (Int32.toNatClampNeg (x3 + (2 : Int32)))) (xs (Int32.toNatClampNeg (x3 + (3 : Int32)))) (xs (Int32.toNatClampNeg (x3 + (4 : Int32)))) ρ.1) fun p_ => hl p_.1 fun q117 => hl (p_.2, ρ.2) fun ρ118 => (oc (hin (x3 + (1 : Int32)) Ln) (oc (hin (x3 + (2 : Int32)) Ln) (oc (hin (x3 + (3 : Int32)) Ln) (oc (hin (x3 + (4 : Int32)) Ln) (Option.bind (fm_report (xs (Int32.toNatClampNeg (x3 + (1 : Int32)))) (xs (Int32.toNatClampNeg (x3 + (2 : Int32)))) (xs (Int32.toNatClampNeg (x3 + (3 : Int32)))) (xs (Int32.toNatClampNeg (x3 + (4 : Int32)))) ρ118.2) fun p_ => hl p_.1 fun q119 => hl (ρ118.1, p_.2) fun ρ120 => (if q117 = q119 then (fl_law_b1782 xs Ln (fl_law_l18 xs Ln n) x3 ρ120) else none))))))))))) else (if ((xs (Int32.toNatClampNeg x3)) &&& (63 : Int32)) = 30 then (Option.bind (fc_hh_forget  ρ.1) fun p_ => hl p_.1 fun q121 => hl (p_.2, ρ.2) fun ρ122 => (Option.bind (fm_forget  ρ122.2) fun p_ => hl p_.1 fun q123 => hl (ρ122.1, p_.2) fun ρ124 => (if q121 = q123 then (fl_law_b1782 xs Ln (fl_law_l18 xs Ln n) x3 ρ124) else none))) else (if ((xs (Int32.toNatClampNeg x3)) &&& (63 : Int32)) = 31 then (oc (hin (x3 + (1 : Int32)) Ln) (Option.bind (fc_hh_cause ρ.1 (xs (Int32.toNatClampNeg (x3 + (1 : Int32))))) fun q125 => (oc (hin (x3 + (1 : Int32)) Ln) (Option.bind (fm_cause (xs (Int32.toNatClampNeg (x3 + (1 : Int32)))) ρ.2) fun p_ => hl p_.1 fun q127 => hl (ρ.1, p_.2) fun ρ128 => (if q125 = q127 then (fl_law_b1782 xs Ln (fl_law_l18 xs Ln n) x3 ρ128) else none))))) else (if ((xs (Int32.toNatClampNeg x3)) &&& (63 : Int32)) = 32 then (Option.bind (fc_hh_liar ρ.1 ) fun q129 => (Option.bind (fm_liar  ρ.2) fun p_ => hl p_.1 fun q131 => hl (ρ.1, p_.2) fun ρ132 => (if q129 = q131 then (fl_law_b1782 xs Ln (fl_law_l18 xs Ln n) x3 ρ132) else none))) else (if ((xs (Int32.toNatClampNeg x3)) &&& (63 : Int32)) = 33 then (oc (hin (x3 + (1 : Int32)) Ln) (Option.bind (fc_hh_seed (xs (Int32.toNatClampNeg (x3 + (1 : Int32)))) ρ.1) fun p_ => hl p_.1 fun q133 => hl (p_.2, ρ.2) fun ρ134 => (oc (hin (x3 + (1 : Int32)) Ln) (Option.bind (fm_seed (xs (Int32.toNatClampNeg (x3 + (1 : Int32)))) ρ134.2) fun p_ => hl p_.1 fun q135 => hl (ρ134.1, p_.2) fun ρ136 => (if q133 = q135 then (fl_law_b1782 xs Ln (fl_law_l18 xs Ln n) x3 ρ136) else none))))) else (if ((xs (Int32.toNatClampNeg x3)) &&& (63 : Int32)) = 34 then (Option.bind (fc_hh_lot  ρ.1) fun p_ => hl p_.1 fun q137 => hl (p_.2, ρ.2) fun ρ138 => (Option.bind (fm_lot  ρ138.2) fun p_ => hl p_.1 fun q139 => hl (ρ138.1, p_.2) fun ρ140 => (if q137 = q139 then (fl_law_b1782 xs Ln (fl_law_l18 xs Ln n) x3 ρ140) else none))) else (if ((xs (Int32.toNatClampNeg x3)) &&& (63 : Int32)) = 35 then (oc (hin (x3 + (1 : Int32)) Ln) (oc (hin (x3 + (2 : Int32)) Ln) (Option.bind (fc_hh_times (xs (Int32.toNatClampNeg (x3 + (1 : Int32)))) (xs (Int32.toNatClampNeg (x3 + (2 : Int32)))) ρ.1) fun p_ => hl p_.1 fun q141 => hl (p_.2, ρ.2) fun ρ142 => (oc (hin (x3 + (1 : Int32)) Ln) (oc (hin (x3 + (2 : Int32)) Ln) (Option.bind (fm_times (xs (Int32.toNatClampNeg (x3 + (1 : Int32)))) (xs (Int32.toNatClampNeg (x3 + (2 : Int32)))) ρ142.2) fun p_ => hl p_.1 fun q143 => hl (ρ142.1, p_.2) fun ρ144 => (if q141 = q143 then (fl_law_b1782 xs Ln (fl_law_l18 xs Ln n) x3 ρ144) else none))))))) else (if ((xs (Int32.toNatClampNeg x3)) &&& (63 : Int32)) = 36 then (oc (hin (x3 + (1 : Int32)) Ln) (Option.bind (fc_hh_prove (xs (Int32.toNatClampNeg (x3 + (1 : Int32)))) ρ.1) fun p_ => hl p_.1 fun q145 => hl (p_.2, ρ.2) fun ρ146 => (oc (hin (x3 + (1 : Int32)) Ln) (Option.bind (fm_prove (xs (Int32.toNatClampNeg (x3 + (1 : Int32)))) ρ146.2) fun p_ => hl p_.1 fun q147 => hl (ρ146.1, p_.2) fun ρ148 => (if q145 = q147 then (fl_law_b1782 xs Ln (fl_law_l18 xs Ln n) x3 ρ148) else none))))) else (if ((xs (Int32.toNatClampNeg x3)) &&& (63 : Int32)) = 37 then (oc (hin (x3 + (1 : Int32)) Ln) (oc (hin (x3 + (2 : Int32)) Ln) (Option.bind (fc_hh_row ρ.1 (xs (Int32.toNatClampNeg (x3 + (1 : Int32)))) (xs (Int32.toNatClampNeg (x3 + (2 : Int32))))) fun q149 => (oc (hin (x3 + (1 : Int32)) Ln) (oc (hin (x3 + (2 : Int32)) Ln) (Option.bind (fm_row ρ.2 (xs (Int32.toNatClampNeg (x3 + (1 : Int32)))) (xs (Int32.toNatClampNeg (x3 + (2 : Int32))))) fun q151 => (if q149 = q151 then (fl_law_b1782 xs Ln (fl_law_l18 xs Ln n) x3 ρ) else none))))))) else (if ((xs (Int32.toNatClampNeg x3)) &&& (63 : Int32)) = 38 then (oc (hin (x3 + (1 : Int32)) Ln) (oc (hin (x3 + (2 : Int32)) Ln) (oc (hin (x3 + (3 : Int32)) Ln) (Option.bind (fc_hh_alterRow (xs (Int32.toNatClampNeg (x3 + (1 : Int32)))) (xs (Int32.toNatClampNeg (x3 + (2 : Int32)))) (xs (Int32.toNatClampNeg (x3 + (3 : Int32)))) ρ.1) fun p_ => hl p_.1 fun q153 => hl (p_.2, ρ.2) fun ρ154 => (oc (hin (x3 + (1 : Int32)) Ln) (oc (hin (x3 + (2 : Int32)) Ln) (oc (hin (x3 + (3 : Int32)) Ln) (Option.bind (fm_alterRow (xs (Int32.toNatClampNeg (x3 + (1 : Int32)))) (xs (Int32.toNatClampNeg (x3 + (2 : Int32)))) (xs (Int32.toNatClampNeg (x3 + (3 : Int32)))) ρ154.2) fun p_ => hl p_.1 fun q155 => hl (ρ154.1, p_.2) fun ρ156 => (if q153 = q155 then (fl_law_b1782 xs Ln (fl_law_l18 xs Ln n) x3 ρ156) else none))))))))) else (if ((xs (Int32.toNatClampNeg x3)) &&& (63 : Int32)) = 39 then (Option.bind (fc_hh_judge  ρ.1) fun p_ => hl p_.1 fun q157 => hl (p_.2, ρ.2) fun ρ158 => (Option.bind (fm_judge  ρ158.2) fun p_ => hl p_.1 fun q159 => hl (ρ158.1, p_.2) fun ρ160 => (if q157 = q159 then (fl_law_b1782 xs Ln (fl_law_l18 xs Ln n) x3 ρ160) else none))) else (if ((xs (Int32.toNatClampNeg x3)) &&& (63 : Int32)) = 40 then (oc (hin (x3 + (1 : Int32)) Ln) (oc (hin (x3 + (2 : Int32)) Ln) (oc (hin (x3 + (3 : Int32)) Ln) (Option.bind (fc_hh_sheet (xs (Int32.toNatClampNeg (x3 + (1 : Int32)))) (xs (Int32.toNatClampNeg (x3 + (2 : Int32)))) (xs (Int32.toNatClampNeg (x3 + (3 : Int32)))) ρ.1) fun p_ => hl p_.1 fun q161 => hl (p_.2, ρ.2) fun ρ162 => (oc (hin (x3 + (1 : Int32)) Ln) (oc (hin (x3 + (2 : Int32)) Ln) (oc (hin (x3 + (3 : Int32)) Ln) (Option.bind (fm_sheet (xs (Int32.toNatClampNeg (x3 + (1 : Int32)))) (xs (Int32.toNatClampNeg (x3 + (2 : Int32)))) (xs (Int32.toNatClampNeg (x3 + (3 : Int32)))) ρ162.2) fun p_ => hl p_.1 fun q163 => hl (ρ162.1, p_.2) fun ρ164 => (if q161 = q163 then (fl_law_b1782 xs Ln (fl_law_l18 xs Ln n) x3 ρ164) else none))))))))) else (if ((xs (Int32.toNatClampNeg x3)) &&& (63 : Int32)) = 41 then (oc (hin (x3 + (1 : Int32)) Ln) (oc (hin (x3 + (2 : Int32)) Ln) (oc (hin (x3 + (3 : Int32)) Ln) (Option.bind (fc_hh_write (xs (Int32.toNatClampNeg (x3 + (1 : Int32)))) (xs (Int32.toNatClampNeg (x3 + (2 : Int32)))) (xs (Int32.toNatClampNeg (x3 + (3 : Int32)))) ρ.1) fun p_ => hl p_.1 fun q165 => hl (p_.2, ρ.2) fun ρ166 => (oc (hin (x3 + (1 : Int32)) Ln) (oc (hin (x3 + (2 : Int32)) Ln) (oc (hin (x3 + (3 : Int32)) Ln) (Option.bind (fm_write (xs (Int32.toNatClampNeg (x3 + (1 : Int32)))) (xs (Int32.toNatClampNeg (x3 + (2 : Int32)))) (xs (Int32.toNatClampNeg (x3 + (3 : Int32)))) ρ166.2) fun p_ => hl p_.1 fun q167 => hl (ρ166.1, p_.2) fun ρ168 => (if q165 = q167 then (fl_law_b1782 xs Ln (fl_law_l18 xs Ln n) x3 ρ168) else none))))))))) else (if ((xs (Int32.toNatClampNeg x3)) &&& (63 : Int32)) = 42 then (oc (hin (x3 + (1 : Int32)) Ln) (oc (hin (x3 + (2 : Int32)) Ln) (oc (hin (x3 + (3 : Int32)) Ln) (Option.bind (fc_hh_item ρ.1 (xs (Int32.toNatClampNeg (x3 + (1 : Int32)))) (xs (Int32.toNatClampNeg (x3 + (2 : Int32)))) (xs (Int32.toNatClampNeg (x3 + (3 : Int32))))) fun q169 => (oc (hin (x3 + (1 : Int32)) Ln) (oc (hin (x3 + (2 : Int32)) Ln) (oc (hin (x3 + (3 : Int32)) Ln) (Option.bind (fm_item ρ.2 (xs (Int32.toNatClampNeg (x3 + (1 : Int32)))) (xs (Int32.toNatClampNeg (x3 + (2 : Int32)))) (xs (Int32.toNatClampNeg (x3 + (3 : Int32))))) fun q171 => (if q169 = q171 then (fl_law_b1782 xs Ln (fl_law_l18 xs Ln n) x3 ρ) else none))))))))) else (if ((xs (Int32.toNatClampNeg x3)) &&& (63 : Int32)) = 43 then (oc (hin (x3 + (1 : Int32)) Ln) (oc (hin (x3 + (2 : Int32)) Ln) (oc (hin (x3 + (3 : Int32)) Ln) (Option.bind (fc_hh_goAll (xs (Int32.toNatClampNeg (x3 + (1 : Int32)))) (xs (Int32.toNatClampNeg (x3 + (2 : Int32)))) (xs (Int32.toNatClampNeg (x3 + (3 : Int32)))) ρ.1) fun p_ => hl p_.1 fun q173 => hl (p_.2, ρ.2) fun ρ174 => (oc (hin (x3 + (1 : Int32)) Ln) (oc (hin (x3 + (2 : Int32)) Ln) (oc (hin (x3 + (3 : Int32)) Ln) (Option.bind (fm_goAll (xs (Int32.toNatClampNeg (x3 + (1 : Int32)))) (xs (Int32.toNatClampNeg (x3 + (2 : Int32)))) (xs (Int32.toNatClampNeg (x3 + (3 : Int32)))) ρ174.2) fun p_ => hl p_.1 fun q175 => hl (ρ174.1, p_.2) fun ρ176 => (if q173 = q175 then (fl_law_b1782 xs Ln (fl_law_l18 xs Ln n) x3 ρ176) else none))))))))) else (if ((xs (Int32.toNatClampNeg x3)) &&& (63 : Int32)) = 44 then (oc (hin (x3 + (1 : Int32)) Ln) (oc (hin (x3 + (2 : Int32)) Ln) (oc (hin (x3 + (3 : Int32)) Ln) (Option.bind (fc_hh_wouldBe (xs (Int32.toNatClampNeg (x3 + (1 : Int32)))) (xs (Int32.toNatClampNeg (x3 + (2 : Int32)))) (xs (Int32.toNatClampNeg (x3 + (3 : Int32)))) ρ.1) fun p_ => hl p_.1 fun q177 => hl (p_.2, ρ.2) fun ρ178 => (oc (hin (x3 + (1 : Int32)) Ln) (oc (hin (x3 + (2 : Int32)) Ln) (oc (hin (x3 + (3 : Int32)) Ln) (Option.bind (fm_wouldBe (xs (Int32.toNatClampNeg (x3 + (1 : Int32)))) (xs (Int32.toNatClampNeg (x3 + (2 : Int32)))) (xs (Int32.toNatClampNeg (x3 + (3 : Int32)))) ρ178.2) fun p_ => hl p_.1 fun q179 => hl (ρ178.1, p_.2) fun ρ180 => (if q177 = q179 then (fl_law_b1782 xs Ln (fl_law_l18 xs Ln n) x3 ρ180) else none))))))))) else (if ((xs (Int32.toNatClampNeg x3)) &&& (63 : Int32)) = 45 then (oc (hin (x3 + (1 : Int32)) Ln) (oc (hin (x3 + (2 : Int32)) Ln) (oc (hin (x3 + (3 : Int32)) Ln) (Option.bind (fc_hh_shelf (xs (Int32.toNatClampNeg (x3 + (1 : Int32)))) (xs (Int32.toNatClampNeg (x3 + (2 : Int32)))) (xs (Int32.toNatClampNeg (x3 + (3 : Int32)))) ρ.1) fun p_ => hl p_.1 fun q181 => hl (p_.2, ρ.2) fun ρ182 => (oc (hin (x3 + (1 : Int32)) Ln) (oc (hin (x3 + (2 : Int32)) Ln) (oc (hin (x3 + (3 : Int32)) Ln) (Option.bind (fm_shelf (xs (Int32.toNatClampNeg (x3 + (1 : Int32)))) (xs (Int32.toNatClampNeg (x3 + (2 : Int32)))) (xs (Int32.toNatClampNeg (x3 + (3 : Int32)))) ρ182.2) fun p_ => hl p_.1 fun q183 => hl (ρ182.1, p_.2) fun ρ184 => (if q181 = q183 then (fl_law_b1782 xs Ln (fl_law_l18 xs Ln n) x3 ρ184) else none))))))))) else (if ((xs (Int32.toNatClampNeg x3)) &&& (63 : Int32)) = 46 then (oc (hin (x3 + (1 : Int32)) Ln) (oc (hin (x3 + (2 : Int32)) Ln) (Option.bind (fc_hh_taken ρ.1 (xs (Int32.toNatClampNeg (x3 + (1 : Int32)))) (xs (Int32.toNatClampNeg (x3 + (2 : Int32))))) fun q185 => (oc (hin (x3 + (1 : Int32)) Ln) (oc (hin (x3 + (2 : Int32)) Ln) (Option.bind (fm_taken ρ.2 (xs (Int32.toNatClampNeg (x3 + (1 : Int32)))) (xs (Int32.toNatClampNeg (x3 + (2 : Int32))))) fun q187 => (if q185 = q187 then (fl_law_b1782 xs Ln (fl_law_l18 xs Ln n) x3 ρ) else none))))))) else (if ((xs (Int32.toNatClampNeg x3)) &&& (63 : Int32)) = 47 then (oc (hin (x3 + (1 : Int32)) Ln) (oc (hin (x3 + (2 : Int32)) Ln) (oc (hin (x3 + (3 : Int32)) Ln) (Option.bind (fc_hh_act (xs (Int32.toNatClampNeg (x3 + (1 : Int32)))) (xs (Int32.toNatClampNeg (x3 + (2 : Int32)))) (xs (Int32.toNatClampNeg (x3 + (3 : Int32)))) ρ.1) fun p_ => hl p_.1 fun q189 => hl (p_.2, ρ.2) fun ρ190 => (oc (hin (x3 + (1 : Int32)) Ln) (oc (hin (x3 + (2 : Int32)) Ln) (oc (hin (x3 + (3 : Int32)) Ln) (Option.bind (fm_act (xs (Int32.toNatClampNeg (x3 + (1 : Int32)))) (xs (Int32.toNatClampNeg (x3 + (2 : Int32)))) (xs (Int32.toNatClampNeg (x3 + (3 : Int32)))) ρ190.2) fun p_ => hl p_.1 fun q191 => hl (ρ190.1, p_.2) fun ρ192 => (if q189 = q191 then (fl_law_b1782 xs Ln (fl_law_l18 xs Ln n) x3 ρ192) else none))))))))) else (if ((xs (Int32.toNatClampNeg x3)) &&& (63 : Int32)) = 48 then (oc (hin (x3 + (1 : Int32)) Ln) (Option.bind (fc_hh_trace ρ.1 (xs (Int32.toNatClampNeg (x3 + (1 : Int32))))) fun q193 => (oc (hin (x3 + (1 : Int32)) Ln) (Option.bind (fm_trace ρ.2 (xs (Int32.toNatClampNeg (x3 + (1 : Int32))))) fun q195 => (if q193 = q195 then (fl_law_b1782 xs Ln (fl_law_l18 xs Ln n) x3 ρ) else none))))) else (if ((xs (Int32.toNatClampNeg x3)) &&& (63 : Int32)) = 49 then (oc (hin (x3 + (1 : Int32)) Ln) (Option.bind (fc_hh_many ρ.1 (xs (Int32.toNatClampNeg (x3 + (1 : Int32))))) fun q197 => (oc (hin (x3 + (1 : Int32)) Ln) (Option.bind (fm_many ρ.2 (xs (Int32.toNatClampNeg (x3 + (1 : Int32))))) fun q199 => (if q197 = q199 then (fl_law_b1782 xs Ln (fl_law_l18 xs Ln n) x3 ρ) else none))))) else (if ((xs (Int32.toNatClampNeg x3)) &&& (63 : Int32)) = 50 then (Option.bind (fc_hh_keep  ρ.1) fun p_ => hl p_.1 fun q201 => hl (p_.2, ρ.2) fun ρ202 => (Option.bind (fm_keep  ρ202.2) fun p_ => hl p_.1 fun q203 => hl (ρ202.1, p_.2) fun ρ204 => (if q201 = q203 then (fl_law_b1782 xs Ln (fl_law_l18 xs Ln n) x3 ρ204) else none))) else (if ((xs (Int32.toNatClampNeg x3)) &&& (63 : Int32)) = 51 then (Option.bind (fc_hh_again  ρ.1) fun p_ => hl p_.1 fun q205 => hl (p_.2, ρ.2) fun ρ206 => (Option.bind (fm_again  ρ206.2) fun p_ => hl p_.1 fun q207 => hl (ρ206.1, p_.2) fun ρ208 => (if q205 = q207 then (fl_law_b1782 xs Ln (fl_law_l18 xs Ln n) x3 ρ208) else none))) else (fl_law_b1782 xs Ln (fl_law_l18 xs Ln n) x3 ρ)))))))))))))))))))))))))))))))))))))))))))))))))))))))
set_option maxHeartbeats 4000000 in
set_option maxRecDepth 100000 in
theorem wl_law_b1782 {p : Program} {l : Launch} {e : Env} {s : State} {m : MethodId} {below : List Frame} {meth : Method} {c : Code} {D : va_G} {cs : Nat → ClassId} {sK sV : Nat → Nat} {tA : Nat} {ad am : Nat → Nat} {h : Nat} {cA : ClassId} {b Ln : Nat} {xs : Nat → Int32} {K18 : Int32 → SL → Option Int32} (X : hc p s m #[Value.ref b] meth c RL code 4 (some .boolean)) (hK : kC D cs sK sV tA (fun q : Nat => s.heap.size ≤ q) s) (hKm : kM D cA (fun q : Nat => s.heap.size ≤ q) s) (hX : va_X b Ln xs s s.heap) (hbl : b < s.heap.size) (hK18 : (∀ (x3 : Int32) (ρ : SL), K18 x3 ρ = some (1 : Int32) → gs 600000 7302250 p l e room_1 s m #[Value.ref b] below meth c (wL ad cs h am cA) D vwCl (fun q : Nat => s.heap.size ≤ q) 4 (lw_Z below #[Value.ref b] s) 18 [(0, .ref b), (1, .ref (ad 16)), (2, .ref h), (3, .int x3)] [] ρ))  (x3 : Int32) (ρ : SL) (hf : fl_law_b1782 xs Ln K18 x3 ρ = some (1 : Int32)) : gs 600000 7302250 p l e room_1 s m #[Value.ref b] below meth c (wL ad cs h am cA) D vwCl (fun q : Nat => s.heap.size ≤ q) 4 (lw_Z below #[Value.ref b] s) 1782 [(0, .ref b), (1, .ref (ad 16)), (2, .ref h), (3, .int x3)] [] ρ := by
  unfold fl_law_b1782 at hf
  refine gs_iinc (k := 3) (v := 5) (L2 := [(3, .int (x3 + (5 : Int32))), (0, .ref b), (1, .ref (ad 16)), (2, .ref h)]) X dL_law_1782 rfl (by decide) (by decide) rfl ?_
  refine gs_goto X 18 dL_law_1785 (by decide) ?_
  refine gs_sub [1, 2, 3, 0] rfl ?_
  exact hK18 _ _ hf
set_option maxHeartbeats 4000000 in
set_option maxRecDepth 100000 in
theorem wl_law_l18 {p : Program} {l : Launch} {e : Env} {s : State} {m : MethodId} {below : List Frame} {meth : Method} {c : Code} {D : va_G} {cs : Nat → ClassId} {sK sV : Nat → Nat} {tA : Nat} {ad am : Nat → Nat} {h : Nat} {cA : ClassId} {b Ln : Nat} {xs : Nat → Int32} (X : hc p s m #[Value.ref b] meth c RL code 4 (some .boolean)) (hK : kC D cs sK sV tA (fun q : Nat => s.heap.size ≤ q) s) (hKm : kM D cA (fun q : Nat => s.heap.size ≤ q) s) (hX : va_X b Ln xs s s.heap) (hbl : b < s.heap.size)  : ∀ (n : Nat) (x3 : Int32) (ρ : SL), fl_law_l18 xs Ln n x3 ρ = some (1 : Int32) → gs 600000 7302250 p l e room_1 s m #[Value.ref b] below meth c (wL ad cs h am cA) D vwCl (fun q : Nat => s.heap.size ≤ q) 4 (lw_Z below #[Value.ref b] s) 18 [(0, .ref b), (1, .ref (ad 16)), (2, .ref h), (3, .int x3)] [] ρ := by
  intro n
  induction n with
  | zero =>
    intro x3 ρ hf
    cases (show (none : Option Int32) = some (1 : Int32) from hf)
  | succ n ih =>
    intro x3 ρ hf
    unfold fl_law_l18 at hf
    refine gs_iload_n X dL_law_18 rfl 3 rfl ?_
    refine gs_aload_n X dL_law_19 rfl 0 rfl ?_
    refine gs_slen X hX hbl (Nat.not_le.mpr hbl) dL_law_20 ?_
    refine gs_iconst (v := 5) X dL_law_21 (by decide) ?_
    refine gs_isub X dL_law_22 ?_
    refine gs_icmp_gt X 1788 dL_law_23 (by decide) (fun hc_ => ?_) (fun hc_ => ?_)
    · replace hf := ot_t hf hc_
      refine gs_iconst (v := 1) X dL_law_1788 (by decide) ?_
      exact gs_end X X.2.2.2.2.2.1 (fun _ h => h) dL_law_1789
    · replace hf := ot_f hf hc_
      refine gs_aload_n X dL_law_26 rfl 0 rfl ?_
      refine gs_iload_n X dL_law_27 rfl 3 rfl ?_
      have hi_ := oc_1 hf
      replace hf := oc_2 hf
      refine gs_sld X hX hbl (Nat.not_le.mpr hbl) hi_ dL_law_28 ?_
      refine gs_bipush (v := 63) X dL_law_29 (by decide) ?_
      refine gs_iand X dL_law_31 ?_
      by_cases hs0 : ((xs (Int32.toNatClampNeg x3)) &&& (63 : Int32)) = 0
      · replace hf := ot_t hf hs0
        refine gs_tin X (0) 256 dL_law_32 (by rw [hs0]; decide) (by decide) (by decide) rfl (by decide) ?_
        refine gs_aload_n X dL_law_256 rfl 1 rfl ?_
        refine gs_aload_n X dL_law_257 rfl 0 rfl ?_
        refine gs_iload_n X dL_law_258 rfl 3 rfl ?_
        refine gs_iconst (v := 1) X dL_law_259 (by decide) ?_
        refine gs_iadd X dL_law_260 ?_
        have hi_ := oc_1 hf
        replace hf := oc_2 hf
        refine gs_sld X hX hbl (Nat.not_le.mpr hbl) hi_ dL_law_261 ?_
        refine gs_aload_n X dL_law_262 rfl 0 rfl ?_
        refine gs_iload_n X dL_law_263 rfl 3 rfl ?_
        refine gs_iconst (v := 2) X dL_law_264 (by decide) ?_
        refine gs_iadd X dL_law_265 ?_
        have hi_ := oc_1 hf
        replace hf := oc_2 hf
        refine gs_sld X hX hbl (Nat.not_le.mpr hbl) hi_ dL_law_266 ?_
        refine gs_aload_n X dL_law_267 rfl 0 rfl ?_
        refine gs_iload_n X dL_law_268 rfl 3 rfl ?_
        refine gs_iconst (v := 3) X dL_law_269 (by decide) ?_
        refine gs_iadd X dL_law_270 ?_
        have hi_ := oc_1 hf
        replace hf := oc_2 hf
        refine gs_sld X hX hbl (Nat.not_le.mpr hbl) hi_ dL_law_271 ?_
        refine gs_aload_n X dL_law_272 rfl 0 rfl ?_
        refine gs_iload_n X dL_law_273 rfl 3 rfl ?_
        refine gs_iconst (v := 4) X dL_law_274 (by decide) ?_
        refine gs_iadd X dL_law_275 ?_
        have hi_ := oc_1 hf
        replace hf := oc_2 hf
        refine gs_sld X hX hbl (Nat.not_le.mpr hbl) hi_ dL_law_276 ?_
        obtain ⟨⟨q1, ρ2_⟩, hq_, hf⟩ := ot_b hf
        replace hf := ot_l (y := q1) hf rfl
        obtain ⟨ρ2, e_ρ2⟩ : ∃ z : SL, z = (ρ2_, ρ.2) := ⟨_, rfl⟩
        replace hf := ot_l (y := ρ2) hf e_ρ2
        refine gs_C (rest := []) X hK (fun q h => h) cwL_13 (xc_hh_guild hq_) rfl ⟨rfl, rfl, Nat.le_of_ble_eq_true rfl, Nat.le_of_ble_eq_true rfl⟩ ⟨Nat.le_refl _, Nat.le_refl _⟩ rfl (Nat.le_of_ble_eq_true rfl) dL_law_277 ?_
        rw [← e_ρ2]
        refine gs_aload_n X dL_law_280 rfl 2 rfl ?_
        refine gs_aload_n X dL_law_281 rfl 0 rfl ?_
        refine gs_iload_n X dL_law_282 rfl 3 rfl ?_
        refine gs_iconst (v := 1) X dL_law_283 (by decide) ?_
        refine gs_iadd X dL_law_284 ?_
        have hi_ := oc_1 hf
        replace hf := oc_2 hf
        refine gs_sld X hX hbl (Nat.not_le.mpr hbl) hi_ dL_law_285 ?_
        refine gs_aload_n X dL_law_286 rfl 0 rfl ?_
        refine gs_iload_n X dL_law_287 rfl 3 rfl ?_
        refine gs_iconst (v := 2) X dL_law_288 (by decide) ?_
        refine gs_iadd X dL_law_289 ?_
        have hi_ := oc_1 hf
        replace hf := oc_2 hf
        refine gs_sld X hX hbl (Nat.not_le.mpr hbl) hi_ dL_law_290 ?_
        refine gs_aload_n X dL_law_291 rfl 0 rfl ?_
        refine gs_iload_n X dL_law_292 rfl 3 rfl ?_
        refine gs_iconst (v := 3) X dL_law_293 (by decide) ?_
        refine gs_iadd X dL_law_294 ?_
        have hi_ := oc_1 hf
        replace hf := oc_2 hf
        refine gs_sld X hX hbl (Nat.not_le.mpr hbl) hi_ dL_law_295 ?_
        refine gs_aload_n X dL_law_296 rfl 0 rfl ?_
        refine gs_iload_n X dL_law_297 rfl 3 rfl ?_
        refine gs_iconst (v := 4) X dL_law_298 (by decide) ?_
        refine gs_iadd X dL_law_299 ?_
        have hi_ := oc_1 hf
        replace hf := oc_2 hf
        refine gs_sld X hX hbl (Nat.not_le.mpr hbl) hi_ dL_law_300 ?_
        obtain ⟨⟨q3, ρ4_⟩, hq_, hf⟩ := ot_b hf
        replace hf := ot_l (y := q3) hf rfl
        obtain ⟨ρ4, e_ρ4⟩ : ∃ z : SL, z = (ρ2.1, ρ4_) := ⟨_, rfl⟩
        replace hf := ot_l (y := ρ4) hf e_ρ4
        refine gs_M (rest := [.int q1]) X hKm (fun q h => h) cwL_17 (xm_guild hq_) rfl ⟨rfl, rfl, Nat.le_of_ble_eq_true rfl, Nat.le_of_ble_eq_true rfl⟩ ⟨Nat.le_refl _, Nat.le_refl _⟩ rfl (Nat.le_of_ble_eq_true rfl) dL_law_301 ?_
        rw [← e_ρ4]
        refine gs_icmp_eq X 1782 dL_law_304 (by decide) (fun hc_ => ?_) (fun hc_ => ?_)
        · replace hf := ot_t hf hc_
          refine gs_sub [0, 1, 2, 3] rfl ?_
          exact wl_law_b1782 X hK hKm hX hbl ih _ _ hf
        · replace hf := ot_f hf hc_
          refine gs_iconst (v := 0) X dL_law_307 (by decide) ?_
          cases hf
      replace hf := ot_f hf hs0
      by_cases hs1 : ((xs (Int32.toNatClampNeg x3)) &&& (63 : Int32)) = 1
      · replace hf := ot_t hf hs1
        refine gs_tin X (1) 309 dL_law_32 (by rw [hs1]; decide) (by decide) (by decide) rfl (by decide) ?_
        refine gs_aload_n X dL_law_309 rfl 1 rfl ?_
        refine gs_aload_n X dL_law_310 rfl 0 rfl ?_
        refine gs_iload_n X dL_law_311 rfl 3 rfl ?_
        refine gs_iconst (v := 1) X dL_law_312 (by decide) ?_
        refine gs_iadd X dL_law_313 ?_
        have hi_ := oc_1 hf
        replace hf := oc_2 hf
        refine gs_sld X hX hbl (Nat.not_le.mpr hbl) hi_ dL_law_314 ?_
        refine gs_aload_n X dL_law_315 rfl 0 rfl ?_
        refine gs_iload_n X dL_law_316 rfl 3 rfl ?_
        refine gs_iconst (v := 2) X dL_law_317 (by decide) ?_
        refine gs_iadd X dL_law_318 ?_
        have hi_ := oc_1 hf
        replace hf := oc_2 hf
        refine gs_sld X hX hbl (Nat.not_le.mpr hbl) hi_ dL_law_319 ?_
        obtain ⟨⟨q5, ρ6_⟩, hq_, hf⟩ := ot_b hf
        replace hf := ot_l (y := q5) hf rfl
        obtain ⟨ρ6, e_ρ6⟩ : ∃ z : SL, z = (ρ6_, ρ.2) := ⟨_, rfl⟩
        replace hf := ot_l (y := ρ6) hf e_ρ6
        refine gs_C (rest := []) X hK (fun q h => h) cwL_18 (xc_hh_guildOf hq_) rfl ⟨rfl, rfl, Nat.le_of_ble_eq_true rfl, Nat.le_of_ble_eq_true rfl⟩ ⟨Nat.le_refl _, Nat.le_refl _⟩ rfl (Nat.le_of_ble_eq_true rfl) dL_law_320 ?_
        rw [← e_ρ6]
        refine gs_aload_n X dL_law_323 rfl 2 rfl ?_
        refine gs_aload_n X dL_law_324 rfl 0 rfl ?_
        refine gs_iload_n X dL_law_325 rfl 3 rfl ?_
        refine gs_iconst (v := 1) X dL_law_326 (by decide) ?_
        refine gs_iadd X dL_law_327 ?_
        have hi_ := oc_1 hf
        replace hf := oc_2 hf
        refine gs_sld X hX hbl (Nat.not_le.mpr hbl) hi_ dL_law_328 ?_
        refine gs_aload_n X dL_law_329 rfl 0 rfl ?_
        refine gs_iload_n X dL_law_330 rfl 3 rfl ?_
        refine gs_iconst (v := 2) X dL_law_331 (by decide) ?_
        refine gs_iadd X dL_law_332 ?_
        have hi_ := oc_1 hf
        replace hf := oc_2 hf
        refine gs_sld X hX hbl (Nat.not_le.mpr hbl) hi_ dL_law_333 ?_
        obtain ⟨q7, hq_, hf⟩ := ot_b hf
        refine gs_M (rest := [.int q5]) X hKm (fun q h => h) cwL_22 (xm_guildOf hq_) rfl ⟨rfl, rfl, Nat.le_of_ble_eq_true rfl, Nat.le_of_ble_eq_true rfl⟩ ⟨Nat.le_refl _, Nat.le_refl _⟩ rfl (Nat.le_of_ble_eq_true rfl) dL_law_334 ?_
        refine gs_icmp_eq X 1782 dL_law_337 (by decide) (fun hc_ => ?_) (fun hc_ => ?_)
        · replace hf := ot_t hf hc_
          refine gs_sub [0, 1, 2, 3] rfl ?_
          exact wl_law_b1782 X hK hKm hX hbl ih _ _ hf
        · replace hf := ot_f hf hc_
          refine gs_iconst (v := 0) X dL_law_340 (by decide) ?_
          cases hf
      replace hf := ot_f hf hs1
      by_cases hs2 : ((xs (Int32.toNatClampNeg x3)) &&& (63 : Int32)) = 2
      · replace hf := ot_t hf hs2
        refine gs_tin X (2) 342 dL_law_32 (by rw [hs2]; decide) (by decide) (by decide) rfl (by decide) ?_
        refine gs_aload_n X dL_law_342 rfl 1 rfl ?_
        refine gs_aload_n X dL_law_343 rfl 0 rfl ?_
        refine gs_iload_n X dL_law_344 rfl 3 rfl ?_
        refine gs_iconst (v := 1) X dL_law_345 (by decide) ?_
        refine gs_iadd X dL_law_346 ?_
        have hi_ := oc_1 hf
        replace hf := oc_2 hf
        refine gs_sld X hX hbl (Nat.not_le.mpr hbl) hi_ dL_law_347 ?_
        refine gs_aload_n X dL_law_348 rfl 0 rfl ?_
        refine gs_iload_n X dL_law_349 rfl 3 rfl ?_
        refine gs_iconst (v := 2) X dL_law_350 (by decide) ?_
        refine gs_iadd X dL_law_351 ?_
        have hi_ := oc_1 hf
        replace hf := oc_2 hf
        refine gs_sld X hX hbl (Nat.not_le.mpr hbl) hi_ dL_law_352 ?_
        refine gs_aload_n X dL_law_353 rfl 0 rfl ?_
        refine gs_iload_n X dL_law_354 rfl 3 rfl ?_
        refine gs_iconst (v := 3) X dL_law_355 (by decide) ?_
        refine gs_iadd X dL_law_356 ?_
        have hi_ := oc_1 hf
        replace hf := oc_2 hf
        refine gs_sld X hX hbl (Nat.not_le.mpr hbl) hi_ dL_law_357 ?_
        obtain ⟨⟨q9, ρ10_⟩, hq_, hf⟩ := ot_b hf
        replace hf := ot_l (y := q9) hf rfl
        obtain ⟨ρ10, e_ρ10⟩ : ∃ z : SL, z = (ρ10_, ρ.2) := ⟨_, rfl⟩
        replace hf := ot_l (y := ρ10) hf e_ρ10
        refine gs_C (rest := []) X hK (fun q h => h) cwL_23 (xc_hh_change hq_) rfl ⟨rfl, rfl, Nat.le_of_ble_eq_true rfl, Nat.le_of_ble_eq_true rfl⟩ ⟨Nat.le_refl _, Nat.le_refl _⟩ rfl (Nat.le_of_ble_eq_true rfl) dL_law_358 ?_
        rw [← e_ρ10]
        refine gs_aload_n X dL_law_361 rfl 2 rfl ?_
        refine gs_aload_n X dL_law_362 rfl 0 rfl ?_
        refine gs_iload_n X dL_law_363 rfl 3 rfl ?_
        refine gs_iconst (v := 1) X dL_law_364 (by decide) ?_
        refine gs_iadd X dL_law_365 ?_
        have hi_ := oc_1 hf
        replace hf := oc_2 hf
        refine gs_sld X hX hbl (Nat.not_le.mpr hbl) hi_ dL_law_366 ?_
        refine gs_aload_n X dL_law_367 rfl 0 rfl ?_
        refine gs_iload_n X dL_law_368 rfl 3 rfl ?_
        refine gs_iconst (v := 2) X dL_law_369 (by decide) ?_
        refine gs_iadd X dL_law_370 ?_
        have hi_ := oc_1 hf
        replace hf := oc_2 hf
        refine gs_sld X hX hbl (Nat.not_le.mpr hbl) hi_ dL_law_371 ?_
        refine gs_aload_n X dL_law_372 rfl 0 rfl ?_
        refine gs_iload_n X dL_law_373 rfl 3 rfl ?_
        refine gs_iconst (v := 3) X dL_law_374 (by decide) ?_
        refine gs_iadd X dL_law_375 ?_
        have hi_ := oc_1 hf
        replace hf := oc_2 hf
        refine gs_sld X hX hbl (Nat.not_le.mpr hbl) hi_ dL_law_376 ?_
        obtain ⟨⟨q11, ρ12_⟩, hq_, hf⟩ := ot_b hf
        replace hf := ot_l (y := q11) hf rfl
        obtain ⟨ρ12, e_ρ12⟩ : ∃ z : SL, z = (ρ10.1, ρ12_) := ⟨_, rfl⟩
        replace hf := ot_l (y := ρ12) hf e_ρ12
        refine gs_M (rest := [.int q9]) X hKm (fun q h => h) cwL_27 (xm_change hq_) rfl ⟨rfl, rfl, Nat.le_of_ble_eq_true rfl, Nat.le_of_ble_eq_true rfl⟩ ⟨Nat.le_refl _, Nat.le_refl _⟩ rfl (Nat.le_of_ble_eq_true rfl) dL_law_377 ?_
        rw [← e_ρ12]
        refine gs_icmp_eq X 1782 dL_law_380 (by decide) (fun hc_ => ?_) (fun hc_ => ?_)
        · replace hf := ot_t hf hc_
          refine gs_sub [0, 1, 2, 3] rfl ?_
          exact wl_law_b1782 X hK hKm hX hbl ih _ _ hf
        · replace hf := ot_f hf hc_
          refine gs_iconst (v := 0) X dL_law_383 (by decide) ?_
          cases hf
      replace hf := ot_f hf hs2
      by_cases hs3 : ((xs (Int32.toNatClampNeg x3)) &&& (63 : Int32)) = 3
      · replace hf := ot_t hf hs3
        refine gs_tin X (3) 385 dL_law_32 (by rw [hs3]; decide) (by decide) (by decide) rfl (by decide) ?_
        refine gs_aload_n X dL_law_385 rfl 1 rfl ?_
        refine gs_aload_n X dL_law_386 rfl 0 rfl ?_
        refine gs_iload_n X dL_law_387 rfl 3 rfl ?_
        refine gs_iconst (v := 1) X dL_law_388 (by decide) ?_
        refine gs_iadd X dL_law_389 ?_
        have hi_ := oc_1 hf
        replace hf := oc_2 hf
        refine gs_sld X hX hbl (Nat.not_le.mpr hbl) hi_ dL_law_390 ?_
        refine gs_aload_n X dL_law_391 rfl 0 rfl ?_
        refine gs_iload_n X dL_law_392 rfl 3 rfl ?_
        refine gs_iconst (v := 2) X dL_law_393 (by decide) ?_
        refine gs_iadd X dL_law_394 ?_
        have hi_ := oc_1 hf
        replace hf := oc_2 hf
        refine gs_sld X hX hbl (Nat.not_le.mpr hbl) hi_ dL_law_395 ?_
        obtain ⟨⟨q13, ρ14_⟩, hq_, hf⟩ := ot_b hf
        replace hf := ot_l (y := q13) hf rfl
        obtain ⟨ρ14, e_ρ14⟩ : ∃ z : SL, z = (ρ14_, ρ.2) := ⟨_, rfl⟩
        replace hf := ot_l (y := ρ14) hf e_ρ14
        refine gs_C (rest := []) X hK (fun q h => h) cwL_28 (xc_hh_remake hq_) rfl ⟨rfl, rfl, Nat.le_of_ble_eq_true rfl, Nat.le_of_ble_eq_true rfl⟩ ⟨Nat.le_refl _, Nat.le_refl _⟩ rfl (Nat.le_of_ble_eq_true rfl) dL_law_396 ?_
        rw [← e_ρ14]
        refine gs_aload_n X dL_law_399 rfl 2 rfl ?_
        refine gs_aload_n X dL_law_400 rfl 0 rfl ?_
        refine gs_iload_n X dL_law_401 rfl 3 rfl ?_
        refine gs_iconst (v := 1) X dL_law_402 (by decide) ?_
        refine gs_iadd X dL_law_403 ?_
        have hi_ := oc_1 hf
        replace hf := oc_2 hf
        refine gs_sld X hX hbl (Nat.not_le.mpr hbl) hi_ dL_law_404 ?_
        refine gs_aload_n X dL_law_405 rfl 0 rfl ?_
        refine gs_iload_n X dL_law_406 rfl 3 rfl ?_
        refine gs_iconst (v := 2) X dL_law_407 (by decide) ?_
        refine gs_iadd X dL_law_408 ?_
        have hi_ := oc_1 hf
        replace hf := oc_2 hf
        refine gs_sld X hX hbl (Nat.not_le.mpr hbl) hi_ dL_law_409 ?_
        obtain ⟨⟨q15, ρ16_⟩, hq_, hf⟩ := ot_b hf
        replace hf := ot_l (y := q15) hf rfl
        obtain ⟨ρ16, e_ρ16⟩ : ∃ z : SL, z = (ρ14.1, ρ16_) := ⟨_, rfl⟩
        replace hf := ot_l (y := ρ16) hf e_ρ16
        refine gs_M (rest := [.int q13]) X hKm (fun q h => h) cwL_31 (xm_remake hq_) rfl ⟨rfl, rfl, Nat.le_of_ble_eq_true rfl, Nat.le_of_ble_eq_true rfl⟩ ⟨Nat.le_refl _, Nat.le_refl _⟩ rfl (Nat.le_of_ble_eq_true rfl) dL_law_410 ?_
        rw [← e_ρ16]
        refine gs_icmp_eq X 1782 dL_law_413 (by decide) (fun hc_ => ?_) (fun hc_ => ?_)
        · replace hf := ot_t hf hc_
          refine gs_sub [0, 1, 2, 3] rfl ?_
          exact wl_law_b1782 X hK hKm hX hbl ih _ _ hf
        · replace hf := ot_f hf hc_
          refine gs_iconst (v := 0) X dL_law_416 (by decide) ?_
          cases hf
      replace hf := ot_f hf hs3
      by_cases hs4 : ((xs (Int32.toNatClampNeg x3)) &&& (63 : Int32)) = 4
      · replace hf := ot_t hf hs4
        refine gs_tin X (4) 418 dL_law_32 (by rw [hs4]; decide) (by decide) (by decide) rfl (by decide) ?_
        refine gs_aload_n X dL_law_418 rfl 1 rfl ?_
        refine gs_aload_n X dL_law_419 rfl 0 rfl ?_
        refine gs_iload_n X dL_law_420 rfl 3 rfl ?_
        refine gs_iconst (v := 1) X dL_law_421 (by decide) ?_
        refine gs_iadd X dL_law_422 ?_
        have hi_ := oc_1 hf
        replace hf := oc_2 hf
        refine gs_sld X hX hbl (Nat.not_le.mpr hbl) hi_ dL_law_423 ?_
        refine gs_aload_n X dL_law_424 rfl 0 rfl ?_
        refine gs_iload_n X dL_law_425 rfl 3 rfl ?_
        refine gs_iconst (v := 2) X dL_law_426 (by decide) ?_
        refine gs_iadd X dL_law_427 ?_
        have hi_ := oc_1 hf
        replace hf := oc_2 hf
        refine gs_sld X hX hbl (Nat.not_le.mpr hbl) hi_ dL_law_428 ?_
        obtain ⟨⟨q17, ρ18_⟩, hq_, hf⟩ := ot_b hf
        replace hf := ot_l (y := q17) hf rfl
        obtain ⟨ρ18, e_ρ18⟩ : ∃ z : SL, z = (ρ18_, ρ.2) := ⟨_, rfl⟩
        replace hf := ot_l (y := ρ18) hf e_ρ18
        refine gs_C (rest := []) X hK (fun q h => h) cwL_32 (xc_hh_news hq_) rfl ⟨rfl, rfl, Nat.le_of_ble_eq_true rfl, Nat.le_of_ble_eq_true rfl⟩ ⟨Nat.le_refl _, Nat.le_refl _⟩ rfl (Nat.le_of_ble_eq_true rfl) dL_law_429 ?_
        rw [← e_ρ18]
        refine gs_aload_n X dL_law_432 rfl 2 rfl ?_
        refine gs_aload_n X dL_law_433 rfl 0 rfl ?_
        refine gs_iload_n X dL_law_434 rfl 3 rfl ?_
        refine gs_iconst (v := 1) X dL_law_435 (by decide) ?_
        refine gs_iadd X dL_law_436 ?_
        have hi_ := oc_1 hf
        replace hf := oc_2 hf
        refine gs_sld X hX hbl (Nat.not_le.mpr hbl) hi_ dL_law_437 ?_
        refine gs_aload_n X dL_law_438 rfl 0 rfl ?_
        refine gs_iload_n X dL_law_439 rfl 3 rfl ?_
        refine gs_iconst (v := 2) X dL_law_440 (by decide) ?_
        refine gs_iadd X dL_law_441 ?_
        have hi_ := oc_1 hf
        replace hf := oc_2 hf
        refine gs_sld X hX hbl (Nat.not_le.mpr hbl) hi_ dL_law_442 ?_
        obtain ⟨⟨q19, ρ20_⟩, hq_, hf⟩ := ot_b hf
        replace hf := ot_l (y := q19) hf rfl
        obtain ⟨ρ20, e_ρ20⟩ : ∃ z : SL, z = (ρ18.1, ρ20_) := ⟨_, rfl⟩
        replace hf := ot_l (y := ρ20) hf e_ρ20
        refine gs_M (rest := [.int q17]) X hKm (fun q h => h) cwL_35 (xm_news hq_) rfl ⟨rfl, rfl, Nat.le_of_ble_eq_true rfl, Nat.le_of_ble_eq_true rfl⟩ ⟨Nat.le_refl _, Nat.le_refl _⟩ rfl (Nat.le_of_ble_eq_true rfl) dL_law_443 ?_
        rw [← e_ρ20]
        refine gs_icmp_eq X 1782 dL_law_446 (by decide) (fun hc_ => ?_) (fun hc_ => ?_)
        · replace hf := ot_t hf hc_
          refine gs_sub [0, 1, 2, 3] rfl ?_
          exact wl_law_b1782 X hK hKm hX hbl ih _ _ hf
        · replace hf := ot_f hf hc_
          refine gs_iconst (v := 0) X dL_law_449 (by decide) ?_
          cases hf
      replace hf := ot_f hf hs4
      by_cases hs5 : ((xs (Int32.toNatClampNeg x3)) &&& (63 : Int32)) = 5
      · replace hf := ot_t hf hs5
        refine gs_tin X (5) 451 dL_law_32 (by rw [hs5]; decide) (by decide) (by decide) rfl (by decide) ?_
        refine gs_aload_n X dL_law_451 rfl 1 rfl ?_
        refine gs_aload_n X dL_law_452 rfl 0 rfl ?_
        refine gs_iload_n X dL_law_453 rfl 3 rfl ?_
        refine gs_iconst (v := 1) X dL_law_454 (by decide) ?_
        refine gs_iadd X dL_law_455 ?_
        have hi_ := oc_1 hf
        replace hf := oc_2 hf
        refine gs_sld X hX hbl (Nat.not_le.mpr hbl) hi_ dL_law_456 ?_
        refine gs_aload_n X dL_law_457 rfl 0 rfl ?_
        refine gs_iload_n X dL_law_458 rfl 3 rfl ?_
        refine gs_iconst (v := 2) X dL_law_459 (by decide) ?_
        refine gs_iadd X dL_law_460 ?_
        have hi_ := oc_1 hf
        replace hf := oc_2 hf
        refine gs_sld X hX hbl (Nat.not_le.mpr hbl) hi_ dL_law_461 ?_
        refine gs_aload_n X dL_law_462 rfl 0 rfl ?_
        refine gs_iload_n X dL_law_463 rfl 3 rfl ?_
        refine gs_iconst (v := 3) X dL_law_464 (by decide) ?_
        refine gs_iadd X dL_law_465 ?_
        have hi_ := oc_1 hf
        replace hf := oc_2 hf
        refine gs_sld X hX hbl (Nat.not_le.mpr hbl) hi_ dL_law_466 ?_
        obtain ⟨⟨q21, ρ22_⟩, hq_, hf⟩ := ot_b hf
        replace hf := ot_l (y := q21) hf rfl
        obtain ⟨ρ22, e_ρ22⟩ : ∃ z : SL, z = (ρ22_, ρ.2) := ⟨_, rfl⟩
        replace hf := ot_l (y := ρ22) hf e_ρ22
        refine gs_C (rest := []) X hK (fun q h => h) cwL_36 (xc_hh_street hq_) rfl ⟨rfl, rfl, Nat.le_of_ble_eq_true rfl, Nat.le_of_ble_eq_true rfl⟩ ⟨Nat.le_refl _, Nat.le_refl _⟩ rfl (Nat.le_of_ble_eq_true rfl) dL_law_467 ?_
        rw [← e_ρ22]
        refine gs_aload_n X dL_law_470 rfl 2 rfl ?_
        refine gs_aload_n X dL_law_471 rfl 0 rfl ?_
        refine gs_iload_n X dL_law_472 rfl 3 rfl ?_
        refine gs_iconst (v := 1) X dL_law_473 (by decide) ?_
        refine gs_iadd X dL_law_474 ?_
        have hi_ := oc_1 hf
        replace hf := oc_2 hf
        refine gs_sld X hX hbl (Nat.not_le.mpr hbl) hi_ dL_law_475 ?_
        refine gs_aload_n X dL_law_476 rfl 0 rfl ?_
        refine gs_iload_n X dL_law_477 rfl 3 rfl ?_
        refine gs_iconst (v := 2) X dL_law_478 (by decide) ?_
        refine gs_iadd X dL_law_479 ?_
        have hi_ := oc_1 hf
        replace hf := oc_2 hf
        refine gs_sld X hX hbl (Nat.not_le.mpr hbl) hi_ dL_law_480 ?_
        refine gs_aload_n X dL_law_481 rfl 0 rfl ?_
        refine gs_iload_n X dL_law_482 rfl 3 rfl ?_
        refine gs_iconst (v := 3) X dL_law_483 (by decide) ?_
        refine gs_iadd X dL_law_484 ?_
        have hi_ := oc_1 hf
        replace hf := oc_2 hf
        refine gs_sld X hX hbl (Nat.not_le.mpr hbl) hi_ dL_law_485 ?_
        obtain ⟨⟨q23, ρ24_⟩, hq_, hf⟩ := ot_b hf
        replace hf := ot_l (y := q23) hf rfl
        obtain ⟨ρ24, e_ρ24⟩ : ∃ z : SL, z = (ρ22.1, ρ24_) := ⟨_, rfl⟩
        replace hf := ot_l (y := ρ24) hf e_ρ24
        refine gs_M (rest := [.int q21]) X hKm (fun q h => h) cwL_39 (xm_street hq_) rfl ⟨rfl, rfl, Nat.le_of_ble_eq_true rfl, Nat.le_of_ble_eq_true rfl⟩ ⟨Nat.le_refl _, Nat.le_refl _⟩ rfl (Nat.le_of_ble_eq_true rfl) dL_law_486 ?_
        rw [← e_ρ24]
        refine gs_icmp_eq X 1782 dL_law_489 (by decide) (fun hc_ => ?_) (fun hc_ => ?_)
        · replace hf := ot_t hf hc_
          refine gs_sub [0, 1, 2, 3] rfl ?_
          exact wl_law_b1782 X hK hKm hX hbl ih _ _ hf
        · replace hf := ot_f hf hc_
          refine gs_iconst (v := 0) X dL_law_492 (by decide) ?_
          cases hf
      replace hf := ot_f hf hs5
      by_cases hs6 : ((xs (Int32.toNatClampNeg x3)) &&& (63 : Int32)) = 6
      · replace hf := ot_t hf hs6
        refine gs_tin X (6) 494 dL_law_32 (by rw [hs6]; decide) (by decide) (by decide) rfl (by decide) ?_
        refine gs_aload_n X dL_law_494 rfl 1 rfl ?_
        refine gs_aload_n X dL_law_495 rfl 0 rfl ?_
        refine gs_iload_n X dL_law_496 rfl 3 rfl ?_
        refine gs_iconst (v := 1) X dL_law_497 (by decide) ?_
        refine gs_iadd X dL_law_498 ?_
        have hi_ := oc_1 hf
        replace hf := oc_2 hf
        refine gs_sld X hX hbl (Nat.not_le.mpr hbl) hi_ dL_law_499 ?_
        refine gs_aload_n X dL_law_500 rfl 0 rfl ?_
        refine gs_iload_n X dL_law_501 rfl 3 rfl ?_
        refine gs_iconst (v := 2) X dL_law_502 (by decide) ?_
        refine gs_iadd X dL_law_503 ?_
        have hi_ := oc_1 hf
        replace hf := oc_2 hf
        refine gs_sld X hX hbl (Nat.not_le.mpr hbl) hi_ dL_law_504 ?_
        obtain ⟨q25, hq_, hf⟩ := ot_b hf
        refine gs_C (rest := []) X hK (fun q h => h) cwL_40 (xc_hh_streetOf hq_) rfl ⟨rfl, rfl, Nat.le_of_ble_eq_true rfl, Nat.le_of_ble_eq_true rfl⟩ ⟨Nat.le_refl _, Nat.le_refl _⟩ rfl (Nat.le_of_ble_eq_true rfl) dL_law_505 ?_
        refine gs_aload_n X dL_law_508 rfl 2 rfl ?_
        refine gs_aload_n X dL_law_509 rfl 0 rfl ?_
        refine gs_iload_n X dL_law_510 rfl 3 rfl ?_
        refine gs_iconst (v := 1) X dL_law_511 (by decide) ?_
        refine gs_iadd X dL_law_512 ?_
        have hi_ := oc_1 hf
        replace hf := oc_2 hf
        refine gs_sld X hX hbl (Nat.not_le.mpr hbl) hi_ dL_law_513 ?_
        refine gs_aload_n X dL_law_514 rfl 0 rfl ?_
        refine gs_iload_n X dL_law_515 rfl 3 rfl ?_
        refine gs_iconst (v := 2) X dL_law_516 (by decide) ?_
        refine gs_iadd X dL_law_517 ?_
        have hi_ := oc_1 hf
        replace hf := oc_2 hf
        refine gs_sld X hX hbl (Nat.not_le.mpr hbl) hi_ dL_law_518 ?_
        obtain ⟨q27, hq_, hf⟩ := ot_b hf
        refine gs_M (rest := [.int q25]) X hKm (fun q h => h) cwL_43 (xm_streetOf hq_) rfl ⟨rfl, rfl, Nat.le_of_ble_eq_true rfl, Nat.le_of_ble_eq_true rfl⟩ ⟨Nat.le_refl _, Nat.le_refl _⟩ rfl (Nat.le_of_ble_eq_true rfl) dL_law_519 ?_
        refine gs_icmp_eq X 1782 dL_law_522 (by decide) (fun hc_ => ?_) (fun hc_ => ?_)
        · replace hf := ot_t hf hc_
          refine gs_sub [0, 1, 2, 3] rfl ?_
          exact wl_law_b1782 X hK hKm hX hbl ih _ _ hf
        · replace hf := ot_f hf hc_
          refine gs_iconst (v := 0) X dL_law_525 (by decide) ?_
          cases hf
      replace hf := ot_f hf hs6
      by_cases hs7 : ((xs (Int32.toNatClampNeg x3)) &&& (63 : Int32)) = 7
      · replace hf := ot_t hf hs7
        refine gs_tin X (7) 527 dL_law_32 (by rw [hs7]; decide) (by decide) (by decide) rfl (by decide) ?_
        refine gs_aload_n X dL_law_527 rfl 1 rfl ?_
        refine gs_aload_n X dL_law_528 rfl 0 rfl ?_
        refine gs_iload_n X dL_law_529 rfl 3 rfl ?_
        refine gs_iconst (v := 1) X dL_law_530 (by decide) ?_
        refine gs_iadd X dL_law_531 ?_
        have hi_ := oc_1 hf
        replace hf := oc_2 hf
        refine gs_sld X hX hbl (Nat.not_le.mpr hbl) hi_ dL_law_532 ?_
        refine gs_aload_n X dL_law_533 rfl 0 rfl ?_
        refine gs_iload_n X dL_law_534 rfl 3 rfl ?_
        refine gs_iconst (v := 2) X dL_law_535 (by decide) ?_
        refine gs_iadd X dL_law_536 ?_
        have hi_ := oc_1 hf
        replace hf := oc_2 hf
        refine gs_sld X hX hbl (Nat.not_le.mpr hbl) hi_ dL_law_537 ?_
        obtain ⟨⟨q29, ρ30_⟩, hq_, hf⟩ := ot_b hf
        replace hf := ot_l (y := q29) hf rfl
        obtain ⟨ρ30, e_ρ30⟩ : ∃ z : SL, z = (ρ30_, ρ.2) := ⟨_, rfl⟩
        replace hf := ot_l (y := ρ30) hf e_ρ30
        refine gs_C (rest := []) X hK (fun q h => h) cwL_44 (xc_hh_heart hq_) rfl ⟨rfl, rfl, Nat.le_of_ble_eq_true rfl, Nat.le_of_ble_eq_true rfl⟩ ⟨Nat.le_refl _, Nat.le_refl _⟩ rfl (Nat.le_of_ble_eq_true rfl) dL_law_538 ?_
        rw [← e_ρ30]
        refine gs_aload_n X dL_law_541 rfl 2 rfl ?_
        refine gs_aload_n X dL_law_542 rfl 0 rfl ?_
        refine gs_iload_n X dL_law_543 rfl 3 rfl ?_
        refine gs_iconst (v := 1) X dL_law_544 (by decide) ?_
        refine gs_iadd X dL_law_545 ?_
        have hi_ := oc_1 hf
        replace hf := oc_2 hf
        refine gs_sld X hX hbl (Nat.not_le.mpr hbl) hi_ dL_law_546 ?_
        refine gs_aload_n X dL_law_547 rfl 0 rfl ?_
        refine gs_iload_n X dL_law_548 rfl 3 rfl ?_
        refine gs_iconst (v := 2) X dL_law_549 (by decide) ?_
        refine gs_iadd X dL_law_550 ?_
        have hi_ := oc_1 hf
        replace hf := oc_2 hf
        refine gs_sld X hX hbl (Nat.not_le.mpr hbl) hi_ dL_law_551 ?_
        obtain ⟨⟨q31, ρ32_⟩, hq_, hf⟩ := ot_b hf
        replace hf := ot_l (y := q31) hf rfl
        obtain ⟨ρ32, e_ρ32⟩ : ∃ z : SL, z = (ρ30.1, ρ32_) := ⟨_, rfl⟩
        replace hf := ot_l (y := ρ32) hf e_ρ32
        refine gs_M (rest := [.int q29]) X hKm (fun q h => h) cwL_47 (xm_heart hq_) rfl ⟨rfl, rfl, Nat.le_of_ble_eq_true rfl, Nat.le_of_ble_eq_true rfl⟩ ⟨Nat.le_refl _, Nat.le_refl _⟩ rfl (Nat.le_of_ble_eq_true rfl) dL_law_552 ?_
        rw [← e_ρ32]
        refine gs_icmp_eq X 1782 dL_law_555 (by decide) (fun hc_ => ?_) (fun hc_ => ?_)
        · replace hf := ot_t hf hc_
          refine gs_sub [0, 1, 2, 3] rfl ?_
          exact wl_law_b1782 X hK hKm hX hbl ih _ _ hf
        · replace hf := ot_f hf hc_
          refine gs_iconst (v := 0) X dL_law_558 (by decide) ?_
          cases hf
      replace hf := ot_f hf hs7
      by_cases hs8 : ((xs (Int32.toNatClampNeg x3)) &&& (63 : Int32)) = 8
      · replace hf := ot_t hf hs8
        refine gs_tin X (8) 560 dL_law_32 (by rw [hs8]; decide) (by decide) (by decide) rfl (by decide) ?_
        refine gs_aload_n X dL_law_560 rfl 1 rfl ?_
        refine gs_aload_n X dL_law_561 rfl 0 rfl ?_
        refine gs_iload_n X dL_law_562 rfl 3 rfl ?_
        refine gs_iconst (v := 1) X dL_law_563 (by decide) ?_
        refine gs_iadd X dL_law_564 ?_
        have hi_ := oc_1 hf
        replace hf := oc_2 hf
        refine gs_sld X hX hbl (Nat.not_le.mpr hbl) hi_ dL_law_565 ?_
        obtain ⟨⟨q33, ρ34_⟩, hq_, hf⟩ := ot_b hf
        replace hf := ot_l (y := q33) hf rfl
        obtain ⟨ρ34, e_ρ34⟩ : ∃ z : SL, z = (ρ34_, ρ.2) := ⟨_, rfl⟩
        replace hf := ot_l (y := ρ34) hf e_ρ34
        refine gs_C (rest := []) X hK (fun q h => h) cwL_48 (xc_hh_ends hq_) rfl ⟨rfl, rfl, Nat.le_of_ble_eq_true rfl, Nat.le_of_ble_eq_true rfl⟩ ⟨Nat.le_refl _, Nat.le_refl _⟩ rfl (Nat.le_of_ble_eq_true rfl) dL_law_566 ?_
        rw [← e_ρ34]
        refine gs_aload_n X dL_law_569 rfl 2 rfl ?_
        refine gs_aload_n X dL_law_570 rfl 0 rfl ?_
        refine gs_iload_n X dL_law_571 rfl 3 rfl ?_
        refine gs_iconst (v := 1) X dL_law_572 (by decide) ?_
        refine gs_iadd X dL_law_573 ?_
        have hi_ := oc_1 hf
        replace hf := oc_2 hf
        refine gs_sld X hX hbl (Nat.not_le.mpr hbl) hi_ dL_law_574 ?_
        obtain ⟨⟨q35, ρ36_⟩, hq_, hf⟩ := ot_b hf
        replace hf := ot_l (y := q35) hf rfl
        obtain ⟨ρ36, e_ρ36⟩ : ∃ z : SL, z = (ρ34.1, ρ36_) := ⟨_, rfl⟩
        replace hf := ot_l (y := ρ36) hf e_ρ36
        refine gs_M (rest := [.int q33]) X hKm (fun q h => h) cwL_52 (xm_ends hq_) rfl ⟨rfl, rfl, Nat.le_of_ble_eq_true rfl, Nat.le_of_ble_eq_true rfl⟩ ⟨Nat.le_refl _, Nat.le_refl _⟩ rfl (Nat.le_of_ble_eq_true rfl) dL_law_575 ?_
        rw [← e_ρ36]
        refine gs_icmp_eq X 1782 dL_law_578 (by decide) (fun hc_ => ?_) (fun hc_ => ?_)
        · replace hf := ot_t hf hc_
          refine gs_sub [0, 1, 2, 3] rfl ?_
          exact wl_law_b1782 X hK hKm hX hbl ih _ _ hf
        · replace hf := ot_f hf hc_
          refine gs_iconst (v := 0) X dL_law_581 (by decide) ?_
          cases hf
      replace hf := ot_f hf hs8
      by_cases hs9 : ((xs (Int32.toNatClampNeg x3)) &&& (63 : Int32)) = 9
      · replace hf := ot_t hf hs9
        refine gs_tin X (9) 583 dL_law_32 (by rw [hs9]; decide) (by decide) (by decide) rfl (by decide) ?_
        refine gs_aload_n X dL_law_583 rfl 1 rfl ?_
        obtain ⟨⟨q37, ρ38_⟩, hq_, hf⟩ := ot_b hf
        replace hf := ot_l (y := q37) hf rfl
        obtain ⟨ρ38, e_ρ38⟩ : ∃ z : SL, z = (ρ38_, ρ.2) := ⟨_, rfl⟩
        replace hf := ot_l (y := ρ38) hf e_ρ38
        refine gs_C (rest := []) X hK (fun q h => h) cwL_53 (xc_hh_anew hq_) rfl ⟨rfl, rfl, Nat.le_of_ble_eq_true rfl, Nat.le_of_ble_eq_true rfl⟩ ⟨Nat.le_refl _, Nat.le_refl _⟩ rfl (Nat.le_of_ble_eq_true rfl) dL_law_584 ?_
        rw [← e_ρ38]
        refine gs_aload_n X dL_law_587 rfl 2 rfl ?_
        obtain ⟨⟨q39, ρ40_⟩, hq_, hf⟩ := ot_b hf
        replace hf := ot_l (y := q39) hf rfl
        obtain ⟨ρ40, e_ρ40⟩ : ∃ z : SL, z = (ρ38.1, ρ40_) := ⟨_, rfl⟩
        replace hf := ot_l (y := ρ40) hf e_ρ40
        refine gs_M (rest := [.int q37]) X hKm (fun q h => h) cwL_57 (xm_anew hq_) rfl ⟨rfl, rfl, Nat.le_of_ble_eq_true rfl, Nat.le_of_ble_eq_true rfl⟩ ⟨Nat.le_refl _, Nat.le_refl _⟩ rfl (Nat.le_of_ble_eq_true rfl) dL_law_588 ?_
        rw [← e_ρ40]
        refine gs_icmp_eq X 1782 dL_law_591 (by decide) (fun hc_ => ?_) (fun hc_ => ?_)
        · replace hf := ot_t hf hc_
          refine gs_sub [0, 1, 2, 3] rfl ?_
          exact wl_law_b1782 X hK hKm hX hbl ih _ _ hf
        · replace hf := ot_f hf hc_
          refine gs_iconst (v := 0) X dL_law_594 (by decide) ?_
          cases hf
      replace hf := ot_f hf hs9
      by_cases hs10 : ((xs (Int32.toNatClampNeg x3)) &&& (63 : Int32)) = 10
      · replace hf := ot_t hf hs10
        refine gs_tin X (10) 596 dL_law_32 (by rw [hs10]; decide) (by decide) (by decide) rfl (by decide) ?_
        refine gs_aload_n X dL_law_596 rfl 1 rfl ?_
        refine gs_aload_n X dL_law_597 rfl 0 rfl ?_
        refine gs_iload_n X dL_law_598 rfl 3 rfl ?_
        refine gs_iconst (v := 1) X dL_law_599 (by decide) ?_
        refine gs_iadd X dL_law_600 ?_
        have hi_ := oc_1 hf
        replace hf := oc_2 hf
        refine gs_sld X hX hbl (Nat.not_le.mpr hbl) hi_ dL_law_601 ?_
        obtain ⟨q41, hq_, hf⟩ := ot_b hf
        refine gs_C (rest := []) X hK (fun q h => h) cwL_58 (xc_hh_state hq_) rfl ⟨rfl, rfl, Nat.le_of_ble_eq_true rfl, Nat.le_of_ble_eq_true rfl⟩ ⟨Nat.le_refl _, Nat.le_refl _⟩ rfl (Nat.le_of_ble_eq_true rfl) dL_law_602 ?_
        refine gs_aload_n X dL_law_605 rfl 2 rfl ?_
        refine gs_aload_n X dL_law_606 rfl 0 rfl ?_
        refine gs_iload_n X dL_law_607 rfl 3 rfl ?_
        refine gs_iconst (v := 1) X dL_law_608 (by decide) ?_
        refine gs_iadd X dL_law_609 ?_
        have hi_ := oc_1 hf
        replace hf := oc_2 hf
        refine gs_sld X hX hbl (Nat.not_le.mpr hbl) hi_ dL_law_610 ?_
        obtain ⟨q43, hq_, hf⟩ := ot_b hf
        refine gs_M (rest := [.int q41]) X hKm (fun q h => h) cwL_61 (xm_state hq_) rfl ⟨rfl, rfl, Nat.le_of_ble_eq_true rfl, Nat.le_of_ble_eq_true rfl⟩ ⟨Nat.le_refl _, Nat.le_refl _⟩ rfl (Nat.le_of_ble_eq_true rfl) dL_law_611 ?_
        refine gs_icmp_eq X 1782 dL_law_614 (by decide) (fun hc_ => ?_) (fun hc_ => ?_)
        · replace hf := ot_t hf hc_
          refine gs_sub [0, 1, 2, 3] rfl ?_
          exact wl_law_b1782 X hK hKm hX hbl ih _ _ hf
        · replace hf := ot_f hf hc_
          refine gs_iconst (v := 0) X dL_law_617 (by decide) ?_
          cases hf
      replace hf := ot_f hf hs10
      by_cases hs11 : ((xs (Int32.toNatClampNeg x3)) &&& (63 : Int32)) = 11
      · replace hf := ot_t hf hs11
        refine gs_tin X (11) 619 dL_law_32 (by rw [hs11]; decide) (by decide) (by decide) rfl (by decide) ?_
        refine gs_aload_n X dL_law_619 rfl 1 rfl ?_
        refine gs_aload_n X dL_law_620 rfl 0 rfl ?_
        refine gs_iload_n X dL_law_621 rfl 3 rfl ?_
        refine gs_iconst (v := 1) X dL_law_622 (by decide) ?_
        refine gs_iadd X dL_law_623 ?_
        have hi_ := oc_1 hf
        replace hf := oc_2 hf
        refine gs_sld X hX hbl (Nat.not_le.mpr hbl) hi_ dL_law_624 ?_
        refine gs_i2l X dL_law_625 ?_
        refine gs_bipush (v := 32) X dL_law_626 (by decide) ?_
        refine gs_lshl X dL_law_628 ?_
        refine gs_aload_n X dL_law_629 rfl 0 rfl ?_
        refine gs_iload_n X dL_law_630 rfl 3 rfl ?_
        refine gs_iconst (v := 2) X dL_law_631 (by decide) ?_
        refine gs_iadd X dL_law_632 ?_
        have hi_ := oc_1 hf
        replace hf := oc_2 hf
        refine gs_sld X hX hbl (Nat.not_le.mpr hbl) hi_ dL_law_633 ?_
        refine gs_i2l X dL_law_634 ?_
        refine gs_ldc2_w X ckL_62 dL_law_635 ?_
        refine gs_land X dL_law_638 ?_
        refine gs_lor X dL_law_639 ?_
        refine gs_aload_n X dL_law_640 rfl 0 rfl ?_
        refine gs_iload_n X dL_law_641 rfl 3 rfl ?_
        refine gs_iconst (v := 3) X dL_law_642 (by decide) ?_
        refine gs_iadd X dL_law_643 ?_
        have hi_ := oc_1 hf
        replace hf := oc_2 hf
        refine gs_sld X hX hbl (Nat.not_le.mpr hbl) hi_ dL_law_644 ?_
        obtain ⟨⟨q45, ρ46_⟩, hq_, hf⟩ := ot_b hf
        replace hf := ot_l (y := q45) hf rfl
        obtain ⟨ρ46, e_ρ46⟩ : ∃ z : SL, z = (ρ46_, ρ.2) := ⟨_, rfl⟩
        replace hf := ot_l (y := ρ46) hf e_ρ46
        refine gs_C (rest := []) X hK (fun q h => h) cwL_64 (xc_hh_feed hq_) rfl ⟨rfl, rfl, Nat.le_of_ble_eq_true rfl, Nat.le_of_ble_eq_true rfl⟩ ⟨Nat.le_refl _, Nat.le_refl _⟩ rfl (Nat.le_of_ble_eq_true rfl) dL_law_645 ?_
        rw [← e_ρ46]
        refine gs_aload_n X dL_law_648 rfl 2 rfl ?_
        refine gs_aload_n X dL_law_649 rfl 0 rfl ?_
        refine gs_iload_n X dL_law_650 rfl 3 rfl ?_
        refine gs_iconst (v := 1) X dL_law_651 (by decide) ?_
        refine gs_iadd X dL_law_652 ?_
        have hi_ := oc_1 hf
        replace hf := oc_2 hf
        refine gs_sld X hX hbl (Nat.not_le.mpr hbl) hi_ dL_law_653 ?_
        refine gs_i2l X dL_law_654 ?_
        refine gs_bipush (v := 32) X dL_law_655 (by decide) ?_
        refine gs_lshl X dL_law_657 ?_
        refine gs_aload_n X dL_law_658 rfl 0 rfl ?_
        refine gs_iload_n X dL_law_659 rfl 3 rfl ?_
        refine gs_iconst (v := 2) X dL_law_660 (by decide) ?_
        refine gs_iadd X dL_law_661 ?_
        have hi_ := oc_1 hf
        replace hf := oc_2 hf
        refine gs_sld X hX hbl (Nat.not_le.mpr hbl) hi_ dL_law_662 ?_
        refine gs_i2l X dL_law_663 ?_
        refine gs_ldc2_w X ckL_62 dL_law_664 ?_
        refine gs_land X dL_law_667 ?_
        refine gs_lor X dL_law_668 ?_
        refine gs_aload_n X dL_law_669 rfl 0 rfl ?_
        refine gs_iload_n X dL_law_670 rfl 3 rfl ?_
        refine gs_iconst (v := 3) X dL_law_671 (by decide) ?_
        refine gs_iadd X dL_law_672 ?_
        have hi_ := oc_1 hf
        replace hf := oc_2 hf
        refine gs_sld X hX hbl (Nat.not_le.mpr hbl) hi_ dL_law_673 ?_
        obtain ⟨⟨q47, ρ48_⟩, hq_, hf⟩ := ot_b hf
        replace hf := ot_l (y := q47) hf rfl
        obtain ⟨ρ48, e_ρ48⟩ : ∃ z : SL, z = (ρ46.1, ρ48_) := ⟨_, rfl⟩
        replace hf := ot_l (y := ρ48) hf e_ρ48
        refine gs_M (rest := [.int q45]) X hKm (fun q h => h) cwL_68 (xm_feed hq_) rfl ⟨rfl, rfl, Nat.le_of_ble_eq_true rfl, Nat.le_of_ble_eq_true rfl⟩ ⟨Nat.le_refl _, Nat.le_refl _⟩ rfl (Nat.le_of_ble_eq_true rfl) dL_law_674 ?_
        rw [← e_ρ48]
        refine gs_icmp_eq X 1782 dL_law_677 (by decide) (fun hc_ => ?_) (fun hc_ => ?_)
        · replace hf := ot_t hf hc_
          refine gs_sub [0, 1, 2, 3] rfl ?_
          exact wl_law_b1782 X hK hKm hX hbl ih _ _ hf
        · replace hf := ot_f hf hc_
          refine gs_iconst (v := 0) X dL_law_680 (by decide) ?_
          cases hf
      replace hf := ot_f hf hs11
      by_cases hs12 : ((xs (Int32.toNatClampNeg x3)) &&& (63 : Int32)) = 12
      · replace hf := ot_t hf hs12
        refine gs_tin X (12) 682 dL_law_32 (by rw [hs12]; decide) (by decide) (by decide) rfl (by decide) ?_
        refine gs_aload_n X dL_law_682 rfl 1 rfl ?_
        obtain ⟨⟨q49, ρ50_⟩, hq_, hf⟩ := ot_b hf
        replace hf := ot_l (y := q49) hf rfl
        obtain ⟨ρ50, e_ρ50⟩ : ∃ z : SL, z = (ρ50_, ρ.2) := ⟨_, rfl⟩
        replace hf := ot_l (y := ρ50) hf e_ρ50
        refine gs_C (rest := []) X hK (fun q h => h) cwL_69 (xc_hh_rules hq_) rfl ⟨rfl, rfl, Nat.le_of_ble_eq_true rfl, Nat.le_of_ble_eq_true rfl⟩ ⟨Nat.le_refl _, Nat.le_refl _⟩ rfl (Nat.le_of_ble_eq_true rfl) dL_law_683 ?_
        rw [← e_ρ50]
        refine gs_aload_n X dL_law_686 rfl 2 rfl ?_
        obtain ⟨⟨q51, ρ52_⟩, hq_, hf⟩ := ot_b hf
        replace hf := ot_l (y := q51) hf rfl
        obtain ⟨ρ52, e_ρ52⟩ : ∃ z : SL, z = (ρ50.1, ρ52_) := ⟨_, rfl⟩
        replace hf := ot_l (y := ρ52) hf e_ρ52
        refine gs_M (rest := [.int q49]) X hKm (fun q h => h) cwL_72 (xm_rules hq_) rfl ⟨rfl, rfl, Nat.le_of_ble_eq_true rfl, Nat.le_of_ble_eq_true rfl⟩ ⟨Nat.le_refl _, Nat.le_refl _⟩ rfl (Nat.le_of_ble_eq_true rfl) dL_law_687 ?_
        rw [← e_ρ52]
        refine gs_icmp_eq X 1782 dL_law_690 (by decide) (fun hc_ => ?_) (fun hc_ => ?_)
        · replace hf := ot_t hf hc_
          refine gs_sub [0, 1, 2, 3] rfl ?_
          exact wl_law_b1782 X hK hKm hX hbl ih _ _ hf
        · replace hf := ot_f hf hc_
          refine gs_iconst (v := 0) X dL_law_693 (by decide) ?_
          cases hf
      replace hf := ot_f hf hs12
      by_cases hs13 : ((xs (Int32.toNatClampNeg x3)) &&& (63 : Int32)) = 13
      · replace hf := ot_t hf hs13
        refine gs_tin X (13) 695 dL_law_32 (by rw [hs13]; decide) (by decide) (by decide) rfl (by decide) ?_
        refine gs_aload_n X dL_law_695 rfl 1 rfl ?_
        obtain ⟨⟨q53, ρ54_⟩, hq_, hf⟩ := ot_b hf
        replace hf := ot_l (y := q53) hf rfl
        obtain ⟨ρ54, e_ρ54⟩ : ∃ z : SL, z = (ρ54_, ρ.2) := ⟨_, rfl⟩
        replace hf := ot_l (y := ρ54) hf e_ρ54
        refine gs_C (rest := []) X hK (fun q h => h) cwL_73 (xc_hh_hour hq_) rfl ⟨rfl, rfl, Nat.le_of_ble_eq_true rfl, Nat.le_of_ble_eq_true rfl⟩ ⟨Nat.le_refl _, Nat.le_refl _⟩ rfl (Nat.le_of_ble_eq_true rfl) dL_law_696 ?_
        rw [← e_ρ54]
        refine gs_aload_n X dL_law_699 rfl 2 rfl ?_
        obtain ⟨⟨q55, ρ56_⟩, hq_, hf⟩ := ot_b hf
        replace hf := ot_l (y := q55) hf rfl
        obtain ⟨ρ56, e_ρ56⟩ : ∃ z : SL, z = (ρ54.1, ρ56_) := ⟨_, rfl⟩
        replace hf := ot_l (y := ρ56) hf e_ρ56
        refine gs_M (rest := [.int q53]) X hKm (fun q h => h) cwL_76 (xm_hour hq_) rfl ⟨rfl, rfl, Nat.le_of_ble_eq_true rfl, Nat.le_of_ble_eq_true rfl⟩ ⟨Nat.le_refl _, Nat.le_refl _⟩ rfl (Nat.le_of_ble_eq_true rfl) dL_law_700 ?_
        rw [← e_ρ56]
        refine gs_icmp_eq X 1782 dL_law_703 (by decide) (fun hc_ => ?_) (fun hc_ => ?_)
        · replace hf := ot_t hf hc_
          refine gs_sub [0, 1, 2, 3] rfl ?_
          exact wl_law_b1782 X hK hKm hX hbl ih _ _ hf
        · replace hf := ot_f hf hc_
          refine gs_iconst (v := 0) X dL_law_706 (by decide) ?_
          cases hf
      replace hf := ot_f hf hs13
      by_cases hs14 : ((xs (Int32.toNatClampNeg x3)) &&& (63 : Int32)) = 14
      · replace hf := ot_t hf hs14
        refine gs_tin X (14) 708 dL_law_32 (by rw [hs14]; decide) (by decide) (by decide) rfl (by decide) ?_
        refine gs_aload_n X dL_law_708 rfl 1 rfl ?_
        refine gs_aload_n X dL_law_709 rfl 0 rfl ?_
        refine gs_iload_n X dL_law_710 rfl 3 rfl ?_
        refine gs_iconst (v := 1) X dL_law_711 (by decide) ?_
        refine gs_iadd X dL_law_712 ?_
        have hi_ := oc_1 hf
        replace hf := oc_2 hf
        refine gs_sld X hX hbl (Nat.not_le.mpr hbl) hi_ dL_law_713 ?_
        obtain ⟨⟨q57, ρ58_⟩, hq_, hf⟩ := ot_b hf
        replace hf := ot_l (y := q57) hf rfl
        obtain ⟨ρ58, e_ρ58⟩ : ∃ z : SL, z = (ρ58_, ρ.2) := ⟨_, rfl⟩
        replace hf := ot_l (y := ρ58) hf e_ρ58
        refine gs_C (rest := []) X hK (fun q h => h) cwL_77 (xc_hh_on hq_) rfl ⟨rfl, rfl, Nat.le_of_ble_eq_true rfl, Nat.le_of_ble_eq_true rfl⟩ ⟨Nat.le_refl _, Nat.le_refl _⟩ rfl (Nat.le_of_ble_eq_true rfl) dL_law_714 ?_
        rw [← e_ρ58]
        refine gs_aload_n X dL_law_717 rfl 2 rfl ?_
        refine gs_aload_n X dL_law_718 rfl 0 rfl ?_
        refine gs_iload_n X dL_law_719 rfl 3 rfl ?_
        refine gs_iconst (v := 1) X dL_law_720 (by decide) ?_
        refine gs_iadd X dL_law_721 ?_
        have hi_ := oc_1 hf
        replace hf := oc_2 hf
        refine gs_sld X hX hbl (Nat.not_le.mpr hbl) hi_ dL_law_722 ?_
        obtain ⟨⟨q59, ρ60_⟩, hq_, hf⟩ := ot_b hf
        replace hf := ot_l (y := q59) hf rfl
        obtain ⟨ρ60, e_ρ60⟩ : ∃ z : SL, z = (ρ58.1, ρ60_) := ⟨_, rfl⟩
        replace hf := ot_l (y := ρ60) hf e_ρ60
        refine gs_M (rest := [.int q57]) X hKm (fun q h => h) cwL_80 (xm_on hq_) rfl ⟨rfl, rfl, Nat.le_of_ble_eq_true rfl, Nat.le_of_ble_eq_true rfl⟩ ⟨Nat.le_refl _, Nat.le_refl _⟩ rfl (Nat.le_of_ble_eq_true rfl) dL_law_723 ?_
        rw [← e_ρ60]
        refine gs_icmp_eq X 1782 dL_law_726 (by decide) (fun hc_ => ?_) (fun hc_ => ?_)
        · replace hf := ot_t hf hc_
          refine gs_sub [0, 1, 2, 3] rfl ?_
          exact wl_law_b1782 X hK hKm hX hbl ih _ _ hf
        · replace hf := ot_f hf hc_
          refine gs_iconst (v := 0) X dL_law_729 (by decide) ?_
          cases hf
      replace hf := ot_f hf hs14
      by_cases hs15 : ((xs (Int32.toNatClampNeg x3)) &&& (63 : Int32)) = 15
      · replace hf := ot_t hf hs15
        refine gs_tin X (15) 731 dL_law_32 (by rw [hs15]; decide) (by decide) (by decide) rfl (by decide) ?_
        refine gs_aload_n X dL_law_731 rfl 1 rfl ?_
        refine gs_aload_n X dL_law_732 rfl 0 rfl ?_
        refine gs_iload_n X dL_law_733 rfl 3 rfl ?_
        refine gs_iconst (v := 1) X dL_law_734 (by decide) ?_
        refine gs_iadd X dL_law_735 ?_
        have hi_ := oc_1 hf
        replace hf := oc_2 hf
        refine gs_sld X hX hbl (Nat.not_le.mpr hbl) hi_ dL_law_736 ?_
        obtain ⟨⟨q61, ρ62_⟩, hq_, hf⟩ := ot_b hf
        replace hf := ot_l (y := q61) hf rfl
        obtain ⟨ρ62, e_ρ62⟩ : ∃ z : SL, z = (ρ62_, ρ.2) := ⟨_, rfl⟩
        replace hf := ot_l (y := ρ62) hf e_ρ62
        refine gs_C (rest := []) X hK (fun q h => h) cwL_81 (xc_hh_when hq_) rfl ⟨rfl, rfl, Nat.le_of_ble_eq_true rfl, Nat.le_of_ble_eq_true rfl⟩ ⟨Nat.le_refl _, Nat.le_refl _⟩ rfl (Nat.le_of_ble_eq_true rfl) dL_law_737 ?_
        rw [← e_ρ62]
        refine gs_aload_n X dL_law_740 rfl 2 rfl ?_
        refine gs_aload_n X dL_law_741 rfl 0 rfl ?_
        refine gs_iload_n X dL_law_742 rfl 3 rfl ?_
        refine gs_iconst (v := 1) X dL_law_743 (by decide) ?_
        refine gs_iadd X dL_law_744 ?_
        have hi_ := oc_1 hf
        replace hf := oc_2 hf
        refine gs_sld X hX hbl (Nat.not_le.mpr hbl) hi_ dL_law_745 ?_
        obtain ⟨⟨q63, ρ64_⟩, hq_, hf⟩ := ot_b hf
        replace hf := ot_l (y := q63) hf rfl
        obtain ⟨ρ64, e_ρ64⟩ : ∃ z : SL, z = (ρ62.1, ρ64_) := ⟨_, rfl⟩
        replace hf := ot_l (y := ρ64) hf e_ρ64
        refine gs_M (rest := [.int q61]) X hKm (fun q h => h) cwL_84 (xm_when hq_) rfl ⟨rfl, rfl, Nat.le_of_ble_eq_true rfl, Nat.le_of_ble_eq_true rfl⟩ ⟨Nat.le_refl _, Nat.le_refl _⟩ rfl (Nat.le_of_ble_eq_true rfl) dL_law_746 ?_
        rw [← e_ρ64]
        refine gs_icmp_eq X 1782 dL_law_749 (by decide) (fun hc_ => ?_) (fun hc_ => ?_)
        · replace hf := ot_t hf hc_
          refine gs_sub [0, 1, 2, 3] rfl ?_
          exact wl_law_b1782 X hK hKm hX hbl ih _ _ hf
        · replace hf := ot_f hf hc_
          refine gs_iconst (v := 0) X dL_law_752 (by decide) ?_
          cases hf
      replace hf := ot_f hf hs15
      by_cases hs16 : ((xs (Int32.toNatClampNeg x3)) &&& (63 : Int32)) = 16
      · replace hf := ot_t hf hs16
        refine gs_tin X (16) 754 dL_law_32 (by rw [hs16]; decide) (by decide) (by decide) rfl (by decide) ?_
        refine gs_aload_n X dL_law_754 rfl 1 rfl ?_
        refine gs_aload_n X dL_law_755 rfl 0 rfl ?_
        refine gs_iload_n X dL_law_756 rfl 3 rfl ?_
        refine gs_iconst (v := 1) X dL_law_757 (by decide) ?_
        refine gs_iadd X dL_law_758 ?_
        have hi_ := oc_1 hf
        replace hf := oc_2 hf
        refine gs_sld X hX hbl (Nat.not_le.mpr hbl) hi_ dL_law_759 ?_
        obtain ⟨⟨q65, ρ66_⟩, hq_, hf⟩ := ot_b hf
        replace hf := ot_l (y := q65) hf rfl
        obtain ⟨ρ66, e_ρ66⟩ : ∃ z : SL, z = (ρ66_, ρ.2) := ⟨_, rfl⟩
        replace hf := ot_l (y := ρ66) hf e_ρ66
        refine gs_C (rest := []) X hK (fun q h => h) cwL_85 (xc_hh_giftFor hq_) rfl ⟨rfl, rfl, Nat.le_of_ble_eq_true rfl, Nat.le_of_ble_eq_true rfl⟩ ⟨Nat.le_refl _, Nat.le_refl _⟩ rfl (Nat.le_of_ble_eq_true rfl) dL_law_760 ?_
        rw [← e_ρ66]
        refine gs_aload_n X dL_law_763 rfl 2 rfl ?_
        refine gs_aload_n X dL_law_764 rfl 0 rfl ?_
        refine gs_iload_n X dL_law_765 rfl 3 rfl ?_
        refine gs_iconst (v := 1) X dL_law_766 (by decide) ?_
        refine gs_iadd X dL_law_767 ?_
        have hi_ := oc_1 hf
        replace hf := oc_2 hf
        refine gs_sld X hX hbl (Nat.not_le.mpr hbl) hi_ dL_law_768 ?_
        obtain ⟨⟨q67, ρ68_⟩, hq_, hf⟩ := ot_b hf
        replace hf := ot_l (y := q67) hf rfl
        obtain ⟨ρ68, e_ρ68⟩ : ∃ z : SL, z = (ρ66.1, ρ68_) := ⟨_, rfl⟩
        replace hf := ot_l (y := ρ68) hf e_ρ68
        refine gs_M (rest := [.int q65]) X hKm (fun q h => h) cwL_88 (xm_giftFor hq_) rfl ⟨rfl, rfl, Nat.le_of_ble_eq_true rfl, Nat.le_of_ble_eq_true rfl⟩ ⟨Nat.le_refl _, Nat.le_refl _⟩ rfl (Nat.le_of_ble_eq_true rfl) dL_law_769 ?_
        rw [← e_ρ68]
        refine gs_icmp_eq X 1782 dL_law_772 (by decide) (fun hc_ => ?_) (fun hc_ => ?_)
        · replace hf := ot_t hf hc_
          refine gs_sub [0, 1, 2, 3] rfl ?_
          exact wl_law_b1782 X hK hKm hX hbl ih _ _ hf
        · replace hf := ot_f hf hc_
          refine gs_iconst (v := 0) X dL_law_775 (by decide) ?_
          cases hf
      replace hf := ot_f hf hs16
      by_cases hs17 : ((xs (Int32.toNatClampNeg x3)) &&& (63 : Int32)) = 17
      · replace hf := ot_t hf hs17
        refine gs_tin X (17) 777 dL_law_32 (by rw [hs17]; decide) (by decide) (by decide) rfl (by decide) ?_
        refine gs_aload_n X dL_law_777 rfl 1 rfl ?_
        refine gs_aload_n X dL_law_778 rfl 0 rfl ?_
        refine gs_iload_n X dL_law_779 rfl 3 rfl ?_
        refine gs_iconst (v := 1) X dL_law_780 (by decide) ?_
        refine gs_iadd X dL_law_781 ?_
        have hi_ := oc_1 hf
        replace hf := oc_2 hf
        refine gs_sld X hX hbl (Nat.not_le.mpr hbl) hi_ dL_law_782 ?_
        obtain ⟨⟨q69, ρ70_⟩, hq_, hf⟩ := ot_b hf
        replace hf := ot_l (y := q69) hf rfl
        obtain ⟨ρ70, e_ρ70⟩ : ∃ z : SL, z = (ρ70_, ρ.2) := ⟨_, rfl⟩
        replace hf := ot_l (y := ρ70) hf e_ρ70
        refine gs_C (rest := []) X hK (fun q h => h) cwL_89 (xc_hh_dueFor hq_) rfl ⟨rfl, rfl, Nat.le_of_ble_eq_true rfl, Nat.le_of_ble_eq_true rfl⟩ ⟨Nat.le_refl _, Nat.le_refl _⟩ rfl (Nat.le_of_ble_eq_true rfl) dL_law_783 ?_
        rw [← e_ρ70]
        refine gs_aload_n X dL_law_786 rfl 2 rfl ?_
        refine gs_aload_n X dL_law_787 rfl 0 rfl ?_
        refine gs_iload_n X dL_law_788 rfl 3 rfl ?_
        refine gs_iconst (v := 1) X dL_law_789 (by decide) ?_
        refine gs_iadd X dL_law_790 ?_
        have hi_ := oc_1 hf
        replace hf := oc_2 hf
        refine gs_sld X hX hbl (Nat.not_le.mpr hbl) hi_ dL_law_791 ?_
        obtain ⟨⟨q71, ρ72_⟩, hq_, hf⟩ := ot_b hf
        replace hf := ot_l (y := q71) hf rfl
        obtain ⟨ρ72, e_ρ72⟩ : ∃ z : SL, z = (ρ70.1, ρ72_) := ⟨_, rfl⟩
        replace hf := ot_l (y := ρ72) hf e_ρ72
        refine gs_M (rest := [.int q69]) X hKm (fun q h => h) cwL_92 (xm_dueFor hq_) rfl ⟨rfl, rfl, Nat.le_of_ble_eq_true rfl, Nat.le_of_ble_eq_true rfl⟩ ⟨Nat.le_refl _, Nat.le_refl _⟩ rfl (Nat.le_of_ble_eq_true rfl) dL_law_792 ?_
        rw [← e_ρ72]
        refine gs_icmp_eq X 1782 dL_law_795 (by decide) (fun hc_ => ?_) (fun hc_ => ?_)
        · replace hf := ot_t hf hc_
          refine gs_sub [0, 1, 2, 3] rfl ?_
          exact wl_law_b1782 X hK hKm hX hbl ih _ _ hf
        · replace hf := ot_f hf hc_
          refine gs_iconst (v := 0) X dL_law_798 (by decide) ?_
          cases hf
      replace hf := ot_f hf hs17
      by_cases hs18 : ((xs (Int32.toNatClampNeg x3)) &&& (63 : Int32)) = 18
      · replace hf := ot_t hf hs18
        refine gs_tin X (18) 800 dL_law_32 (by rw [hs18]; decide) (by decide) (by decide) rfl (by decide) ?_
        refine gs_aload_n X dL_law_800 rfl 1 rfl ?_
        refine gs_aload_n X dL_law_801 rfl 0 rfl ?_
        refine gs_iload_n X dL_law_802 rfl 3 rfl ?_
        refine gs_iconst (v := 1) X dL_law_803 (by decide) ?_
        refine gs_iadd X dL_law_804 ?_
        have hi_ := oc_1 hf
        replace hf := oc_2 hf
        refine gs_sld X hX hbl (Nat.not_le.mpr hbl) hi_ dL_law_805 ?_
        obtain ⟨⟨q73, ρ74_⟩, hq_, hf⟩ := ot_b hf
        replace hf := ot_l (y := q73) hf rfl
        obtain ⟨ρ74, e_ρ74⟩ : ∃ z : SL, z = (ρ74_, ρ.2) := ⟨_, rfl⟩
        replace hf := ot_l (y := ρ74) hf e_ρ74
        refine gs_C (rest := []) X hK (fun q h => h) cwL_93 (xc_hh_shows hq_) rfl ⟨rfl, rfl, Nat.le_of_ble_eq_true rfl, Nat.le_of_ble_eq_true rfl⟩ ⟨Nat.le_refl _, Nat.le_refl _⟩ rfl (Nat.le_of_ble_eq_true rfl) dL_law_806 ?_
        rw [← e_ρ74]
        refine gs_aload_n X dL_law_809 rfl 2 rfl ?_
        refine gs_aload_n X dL_law_810 rfl 0 rfl ?_
        refine gs_iload_n X dL_law_811 rfl 3 rfl ?_
        refine gs_iconst (v := 1) X dL_law_812 (by decide) ?_
        refine gs_iadd X dL_law_813 ?_
        have hi_ := oc_1 hf
        replace hf := oc_2 hf
        refine gs_sld X hX hbl (Nat.not_le.mpr hbl) hi_ dL_law_814 ?_
        obtain ⟨⟨q75, ρ76_⟩, hq_, hf⟩ := ot_b hf
        replace hf := ot_l (y := q75) hf rfl
        obtain ⟨ρ76, e_ρ76⟩ : ∃ z : SL, z = (ρ74.1, ρ76_) := ⟨_, rfl⟩
        replace hf := ot_l (y := ρ76) hf e_ρ76
        refine gs_M (rest := [.int q73]) X hKm (fun q h => h) cwL_96 (xm_shows hq_) rfl ⟨rfl, rfl, Nat.le_of_ble_eq_true rfl, Nat.le_of_ble_eq_true rfl⟩ ⟨Nat.le_refl _, Nat.le_refl _⟩ rfl (Nat.le_of_ble_eq_true rfl) dL_law_815 ?_
        rw [← e_ρ76]
        refine gs_icmp_eq X 1782 dL_law_818 (by decide) (fun hc_ => ?_) (fun hc_ => ?_)
        · replace hf := ot_t hf hc_
          refine gs_sub [0, 1, 2, 3] rfl ?_
          exact wl_law_b1782 X hK hKm hX hbl ih _ _ hf
        · replace hf := ot_f hf hc_
          refine gs_iconst (v := 0) X dL_law_821 (by decide) ?_
          cases hf
      replace hf := ot_f hf hs18
      by_cases hs19 : ((xs (Int32.toNatClampNeg x3)) &&& (63 : Int32)) = 19
      · replace hf := ot_t hf hs19
        refine gs_tin X (19) 823 dL_law_32 (by rw [hs19]; decide) (by decide) (by decide) rfl (by decide) ?_
        refine gs_aload_n X dL_law_823 rfl 1 rfl ?_
        refine gs_aload_n X dL_law_824 rfl 0 rfl ?_
        refine gs_iload_n X dL_law_825 rfl 3 rfl ?_
        refine gs_iconst (v := 1) X dL_law_826 (by decide) ?_
        refine gs_iadd X dL_law_827 ?_
        have hi_ := oc_1 hf
        replace hf := oc_2 hf
        refine gs_sld X hX hbl (Nat.not_le.mpr hbl) hi_ dL_law_828 ?_
        obtain ⟨⟨q77, ρ78_⟩, hq_, hf⟩ := ot_b hf
        replace hf := ot_l (y := q77) hf rfl
        obtain ⟨ρ78, e_ρ78⟩ : ∃ z : SL, z = (ρ78_, ρ.2) := ⟨_, rfl⟩
        replace hf := ot_l (y := ρ78) hf e_ρ78
        refine gs_C (rest := []) X hK (fun q h => h) cwL_97 (xc_hh_right hq_) rfl ⟨rfl, rfl, Nat.le_of_ble_eq_true rfl, Nat.le_of_ble_eq_true rfl⟩ ⟨Nat.le_refl _, Nat.le_refl _⟩ rfl (Nat.le_of_ble_eq_true rfl) dL_law_829 ?_
        rw [← e_ρ78]
        refine gs_aload_n X dL_law_832 rfl 2 rfl ?_
        refine gs_aload_n X dL_law_833 rfl 0 rfl ?_
        refine gs_iload_n X dL_law_834 rfl 3 rfl ?_
        refine gs_iconst (v := 1) X dL_law_835 (by decide) ?_
        refine gs_iadd X dL_law_836 ?_
        have hi_ := oc_1 hf
        replace hf := oc_2 hf
        refine gs_sld X hX hbl (Nat.not_le.mpr hbl) hi_ dL_law_837 ?_
        obtain ⟨⟨q79, ρ80_⟩, hq_, hf⟩ := ot_b hf
        replace hf := ot_l (y := q79) hf rfl
        obtain ⟨ρ80, e_ρ80⟩ : ∃ z : SL, z = (ρ78.1, ρ80_) := ⟨_, rfl⟩
        replace hf := ot_l (y := ρ80) hf e_ρ80
        refine gs_M (rest := [.int q77]) X hKm (fun q h => h) cwL_100 (xm_right hq_) rfl ⟨rfl, rfl, Nat.le_of_ble_eq_true rfl, Nat.le_of_ble_eq_true rfl⟩ ⟨Nat.le_refl _, Nat.le_refl _⟩ rfl (Nat.le_of_ble_eq_true rfl) dL_law_838 ?_
        rw [← e_ρ80]
        refine gs_icmp_eq X 1782 dL_law_841 (by decide) (fun hc_ => ?_) (fun hc_ => ?_)
        · replace hf := ot_t hf hc_
          refine gs_sub [0, 1, 2, 3] rfl ?_
          exact wl_law_b1782 X hK hKm hX hbl ih _ _ hf
        · replace hf := ot_f hf hc_
          refine gs_iconst (v := 0) X dL_law_844 (by decide) ?_
          cases hf
      replace hf := ot_f hf hs19
      by_cases hs20 : ((xs (Int32.toNatClampNeg x3)) &&& (63 : Int32)) = 20
      · replace hf := ot_t hf hs20
        refine gs_tin X (20) 846 dL_law_32 (by rw [hs20]; decide) (by decide) (by decide) rfl (by decide) ?_
        refine gs_aload_n X dL_law_846 rfl 1 rfl ?_
        refine gs_aload_n X dL_law_847 rfl 0 rfl ?_
        refine gs_iload_n X dL_law_848 rfl 3 rfl ?_
        refine gs_iconst (v := 1) X dL_law_849 (by decide) ?_
        refine gs_iadd X dL_law_850 ?_
        have hi_ := oc_1 hf
        replace hf := oc_2 hf
        refine gs_sld X hX hbl (Nat.not_le.mpr hbl) hi_ dL_law_851 ?_
        obtain ⟨q81, hq_, hf⟩ := ot_b hf
        refine gs_C (rest := []) X hK (fun q h => h) cwL_101 (xc_hh_queues hq_) rfl ⟨rfl, rfl, Nat.le_of_ble_eq_true rfl, Nat.le_of_ble_eq_true rfl⟩ ⟨Nat.le_refl _, Nat.le_refl _⟩ rfl (Nat.le_of_ble_eq_true rfl) dL_law_852 ?_
        refine gs_aload_n X dL_law_855 rfl 2 rfl ?_
        refine gs_aload_n X dL_law_856 rfl 0 rfl ?_
        refine gs_iload_n X dL_law_857 rfl 3 rfl ?_
        refine gs_iconst (v := 1) X dL_law_858 (by decide) ?_
        refine gs_iadd X dL_law_859 ?_
        have hi_ := oc_1 hf
        replace hf := oc_2 hf
        refine gs_sld X hX hbl (Nat.not_le.mpr hbl) hi_ dL_law_860 ?_
        obtain ⟨q83, hq_, hf⟩ := ot_b hf
        refine gs_M (rest := [.int q81]) X hKm (fun q h => h) cwL_104 (xm_queues hq_) rfl ⟨rfl, rfl, Nat.le_of_ble_eq_true rfl, Nat.le_of_ble_eq_true rfl⟩ ⟨Nat.le_refl _, Nat.le_refl _⟩ rfl (Nat.le_of_ble_eq_true rfl) dL_law_861 ?_
        refine gs_icmp_eq X 1782 dL_law_864 (by decide) (fun hc_ => ?_) (fun hc_ => ?_)
        · replace hf := ot_t hf hc_
          refine gs_sub [0, 1, 2, 3] rfl ?_
          exact wl_law_b1782 X hK hKm hX hbl ih _ _ hf
        · replace hf := ot_f hf hc_
          refine gs_iconst (v := 0) X dL_law_867 (by decide) ?_
          cases hf
      replace hf := ot_f hf hs20
      by_cases hs21 : ((xs (Int32.toNatClampNeg x3)) &&& (63 : Int32)) = 21
      · replace hf := ot_t hf hs21
        refine gs_tin X (21) 869 dL_law_32 (by rw [hs21]; decide) (by decide) (by decide) rfl (by decide) ?_
        refine gs_aload_n X dL_law_869 rfl 1 rfl ?_
        refine gs_aload_n X dL_law_870 rfl 0 rfl ?_
        refine gs_iload_n X dL_law_871 rfl 3 rfl ?_
        refine gs_iconst (v := 1) X dL_law_872 (by decide) ?_
        refine gs_iadd X dL_law_873 ?_
        have hi_ := oc_1 hf
        replace hf := oc_2 hf
        refine gs_sld X hX hbl (Nat.not_le.mpr hbl) hi_ dL_law_874 ?_
        refine gs_aload_n X dL_law_875 rfl 0 rfl ?_
        refine gs_iload_n X dL_law_876 rfl 3 rfl ?_
        refine gs_iconst (v := 2) X dL_law_877 (by decide) ?_
        refine gs_iadd X dL_law_878 ?_
        have hi_ := oc_1 hf
        replace hf := oc_2 hf
        refine gs_sld X hX hbl (Nat.not_le.mpr hbl) hi_ dL_law_879 ?_
        obtain ⟨q85, hq_, hf⟩ := ot_b hf
        refine gs_C (rest := []) X hK (fun q h => h) cwL_105 (xc_hh_errands hq_) rfl ⟨rfl, rfl, Nat.le_of_ble_eq_true rfl, Nat.le_of_ble_eq_true rfl⟩ ⟨Nat.le_refl _, Nat.le_refl _⟩ rfl (Nat.le_of_ble_eq_true rfl) dL_law_880 ?_
        refine gs_aload_n X dL_law_883 rfl 2 rfl ?_
        refine gs_aload_n X dL_law_884 rfl 0 rfl ?_
        refine gs_iload_n X dL_law_885 rfl 3 rfl ?_
        refine gs_iconst (v := 1) X dL_law_886 (by decide) ?_
        refine gs_iadd X dL_law_887 ?_
        have hi_ := oc_1 hf
        replace hf := oc_2 hf
        refine gs_sld X hX hbl (Nat.not_le.mpr hbl) hi_ dL_law_888 ?_
        refine gs_aload_n X dL_law_889 rfl 0 rfl ?_
        refine gs_iload_n X dL_law_890 rfl 3 rfl ?_
        refine gs_iconst (v := 2) X dL_law_891 (by decide) ?_
        refine gs_iadd X dL_law_892 ?_
        have hi_ := oc_1 hf
        replace hf := oc_2 hf
        refine gs_sld X hX hbl (Nat.not_le.mpr hbl) hi_ dL_law_893 ?_
        obtain ⟨q87, hq_, hf⟩ := ot_b hf
        refine gs_M (rest := [.int q85]) X hKm (fun q h => h) cwL_108 (xm_errands hq_) rfl ⟨rfl, rfl, Nat.le_of_ble_eq_true rfl, Nat.le_of_ble_eq_true rfl⟩ ⟨Nat.le_refl _, Nat.le_refl _⟩ rfl (Nat.le_of_ble_eq_true rfl) dL_law_894 ?_
        refine gs_icmp_eq X 1782 dL_law_897 (by decide) (fun hc_ => ?_) (fun hc_ => ?_)
        · replace hf := ot_t hf hc_
          refine gs_sub [0, 1, 2, 3] rfl ?_
          exact wl_law_b1782 X hK hKm hX hbl ih _ _ hf
        · replace hf := ot_f hf hc_
          refine gs_iconst (v := 0) X dL_law_900 (by decide) ?_
          cases hf
      replace hf := ot_f hf hs21
      by_cases hs22 : ((xs (Int32.toNatClampNeg x3)) &&& (63 : Int32)) = 22
      · replace hf := ot_t hf hs22
        refine gs_tin X (22) 902 dL_law_32 (by rw [hs22]; decide) (by decide) (by decide) rfl (by decide) ?_
        refine gs_aload_n X dL_law_902 rfl 1 rfl ?_
        refine gs_aload_n X dL_law_903 rfl 0 rfl ?_
        refine gs_iload_n X dL_law_904 rfl 3 rfl ?_
        refine gs_iconst (v := 1) X dL_law_905 (by decide) ?_
        refine gs_iadd X dL_law_906 ?_
        have hi_ := oc_1 hf
        replace hf := oc_2 hf
        refine gs_sld X hX hbl (Nat.not_le.mpr hbl) hi_ dL_law_907 ?_
        obtain ⟨⟨q89, ρ90_⟩, hq_, hf⟩ := ot_b hf
        replace hf := ot_l (y := q89) hf rfl
        obtain ⟨ρ90, e_ρ90⟩ : ∃ z : SL, z = (ρ90_, ρ.2) := ⟨_, rfl⟩
        replace hf := ot_l (y := ρ90) hf e_ρ90
        refine gs_C (rest := []) X hK (fun q h => h) cwL_109 (xc_hh_best hq_) rfl ⟨rfl, rfl, Nat.le_of_ble_eq_true rfl, Nat.le_of_ble_eq_true rfl⟩ ⟨Nat.le_refl _, Nat.le_refl _⟩ rfl (Nat.le_of_ble_eq_true rfl) dL_law_908 ?_
        rw [← e_ρ90]
        refine gs_aload_n X dL_law_911 rfl 2 rfl ?_
        refine gs_aload_n X dL_law_912 rfl 0 rfl ?_
        refine gs_iload_n X dL_law_913 rfl 3 rfl ?_
        refine gs_iconst (v := 1) X dL_law_914 (by decide) ?_
        refine gs_iadd X dL_law_915 ?_
        have hi_ := oc_1 hf
        replace hf := oc_2 hf
        refine gs_sld X hX hbl (Nat.not_le.mpr hbl) hi_ dL_law_916 ?_
        obtain ⟨⟨q91, ρ92_⟩, hq_, hf⟩ := ot_b hf
        replace hf := ot_l (y := q91) hf rfl
        obtain ⟨ρ92, e_ρ92⟩ : ∃ z : SL, z = (ρ90.1, ρ92_) := ⟨_, rfl⟩
        replace hf := ot_l (y := ρ92) hf e_ρ92
        refine gs_M (rest := [.int q89]) X hKm (fun q h => h) cwL_112 (xm_best hq_) rfl ⟨rfl, rfl, Nat.le_of_ble_eq_true rfl, Nat.le_of_ble_eq_true rfl⟩ ⟨Nat.le_refl _, Nat.le_refl _⟩ rfl (Nat.le_of_ble_eq_true rfl) dL_law_917 ?_
        rw [← e_ρ92]
        refine gs_icmp_eq X 1782 dL_law_920 (by decide) (fun hc_ => ?_) (fun hc_ => ?_)
        · replace hf := ot_t hf hc_
          refine gs_sub [0, 1, 2, 3] rfl ?_
          exact wl_law_b1782 X hK hKm hX hbl ih _ _ hf
        · replace hf := ot_f hf hc_
          refine gs_iconst (v := 0) X dL_law_923 (by decide) ?_
          cases hf
      replace hf := ot_f hf hs22
      by_cases hs23 : ((xs (Int32.toNatClampNeg x3)) &&& (63 : Int32)) = 23
      · replace hf := ot_t hf hs23
        refine gs_tin X (23) 925 dL_law_32 (by rw [hs23]; decide) (by decide) (by decide) rfl (by decide) ?_
        refine gs_aload_n X dL_law_925 rfl 1 rfl ?_
        refine gs_aload_n X dL_law_926 rfl 0 rfl ?_
        refine gs_iload_n X dL_law_927 rfl 3 rfl ?_
        refine gs_iconst (v := 1) X dL_law_928 (by decide) ?_
        refine gs_iadd X dL_law_929 ?_
        have hi_ := oc_1 hf
        replace hf := oc_2 hf
        refine gs_sld X hX hbl (Nat.not_le.mpr hbl) hi_ dL_law_930 ?_
        refine gs_aload_n X dL_law_931 rfl 0 rfl ?_
        refine gs_iload_n X dL_law_932 rfl 3 rfl ?_
        refine gs_iconst (v := 2) X dL_law_933 (by decide) ?_
        refine gs_iadd X dL_law_934 ?_
        have hi_ := oc_1 hf
        replace hf := oc_2 hf
        refine gs_sld X hX hbl (Nat.not_le.mpr hbl) hi_ dL_law_935 ?_
        obtain ⟨⟨q93, ρ94_⟩, hq_, hf⟩ := ot_b hf
        replace hf := ot_l (y := q93) hf rfl
        obtain ⟨ρ94, e_ρ94⟩ : ∃ z : SL, z = (ρ94_, ρ.2) := ⟨_, rfl⟩
        replace hf := ot_l (y := ρ94) hf e_ρ94
        refine gs_C (rest := []) X hK (fun q h => h) cwL_113 (xc_hh_ith hq_) rfl ⟨rfl, rfl, Nat.le_of_ble_eq_true rfl, Nat.le_of_ble_eq_true rfl⟩ ⟨Nat.le_refl _, Nat.le_refl _⟩ rfl (Nat.le_of_ble_eq_true rfl) dL_law_936 ?_
        rw [← e_ρ94]
        refine gs_aload_n X dL_law_939 rfl 2 rfl ?_
        refine gs_aload_n X dL_law_940 rfl 0 rfl ?_
        refine gs_iload_n X dL_law_941 rfl 3 rfl ?_
        refine gs_iconst (v := 1) X dL_law_942 (by decide) ?_
        refine gs_iadd X dL_law_943 ?_
        have hi_ := oc_1 hf
        replace hf := oc_2 hf
        refine gs_sld X hX hbl (Nat.not_le.mpr hbl) hi_ dL_law_944 ?_
        refine gs_aload_n X dL_law_945 rfl 0 rfl ?_
        refine gs_iload_n X dL_law_946 rfl 3 rfl ?_
        refine gs_iconst (v := 2) X dL_law_947 (by decide) ?_
        refine gs_iadd X dL_law_948 ?_
        have hi_ := oc_1 hf
        replace hf := oc_2 hf
        refine gs_sld X hX hbl (Nat.not_le.mpr hbl) hi_ dL_law_949 ?_
        obtain ⟨⟨q95, ρ96_⟩, hq_, hf⟩ := ot_b hf
        replace hf := ot_l (y := q95) hf rfl
        obtain ⟨ρ96, e_ρ96⟩ : ∃ z : SL, z = (ρ94.1, ρ96_) := ⟨_, rfl⟩
        replace hf := ot_l (y := ρ96) hf e_ρ96
        refine gs_M (rest := [.int q93]) X hKm (fun q h => h) cwL_116 (xm_ith hq_) rfl ⟨rfl, rfl, Nat.le_of_ble_eq_true rfl, Nat.le_of_ble_eq_true rfl⟩ ⟨Nat.le_refl _, Nat.le_refl _⟩ rfl (Nat.le_of_ble_eq_true rfl) dL_law_950 ?_
        rw [← e_ρ96]
        refine gs_icmp_eq X 1782 dL_law_953 (by decide) (fun hc_ => ?_) (fun hc_ => ?_)
        · replace hf := ot_t hf hc_
          refine gs_sub [0, 1, 2, 3] rfl ?_
          exact wl_law_b1782 X hK hKm hX hbl ih _ _ hf
        · replace hf := ot_f hf hc_
          refine gs_iconst (v := 0) X dL_law_956 (by decide) ?_
          cases hf
      replace hf := ot_f hf hs23
      by_cases hs24 : ((xs (Int32.toNatClampNeg x3)) &&& (63 : Int32)) = 24
      · replace hf := ot_t hf hs24
        refine gs_tin X (24) 958 dL_law_32 (by rw [hs24]; decide) (by decide) (by decide) rfl (by decide) ?_
        refine gs_aload_n X dL_law_958 rfl 1 rfl ?_
        refine gs_aload_n X dL_law_959 rfl 0 rfl ?_
        refine gs_iload_n X dL_law_960 rfl 3 rfl ?_
        refine gs_iconst (v := 1) X dL_law_961 (by decide) ?_
        refine gs_iadd X dL_law_962 ?_
        have hi_ := oc_1 hf
        replace hf := oc_2 hf
        refine gs_sld X hX hbl (Nat.not_le.mpr hbl) hi_ dL_law_963 ?_
        obtain ⟨⟨q97, ρ98_⟩, hq_, hf⟩ := ot_b hf
        replace hf := ot_l (y := q97) hf rfl
        obtain ⟨ρ98, e_ρ98⟩ : ∃ z : SL, z = (ρ98_, ρ.2) := ⟨_, rfl⟩
        replace hf := ot_l (y := ρ98) hf e_ρ98
        refine gs_C (rest := []) X hK (fun q h => h) cwL_117 (xc_hh_ways hq_) rfl ⟨rfl, rfl, Nat.le_of_ble_eq_true rfl, Nat.le_of_ble_eq_true rfl⟩ ⟨Nat.le_refl _, Nat.le_refl _⟩ rfl (Nat.le_of_ble_eq_true rfl) dL_law_964 ?_
        rw [← e_ρ98]
        refine gs_aload_n X dL_law_967 rfl 2 rfl ?_
        refine gs_aload_n X dL_law_968 rfl 0 rfl ?_
        refine gs_iload_n X dL_law_969 rfl 3 rfl ?_
        refine gs_iconst (v := 1) X dL_law_970 (by decide) ?_
        refine gs_iadd X dL_law_971 ?_
        have hi_ := oc_1 hf
        replace hf := oc_2 hf
        refine gs_sld X hX hbl (Nat.not_le.mpr hbl) hi_ dL_law_972 ?_
        obtain ⟨⟨q99, ρ100_⟩, hq_, hf⟩ := ot_b hf
        replace hf := ot_l (y := q99) hf rfl
        obtain ⟨ρ100, e_ρ100⟩ : ∃ z : SL, z = (ρ98.1, ρ100_) := ⟨_, rfl⟩
        replace hf := ot_l (y := ρ100) hf e_ρ100
        refine gs_M (rest := [.int q97]) X hKm (fun q h => h) cwL_120 (xm_ways hq_) rfl ⟨rfl, rfl, Nat.le_of_ble_eq_true rfl, Nat.le_of_ble_eq_true rfl⟩ ⟨Nat.le_refl _, Nat.le_refl _⟩ rfl (Nat.le_of_ble_eq_true rfl) dL_law_973 ?_
        rw [← e_ρ100]
        refine gs_icmp_eq X 1782 dL_law_976 (by decide) (fun hc_ => ?_) (fun hc_ => ?_)
        · replace hf := ot_t hf hc_
          refine gs_sub [0, 1, 2, 3] rfl ?_
          exact wl_law_b1782 X hK hKm hX hbl ih _ _ hf
        · replace hf := ot_f hf hc_
          refine gs_iconst (v := 0) X dL_law_979 (by decide) ?_
          cases hf
      replace hf := ot_f hf hs24
      by_cases hs25 : ((xs (Int32.toNatClampNeg x3)) &&& (63 : Int32)) = 25
      · replace hf := ot_t hf hs25
        refine gs_tin X (25) 981 dL_law_32 (by rw [hs25]; decide) (by decide) (by decide) rfl (by decide) ?_
        refine gs_aload_n X dL_law_981 rfl 1 rfl ?_
        refine gs_aload_n X dL_law_982 rfl 0 rfl ?_
        refine gs_iload_n X dL_law_983 rfl 3 rfl ?_
        refine gs_iconst (v := 1) X dL_law_984 (by decide) ?_
        refine gs_iadd X dL_law_985 ?_
        have hi_ := oc_1 hf
        replace hf := oc_2 hf
        refine gs_sld X hX hbl (Nat.not_le.mpr hbl) hi_ dL_law_986 ?_
        refine gs_aload_n X dL_law_987 rfl 0 rfl ?_
        refine gs_iload_n X dL_law_988 rfl 3 rfl ?_
        refine gs_iconst (v := 2) X dL_law_989 (by decide) ?_
        refine gs_iadd X dL_law_990 ?_
        have hi_ := oc_1 hf
        replace hf := oc_2 hf
        refine gs_sld X hX hbl (Nat.not_le.mpr hbl) hi_ dL_law_991 ?_
        obtain ⟨⟨q101, ρ102_⟩, hq_, hf⟩ := ot_b hf
        replace hf := ot_l (y := q101) hf rfl
        obtain ⟨ρ102, e_ρ102⟩ : ∃ z : SL, z = (ρ102_, ρ.2) := ⟨_, rfl⟩
        replace hf := ot_l (y := ρ102) hf e_ρ102
        refine gs_C (rest := []) X hK (fun q h => h) cwL_121 (xc_hh_charter hq_) rfl ⟨rfl, rfl, Nat.le_of_ble_eq_true rfl, Nat.le_of_ble_eq_true rfl⟩ ⟨Nat.le_refl _, Nat.le_refl _⟩ rfl (Nat.le_of_ble_eq_true rfl) dL_law_992 ?_
        rw [← e_ρ102]
        refine gs_aload_n X dL_law_995 rfl 2 rfl ?_
        refine gs_aload_n X dL_law_996 rfl 0 rfl ?_
        refine gs_iload_n X dL_law_997 rfl 3 rfl ?_
        refine gs_iconst (v := 1) X dL_law_998 (by decide) ?_
        refine gs_iadd X dL_law_999 ?_
        have hi_ := oc_1 hf
        replace hf := oc_2 hf
        refine gs_sld X hX hbl (Nat.not_le.mpr hbl) hi_ dL_law_1000 ?_
        refine gs_aload_n X dL_law_1001 rfl 0 rfl ?_
        refine gs_iload_n X dL_law_1002 rfl 3 rfl ?_
        refine gs_iconst (v := 2) X dL_law_1003 (by decide) ?_
        refine gs_iadd X dL_law_1004 ?_
        have hi_ := oc_1 hf
        replace hf := oc_2 hf
        refine gs_sld X hX hbl (Nat.not_le.mpr hbl) hi_ dL_law_1005 ?_
        obtain ⟨⟨q103, ρ104_⟩, hq_, hf⟩ := ot_b hf
        replace hf := ot_l (y := q103) hf rfl
        obtain ⟨ρ104, e_ρ104⟩ : ∃ z : SL, z = (ρ102.1, ρ104_) := ⟨_, rfl⟩
        replace hf := ot_l (y := ρ104) hf e_ρ104
        refine gs_M (rest := [.int q101]) X hKm (fun q h => h) cwL_124 (xm_charter hq_) rfl ⟨rfl, rfl, Nat.le_of_ble_eq_true rfl, Nat.le_of_ble_eq_true rfl⟩ ⟨Nat.le_refl _, Nat.le_refl _⟩ rfl (Nat.le_of_ble_eq_true rfl) dL_law_1006 ?_
        rw [← e_ρ104]
        refine gs_icmp_eq X 1782 dL_law_1009 (by decide) (fun hc_ => ?_) (fun hc_ => ?_)
        · replace hf := ot_t hf hc_
          refine gs_sub [0, 1, 2, 3] rfl ?_
          exact wl_law_b1782 X hK hKm hX hbl ih _ _ hf
        · replace hf := ot_f hf hc_
          refine gs_iconst (v := 0) X dL_law_1012 (by decide) ?_
          cases hf
      replace hf := ot_f hf hs25
      by_cases hs26 : ((xs (Int32.toNatClampNeg x3)) &&& (63 : Int32)) = 26
      · replace hf := ot_t hf hs26
        refine gs_tin X (26) 1014 dL_law_32 (by rw [hs26]; decide) (by decide) (by decide) rfl (by decide) ?_
        refine gs_aload_n X dL_law_1014 rfl 1 rfl ?_
        refine gs_aload_n X dL_law_1015 rfl 0 rfl ?_
        refine gs_iload_n X dL_law_1016 rfl 3 rfl ?_
        refine gs_iconst (v := 1) X dL_law_1017 (by decide) ?_
        refine gs_iadd X dL_law_1018 ?_
        have hi_ := oc_1 hf
        replace hf := oc_2 hf
        refine gs_sld X hX hbl (Nat.not_le.mpr hbl) hi_ dL_law_1019 ?_
        refine gs_aload_n X dL_law_1020 rfl 0 rfl ?_
        refine gs_iload_n X dL_law_1021 rfl 3 rfl ?_
        refine gs_iconst (v := 2) X dL_law_1022 (by decide) ?_
        refine gs_iadd X dL_law_1023 ?_
        have hi_ := oc_1 hf
        replace hf := oc_2 hf
        refine gs_sld X hX hbl (Nat.not_le.mpr hbl) hi_ dL_law_1024 ?_
        obtain ⟨⟨q105, ρ106_⟩, hq_, hf⟩ := ot_b hf
        replace hf := ot_l (y := q105) hf rfl
        obtain ⟨ρ106, e_ρ106⟩ : ∃ z : SL, z = (ρ106_, ρ.2) := ⟨_, rfl⟩
        replace hf := ot_l (y := ρ106) hf e_ρ106
        refine gs_C (rest := []) X hK (fun q h => h) cwL_125 (xc_hh_bars hq_) rfl ⟨rfl, rfl, Nat.le_of_ble_eq_true rfl, Nat.le_of_ble_eq_true rfl⟩ ⟨Nat.le_refl _, Nat.le_refl _⟩ rfl (Nat.le_of_ble_eq_true rfl) dL_law_1025 ?_
        rw [← e_ρ106]
        refine gs_aload_n X dL_law_1028 rfl 2 rfl ?_
        refine gs_aload_n X dL_law_1029 rfl 0 rfl ?_
        refine gs_iload_n X dL_law_1030 rfl 3 rfl ?_
        refine gs_iconst (v := 1) X dL_law_1031 (by decide) ?_
        refine gs_iadd X dL_law_1032 ?_
        have hi_ := oc_1 hf
        replace hf := oc_2 hf
        refine gs_sld X hX hbl (Nat.not_le.mpr hbl) hi_ dL_law_1033 ?_
        refine gs_aload_n X dL_law_1034 rfl 0 rfl ?_
        refine gs_iload_n X dL_law_1035 rfl 3 rfl ?_
        refine gs_iconst (v := 2) X dL_law_1036 (by decide) ?_
        refine gs_iadd X dL_law_1037 ?_
        have hi_ := oc_1 hf
        replace hf := oc_2 hf
        refine gs_sld X hX hbl (Nat.not_le.mpr hbl) hi_ dL_law_1038 ?_
        obtain ⟨⟨q107, ρ108_⟩, hq_, hf⟩ := ot_b hf
        replace hf := ot_l (y := q107) hf rfl
        obtain ⟨ρ108, e_ρ108⟩ : ∃ z : SL, z = (ρ106.1, ρ108_) := ⟨_, rfl⟩
        replace hf := ot_l (y := ρ108) hf e_ρ108
        refine gs_M (rest := [.int q105]) X hKm (fun q h => h) cwL_128 (xm_bars hq_) rfl ⟨rfl, rfl, Nat.le_of_ble_eq_true rfl, Nat.le_of_ble_eq_true rfl⟩ ⟨Nat.le_refl _, Nat.le_refl _⟩ rfl (Nat.le_of_ble_eq_true rfl) dL_law_1039 ?_
        rw [← e_ρ108]
        refine gs_icmp_eq X 1782 dL_law_1042 (by decide) (fun hc_ => ?_) (fun hc_ => ?_)
        · replace hf := ot_t hf hc_
          refine gs_sub [0, 1, 2, 3] rfl ?_
          exact wl_law_b1782 X hK hKm hX hbl ih _ _ hf
        · replace hf := ot_f hf hc_
          refine gs_iconst (v := 0) X dL_law_1045 (by decide) ?_
          cases hf
      replace hf := ot_f hf hs26
      by_cases hs27 : ((xs (Int32.toNatClampNeg x3)) &&& (63 : Int32)) = 27
      · replace hf := ot_t hf hs27
        refine gs_tin X (27) 1047 dL_law_32 (by rw [hs27]; decide) (by decide) (by decide) rfl (by decide) ?_
        refine gs_aload_n X dL_law_1047 rfl 1 rfl ?_
        refine gs_aload_n X dL_law_1048 rfl 0 rfl ?_
        refine gs_iload_n X dL_law_1049 rfl 3 rfl ?_
        refine gs_iconst (v := 1) X dL_law_1050 (by decide) ?_
        refine gs_iadd X dL_law_1051 ?_
        have hi_ := oc_1 hf
        replace hf := oc_2 hf
        refine gs_sld X hX hbl (Nat.not_le.mpr hbl) hi_ dL_law_1052 ?_
        obtain ⟨⟨q109, ρ110_⟩, hq_, hf⟩ := ot_b hf
        replace hf := ot_l (y := q109) hf rfl
        obtain ⟨ρ110, e_ρ110⟩ : ∃ z : SL, z = (ρ110_, ρ.2) := ⟨_, rfl⟩
        replace hf := ot_l (y := ρ110) hf e_ρ110
        refine gs_C (rest := []) X hK (fun q h => h) cwL_129 (xc_hh_game hq_) rfl ⟨rfl, rfl, Nat.le_of_ble_eq_true rfl, Nat.le_of_ble_eq_true rfl⟩ ⟨Nat.le_refl _, Nat.le_refl _⟩ rfl (Nat.le_of_ble_eq_true rfl) dL_law_1053 ?_
        rw [← e_ρ110]
        refine gs_aload_n X dL_law_1056 rfl 2 rfl ?_
        refine gs_aload_n X dL_law_1057 rfl 0 rfl ?_
        refine gs_iload_n X dL_law_1058 rfl 3 rfl ?_
        refine gs_iconst (v := 1) X dL_law_1059 (by decide) ?_
        refine gs_iadd X dL_law_1060 ?_
        have hi_ := oc_1 hf
        replace hf := oc_2 hf
        refine gs_sld X hX hbl (Nat.not_le.mpr hbl) hi_ dL_law_1061 ?_
        obtain ⟨⟨q111, ρ112_⟩, hq_, hf⟩ := ot_b hf
        replace hf := ot_l (y := q111) hf rfl
        obtain ⟨ρ112, e_ρ112⟩ : ∃ z : SL, z = (ρ110.1, ρ112_) := ⟨_, rfl⟩
        replace hf := ot_l (y := ρ112) hf e_ρ112
        refine gs_M (rest := [.int q109]) X hKm (fun q h => h) cwL_132 (xm_game hq_) rfl ⟨rfl, rfl, Nat.le_of_ble_eq_true rfl, Nat.le_of_ble_eq_true rfl⟩ ⟨Nat.le_refl _, Nat.le_refl _⟩ rfl (Nat.le_of_ble_eq_true rfl) dL_law_1062 ?_
        rw [← e_ρ112]
        refine gs_icmp_eq X 1782 dL_law_1065 (by decide) (fun hc_ => ?_) (fun hc_ => ?_)
        · replace hf := ot_t hf hc_
          refine gs_sub [0, 1, 2, 3] rfl ?_
          exact wl_law_b1782 X hK hKm hX hbl ih _ _ hf
        · replace hf := ot_f hf hc_
          refine gs_iconst (v := 0) X dL_law_1068 (by decide) ?_
          cases hf
      replace hf := ot_f hf hs27
      by_cases hs28 : ((xs (Int32.toNatClampNeg x3)) &&& (63 : Int32)) = 28
      · replace hf := ot_t hf hs28
        refine gs_tin X (28) 1070 dL_law_32 (by rw [hs28]; decide) (by decide) (by decide) rfl (by decide) ?_
        refine gs_aload_n X dL_law_1070 rfl 1 rfl ?_
        refine gs_aload_n X dL_law_1071 rfl 0 rfl ?_
        refine gs_iload_n X dL_law_1072 rfl 3 rfl ?_
        refine gs_iconst (v := 1) X dL_law_1073 (by decide) ?_
        refine gs_iadd X dL_law_1074 ?_
        have hi_ := oc_1 hf
        replace hf := oc_2 hf
        refine gs_sld X hX hbl (Nat.not_le.mpr hbl) hi_ dL_law_1075 ?_
        obtain ⟨⟨q113, ρ114_⟩, hq_, hf⟩ := ot_b hf
        replace hf := ot_l (y := q113) hf rfl
        obtain ⟨ρ114, e_ρ114⟩ : ∃ z : SL, z = (ρ114_, ρ.2) := ⟨_, rfl⟩
        replace hf := ot_l (y := ρ114) hf e_ρ114
        refine gs_C (rest := []) X hK (fun q h => h) cwL_133 (xc_hh_play hq_) rfl ⟨rfl, rfl, Nat.le_of_ble_eq_true rfl, Nat.le_of_ble_eq_true rfl⟩ ⟨Nat.le_refl _, Nat.le_refl _⟩ rfl (Nat.le_of_ble_eq_true rfl) dL_law_1076 ?_
        rw [← e_ρ114]
        refine gs_aload_n X dL_law_1079 rfl 2 rfl ?_
        refine gs_aload_n X dL_law_1080 rfl 0 rfl ?_
        refine gs_iload_n X dL_law_1081 rfl 3 rfl ?_
        refine gs_iconst (v := 1) X dL_law_1082 (by decide) ?_
        refine gs_iadd X dL_law_1083 ?_
        have hi_ := oc_1 hf
        replace hf := oc_2 hf
        refine gs_sld X hX hbl (Nat.not_le.mpr hbl) hi_ dL_law_1084 ?_
        obtain ⟨⟨q115, ρ116_⟩, hq_, hf⟩ := ot_b hf
        replace hf := ot_l (y := q115) hf rfl
        obtain ⟨ρ116, e_ρ116⟩ : ∃ z : SL, z = (ρ114.1, ρ116_) := ⟨_, rfl⟩
        replace hf := ot_l (y := ρ116) hf e_ρ116
        refine gs_M (rest := [.int q113]) X hKm (fun q h => h) cwL_136 (xm_play hq_) rfl ⟨rfl, rfl, Nat.le_of_ble_eq_true rfl, Nat.le_of_ble_eq_true rfl⟩ ⟨Nat.le_refl _, Nat.le_refl _⟩ rfl (Nat.le_of_ble_eq_true rfl) dL_law_1085 ?_
        rw [← e_ρ116]
        refine gs_icmp_eq X 1782 dL_law_1088 (by decide) (fun hc_ => ?_) (fun hc_ => ?_)
        · replace hf := ot_t hf hc_
          refine gs_sub [0, 1, 2, 3] rfl ?_
          exact wl_law_b1782 X hK hKm hX hbl ih _ _ hf
        · replace hf := ot_f hf hc_
          refine gs_iconst (v := 0) X dL_law_1091 (by decide) ?_
          cases hf
      replace hf := ot_f hf hs28
      by_cases hs29 : ((xs (Int32.toNatClampNeg x3)) &&& (63 : Int32)) = 29
      · replace hf := ot_t hf hs29
        refine gs_tin X (29) 1093 dL_law_32 (by rw [hs29]; decide) (by decide) (by decide) rfl (by decide) ?_
        refine gs_aload_n X dL_law_1093 rfl 1 rfl ?_
        refine gs_aload_n X dL_law_1094 rfl 0 rfl ?_
        refine gs_iload_n X dL_law_1095 rfl 3 rfl ?_
        refine gs_iconst (v := 1) X dL_law_1096 (by decide) ?_
        refine gs_iadd X dL_law_1097 ?_
        have hi_ := oc_1 hf
        replace hf := oc_2 hf
        refine gs_sld X hX hbl (Nat.not_le.mpr hbl) hi_ dL_law_1098 ?_
        refine gs_aload_n X dL_law_1099 rfl 0 rfl ?_
        refine gs_iload_n X dL_law_1100 rfl 3 rfl ?_
        refine gs_iconst (v := 2) X dL_law_1101 (by decide) ?_
        refine gs_iadd X dL_law_1102 ?_
        have hi_ := oc_1 hf
        replace hf := oc_2 hf
        refine gs_sld X hX hbl (Nat.not_le.mpr hbl) hi_ dL_law_1103 ?_
        refine gs_aload_n X dL_law_1104 rfl 0 rfl ?_
        refine gs_iload_n X dL_law_1105 rfl 3 rfl ?_
        refine gs_iconst (v := 3) X dL_law_1106 (by decide) ?_
        refine gs_iadd X dL_law_1107 ?_
        have hi_ := oc_1 hf
        replace hf := oc_2 hf
        refine gs_sld X hX hbl (Nat.not_le.mpr hbl) hi_ dL_law_1108 ?_
        refine gs_aload_n X dL_law_1109 rfl 0 rfl ?_
        refine gs_iload_n X dL_law_1110 rfl 3 rfl ?_
        refine gs_iconst (v := 4) X dL_law_1111 (by decide) ?_
        refine gs_iadd X dL_law_1112 ?_
        have hi_ := oc_1 hf
        replace hf := oc_2 hf
        refine gs_sld X hX hbl (Nat.not_le.mpr hbl) hi_ dL_law_1113 ?_
        obtain ⟨⟨q117, ρ118_⟩, hq_, hf⟩ := ot_b hf
        replace hf := ot_l (y := q117) hf rfl
        obtain ⟨ρ118, e_ρ118⟩ : ∃ z : SL, z = (ρ118_, ρ.2) := ⟨_, rfl⟩
        replace hf := ot_l (y := ρ118) hf e_ρ118
        refine gs_C (rest := []) X hK (fun q h => h) cwL_137 (xc_hh_report hq_) rfl ⟨rfl, rfl, Nat.le_of_ble_eq_true rfl, Nat.le_of_ble_eq_true rfl⟩ ⟨Nat.le_refl _, Nat.le_refl _⟩ rfl (Nat.le_of_ble_eq_true rfl) dL_law_1114 ?_
        rw [← e_ρ118]
        refine gs_aload_n X dL_law_1117 rfl 2 rfl ?_
        refine gs_aload_n X dL_law_1118 rfl 0 rfl ?_
        refine gs_iload_n X dL_law_1119 rfl 3 rfl ?_
        refine gs_iconst (v := 1) X dL_law_1120 (by decide) ?_
        refine gs_iadd X dL_law_1121 ?_
        have hi_ := oc_1 hf
        replace hf := oc_2 hf
        refine gs_sld X hX hbl (Nat.not_le.mpr hbl) hi_ dL_law_1122 ?_
        refine gs_aload_n X dL_law_1123 rfl 0 rfl ?_
        refine gs_iload_n X dL_law_1124 rfl 3 rfl ?_
        refine gs_iconst (v := 2) X dL_law_1125 (by decide) ?_
        refine gs_iadd X dL_law_1126 ?_
        have hi_ := oc_1 hf
        replace hf := oc_2 hf
        refine gs_sld X hX hbl (Nat.not_le.mpr hbl) hi_ dL_law_1127 ?_
        refine gs_aload_n X dL_law_1128 rfl 0 rfl ?_
        refine gs_iload_n X dL_law_1129 rfl 3 rfl ?_
        refine gs_iconst (v := 3) X dL_law_1130 (by decide) ?_
        refine gs_iadd X dL_law_1131 ?_
        have hi_ := oc_1 hf
        replace hf := oc_2 hf
        refine gs_sld X hX hbl (Nat.not_le.mpr hbl) hi_ dL_law_1132 ?_
        refine gs_aload_n X dL_law_1133 rfl 0 rfl ?_
        refine gs_iload_n X dL_law_1134 rfl 3 rfl ?_
        refine gs_iconst (v := 4) X dL_law_1135 (by decide) ?_
        refine gs_iadd X dL_law_1136 ?_
        have hi_ := oc_1 hf
        replace hf := oc_2 hf
        refine gs_sld X hX hbl (Nat.not_le.mpr hbl) hi_ dL_law_1137 ?_
        obtain ⟨⟨q119, ρ120_⟩, hq_, hf⟩ := ot_b hf
        replace hf := ot_l (y := q119) hf rfl
        obtain ⟨ρ120, e_ρ120⟩ : ∃ z : SL, z = (ρ118.1, ρ120_) := ⟨_, rfl⟩
        replace hf := ot_l (y := ρ120) hf e_ρ120
        refine gs_M (rest := [.int q117]) X hKm (fun q h => h) cwL_140 (xm_report hq_) rfl ⟨rfl, rfl, Nat.le_of_ble_eq_true rfl, Nat.le_of_ble_eq_true rfl⟩ ⟨Nat.le_refl _, Nat.le_refl _⟩ rfl (Nat.le_of_ble_eq_true rfl) dL_law_1138 ?_
        rw [← e_ρ120]
        refine gs_icmp_eq X 1782 dL_law_1141 (by decide) (fun hc_ => ?_) (fun hc_ => ?_)
        · replace hf := ot_t hf hc_
          refine gs_sub [0, 1, 2, 3] rfl ?_
          exact wl_law_b1782 X hK hKm hX hbl ih _ _ hf
        · replace hf := ot_f hf hc_
          refine gs_iconst (v := 0) X dL_law_1144 (by decide) ?_
          cases hf
      replace hf := ot_f hf hs29
      by_cases hs30 : ((xs (Int32.toNatClampNeg x3)) &&& (63 : Int32)) = 30
      · replace hf := ot_t hf hs30
        refine gs_tin X (30) 1146 dL_law_32 (by rw [hs30]; decide) (by decide) (by decide) rfl (by decide) ?_
        refine gs_aload_n X dL_law_1146 rfl 1 rfl ?_
        obtain ⟨⟨q121, ρ122_⟩, hq_, hf⟩ := ot_b hf
        replace hf := ot_l (y := q121) hf rfl
        obtain ⟨ρ122, e_ρ122⟩ : ∃ z : SL, z = (ρ122_, ρ.2) := ⟨_, rfl⟩
        replace hf := ot_l (y := ρ122) hf e_ρ122
        refine gs_C (rest := []) X hK (fun q h => h) cwL_141 (xc_hh_forget hq_) rfl ⟨rfl, rfl, Nat.le_of_ble_eq_true rfl, Nat.le_of_ble_eq_true rfl⟩ ⟨Nat.le_refl _, Nat.le_refl _⟩ rfl (Nat.le_of_ble_eq_true rfl) dL_law_1147 ?_
        rw [← e_ρ122]
        refine gs_aload_n X dL_law_1150 rfl 2 rfl ?_
        obtain ⟨⟨q123, ρ124_⟩, hq_, hf⟩ := ot_b hf
        replace hf := ot_l (y := q123) hf rfl
        obtain ⟨ρ124, e_ρ124⟩ : ∃ z : SL, z = (ρ122.1, ρ124_) := ⟨_, rfl⟩
        replace hf := ot_l (y := ρ124) hf e_ρ124
        refine gs_M (rest := [.int q121]) X hKm (fun q h => h) cwL_144 (xm_forget hq_) rfl ⟨rfl, rfl, Nat.le_of_ble_eq_true rfl, Nat.le_of_ble_eq_true rfl⟩ ⟨Nat.le_refl _, Nat.le_refl _⟩ rfl (Nat.le_of_ble_eq_true rfl) dL_law_1151 ?_
        rw [← e_ρ124]
        refine gs_icmp_eq X 1782 dL_law_1154 (by decide) (fun hc_ => ?_) (fun hc_ => ?_)
        · replace hf := ot_t hf hc_
          refine gs_sub [0, 1, 2, 3] rfl ?_
          exact wl_law_b1782 X hK hKm hX hbl ih _ _ hf
        · replace hf := ot_f hf hc_
          refine gs_iconst (v := 0) X dL_law_1157 (by decide) ?_
          cases hf
      replace hf := ot_f hf hs30
      by_cases hs31 : ((xs (Int32.toNatClampNeg x3)) &&& (63 : Int32)) = 31
      · replace hf := ot_t hf hs31
        refine gs_tin X (31) 1159 dL_law_32 (by rw [hs31]; decide) (by decide) (by decide) rfl (by decide) ?_
        refine gs_aload_n X dL_law_1159 rfl 1 rfl ?_
        refine gs_aload_n X dL_law_1160 rfl 0 rfl ?_
        refine gs_iload_n X dL_law_1161 rfl 3 rfl ?_
        refine gs_iconst (v := 1) X dL_law_1162 (by decide) ?_
        refine gs_iadd X dL_law_1163 ?_
        have hi_ := oc_1 hf
        replace hf := oc_2 hf
        refine gs_sld X hX hbl (Nat.not_le.mpr hbl) hi_ dL_law_1164 ?_
        obtain ⟨q125, hq_, hf⟩ := ot_b hf
        refine gs_C (rest := []) X hK (fun q h => h) cwL_145 (xc_hh_cause hq_) rfl ⟨rfl, rfl, Nat.le_of_ble_eq_true rfl, Nat.le_of_ble_eq_true rfl⟩ ⟨Nat.le_refl _, Nat.le_refl _⟩ rfl (Nat.le_of_ble_eq_true rfl) dL_law_1165 ?_
        refine gs_aload_n X dL_law_1168 rfl 2 rfl ?_
        refine gs_aload_n X dL_law_1169 rfl 0 rfl ?_
        refine gs_iload_n X dL_law_1170 rfl 3 rfl ?_
        refine gs_iconst (v := 1) X dL_law_1171 (by decide) ?_
        refine gs_iadd X dL_law_1172 ?_
        have hi_ := oc_1 hf
        replace hf := oc_2 hf
        refine gs_sld X hX hbl (Nat.not_le.mpr hbl) hi_ dL_law_1173 ?_
        obtain ⟨⟨q127, ρ128_⟩, hq_, hf⟩ := ot_b hf
        replace hf := ot_l (y := q127) hf rfl
        obtain ⟨ρ128, e_ρ128⟩ : ∃ z : SL, z = (ρ.1, ρ128_) := ⟨_, rfl⟩
        replace hf := ot_l (y := ρ128) hf e_ρ128
        refine gs_M (rest := [.int q125]) X hKm (fun q h => h) cwL_148 (xm_cause hq_) rfl ⟨rfl, rfl, Nat.le_of_ble_eq_true rfl, Nat.le_of_ble_eq_true rfl⟩ ⟨Nat.le_refl _, Nat.le_refl _⟩ rfl (Nat.le_of_ble_eq_true rfl) dL_law_1174 ?_
        rw [← e_ρ128]
        refine gs_icmp_eq X 1782 dL_law_1177 (by decide) (fun hc_ => ?_) (fun hc_ => ?_)
        · replace hf := ot_t hf hc_
          refine gs_sub [0, 1, 2, 3] rfl ?_
          exact wl_law_b1782 X hK hKm hX hbl ih _ _ hf
        · replace hf := ot_f hf hc_
          refine gs_iconst (v := 0) X dL_law_1180 (by decide) ?_
          cases hf
      replace hf := ot_f hf hs31
      by_cases hs32 : ((xs (Int32.toNatClampNeg x3)) &&& (63 : Int32)) = 32
      · replace hf := ot_t hf hs32
        refine gs_tin X (32) 1182 dL_law_32 (by rw [hs32]; decide) (by decide) (by decide) rfl (by decide) ?_
        refine gs_aload_n X dL_law_1182 rfl 1 rfl ?_
        obtain ⟨q129, hq_, hf⟩ := ot_b hf
        refine gs_C (rest := []) X hK (fun q h => h) cwL_149 (xc_hh_liar hq_) rfl ⟨rfl, rfl, Nat.le_of_ble_eq_true rfl, Nat.le_of_ble_eq_true rfl⟩ ⟨Nat.le_refl _, Nat.le_refl _⟩ rfl (Nat.le_of_ble_eq_true rfl) dL_law_1183 ?_
        refine gs_aload_n X dL_law_1186 rfl 2 rfl ?_
        obtain ⟨⟨q131, ρ132_⟩, hq_, hf⟩ := ot_b hf
        replace hf := ot_l (y := q131) hf rfl
        obtain ⟨ρ132, e_ρ132⟩ : ∃ z : SL, z = (ρ.1, ρ132_) := ⟨_, rfl⟩
        replace hf := ot_l (y := ρ132) hf e_ρ132
        refine gs_M (rest := [.int q129]) X hKm (fun q h => h) cwL_152 (xm_liar hq_) rfl ⟨rfl, rfl, Nat.le_of_ble_eq_true rfl, Nat.le_of_ble_eq_true rfl⟩ ⟨Nat.le_refl _, Nat.le_refl _⟩ rfl (Nat.le_of_ble_eq_true rfl) dL_law_1187 ?_
        rw [← e_ρ132]
        refine gs_icmp_eq X 1782 dL_law_1190 (by decide) (fun hc_ => ?_) (fun hc_ => ?_)
        · replace hf := ot_t hf hc_
          refine gs_sub [0, 1, 2, 3] rfl ?_
          exact wl_law_b1782 X hK hKm hX hbl ih _ _ hf
        · replace hf := ot_f hf hc_
          refine gs_iconst (v := 0) X dL_law_1193 (by decide) ?_
          cases hf
      replace hf := ot_f hf hs32
      by_cases hs33 : ((xs (Int32.toNatClampNeg x3)) &&& (63 : Int32)) = 33
      · replace hf := ot_t hf hs33
        refine gs_tin X (33) 1195 dL_law_32 (by rw [hs33]; decide) (by decide) (by decide) rfl (by decide) ?_
        refine gs_aload_n X dL_law_1195 rfl 1 rfl ?_
        refine gs_aload_n X dL_law_1196 rfl 0 rfl ?_
        refine gs_iload_n X dL_law_1197 rfl 3 rfl ?_
        refine gs_iconst (v := 1) X dL_law_1198 (by decide) ?_
        refine gs_iadd X dL_law_1199 ?_
        have hi_ := oc_1 hf
        replace hf := oc_2 hf
        refine gs_sld X hX hbl (Nat.not_le.mpr hbl) hi_ dL_law_1200 ?_
        obtain ⟨⟨q133, ρ134_⟩, hq_, hf⟩ := ot_b hf
        replace hf := ot_l (y := q133) hf rfl
        obtain ⟨ρ134, e_ρ134⟩ : ∃ z : SL, z = (ρ134_, ρ.2) := ⟨_, rfl⟩
        replace hf := ot_l (y := ρ134) hf e_ρ134
        refine gs_C (rest := []) X hK (fun q h => h) cwL_153 (xc_hh_seed hq_) rfl ⟨rfl, rfl, Nat.le_of_ble_eq_true rfl, Nat.le_of_ble_eq_true rfl⟩ ⟨Nat.le_refl _, Nat.le_refl _⟩ rfl (Nat.le_of_ble_eq_true rfl) dL_law_1201 ?_
        rw [← e_ρ134]
        refine gs_aload_n X dL_law_1204 rfl 2 rfl ?_
        refine gs_aload_n X dL_law_1205 rfl 0 rfl ?_
        refine gs_iload_n X dL_law_1206 rfl 3 rfl ?_
        refine gs_iconst (v := 1) X dL_law_1207 (by decide) ?_
        refine gs_iadd X dL_law_1208 ?_
        have hi_ := oc_1 hf
        replace hf := oc_2 hf
        refine gs_sld X hX hbl (Nat.not_le.mpr hbl) hi_ dL_law_1209 ?_
        obtain ⟨⟨q135, ρ136_⟩, hq_, hf⟩ := ot_b hf
        replace hf := ot_l (y := q135) hf rfl
        obtain ⟨ρ136, e_ρ136⟩ : ∃ z : SL, z = (ρ134.1, ρ136_) := ⟨_, rfl⟩
        replace hf := ot_l (y := ρ136) hf e_ρ136
        refine gs_M (rest := [.int q133]) X hKm (fun q h => h) cwL_156 (xm_seed hq_) rfl ⟨rfl, rfl, Nat.le_of_ble_eq_true rfl, Nat.le_of_ble_eq_true rfl⟩ ⟨Nat.le_refl _, Nat.le_refl _⟩ rfl (Nat.le_of_ble_eq_true rfl) dL_law_1210 ?_
        rw [← e_ρ136]
        refine gs_icmp_eq X 1782 dL_law_1213 (by decide) (fun hc_ => ?_) (fun hc_ => ?_)
        · replace hf := ot_t hf hc_
          refine gs_sub [0, 1, 2, 3] rfl ?_
          exact wl_law_b1782 X hK hKm hX hbl ih _ _ hf
        · replace hf := ot_f hf hc_
          refine gs_iconst (v := 0) X dL_law_1216 (by decide) ?_
          cases hf
      replace hf := ot_f hf hs33
      by_cases hs34 : ((xs (Int32.toNatClampNeg x3)) &&& (63 : Int32)) = 34
      · replace hf := ot_t hf hs34
        refine gs_tin X (34) 1218 dL_law_32 (by rw [hs34]; decide) (by decide) (by decide) rfl (by decide) ?_
        refine gs_aload_n X dL_law_1218 rfl 1 rfl ?_
        obtain ⟨⟨q137, ρ138_⟩, hq_, hf⟩ := ot_b hf
        replace hf := ot_l (y := q137) hf rfl
        obtain ⟨ρ138, e_ρ138⟩ : ∃ z : SL, z = (ρ138_, ρ.2) := ⟨_, rfl⟩
        replace hf := ot_l (y := ρ138) hf e_ρ138
        refine gs_C (rest := []) X hK (fun q h => h) cwL_157 (xc_hh_lot hq_) rfl ⟨rfl, rfl, Nat.le_of_ble_eq_true rfl, Nat.le_of_ble_eq_true rfl⟩ ⟨Nat.le_refl _, Nat.le_refl _⟩ rfl (Nat.le_of_ble_eq_true rfl) dL_law_1219 ?_
        rw [← e_ρ138]
        refine gs_aload_n X dL_law_1222 rfl 2 rfl ?_
        obtain ⟨⟨q139, ρ140_⟩, hq_, hf⟩ := ot_b hf
        replace hf := ot_l (y := q139) hf rfl
        obtain ⟨ρ140, e_ρ140⟩ : ∃ z : SL, z = (ρ138.1, ρ140_) := ⟨_, rfl⟩
        replace hf := ot_l (y := ρ140) hf e_ρ140
        refine gs_M (rest := [.int q137]) X hKm (fun q h => h) cwL_160 (xm_lot hq_) rfl ⟨rfl, rfl, Nat.le_of_ble_eq_true rfl, Nat.le_of_ble_eq_true rfl⟩ ⟨Nat.le_refl _, Nat.le_refl _⟩ rfl (Nat.le_of_ble_eq_true rfl) dL_law_1223 ?_
        rw [← e_ρ140]
        refine gs_icmp_eq X 1782 dL_law_1226 (by decide) (fun hc_ => ?_) (fun hc_ => ?_)
        · replace hf := ot_t hf hc_
          refine gs_sub [0, 1, 2, 3] rfl ?_
          exact wl_law_b1782 X hK hKm hX hbl ih _ _ hf
        · replace hf := ot_f hf hc_
          refine gs_iconst (v := 0) X dL_law_1229 (by decide) ?_
          cases hf
      replace hf := ot_f hf hs34
      by_cases hs35 : ((xs (Int32.toNatClampNeg x3)) &&& (63 : Int32)) = 35
      · replace hf := ot_t hf hs35
        refine gs_tin X (35) 1231 dL_law_32 (by rw [hs35]; decide) (by decide) (by decide) rfl (by decide) ?_
        refine gs_aload_n X dL_law_1231 rfl 1 rfl ?_
        refine gs_aload_n X dL_law_1232 rfl 0 rfl ?_
        refine gs_iload_n X dL_law_1233 rfl 3 rfl ?_
        refine gs_iconst (v := 1) X dL_law_1234 (by decide) ?_
        refine gs_iadd X dL_law_1235 ?_
        have hi_ := oc_1 hf
        replace hf := oc_2 hf
        refine gs_sld X hX hbl (Nat.not_le.mpr hbl) hi_ dL_law_1236 ?_
        refine gs_aload_n X dL_law_1237 rfl 0 rfl ?_
        refine gs_iload_n X dL_law_1238 rfl 3 rfl ?_
        refine gs_iconst (v := 2) X dL_law_1239 (by decide) ?_
        refine gs_iadd X dL_law_1240 ?_
        have hi_ := oc_1 hf
        replace hf := oc_2 hf
        refine gs_sld X hX hbl (Nat.not_le.mpr hbl) hi_ dL_law_1241 ?_
        obtain ⟨⟨q141, ρ142_⟩, hq_, hf⟩ := ot_b hf
        replace hf := ot_l (y := q141) hf rfl
        obtain ⟨ρ142, e_ρ142⟩ : ∃ z : SL, z = (ρ142_, ρ.2) := ⟨_, rfl⟩
        replace hf := ot_l (y := ρ142) hf e_ρ142
        refine gs_C (rest := []) X hK (fun q h => h) cwL_161 (xc_hh_times hq_) rfl ⟨rfl, rfl, Nat.le_of_ble_eq_true rfl, Nat.le_of_ble_eq_true rfl⟩ ⟨Nat.le_refl _, Nat.le_refl _⟩ rfl (Nat.le_of_ble_eq_true rfl) dL_law_1242 ?_
        rw [← e_ρ142]
        refine gs_aload_n X dL_law_1245 rfl 2 rfl ?_
        refine gs_aload_n X dL_law_1246 rfl 0 rfl ?_
        refine gs_iload_n X dL_law_1247 rfl 3 rfl ?_
        refine gs_iconst (v := 1) X dL_law_1248 (by decide) ?_
        refine gs_iadd X dL_law_1249 ?_
        have hi_ := oc_1 hf
        replace hf := oc_2 hf
        refine gs_sld X hX hbl (Nat.not_le.mpr hbl) hi_ dL_law_1250 ?_
        refine gs_aload_n X dL_law_1251 rfl 0 rfl ?_
        refine gs_iload_n X dL_law_1252 rfl 3 rfl ?_
        refine gs_iconst (v := 2) X dL_law_1253 (by decide) ?_
        refine gs_iadd X dL_law_1254 ?_
        have hi_ := oc_1 hf
        replace hf := oc_2 hf
        refine gs_sld X hX hbl (Nat.not_le.mpr hbl) hi_ dL_law_1255 ?_
        obtain ⟨⟨q143, ρ144_⟩, hq_, hf⟩ := ot_b hf
        replace hf := ot_l (y := q143) hf rfl
        obtain ⟨ρ144, e_ρ144⟩ : ∃ z : SL, z = (ρ142.1, ρ144_) := ⟨_, rfl⟩
        replace hf := ot_l (y := ρ144) hf e_ρ144
        refine gs_M (rest := [.int q141]) X hKm (fun q h => h) cwL_164 (xm_times hq_) rfl ⟨rfl, rfl, Nat.le_of_ble_eq_true rfl, Nat.le_of_ble_eq_true rfl⟩ ⟨Nat.le_refl _, Nat.le_refl _⟩ rfl (Nat.le_of_ble_eq_true rfl) dL_law_1256 ?_
        rw [← e_ρ144]
        refine gs_icmp_eq X 1782 dL_law_1259 (by decide) (fun hc_ => ?_) (fun hc_ => ?_)
        · replace hf := ot_t hf hc_
          refine gs_sub [0, 1, 2, 3] rfl ?_
          exact wl_law_b1782 X hK hKm hX hbl ih _ _ hf
        · replace hf := ot_f hf hc_
          refine gs_iconst (v := 0) X dL_law_1262 (by decide) ?_
          cases hf
      replace hf := ot_f hf hs35
      by_cases hs36 : ((xs (Int32.toNatClampNeg x3)) &&& (63 : Int32)) = 36
      · replace hf := ot_t hf hs36
        refine gs_tin X (36) 1264 dL_law_32 (by rw [hs36]; decide) (by decide) (by decide) rfl (by decide) ?_
        refine gs_aload_n X dL_law_1264 rfl 1 rfl ?_
        refine gs_aload_n X dL_law_1265 rfl 0 rfl ?_
        refine gs_iload_n X dL_law_1266 rfl 3 rfl ?_
        refine gs_iconst (v := 1) X dL_law_1267 (by decide) ?_
        refine gs_iadd X dL_law_1268 ?_
        have hi_ := oc_1 hf
        replace hf := oc_2 hf
        refine gs_sld X hX hbl (Nat.not_le.mpr hbl) hi_ dL_law_1269 ?_
        obtain ⟨⟨q145, ρ146_⟩, hq_, hf⟩ := ot_b hf
        replace hf := ot_l (y := q145) hf rfl
        obtain ⟨ρ146, e_ρ146⟩ : ∃ z : SL, z = (ρ146_, ρ.2) := ⟨_, rfl⟩
        replace hf := ot_l (y := ρ146) hf e_ρ146
        refine gs_C (rest := []) X hK (fun q h => h) cwL_165 (xc_hh_prove hq_) rfl ⟨rfl, rfl, Nat.le_of_ble_eq_true rfl, Nat.le_of_ble_eq_true rfl⟩ ⟨Nat.le_refl _, Nat.le_refl _⟩ rfl (Nat.le_of_ble_eq_true rfl) dL_law_1270 ?_
        rw [← e_ρ146]
        refine gs_aload_n X dL_law_1273 rfl 2 rfl ?_
        refine gs_aload_n X dL_law_1274 rfl 0 rfl ?_
        refine gs_iload_n X dL_law_1275 rfl 3 rfl ?_
        refine gs_iconst (v := 1) X dL_law_1276 (by decide) ?_
        refine gs_iadd X dL_law_1277 ?_
        have hi_ := oc_1 hf
        replace hf := oc_2 hf
        refine gs_sld X hX hbl (Nat.not_le.mpr hbl) hi_ dL_law_1278 ?_
        obtain ⟨⟨q147, ρ148_⟩, hq_, hf⟩ := ot_b hf
        replace hf := ot_l (y := q147) hf rfl
        obtain ⟨ρ148, e_ρ148⟩ : ∃ z : SL, z = (ρ146.1, ρ148_) := ⟨_, rfl⟩
        replace hf := ot_l (y := ρ148) hf e_ρ148
        refine gs_M (rest := [.int q145]) X hKm (fun q h => h) cwL_168 (xm_prove hq_) rfl ⟨rfl, rfl, Nat.le_of_ble_eq_true rfl, Nat.le_of_ble_eq_true rfl⟩ ⟨Nat.le_refl _, Nat.le_refl _⟩ rfl (Nat.le_of_ble_eq_true rfl) dL_law_1279 ?_
        rw [← e_ρ148]
        refine gs_icmp_eq X 1782 dL_law_1282 (by decide) (fun hc_ => ?_) (fun hc_ => ?_)
        · replace hf := ot_t hf hc_
          refine gs_sub [0, 1, 2, 3] rfl ?_
          exact wl_law_b1782 X hK hKm hX hbl ih _ _ hf
        · replace hf := ot_f hf hc_
          refine gs_iconst (v := 0) X dL_law_1285 (by decide) ?_
          cases hf
      replace hf := ot_f hf hs36
      by_cases hs37 : ((xs (Int32.toNatClampNeg x3)) &&& (63 : Int32)) = 37
      · replace hf := ot_t hf hs37
        refine gs_tin X (37) 1287 dL_law_32 (by rw [hs37]; decide) (by decide) (by decide) rfl (by decide) ?_
        refine gs_aload_n X dL_law_1287 rfl 1 rfl ?_
        refine gs_aload_n X dL_law_1288 rfl 0 rfl ?_
        refine gs_iload_n X dL_law_1289 rfl 3 rfl ?_
        refine gs_iconst (v := 1) X dL_law_1290 (by decide) ?_
        refine gs_iadd X dL_law_1291 ?_
        have hi_ := oc_1 hf
        replace hf := oc_2 hf
        refine gs_sld X hX hbl (Nat.not_le.mpr hbl) hi_ dL_law_1292 ?_
        refine gs_aload_n X dL_law_1293 rfl 0 rfl ?_
        refine gs_iload_n X dL_law_1294 rfl 3 rfl ?_
        refine gs_iconst (v := 2) X dL_law_1295 (by decide) ?_
        refine gs_iadd X dL_law_1296 ?_
        have hi_ := oc_1 hf
        replace hf := oc_2 hf
        refine gs_sld X hX hbl (Nat.not_le.mpr hbl) hi_ dL_law_1297 ?_
        obtain ⟨q149, hq_, hf⟩ := ot_b hf
        refine gs_C (rest := []) X hK (fun q h => h) cwL_169 (xc_hh_row hq_) rfl ⟨rfl, rfl, Nat.le_of_ble_eq_true rfl, Nat.le_of_ble_eq_true rfl⟩ ⟨Nat.le_refl _, Nat.le_refl _⟩ rfl (Nat.le_of_ble_eq_true rfl) dL_law_1298 ?_
        refine gs_aload_n X dL_law_1301 rfl 2 rfl ?_
        refine gs_aload_n X dL_law_1302 rfl 0 rfl ?_
        refine gs_iload_n X dL_law_1303 rfl 3 rfl ?_
        refine gs_iconst (v := 1) X dL_law_1304 (by decide) ?_
        refine gs_iadd X dL_law_1305 ?_
        have hi_ := oc_1 hf
        replace hf := oc_2 hf
        refine gs_sld X hX hbl (Nat.not_le.mpr hbl) hi_ dL_law_1306 ?_
        refine gs_aload_n X dL_law_1307 rfl 0 rfl ?_
        refine gs_iload_n X dL_law_1308 rfl 3 rfl ?_
        refine gs_iconst (v := 2) X dL_law_1309 (by decide) ?_
        refine gs_iadd X dL_law_1310 ?_
        have hi_ := oc_1 hf
        replace hf := oc_2 hf
        refine gs_sld X hX hbl (Nat.not_le.mpr hbl) hi_ dL_law_1311 ?_
        obtain ⟨q151, hq_, hf⟩ := ot_b hf
        refine gs_M (rest := [.int q149]) X hKm (fun q h => h) cwL_172 (xm_row hq_) rfl ⟨rfl, rfl, Nat.le_of_ble_eq_true rfl, Nat.le_of_ble_eq_true rfl⟩ ⟨Nat.le_refl _, Nat.le_refl _⟩ rfl (Nat.le_of_ble_eq_true rfl) dL_law_1312 ?_
        refine gs_icmp_eq X 1782 dL_law_1315 (by decide) (fun hc_ => ?_) (fun hc_ => ?_)
        · replace hf := ot_t hf hc_
          refine gs_sub [0, 1, 2, 3] rfl ?_
          exact wl_law_b1782 X hK hKm hX hbl ih _ _ hf
        · replace hf := ot_f hf hc_
          refine gs_iconst (v := 0) X dL_law_1318 (by decide) ?_
          cases hf
      replace hf := ot_f hf hs37
      by_cases hs38 : ((xs (Int32.toNatClampNeg x3)) &&& (63 : Int32)) = 38
      · replace hf := ot_t hf hs38
        refine gs_tin X (38) 1320 dL_law_32 (by rw [hs38]; decide) (by decide) (by decide) rfl (by decide) ?_
        refine gs_aload_n X dL_law_1320 rfl 1 rfl ?_
        refine gs_aload_n X dL_law_1321 rfl 0 rfl ?_
        refine gs_iload_n X dL_law_1322 rfl 3 rfl ?_
        refine gs_iconst (v := 1) X dL_law_1323 (by decide) ?_
        refine gs_iadd X dL_law_1324 ?_
        have hi_ := oc_1 hf
        replace hf := oc_2 hf
        refine gs_sld X hX hbl (Nat.not_le.mpr hbl) hi_ dL_law_1325 ?_
        refine gs_aload_n X dL_law_1326 rfl 0 rfl ?_
        refine gs_iload_n X dL_law_1327 rfl 3 rfl ?_
        refine gs_iconst (v := 2) X dL_law_1328 (by decide) ?_
        refine gs_iadd X dL_law_1329 ?_
        have hi_ := oc_1 hf
        replace hf := oc_2 hf
        refine gs_sld X hX hbl (Nat.not_le.mpr hbl) hi_ dL_law_1330 ?_
        refine gs_aload_n X dL_law_1331 rfl 0 rfl ?_
        refine gs_iload_n X dL_law_1332 rfl 3 rfl ?_
        refine gs_iconst (v := 3) X dL_law_1333 (by decide) ?_
        refine gs_iadd X dL_law_1334 ?_
        have hi_ := oc_1 hf
        replace hf := oc_2 hf
        refine gs_sld X hX hbl (Nat.not_le.mpr hbl) hi_ dL_law_1335 ?_
        obtain ⟨⟨q153, ρ154_⟩, hq_, hf⟩ := ot_b hf
        replace hf := ot_l (y := q153) hf rfl
        obtain ⟨ρ154, e_ρ154⟩ : ∃ z : SL, z = (ρ154_, ρ.2) := ⟨_, rfl⟩
        replace hf := ot_l (y := ρ154) hf e_ρ154
        refine gs_C (rest := []) X hK (fun q h => h) cwL_173 (xc_hh_alterRow hq_) rfl ⟨rfl, rfl, Nat.le_of_ble_eq_true rfl, Nat.le_of_ble_eq_true rfl⟩ ⟨Nat.le_refl _, Nat.le_refl _⟩ rfl (Nat.le_of_ble_eq_true rfl) dL_law_1336 ?_
        rw [← e_ρ154]
        refine gs_aload_n X dL_law_1339 rfl 2 rfl ?_
        refine gs_aload_n X dL_law_1340 rfl 0 rfl ?_
        refine gs_iload_n X dL_law_1341 rfl 3 rfl ?_
        refine gs_iconst (v := 1) X dL_law_1342 (by decide) ?_
        refine gs_iadd X dL_law_1343 ?_
        have hi_ := oc_1 hf
        replace hf := oc_2 hf
        refine gs_sld X hX hbl (Nat.not_le.mpr hbl) hi_ dL_law_1344 ?_
        refine gs_aload_n X dL_law_1345 rfl 0 rfl ?_
        refine gs_iload_n X dL_law_1346 rfl 3 rfl ?_
        refine gs_iconst (v := 2) X dL_law_1347 (by decide) ?_
        refine gs_iadd X dL_law_1348 ?_
        have hi_ := oc_1 hf
        replace hf := oc_2 hf
        refine gs_sld X hX hbl (Nat.not_le.mpr hbl) hi_ dL_law_1349 ?_
        refine gs_aload_n X dL_law_1350 rfl 0 rfl ?_
        refine gs_iload_n X dL_law_1351 rfl 3 rfl ?_
        refine gs_iconst (v := 3) X dL_law_1352 (by decide) ?_
        refine gs_iadd X dL_law_1353 ?_
        have hi_ := oc_1 hf
        replace hf := oc_2 hf
        refine gs_sld X hX hbl (Nat.not_le.mpr hbl) hi_ dL_law_1354 ?_
        obtain ⟨⟨q155, ρ156_⟩, hq_, hf⟩ := ot_b hf
        replace hf := ot_l (y := q155) hf rfl
        obtain ⟨ρ156, e_ρ156⟩ : ∃ z : SL, z = (ρ154.1, ρ156_) := ⟨_, rfl⟩
        replace hf := ot_l (y := ρ156) hf e_ρ156
        refine gs_M (rest := [.int q153]) X hKm (fun q h => h) cwL_176 (xm_alterRow hq_) rfl ⟨rfl, rfl, Nat.le_of_ble_eq_true rfl, Nat.le_of_ble_eq_true rfl⟩ ⟨Nat.le_refl _, Nat.le_refl _⟩ rfl (Nat.le_of_ble_eq_true rfl) dL_law_1355 ?_
        rw [← e_ρ156]
        refine gs_icmp_eq X 1782 dL_law_1358 (by decide) (fun hc_ => ?_) (fun hc_ => ?_)
        · replace hf := ot_t hf hc_
          refine gs_sub [0, 1, 2, 3] rfl ?_
          exact wl_law_b1782 X hK hKm hX hbl ih _ _ hf
        · replace hf := ot_f hf hc_
          refine gs_iconst (v := 0) X dL_law_1361 (by decide) ?_
          cases hf
      replace hf := ot_f hf hs38
      by_cases hs39 : ((xs (Int32.toNatClampNeg x3)) &&& (63 : Int32)) = 39
      · replace hf := ot_t hf hs39
        refine gs_tin X (39) 1363 dL_law_32 (by rw [hs39]; decide) (by decide) (by decide) rfl (by decide) ?_
        refine gs_aload_n X dL_law_1363 rfl 1 rfl ?_
        obtain ⟨⟨q157, ρ158_⟩, hq_, hf⟩ := ot_b hf
        replace hf := ot_l (y := q157) hf rfl
        obtain ⟨ρ158, e_ρ158⟩ : ∃ z : SL, z = (ρ158_, ρ.2) := ⟨_, rfl⟩
        replace hf := ot_l (y := ρ158) hf e_ρ158
        refine gs_C (rest := []) X hK (fun q h => h) cwL_177 (xc_hh_judge hq_) rfl ⟨rfl, rfl, Nat.le_of_ble_eq_true rfl, Nat.le_of_ble_eq_true rfl⟩ ⟨Nat.le_refl _, Nat.le_refl _⟩ rfl (Nat.le_of_ble_eq_true rfl) dL_law_1364 ?_
        rw [← e_ρ158]
        refine gs_aload_n X dL_law_1367 rfl 2 rfl ?_
        obtain ⟨⟨q159, ρ160_⟩, hq_, hf⟩ := ot_b hf
        replace hf := ot_l (y := q159) hf rfl
        obtain ⟨ρ160, e_ρ160⟩ : ∃ z : SL, z = (ρ158.1, ρ160_) := ⟨_, rfl⟩
        replace hf := ot_l (y := ρ160) hf e_ρ160
        refine gs_M (rest := [.int q157]) X hKm (fun q h => h) cwL_180 (xm_judge hq_) rfl ⟨rfl, rfl, Nat.le_of_ble_eq_true rfl, Nat.le_of_ble_eq_true rfl⟩ ⟨Nat.le_refl _, Nat.le_refl _⟩ rfl (Nat.le_of_ble_eq_true rfl) dL_law_1368 ?_
        rw [← e_ρ160]
        refine gs_icmp_eq X 1782 dL_law_1371 (by decide) (fun hc_ => ?_) (fun hc_ => ?_)
        · replace hf := ot_t hf hc_
          refine gs_sub [0, 1, 2, 3] rfl ?_
          exact wl_law_b1782 X hK hKm hX hbl ih _ _ hf
        · replace hf := ot_f hf hc_
          refine gs_iconst (v := 0) X dL_law_1374 (by decide) ?_
          cases hf
      replace hf := ot_f hf hs39
      by_cases hs40 : ((xs (Int32.toNatClampNeg x3)) &&& (63 : Int32)) = 40
      · replace hf := ot_t hf hs40
        refine gs_tin X (40) 1376 dL_law_32 (by rw [hs40]; decide) (by decide) (by decide) rfl (by decide) ?_
        refine gs_aload_n X dL_law_1376 rfl 1 rfl ?_
        refine gs_aload_n X dL_law_1377 rfl 0 rfl ?_
        refine gs_iload_n X dL_law_1378 rfl 3 rfl ?_
        refine gs_iconst (v := 1) X dL_law_1379 (by decide) ?_
        refine gs_iadd X dL_law_1380 ?_
        have hi_ := oc_1 hf
        replace hf := oc_2 hf
        refine gs_sld X hX hbl (Nat.not_le.mpr hbl) hi_ dL_law_1381 ?_
        refine gs_aload_n X dL_law_1382 rfl 0 rfl ?_
        refine gs_iload_n X dL_law_1383 rfl 3 rfl ?_
        refine gs_iconst (v := 2) X dL_law_1384 (by decide) ?_
        refine gs_iadd X dL_law_1385 ?_
        have hi_ := oc_1 hf
        replace hf := oc_2 hf
        refine gs_sld X hX hbl (Nat.not_le.mpr hbl) hi_ dL_law_1386 ?_
        refine gs_aload_n X dL_law_1387 rfl 0 rfl ?_
        refine gs_iload_n X dL_law_1388 rfl 3 rfl ?_
        refine gs_iconst (v := 3) X dL_law_1389 (by decide) ?_
        refine gs_iadd X dL_law_1390 ?_
        have hi_ := oc_1 hf
        replace hf := oc_2 hf
        refine gs_sld X hX hbl (Nat.not_le.mpr hbl) hi_ dL_law_1391 ?_
        obtain ⟨⟨q161, ρ162_⟩, hq_, hf⟩ := ot_b hf
        replace hf := ot_l (y := q161) hf rfl
        obtain ⟨ρ162, e_ρ162⟩ : ∃ z : SL, z = (ρ162_, ρ.2) := ⟨_, rfl⟩
        replace hf := ot_l (y := ρ162) hf e_ρ162
        refine gs_C (rest := []) X hK (fun q h => h) cwL_181 (xc_hh_sheet hq_) rfl ⟨rfl, rfl, Nat.le_of_ble_eq_true rfl, Nat.le_of_ble_eq_true rfl⟩ ⟨Nat.le_refl _, Nat.le_refl _⟩ rfl (Nat.le_of_ble_eq_true rfl) dL_law_1392 ?_
        rw [← e_ρ162]
        refine gs_aload_n X dL_law_1395 rfl 2 rfl ?_
        refine gs_aload_n X dL_law_1396 rfl 0 rfl ?_
        refine gs_iload_n X dL_law_1397 rfl 3 rfl ?_
        refine gs_iconst (v := 1) X dL_law_1398 (by decide) ?_
        refine gs_iadd X dL_law_1399 ?_
        have hi_ := oc_1 hf
        replace hf := oc_2 hf
        refine gs_sld X hX hbl (Nat.not_le.mpr hbl) hi_ dL_law_1400 ?_
        refine gs_aload_n X dL_law_1401 rfl 0 rfl ?_
        refine gs_iload_n X dL_law_1402 rfl 3 rfl ?_
        refine gs_iconst (v := 2) X dL_law_1403 (by decide) ?_
        refine gs_iadd X dL_law_1404 ?_
        have hi_ := oc_1 hf
        replace hf := oc_2 hf
        refine gs_sld X hX hbl (Nat.not_le.mpr hbl) hi_ dL_law_1405 ?_
        refine gs_aload_n X dL_law_1406 rfl 0 rfl ?_
        refine gs_iload_n X dL_law_1407 rfl 3 rfl ?_
        refine gs_iconst (v := 3) X dL_law_1408 (by decide) ?_
        refine gs_iadd X dL_law_1409 ?_
        have hi_ := oc_1 hf
        replace hf := oc_2 hf
        refine gs_sld X hX hbl (Nat.not_le.mpr hbl) hi_ dL_law_1410 ?_
        obtain ⟨⟨q163, ρ164_⟩, hq_, hf⟩ := ot_b hf
        replace hf := ot_l (y := q163) hf rfl
        obtain ⟨ρ164, e_ρ164⟩ : ∃ z : SL, z = (ρ162.1, ρ164_) := ⟨_, rfl⟩
        replace hf := ot_l (y := ρ164) hf e_ρ164
        refine gs_M (rest := [.int q161]) X hKm (fun q h => h) cwL_184 (xm_sheet hq_) rfl ⟨rfl, rfl, Nat.le_of_ble_eq_true rfl, Nat.le_of_ble_eq_true rfl⟩ ⟨Nat.le_refl _, Nat.le_refl _⟩ rfl (Nat.le_of_ble_eq_true rfl) dL_law_1411 ?_
        rw [← e_ρ164]
        refine gs_icmp_eq X 1782 dL_law_1414 (by decide) (fun hc_ => ?_) (fun hc_ => ?_)
        · replace hf := ot_t hf hc_
          refine gs_sub [0, 1, 2, 3] rfl ?_
          exact wl_law_b1782 X hK hKm hX hbl ih _ _ hf
        · replace hf := ot_f hf hc_
          refine gs_iconst (v := 0) X dL_law_1417 (by decide) ?_
          cases hf
      replace hf := ot_f hf hs40
      by_cases hs41 : ((xs (Int32.toNatClampNeg x3)) &&& (63 : Int32)) = 41
      · replace hf := ot_t hf hs41
        refine gs_tin X (41) 1419 dL_law_32 (by rw [hs41]; decide) (by decide) (by decide) rfl (by decide) ?_
        refine gs_aload_n X dL_law_1419 rfl 1 rfl ?_
        refine gs_aload_n X dL_law_1420 rfl 0 rfl ?_
        refine gs_iload_n X dL_law_1421 rfl 3 rfl ?_
        refine gs_iconst (v := 1) X dL_law_1422 (by decide) ?_
        refine gs_iadd X dL_law_1423 ?_
        have hi_ := oc_1 hf
        replace hf := oc_2 hf
        refine gs_sld X hX hbl (Nat.not_le.mpr hbl) hi_ dL_law_1424 ?_
        refine gs_aload_n X dL_law_1425 rfl 0 rfl ?_
        refine gs_iload_n X dL_law_1426 rfl 3 rfl ?_
        refine gs_iconst (v := 2) X dL_law_1427 (by decide) ?_
        refine gs_iadd X dL_law_1428 ?_
        have hi_ := oc_1 hf
        replace hf := oc_2 hf
        refine gs_sld X hX hbl (Nat.not_le.mpr hbl) hi_ dL_law_1429 ?_
        refine gs_aload_n X dL_law_1430 rfl 0 rfl ?_
        refine gs_iload_n X dL_law_1431 rfl 3 rfl ?_
        refine gs_iconst (v := 3) X dL_law_1432 (by decide) ?_
        refine gs_iadd X dL_law_1433 ?_
        have hi_ := oc_1 hf
        replace hf := oc_2 hf
        refine gs_sld X hX hbl (Nat.not_le.mpr hbl) hi_ dL_law_1434 ?_
        obtain ⟨⟨q165, ρ166_⟩, hq_, hf⟩ := ot_b hf
        replace hf := ot_l (y := q165) hf rfl
        obtain ⟨ρ166, e_ρ166⟩ : ∃ z : SL, z = (ρ166_, ρ.2) := ⟨_, rfl⟩
        replace hf := ot_l (y := ρ166) hf e_ρ166
        refine gs_C (rest := []) X hK (fun q h => h) cwL_185 (xc_hh_write hq_) rfl ⟨rfl, rfl, Nat.le_of_ble_eq_true rfl, Nat.le_of_ble_eq_true rfl⟩ ⟨Nat.le_refl _, Nat.le_refl _⟩ rfl (Nat.le_of_ble_eq_true rfl) dL_law_1435 ?_
        rw [← e_ρ166]
        refine gs_aload_n X dL_law_1438 rfl 2 rfl ?_
        refine gs_aload_n X dL_law_1439 rfl 0 rfl ?_
        refine gs_iload_n X dL_law_1440 rfl 3 rfl ?_
        refine gs_iconst (v := 1) X dL_law_1441 (by decide) ?_
        refine gs_iadd X dL_law_1442 ?_
        have hi_ := oc_1 hf
        replace hf := oc_2 hf
        refine gs_sld X hX hbl (Nat.not_le.mpr hbl) hi_ dL_law_1443 ?_
        refine gs_aload_n X dL_law_1444 rfl 0 rfl ?_
        refine gs_iload_n X dL_law_1445 rfl 3 rfl ?_
        refine gs_iconst (v := 2) X dL_law_1446 (by decide) ?_
        refine gs_iadd X dL_law_1447 ?_
        have hi_ := oc_1 hf
        replace hf := oc_2 hf
        refine gs_sld X hX hbl (Nat.not_le.mpr hbl) hi_ dL_law_1448 ?_
        refine gs_aload_n X dL_law_1449 rfl 0 rfl ?_
        refine gs_iload_n X dL_law_1450 rfl 3 rfl ?_
        refine gs_iconst (v := 3) X dL_law_1451 (by decide) ?_
        refine gs_iadd X dL_law_1452 ?_
        have hi_ := oc_1 hf
        replace hf := oc_2 hf
        refine gs_sld X hX hbl (Nat.not_le.mpr hbl) hi_ dL_law_1453 ?_
        obtain ⟨⟨q167, ρ168_⟩, hq_, hf⟩ := ot_b hf
        replace hf := ot_l (y := q167) hf rfl
        obtain ⟨ρ168, e_ρ168⟩ : ∃ z : SL, z = (ρ166.1, ρ168_) := ⟨_, rfl⟩
        replace hf := ot_l (y := ρ168) hf e_ρ168
        refine gs_M (rest := [.int q165]) X hKm (fun q h => h) cwL_188 (xm_write hq_) rfl ⟨rfl, rfl, Nat.le_of_ble_eq_true rfl, Nat.le_of_ble_eq_true rfl⟩ ⟨Nat.le_refl _, Nat.le_refl _⟩ rfl (Nat.le_of_ble_eq_true rfl) dL_law_1454 ?_
        rw [← e_ρ168]
        refine gs_icmp_eq X 1782 dL_law_1457 (by decide) (fun hc_ => ?_) (fun hc_ => ?_)
        · replace hf := ot_t hf hc_
          refine gs_sub [0, 1, 2, 3] rfl ?_
          exact wl_law_b1782 X hK hKm hX hbl ih _ _ hf
        · replace hf := ot_f hf hc_
          refine gs_iconst (v := 0) X dL_law_1460 (by decide) ?_
          cases hf
      replace hf := ot_f hf hs41
      by_cases hs42 : ((xs (Int32.toNatClampNeg x3)) &&& (63 : Int32)) = 42
      · replace hf := ot_t hf hs42
        refine gs_tin X (42) 1462 dL_law_32 (by rw [hs42]; decide) (by decide) (by decide) rfl (by decide) ?_
        refine gs_aload_n X dL_law_1462 rfl 1 rfl ?_
        refine gs_aload_n X dL_law_1463 rfl 0 rfl ?_
        refine gs_iload_n X dL_law_1464 rfl 3 rfl ?_
        refine gs_iconst (v := 1) X dL_law_1465 (by decide) ?_
        refine gs_iadd X dL_law_1466 ?_
        have hi_ := oc_1 hf
        replace hf := oc_2 hf
        refine gs_sld X hX hbl (Nat.not_le.mpr hbl) hi_ dL_law_1467 ?_
        refine gs_aload_n X dL_law_1468 rfl 0 rfl ?_
        refine gs_iload_n X dL_law_1469 rfl 3 rfl ?_
        refine gs_iconst (v := 2) X dL_law_1470 (by decide) ?_
        refine gs_iadd X dL_law_1471 ?_
        have hi_ := oc_1 hf
        replace hf := oc_2 hf
        refine gs_sld X hX hbl (Nat.not_le.mpr hbl) hi_ dL_law_1472 ?_
        refine gs_aload_n X dL_law_1473 rfl 0 rfl ?_
        refine gs_iload_n X dL_law_1474 rfl 3 rfl ?_
        refine gs_iconst (v := 3) X dL_law_1475 (by decide) ?_
        refine gs_iadd X dL_law_1476 ?_
        have hi_ := oc_1 hf
        replace hf := oc_2 hf
        refine gs_sld X hX hbl (Nat.not_le.mpr hbl) hi_ dL_law_1477 ?_
        obtain ⟨q169, hq_, hf⟩ := ot_b hf
        refine gs_C (rest := []) X hK (fun q h => h) cwL_189 (xc_hh_item hq_) rfl ⟨rfl, rfl, Nat.le_of_ble_eq_true rfl, Nat.le_of_ble_eq_true rfl⟩ ⟨Nat.le_refl _, Nat.le_refl _⟩ rfl (Nat.le_of_ble_eq_true rfl) dL_law_1478 ?_
        refine gs_aload_n X dL_law_1481 rfl 2 rfl ?_
        refine gs_aload_n X dL_law_1482 rfl 0 rfl ?_
        refine gs_iload_n X dL_law_1483 rfl 3 rfl ?_
        refine gs_iconst (v := 1) X dL_law_1484 (by decide) ?_
        refine gs_iadd X dL_law_1485 ?_
        have hi_ := oc_1 hf
        replace hf := oc_2 hf
        refine gs_sld X hX hbl (Nat.not_le.mpr hbl) hi_ dL_law_1486 ?_
        refine gs_aload_n X dL_law_1487 rfl 0 rfl ?_
        refine gs_iload_n X dL_law_1488 rfl 3 rfl ?_
        refine gs_iconst (v := 2) X dL_law_1489 (by decide) ?_
        refine gs_iadd X dL_law_1490 ?_
        have hi_ := oc_1 hf
        replace hf := oc_2 hf
        refine gs_sld X hX hbl (Nat.not_le.mpr hbl) hi_ dL_law_1491 ?_
        refine gs_aload_n X dL_law_1492 rfl 0 rfl ?_
        refine gs_iload_n X dL_law_1493 rfl 3 rfl ?_
        refine gs_iconst (v := 3) X dL_law_1494 (by decide) ?_
        refine gs_iadd X dL_law_1495 ?_
        have hi_ := oc_1 hf
        replace hf := oc_2 hf
        refine gs_sld X hX hbl (Nat.not_le.mpr hbl) hi_ dL_law_1496 ?_
        obtain ⟨q171, hq_, hf⟩ := ot_b hf
        refine gs_M (rest := [.int q169]) X hKm (fun q h => h) cwL_192 (xm_item hq_) rfl ⟨rfl, rfl, Nat.le_of_ble_eq_true rfl, Nat.le_of_ble_eq_true rfl⟩ ⟨Nat.le_refl _, Nat.le_refl _⟩ rfl (Nat.le_of_ble_eq_true rfl) dL_law_1497 ?_
        refine gs_icmp_eq X 1782 dL_law_1500 (by decide) (fun hc_ => ?_) (fun hc_ => ?_)
        · replace hf := ot_t hf hc_
          refine gs_sub [0, 1, 2, 3] rfl ?_
          exact wl_law_b1782 X hK hKm hX hbl ih _ _ hf
        · replace hf := ot_f hf hc_
          refine gs_iconst (v := 0) X dL_law_1503 (by decide) ?_
          cases hf
      replace hf := ot_f hf hs42
      by_cases hs43 : ((xs (Int32.toNatClampNeg x3)) &&& (63 : Int32)) = 43
      · replace hf := ot_t hf hs43
        refine gs_tin X (43) 1505 dL_law_32 (by rw [hs43]; decide) (by decide) (by decide) rfl (by decide) ?_
        refine gs_aload_n X dL_law_1505 rfl 1 rfl ?_
        refine gs_aload_n X dL_law_1506 rfl 0 rfl ?_
        refine gs_iload_n X dL_law_1507 rfl 3 rfl ?_
        refine gs_iconst (v := 1) X dL_law_1508 (by decide) ?_
        refine gs_iadd X dL_law_1509 ?_
        have hi_ := oc_1 hf
        replace hf := oc_2 hf
        refine gs_sld X hX hbl (Nat.not_le.mpr hbl) hi_ dL_law_1510 ?_
        refine gs_aload_n X dL_law_1511 rfl 0 rfl ?_
        refine gs_iload_n X dL_law_1512 rfl 3 rfl ?_
        refine gs_iconst (v := 2) X dL_law_1513 (by decide) ?_
        refine gs_iadd X dL_law_1514 ?_
        have hi_ := oc_1 hf
        replace hf := oc_2 hf
        refine gs_sld X hX hbl (Nat.not_le.mpr hbl) hi_ dL_law_1515 ?_
        refine gs_aload_n X dL_law_1516 rfl 0 rfl ?_
        refine gs_iload_n X dL_law_1517 rfl 3 rfl ?_
        refine gs_iconst (v := 3) X dL_law_1518 (by decide) ?_
        refine gs_iadd X dL_law_1519 ?_
        have hi_ := oc_1 hf
        replace hf := oc_2 hf
        refine gs_sld X hX hbl (Nat.not_le.mpr hbl) hi_ dL_law_1520 ?_
        obtain ⟨⟨q173, ρ174_⟩, hq_, hf⟩ := ot_b hf
        replace hf := ot_l (y := q173) hf rfl
        obtain ⟨ρ174, e_ρ174⟩ : ∃ z : SL, z = (ρ174_, ρ.2) := ⟨_, rfl⟩
        replace hf := ot_l (y := ρ174) hf e_ρ174
        refine gs_C (rest := []) X hK (fun q h => h) cwL_193 (xc_hh_goAll hq_) rfl ⟨rfl, rfl, Nat.le_of_ble_eq_true rfl, Nat.le_of_ble_eq_true rfl⟩ ⟨Nat.le_refl _, Nat.le_refl _⟩ rfl (Nat.le_of_ble_eq_true rfl) dL_law_1521 ?_
        rw [← e_ρ174]
        refine gs_aload_n X dL_law_1524 rfl 2 rfl ?_
        refine gs_aload_n X dL_law_1525 rfl 0 rfl ?_
        refine gs_iload_n X dL_law_1526 rfl 3 rfl ?_
        refine gs_iconst (v := 1) X dL_law_1527 (by decide) ?_
        refine gs_iadd X dL_law_1528 ?_
        have hi_ := oc_1 hf
        replace hf := oc_2 hf
        refine gs_sld X hX hbl (Nat.not_le.mpr hbl) hi_ dL_law_1529 ?_
        refine gs_aload_n X dL_law_1530 rfl 0 rfl ?_
        refine gs_iload_n X dL_law_1531 rfl 3 rfl ?_
        refine gs_iconst (v := 2) X dL_law_1532 (by decide) ?_
        refine gs_iadd X dL_law_1533 ?_
        have hi_ := oc_1 hf
        replace hf := oc_2 hf
        refine gs_sld X hX hbl (Nat.not_le.mpr hbl) hi_ dL_law_1534 ?_
        refine gs_aload_n X dL_law_1535 rfl 0 rfl ?_
        refine gs_iload_n X dL_law_1536 rfl 3 rfl ?_
        refine gs_iconst (v := 3) X dL_law_1537 (by decide) ?_
        refine gs_iadd X dL_law_1538 ?_
        have hi_ := oc_1 hf
        replace hf := oc_2 hf
        refine gs_sld X hX hbl (Nat.not_le.mpr hbl) hi_ dL_law_1539 ?_
        obtain ⟨⟨q175, ρ176_⟩, hq_, hf⟩ := ot_b hf
        replace hf := ot_l (y := q175) hf rfl
        obtain ⟨ρ176, e_ρ176⟩ : ∃ z : SL, z = (ρ174.1, ρ176_) := ⟨_, rfl⟩
        replace hf := ot_l (y := ρ176) hf e_ρ176
        refine gs_M (rest := [.int q173]) X hKm (fun q h => h) cwL_196 (xm_goAll hq_) rfl ⟨rfl, rfl, Nat.le_of_ble_eq_true rfl, Nat.le_of_ble_eq_true rfl⟩ ⟨Nat.le_refl _, Nat.le_refl _⟩ rfl (Nat.le_of_ble_eq_true rfl) dL_law_1540 ?_
        rw [← e_ρ176]
        refine gs_icmp_eq X 1782 dL_law_1543 (by decide) (fun hc_ => ?_) (fun hc_ => ?_)
        · replace hf := ot_t hf hc_
          refine gs_sub [0, 1, 2, 3] rfl ?_
          exact wl_law_b1782 X hK hKm hX hbl ih _ _ hf
        · replace hf := ot_f hf hc_
          refine gs_iconst (v := 0) X dL_law_1546 (by decide) ?_
          cases hf
      replace hf := ot_f hf hs43
      by_cases hs44 : ((xs (Int32.toNatClampNeg x3)) &&& (63 : Int32)) = 44
      · replace hf := ot_t hf hs44
        refine gs_tin X (44) 1548 dL_law_32 (by rw [hs44]; decide) (by decide) (by decide) rfl (by decide) ?_
        refine gs_aload_n X dL_law_1548 rfl 1 rfl ?_
        refine gs_aload_n X dL_law_1549 rfl 0 rfl ?_
        refine gs_iload_n X dL_law_1550 rfl 3 rfl ?_
        refine gs_iconst (v := 1) X dL_law_1551 (by decide) ?_
        refine gs_iadd X dL_law_1552 ?_
        have hi_ := oc_1 hf
        replace hf := oc_2 hf
        refine gs_sld X hX hbl (Nat.not_le.mpr hbl) hi_ dL_law_1553 ?_
        refine gs_aload_n X dL_law_1554 rfl 0 rfl ?_
        refine gs_iload_n X dL_law_1555 rfl 3 rfl ?_
        refine gs_iconst (v := 2) X dL_law_1556 (by decide) ?_
        refine gs_iadd X dL_law_1557 ?_
        have hi_ := oc_1 hf
        replace hf := oc_2 hf
        refine gs_sld X hX hbl (Nat.not_le.mpr hbl) hi_ dL_law_1558 ?_
        refine gs_aload_n X dL_law_1559 rfl 0 rfl ?_
        refine gs_iload_n X dL_law_1560 rfl 3 rfl ?_
        refine gs_iconst (v := 3) X dL_law_1561 (by decide) ?_
        refine gs_iadd X dL_law_1562 ?_
        have hi_ := oc_1 hf
        replace hf := oc_2 hf
        refine gs_sld X hX hbl (Nat.not_le.mpr hbl) hi_ dL_law_1563 ?_
        obtain ⟨⟨q177, ρ178_⟩, hq_, hf⟩ := ot_b hf
        replace hf := ot_l (y := q177) hf rfl
        obtain ⟨ρ178, e_ρ178⟩ : ∃ z : SL, z = (ρ178_, ρ.2) := ⟨_, rfl⟩
        replace hf := ot_l (y := ρ178) hf e_ρ178
        refine gs_C (rest := []) X hK (fun q h => h) cwL_197 (xc_hh_wouldBe hq_) rfl ⟨rfl, rfl, Nat.le_of_ble_eq_true rfl, Nat.le_of_ble_eq_true rfl⟩ ⟨Nat.le_refl _, Nat.le_refl _⟩ rfl (Nat.le_of_ble_eq_true rfl) dL_law_1564 ?_
        rw [← e_ρ178]
        refine gs_aload_n X dL_law_1567 rfl 2 rfl ?_
        refine gs_aload_n X dL_law_1568 rfl 0 rfl ?_
        refine gs_iload_n X dL_law_1569 rfl 3 rfl ?_
        refine gs_iconst (v := 1) X dL_law_1570 (by decide) ?_
        refine gs_iadd X dL_law_1571 ?_
        have hi_ := oc_1 hf
        replace hf := oc_2 hf
        refine gs_sld X hX hbl (Nat.not_le.mpr hbl) hi_ dL_law_1572 ?_
        refine gs_aload_n X dL_law_1573 rfl 0 rfl ?_
        refine gs_iload_n X dL_law_1574 rfl 3 rfl ?_
        refine gs_iconst (v := 2) X dL_law_1575 (by decide) ?_
        refine gs_iadd X dL_law_1576 ?_
        have hi_ := oc_1 hf
        replace hf := oc_2 hf
        refine gs_sld X hX hbl (Nat.not_le.mpr hbl) hi_ dL_law_1577 ?_
        refine gs_aload_n X dL_law_1578 rfl 0 rfl ?_
        refine gs_iload_n X dL_law_1579 rfl 3 rfl ?_
        refine gs_iconst (v := 3) X dL_law_1580 (by decide) ?_
        refine gs_iadd X dL_law_1581 ?_
        have hi_ := oc_1 hf
        replace hf := oc_2 hf
        refine gs_sld X hX hbl (Nat.not_le.mpr hbl) hi_ dL_law_1582 ?_
        obtain ⟨⟨q179, ρ180_⟩, hq_, hf⟩ := ot_b hf
        replace hf := ot_l (y := q179) hf rfl
        obtain ⟨ρ180, e_ρ180⟩ : ∃ z : SL, z = (ρ178.1, ρ180_) := ⟨_, rfl⟩
        replace hf := ot_l (y := ρ180) hf e_ρ180
        refine gs_M (rest := [.int q177]) X hKm (fun q h => h) cwL_200 (xm_wouldBe hq_) rfl ⟨rfl, rfl, Nat.le_of_ble_eq_true rfl, Nat.le_of_ble_eq_true rfl⟩ ⟨Nat.le_refl _, Nat.le_refl _⟩ rfl (Nat.le_of_ble_eq_true rfl) dL_law_1583 ?_
        rw [← e_ρ180]
        refine gs_icmp_eq X 1782 dL_law_1586 (by decide) (fun hc_ => ?_) (fun hc_ => ?_)
        · replace hf := ot_t hf hc_
          refine gs_sub [0, 1, 2, 3] rfl ?_
          exact wl_law_b1782 X hK hKm hX hbl ih _ _ hf
        · replace hf := ot_f hf hc_
          refine gs_iconst (v := 0) X dL_law_1589 (by decide) ?_
          cases hf
      replace hf := ot_f hf hs44
      by_cases hs45 : ((xs (Int32.toNatClampNeg x3)) &&& (63 : Int32)) = 45
      · replace hf := ot_t hf hs45
        refine gs_tin X (45) 1591 dL_law_32 (by rw [hs45]; decide) (by decide) (by decide) rfl (by decide) ?_
        refine gs_aload_n X dL_law_1591 rfl 1 rfl ?_
        refine gs_aload_n X dL_law_1592 rfl 0 rfl ?_
        refine gs_iload_n X dL_law_1593 rfl 3 rfl ?_
        refine gs_iconst (v := 1) X dL_law_1594 (by decide) ?_
        refine gs_iadd X dL_law_1595 ?_
        have hi_ := oc_1 hf
        replace hf := oc_2 hf
        refine gs_sld X hX hbl (Nat.not_le.mpr hbl) hi_ dL_law_1596 ?_
        refine gs_aload_n X dL_law_1597 rfl 0 rfl ?_
        refine gs_iload_n X dL_law_1598 rfl 3 rfl ?_
        refine gs_iconst (v := 2) X dL_law_1599 (by decide) ?_
        refine gs_iadd X dL_law_1600 ?_
        have hi_ := oc_1 hf
        replace hf := oc_2 hf
        refine gs_sld X hX hbl (Nat.not_le.mpr hbl) hi_ dL_law_1601 ?_
        refine gs_aload_n X dL_law_1602 rfl 0 rfl ?_
        refine gs_iload_n X dL_law_1603 rfl 3 rfl ?_
        refine gs_iconst (v := 3) X dL_law_1604 (by decide) ?_
        refine gs_iadd X dL_law_1605 ?_
        have hi_ := oc_1 hf
        replace hf := oc_2 hf
        refine gs_sld X hX hbl (Nat.not_le.mpr hbl) hi_ dL_law_1606 ?_
        obtain ⟨⟨q181, ρ182_⟩, hq_, hf⟩ := ot_b hf
        replace hf := ot_l (y := q181) hf rfl
        obtain ⟨ρ182, e_ρ182⟩ : ∃ z : SL, z = (ρ182_, ρ.2) := ⟨_, rfl⟩
        replace hf := ot_l (y := ρ182) hf e_ρ182
        refine gs_C (rest := []) X hK (fun q h => h) cwL_201 (xc_hh_shelf hq_) rfl ⟨rfl, rfl, Nat.le_of_ble_eq_true rfl, Nat.le_of_ble_eq_true rfl⟩ ⟨Nat.le_refl _, Nat.le_refl _⟩ rfl (Nat.le_of_ble_eq_true rfl) dL_law_1607 ?_
        rw [← e_ρ182]
        refine gs_aload_n X dL_law_1610 rfl 2 rfl ?_
        refine gs_aload_n X dL_law_1611 rfl 0 rfl ?_
        refine gs_iload_n X dL_law_1612 rfl 3 rfl ?_
        refine gs_iconst (v := 1) X dL_law_1613 (by decide) ?_
        refine gs_iadd X dL_law_1614 ?_
        have hi_ := oc_1 hf
        replace hf := oc_2 hf
        refine gs_sld X hX hbl (Nat.not_le.mpr hbl) hi_ dL_law_1615 ?_
        refine gs_aload_n X dL_law_1616 rfl 0 rfl ?_
        refine gs_iload_n X dL_law_1617 rfl 3 rfl ?_
        refine gs_iconst (v := 2) X dL_law_1618 (by decide) ?_
        refine gs_iadd X dL_law_1619 ?_
        have hi_ := oc_1 hf
        replace hf := oc_2 hf
        refine gs_sld X hX hbl (Nat.not_le.mpr hbl) hi_ dL_law_1620 ?_
        refine gs_aload_n X dL_law_1621 rfl 0 rfl ?_
        refine gs_iload_n X dL_law_1622 rfl 3 rfl ?_
        refine gs_iconst (v := 3) X dL_law_1623 (by decide) ?_
        refine gs_iadd X dL_law_1624 ?_
        have hi_ := oc_1 hf
        replace hf := oc_2 hf
        refine gs_sld X hX hbl (Nat.not_le.mpr hbl) hi_ dL_law_1625 ?_
        obtain ⟨⟨q183, ρ184_⟩, hq_, hf⟩ := ot_b hf
        replace hf := ot_l (y := q183) hf rfl
        obtain ⟨ρ184, e_ρ184⟩ : ∃ z : SL, z = (ρ182.1, ρ184_) := ⟨_, rfl⟩
        replace hf := ot_l (y := ρ184) hf e_ρ184
        refine gs_M (rest := [.int q181]) X hKm (fun q h => h) cwL_204 (xm_shelf hq_) rfl ⟨rfl, rfl, Nat.le_of_ble_eq_true rfl, Nat.le_of_ble_eq_true rfl⟩ ⟨Nat.le_refl _, Nat.le_refl _⟩ rfl (Nat.le_of_ble_eq_true rfl) dL_law_1626 ?_
        rw [← e_ρ184]
        refine gs_icmp_eq X 1782 dL_law_1629 (by decide) (fun hc_ => ?_) (fun hc_ => ?_)
        · replace hf := ot_t hf hc_
          refine gs_sub [0, 1, 2, 3] rfl ?_
          exact wl_law_b1782 X hK hKm hX hbl ih _ _ hf
        · replace hf := ot_f hf hc_
          refine gs_iconst (v := 0) X dL_law_1632 (by decide) ?_
          cases hf
      replace hf := ot_f hf hs45
      by_cases hs46 : ((xs (Int32.toNatClampNeg x3)) &&& (63 : Int32)) = 46
      · replace hf := ot_t hf hs46
        refine gs_tin X (46) 1634 dL_law_32 (by rw [hs46]; decide) (by decide) (by decide) rfl (by decide) ?_
        refine gs_aload_n X dL_law_1634 rfl 1 rfl ?_
        refine gs_aload_n X dL_law_1635 rfl 0 rfl ?_
        refine gs_iload_n X dL_law_1636 rfl 3 rfl ?_
        refine gs_iconst (v := 1) X dL_law_1637 (by decide) ?_
        refine gs_iadd X dL_law_1638 ?_
        have hi_ := oc_1 hf
        replace hf := oc_2 hf
        refine gs_sld X hX hbl (Nat.not_le.mpr hbl) hi_ dL_law_1639 ?_
        refine gs_aload_n X dL_law_1640 rfl 0 rfl ?_
        refine gs_iload_n X dL_law_1641 rfl 3 rfl ?_
        refine gs_iconst (v := 2) X dL_law_1642 (by decide) ?_
        refine gs_iadd X dL_law_1643 ?_
        have hi_ := oc_1 hf
        replace hf := oc_2 hf
        refine gs_sld X hX hbl (Nat.not_le.mpr hbl) hi_ dL_law_1644 ?_
        obtain ⟨q185, hq_, hf⟩ := ot_b hf
        refine gs_C (rest := []) X hK (fun q h => h) cwL_205 (xc_hh_taken hq_) rfl ⟨rfl, rfl, Nat.le_of_ble_eq_true rfl, Nat.le_of_ble_eq_true rfl⟩ ⟨Nat.le_refl _, Nat.le_refl _⟩ rfl (Nat.le_of_ble_eq_true rfl) dL_law_1645 ?_
        refine gs_aload_n X dL_law_1648 rfl 2 rfl ?_
        refine gs_aload_n X dL_law_1649 rfl 0 rfl ?_
        refine gs_iload_n X dL_law_1650 rfl 3 rfl ?_
        refine gs_iconst (v := 1) X dL_law_1651 (by decide) ?_
        refine gs_iadd X dL_law_1652 ?_
        have hi_ := oc_1 hf
        replace hf := oc_2 hf
        refine gs_sld X hX hbl (Nat.not_le.mpr hbl) hi_ dL_law_1653 ?_
        refine gs_aload_n X dL_law_1654 rfl 0 rfl ?_
        refine gs_iload_n X dL_law_1655 rfl 3 rfl ?_
        refine gs_iconst (v := 2) X dL_law_1656 (by decide) ?_
        refine gs_iadd X dL_law_1657 ?_
        have hi_ := oc_1 hf
        replace hf := oc_2 hf
        refine gs_sld X hX hbl (Nat.not_le.mpr hbl) hi_ dL_law_1658 ?_
        obtain ⟨q187, hq_, hf⟩ := ot_b hf
        refine gs_M (rest := [.int q185]) X hKm (fun q h => h) cwL_208 (xm_taken hq_) rfl ⟨rfl, rfl, Nat.le_of_ble_eq_true rfl, Nat.le_of_ble_eq_true rfl⟩ ⟨Nat.le_refl _, Nat.le_refl _⟩ rfl (Nat.le_of_ble_eq_true rfl) dL_law_1659 ?_
        refine gs_icmp_eq X 1782 dL_law_1662 (by decide) (fun hc_ => ?_) (fun hc_ => ?_)
        · replace hf := ot_t hf hc_
          refine gs_sub [0, 1, 2, 3] rfl ?_
          exact wl_law_b1782 X hK hKm hX hbl ih _ _ hf
        · replace hf := ot_f hf hc_
          refine gs_iconst (v := 0) X dL_law_1665 (by decide) ?_
          cases hf
      replace hf := ot_f hf hs46
      by_cases hs47 : ((xs (Int32.toNatClampNeg x3)) &&& (63 : Int32)) = 47
      · replace hf := ot_t hf hs47
        refine gs_tin X (47) 1667 dL_law_32 (by rw [hs47]; decide) (by decide) (by decide) rfl (by decide) ?_
        refine gs_aload_n X dL_law_1667 rfl 1 rfl ?_
        refine gs_aload_n X dL_law_1668 rfl 0 rfl ?_
        refine gs_iload_n X dL_law_1669 rfl 3 rfl ?_
        refine gs_iconst (v := 1) X dL_law_1670 (by decide) ?_
        refine gs_iadd X dL_law_1671 ?_
        have hi_ := oc_1 hf
        replace hf := oc_2 hf
        refine gs_sld X hX hbl (Nat.not_le.mpr hbl) hi_ dL_law_1672 ?_
        refine gs_aload_n X dL_law_1673 rfl 0 rfl ?_
        refine gs_iload_n X dL_law_1674 rfl 3 rfl ?_
        refine gs_iconst (v := 2) X dL_law_1675 (by decide) ?_
        refine gs_iadd X dL_law_1676 ?_
        have hi_ := oc_1 hf
        replace hf := oc_2 hf
        refine gs_sld X hX hbl (Nat.not_le.mpr hbl) hi_ dL_law_1677 ?_
        refine gs_aload_n X dL_law_1678 rfl 0 rfl ?_
        refine gs_iload_n X dL_law_1679 rfl 3 rfl ?_
        refine gs_iconst (v := 3) X dL_law_1680 (by decide) ?_
        refine gs_iadd X dL_law_1681 ?_
        have hi_ := oc_1 hf
        replace hf := oc_2 hf
        refine gs_sld X hX hbl (Nat.not_le.mpr hbl) hi_ dL_law_1682 ?_
        obtain ⟨⟨q189, ρ190_⟩, hq_, hf⟩ := ot_b hf
        replace hf := ot_l (y := q189) hf rfl
        obtain ⟨ρ190, e_ρ190⟩ : ∃ z : SL, z = (ρ190_, ρ.2) := ⟨_, rfl⟩
        replace hf := ot_l (y := ρ190) hf e_ρ190
        refine gs_C (rest := []) X hK (fun q h => h) cwL_209 (xc_hh_act hq_) rfl ⟨rfl, rfl, Nat.le_of_ble_eq_true rfl, Nat.le_of_ble_eq_true rfl⟩ ⟨Nat.le_refl _, Nat.le_refl _⟩ rfl (Nat.le_of_ble_eq_true rfl) dL_law_1683 ?_
        rw [← e_ρ190]
        refine gs_aload_n X dL_law_1686 rfl 2 rfl ?_
        refine gs_aload_n X dL_law_1687 rfl 0 rfl ?_
        refine gs_iload_n X dL_law_1688 rfl 3 rfl ?_
        refine gs_iconst (v := 1) X dL_law_1689 (by decide) ?_
        refine gs_iadd X dL_law_1690 ?_
        have hi_ := oc_1 hf
        replace hf := oc_2 hf
        refine gs_sld X hX hbl (Nat.not_le.mpr hbl) hi_ dL_law_1691 ?_
        refine gs_aload_n X dL_law_1692 rfl 0 rfl ?_
        refine gs_iload_n X dL_law_1693 rfl 3 rfl ?_
        refine gs_iconst (v := 2) X dL_law_1694 (by decide) ?_
        refine gs_iadd X dL_law_1695 ?_
        have hi_ := oc_1 hf
        replace hf := oc_2 hf
        refine gs_sld X hX hbl (Nat.not_le.mpr hbl) hi_ dL_law_1696 ?_
        refine gs_aload_n X dL_law_1697 rfl 0 rfl ?_
        refine gs_iload_n X dL_law_1698 rfl 3 rfl ?_
        refine gs_iconst (v := 3) X dL_law_1699 (by decide) ?_
        refine gs_iadd X dL_law_1700 ?_
        have hi_ := oc_1 hf
        replace hf := oc_2 hf
        refine gs_sld X hX hbl (Nat.not_le.mpr hbl) hi_ dL_law_1701 ?_
        obtain ⟨⟨q191, ρ192_⟩, hq_, hf⟩ := ot_b hf
        replace hf := ot_l (y := q191) hf rfl
        obtain ⟨ρ192, e_ρ192⟩ : ∃ z : SL, z = (ρ190.1, ρ192_) := ⟨_, rfl⟩
        replace hf := ot_l (y := ρ192) hf e_ρ192
        refine gs_M (rest := [.int q189]) X hKm (fun q h => h) cwL_212 (xm_act hq_) rfl ⟨rfl, rfl, Nat.le_of_ble_eq_true rfl, Nat.le_of_ble_eq_true rfl⟩ ⟨Nat.le_refl _, Nat.le_refl _⟩ rfl (Nat.le_of_ble_eq_true rfl) dL_law_1702 ?_
        rw [← e_ρ192]
        refine gs_icmp_eq X 1782 dL_law_1705 (by decide) (fun hc_ => ?_) (fun hc_ => ?_)
        · replace hf := ot_t hf hc_
          refine gs_sub [0, 1, 2, 3] rfl ?_
          exact wl_law_b1782 X hK hKm hX hbl ih _ _ hf
        · replace hf := ot_f hf hc_
          refine gs_iconst (v := 0) X dL_law_1708 (by decide) ?_
          cases hf
      replace hf := ot_f hf hs47
      by_cases hs48 : ((xs (Int32.toNatClampNeg x3)) &&& (63 : Int32)) = 48
      · replace hf := ot_t hf hs48
        refine gs_tin X (48) 1710 dL_law_32 (by rw [hs48]; decide) (by decide) (by decide) rfl (by decide) ?_
        refine gs_aload_n X dL_law_1710 rfl 1 rfl ?_
        refine gs_aload_n X dL_law_1711 rfl 0 rfl ?_
        refine gs_iload_n X dL_law_1712 rfl 3 rfl ?_
        refine gs_iconst (v := 1) X dL_law_1713 (by decide) ?_
        refine gs_iadd X dL_law_1714 ?_
        have hi_ := oc_1 hf
        replace hf := oc_2 hf
        refine gs_sld X hX hbl (Nat.not_le.mpr hbl) hi_ dL_law_1715 ?_
        obtain ⟨q193, hq_, hf⟩ := ot_b hf
        refine gs_C (rest := []) X hK (fun q h => h) cwL_213 (xc_hh_trace hq_) rfl ⟨rfl, rfl, Nat.le_of_ble_eq_true rfl, Nat.le_of_ble_eq_true rfl⟩ ⟨Nat.le_refl _, Nat.le_refl _⟩ rfl (Nat.le_of_ble_eq_true rfl) dL_law_1716 ?_
        refine gs_aload_n X dL_law_1719 rfl 2 rfl ?_
        refine gs_aload_n X dL_law_1720 rfl 0 rfl ?_
        refine gs_iload_n X dL_law_1721 rfl 3 rfl ?_
        refine gs_iconst (v := 1) X dL_law_1722 (by decide) ?_
        refine gs_iadd X dL_law_1723 ?_
        have hi_ := oc_1 hf
        replace hf := oc_2 hf
        refine gs_sld X hX hbl (Nat.not_le.mpr hbl) hi_ dL_law_1724 ?_
        obtain ⟨q195, hq_, hf⟩ := ot_b hf
        refine gs_M (rest := [.int q193]) X hKm (fun q h => h) cwL_216 (xm_trace hq_) rfl ⟨rfl, rfl, Nat.le_of_ble_eq_true rfl, Nat.le_of_ble_eq_true rfl⟩ ⟨Nat.le_refl _, Nat.le_refl _⟩ rfl (Nat.le_of_ble_eq_true rfl) dL_law_1725 ?_
        refine gs_icmp_eq X 1782 dL_law_1728 (by decide) (fun hc_ => ?_) (fun hc_ => ?_)
        · replace hf := ot_t hf hc_
          refine gs_sub [0, 1, 2, 3] rfl ?_
          exact wl_law_b1782 X hK hKm hX hbl ih _ _ hf
        · replace hf := ot_f hf hc_
          refine gs_iconst (v := 0) X dL_law_1731 (by decide) ?_
          cases hf
      replace hf := ot_f hf hs48
      by_cases hs49 : ((xs (Int32.toNatClampNeg x3)) &&& (63 : Int32)) = 49
      · replace hf := ot_t hf hs49
        refine gs_tin X (49) 1733 dL_law_32 (by rw [hs49]; decide) (by decide) (by decide) rfl (by decide) ?_
        refine gs_aload_n X dL_law_1733 rfl 1 rfl ?_
        refine gs_aload_n X dL_law_1734 rfl 0 rfl ?_
        refine gs_iload_n X dL_law_1735 rfl 3 rfl ?_
        refine gs_iconst (v := 1) X dL_law_1736 (by decide) ?_
        refine gs_iadd X dL_law_1737 ?_
        have hi_ := oc_1 hf
        replace hf := oc_2 hf
        refine gs_sld X hX hbl (Nat.not_le.mpr hbl) hi_ dL_law_1738 ?_
        obtain ⟨q197, hq_, hf⟩ := ot_b hf
        refine gs_C (rest := []) X hK (fun q h => h) cwL_217 (xc_hh_many hq_) rfl ⟨rfl, rfl, Nat.le_of_ble_eq_true rfl, Nat.le_of_ble_eq_true rfl⟩ ⟨Nat.le_refl _, Nat.le_refl _⟩ rfl (Nat.le_of_ble_eq_true rfl) dL_law_1739 ?_
        refine gs_aload_n X dL_law_1742 rfl 2 rfl ?_
        refine gs_aload_n X dL_law_1743 rfl 0 rfl ?_
        refine gs_iload_n X dL_law_1744 rfl 3 rfl ?_
        refine gs_iconst (v := 1) X dL_law_1745 (by decide) ?_
        refine gs_iadd X dL_law_1746 ?_
        have hi_ := oc_1 hf
        replace hf := oc_2 hf
        refine gs_sld X hX hbl (Nat.not_le.mpr hbl) hi_ dL_law_1747 ?_
        obtain ⟨q199, hq_, hf⟩ := ot_b hf
        refine gs_M (rest := [.int q197]) X hKm (fun q h => h) cwL_220 (xm_many hq_) rfl ⟨rfl, rfl, Nat.le_of_ble_eq_true rfl, Nat.le_of_ble_eq_true rfl⟩ ⟨Nat.le_refl _, Nat.le_refl _⟩ rfl (Nat.le_of_ble_eq_true rfl) dL_law_1748 ?_
        refine gs_icmp_eq X 1782 dL_law_1751 (by decide) (fun hc_ => ?_) (fun hc_ => ?_)
        · replace hf := ot_t hf hc_
          refine gs_sub [0, 1, 2, 3] rfl ?_
          exact wl_law_b1782 X hK hKm hX hbl ih _ _ hf
        · replace hf := ot_f hf hc_
          refine gs_iconst (v := 0) X dL_law_1754 (by decide) ?_
          cases hf
      replace hf := ot_f hf hs49
      by_cases hs50 : ((xs (Int32.toNatClampNeg x3)) &&& (63 : Int32)) = 50
      · replace hf := ot_t hf hs50
        refine gs_tin X (50) 1756 dL_law_32 (by rw [hs50]; decide) (by decide) (by decide) rfl (by decide) ?_
        refine gs_aload_n X dL_law_1756 rfl 1 rfl ?_
        obtain ⟨⟨q201, ρ202_⟩, hq_, hf⟩ := ot_b hf
        replace hf := ot_l (y := q201) hf rfl
        obtain ⟨ρ202, e_ρ202⟩ : ∃ z : SL, z = (ρ202_, ρ.2) := ⟨_, rfl⟩
        replace hf := ot_l (y := ρ202) hf e_ρ202
        refine gs_C (rest := []) X hK (fun q h => h) cwL_221 (xc_hh_keep hq_) rfl ⟨rfl, rfl, Nat.le_of_ble_eq_true rfl, Nat.le_of_ble_eq_true rfl⟩ ⟨Nat.le_refl _, Nat.le_refl _⟩ rfl (Nat.le_of_ble_eq_true rfl) dL_law_1757 ?_
        rw [← e_ρ202]
        refine gs_aload_n X dL_law_1760 rfl 2 rfl ?_
        obtain ⟨⟨q203, ρ204_⟩, hq_, hf⟩ := ot_b hf
        replace hf := ot_l (y := q203) hf rfl
        obtain ⟨ρ204, e_ρ204⟩ : ∃ z : SL, z = (ρ202.1, ρ204_) := ⟨_, rfl⟩
        replace hf := ot_l (y := ρ204) hf e_ρ204
        refine gs_M (rest := [.int q201]) X hKm (fun q h => h) cwL_224 (xm_keep hq_) rfl ⟨rfl, rfl, Nat.le_of_ble_eq_true rfl, Nat.le_of_ble_eq_true rfl⟩ ⟨Nat.le_refl _, Nat.le_refl _⟩ rfl (Nat.le_of_ble_eq_true rfl) dL_law_1761 ?_
        rw [← e_ρ204]
        refine gs_icmp_eq X 1782 dL_law_1764 (by decide) (fun hc_ => ?_) (fun hc_ => ?_)
        · replace hf := ot_t hf hc_
          refine gs_sub [0, 1, 2, 3] rfl ?_
          exact wl_law_b1782 X hK hKm hX hbl ih _ _ hf
        · replace hf := ot_f hf hc_
          refine gs_iconst (v := 0) X dL_law_1767 (by decide) ?_
          cases hf
      replace hf := ot_f hf hs50
      by_cases hs51 : ((xs (Int32.toNatClampNeg x3)) &&& (63 : Int32)) = 51
      · replace hf := ot_t hf hs51
        refine gs_tin X (51) 1769 dL_law_32 (by rw [hs51]; decide) (by decide) (by decide) rfl (by decide) ?_
        refine gs_aload_n X dL_law_1769 rfl 1 rfl ?_
        obtain ⟨⟨q205, ρ206_⟩, hq_, hf⟩ := ot_b hf
        replace hf := ot_l (y := q205) hf rfl
        obtain ⟨ρ206, e_ρ206⟩ : ∃ z : SL, z = (ρ206_, ρ.2) := ⟨_, rfl⟩
        replace hf := ot_l (y := ρ206) hf e_ρ206
        refine gs_C (rest := []) X hK (fun q h => h) cwL_225 (xc_hh_again hq_) rfl ⟨rfl, rfl, Nat.le_of_ble_eq_true rfl, Nat.le_of_ble_eq_true rfl⟩ ⟨Nat.le_refl _, Nat.le_refl _⟩ rfl (Nat.le_of_ble_eq_true rfl) dL_law_1770 ?_
        rw [← e_ρ206]
        refine gs_aload_n X dL_law_1773 rfl 2 rfl ?_
        obtain ⟨⟨q207, ρ208_⟩, hq_, hf⟩ := ot_b hf
        replace hf := ot_l (y := q207) hf rfl
        obtain ⟨ρ208, e_ρ208⟩ : ∃ z : SL, z = (ρ206.1, ρ208_) := ⟨_, rfl⟩
        replace hf := ot_l (y := ρ208) hf e_ρ208
        refine gs_M (rest := [.int q205]) X hKm (fun q h => h) cwL_228 (xm_again hq_) rfl ⟨rfl, rfl, Nat.le_of_ble_eq_true rfl, Nat.le_of_ble_eq_true rfl⟩ ⟨Nat.le_refl _, Nat.le_refl _⟩ rfl (Nat.le_of_ble_eq_true rfl) dL_law_1774 ?_
        rw [← e_ρ208]
        refine gs_icmp_eq X 1782 dL_law_1777 (by decide) (fun hc_ => ?_) (fun hc_ => ?_)
        · replace hf := ot_t hf hc_
          refine gs_sub [0, 1, 2, 3] rfl ?_
          exact wl_law_b1782 X hK hKm hX hbl ih _ _ hf
        · replace hf := ot_f hf hc_
          refine gs_iconst (v := 0) X dL_law_1780 (by decide) ?_
          cases hf
      replace hf := ot_f hf hs51
      refine gs_tout X 1782 dL_law_32 (by have := lv_neT hs0 (show (0 : Int32).toInt = 0 by decide); have := lv_neT hs1 (show (1 : Int32).toInt = 1 by decide); have := lv_neT hs2 (show (2 : Int32).toInt = 2 by decide); have := lv_neT hs3 (show (3 : Int32).toInt = 3 by decide); have := lv_neT hs4 (show (4 : Int32).toInt = 4 by decide); have := lv_neT hs5 (show (5 : Int32).toInt = 5 by decide); have := lv_neT hs6 (show (6 : Int32).toInt = 6 by decide); have := lv_neT hs7 (show (7 : Int32).toInt = 7 by decide); have := lv_neT hs8 (show (8 : Int32).toInt = 8 by decide); have := lv_neT hs9 (show (9 : Int32).toInt = 9 by decide); have := lv_neT hs10 (show (10 : Int32).toInt = 10 by decide); have := lv_neT hs11 (show (11 : Int32).toInt = 11 by decide); have := lv_neT hs12 (show (12 : Int32).toInt = 12 by decide); have := lv_neT hs13 (show (13 : Int32).toInt = 13 by decide); have := lv_neT hs14 (show (14 : Int32).toInt = 14 by decide); have := lv_neT hs15 (show (15 : Int32).toInt = 15 by decide); have := lv_neT hs16 (show (16 : Int32).toInt = 16 by decide); have := lv_neT hs17 (show (17 : Int32).toInt = 17 by decide); have := lv_neT hs18 (show (18 : Int32).toInt = 18 by decide); have := lv_neT hs19 (show (19 : Int32).toInt = 19 by decide); have := lv_neT hs20 (show (20 : Int32).toInt = 20 by decide); have := lv_neT hs21 (show (21 : Int32).toInt = 21 by decide); have := lv_neT hs22 (show (22 : Int32).toInt = 22 by decide); have := lv_neT hs23 (show (23 : Int32).toInt = 23 by decide); have := lv_neT hs24 (show (24 : Int32).toInt = 24 by decide); have := lv_neT hs25 (show (25 : Int32).toInt = 25 by decide); have := lv_neT hs26 (show (26 : Int32).toInt = 26 by decide); have := lv_neT hs27 (show (27 : Int32).toInt = 27 by decide); have := lv_neT hs28 (show (28 : Int32).toInt = 28 by decide); have := lv_neT hs29 (show (29 : Int32).toInt = 29 by decide); have := lv_neT hs30 (show (30 : Int32).toInt = 30 by decide); have := lv_neT hs31 (show (31 : Int32).toInt = 31 by decide); have := lv_neT hs32 (show (32 : Int32).toInt = 32 by decide); have := lv_neT hs33 (show (33 : Int32).toInt = 33 by decide); have := lv_neT hs34 (show (34 : Int32).toInt = 34 by decide); have := lv_neT hs35 (show (35 : Int32).toInt = 35 by decide); have := lv_neT hs36 (show (36 : Int32).toInt = 36 by decide); have := lv_neT hs37 (show (37 : Int32).toInt = 37 by decide); have := lv_neT hs38 (show (38 : Int32).toInt = 38 by decide); have := lv_neT hs39 (show (39 : Int32).toInt = 39 by decide); have := lv_neT hs40 (show (40 : Int32).toInt = 40 by decide); have := lv_neT hs41 (show (41 : Int32).toInt = 41 by decide); have := lv_neT hs42 (show (42 : Int32).toInt = 42 by decide); have := lv_neT hs43 (show (43 : Int32).toInt = 43 by decide); have := lv_neT hs44 (show (44 : Int32).toInt = 44 by decide); have := lv_neT hs45 (show (45 : Int32).toInt = 45 by decide); have := lv_neT hs46 (show (46 : Int32).toInt = 46 by decide); have := lv_neT hs47 (show (47 : Int32).toInt = 47 by decide); have := lv_neT hs48 (show (48 : Int32).toInt = 48 by decide); have := lv_neT hs49 (show (49 : Int32).toInt = 49 by decide); have := lv_neT hs50 (show (50 : Int32).toInt = 50 by decide); have := lv_neT hs51 (show (51 : Int32).toInt = 51 by decide); omega) (by decide) ?_
      refine gs_sub [0, 1, 2, 3] rfl ?_
      exact wl_law_b1782 X hK hKm hX hbl ih _ _ hf
