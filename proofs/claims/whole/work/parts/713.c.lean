abbrev ro_to_recall_T1 : Room := { frames := 0, cells := 0, slots := 0, locals := 0 }
def fc_to_recall_T1 (x1 : Int32) (τ : SC) : Option SC := (hl (sc τ 202 (fun _ => (hushr x1 (23 : Int32)))) fun τ1 => (hl (sc τ1 205 (fun _ => ((hushr x1 (19 : Int32)) &&& (15 : Int32)))) fun τ2 => (hl (sc τ2 206 (fun _ => ((hushr x1 (12 : Int32)) &&& (127 : Int32)))) fun τ3 => (hl (sc τ3 207 (fun _ => ((hushr x1 (6 : Int32)) &&& (63 : Int32)))) fun τ4 => (hl (sc τ4 208 (fun _ => (x1 &&& (63 : Int32)))) fun τ5 => (some τ5))))))
set_option maxHeartbeats 4000000 in
set_option maxRecDepth 100000 in
theorem xc_to_recall_T1 {l : Launch} {D : va_G} {cs : Nat → ClassId} {sK sV : Nat → Nat} {tA : Nat} {ad : Nat → Nat} {τ : SC} {x1 : Int32} {υ : SC} (hf : fc_to_recall_T1 x1 τ = some υ) : ctV l (wC ad cs) D vwCl (kC D cs sK sV tA) yX9_recall cX9_recall 2 ro_to_recall_T1 [.ref (ad 230), .int x1] τ υ := by
  refine ct_V RX9 (by decide +kernel) rfl (Nat.le_of_ble_eq_true rfl) ?_
  intro p e s m args below meth c A X hK hA
  refine gr_eqL (L2 := [(0, .ref (ad 230)), (1, .int x1)]) rfl ?_
  unfold fc_to_recall_T1 at hf
  refine gr_aload_n X dX9_recall_0 rfl 0 rfl ?_
  refine gr_iload_n X dX9_recall_1 rfl 1 rfl ?_
  refine gr_bipush (v := 23) X dX9_recall_2 (by decide) ?_
  refine gr_iushr X dX9_recall_4 ?_
  refine gC_put_T1_2 X hK fk9_108 dX9_recall_5 ?_
  refine gC_gen (fun τ1 e_τ1 => ?_)
  replace hf := ot_l hf e_τ1
  refine gr_aload_n X dX9_recall_8 rfl 0 rfl ?_
  refine gr_iload_n X dX9_recall_9 rfl 1 rfl ?_
  refine gr_bipush (v := 19) X dX9_recall_10 (by decide) ?_
  refine gr_iushr X dX9_recall_12 ?_
  refine gr_bipush (v := 15) X dX9_recall_13 (by decide) ?_
  refine gr_iand X dX9_recall_15 ?_
  refine gC_put_T1_5 X hK fk9_44 dX9_recall_16 ?_
  refine gC_gen (fun τ2 e_τ2 => ?_)
  replace hf := ot_l hf e_τ2
  refine gr_aload_n X dX9_recall_19 rfl 0 rfl ?_
  refine gr_iload_n X dX9_recall_20 rfl 1 rfl ?_
  refine gr_bipush (v := 12) X dX9_recall_21 (by decide) ?_
  refine gr_iushr X dX9_recall_23 ?_
  refine gr_bipush (v := 127) X dX9_recall_24 (by decide) ?_
  refine gr_iand X dX9_recall_26 ?_
  refine gC_put_T1_6 X hK fk9_111 dX9_recall_27 ?_
  refine gC_gen (fun τ3 e_τ3 => ?_)
  replace hf := ot_l hf e_τ3
  refine gr_aload_n X dX9_recall_30 rfl 0 rfl ?_
  refine gr_iload_n X dX9_recall_31 rfl 1 rfl ?_
  refine gr_bipush (v := 6) X dX9_recall_32 (by decide) ?_
  refine gr_iushr X dX9_recall_34 ?_
  refine gr_bipush (v := 63) X dX9_recall_35 (by decide) ?_
  refine gr_iand X dX9_recall_37 ?_
  refine gC_put_T1_7 X hK fk9_114 dX9_recall_38 ?_
  refine gC_gen (fun τ4 e_τ4 => ?_)
  replace hf := ot_l hf e_τ4
  refine gr_aload_n X dX9_recall_41 rfl 0 rfl ?_
  refine gr_iload_n X dX9_recall_42 rfl 1 rfl ?_
  refine gr_bipush (v := 63) X dX9_recall_43 (by decide) ?_
  refine gr_iand X dX9_recall_45 ?_
  refine gC_put_T1_8 X hK fk9_117 dX9_recall_46 ?_
  refine gC_gen (fun τ5 e_τ5 => ?_)
  replace hf := ot_l hf e_τ5
  exact gr_vret X dX9_recall_49 (Option.some.inj hf)
abbrev ro_to_copyFrom_T1_T0 : Room := { frames := 2, cells := 0, slots := 0, locals := 101 }
def fc_to_copyFrom_T1_T0 (τ : SC) : Option SC := (Option.bind (fc_ru_copyFrom_R1_R0 τ) fun τ2 => (Option.bind (fc_to_moment τ2) fun q3 => (Option.bind (fc_to_recall_T1 q3 τ2) fun τ5 => (hl (sc τ5 203 (fun _ => (τ5.1 103 0))) fun τ6 => (hl (sc τ6 204 (fun _ => (τ6.1 104 0))) fun τ7 => (hl (sc τ7 209 (fun _ => (τ7.1 109 0))) fun τ8 => (hl (sc τ8 213 (fun _ => (τ8.1 113 0))) fun τ9 => (hl (sc τ9 218 (fun _ => (τ9.1 118 0))) fun τ10 => (hl (sc τ10 210 (va_cpy (τ10.1 110) (τ10.1 210) 0 0 16)) fun τ11 => (hl (sc τ11 211 (va_cpy (τ11.1 111) (τ11.1 211) 0 0 6)) fun τ12 => (hl (sc τ12 212 (va_cpy (τ12.1 112) (τ12.1 212) 0 0 6)) fun τ13 => (hl (sc τ13 214 (va_cpy (τ13.1 114) (τ13.1 214) 0 0 6)) fun τ14 => (hl (sc τ14 215 (va_cpy (τ14.1 115) (τ14.1 215) 0 0 6)) fun τ15 => (hl (sc τ15 216 (va_cpy (τ15.1 116) (τ15.1 216) 0 0 6)) fun τ16 => (hl (sc τ16 217 (va_cpy (τ16.1 117) (τ16.1 217) 0 0 6)) fun τ17 => (hl (sc τ17 219 (va_cpy (τ17.1 119) (τ17.1 219) 0 0 24)) fun τ18 => (some τ18)))))))))))))))))
set_option maxHeartbeats 4000000 in
set_option maxRecDepth 100000 in
theorem xc_to_copyFrom_T1_T0 {l : Launch} {D : va_G} {cs : Nat → ClassId} {sK sV : Nat → Nat} {tA : Nat} {ad : Nat → Nat} {τ : SC} {υ : SC} (hf : fc_to_copyFrom_T1_T0 τ = some υ) : ctV l (wC ad cs) D vwCl (kC D cs sK sV tA) yX9_copyFrom cX9_copyFrom 2 ro_to_copyFrom_T1_T0 [.ref (ad 230), .ref (ad 130)] τ υ := by
  refine ct_V RX9 (by decide +kernel) rfl (Nat.le_of_ble_eq_true rfl) ?_
  intro p e s m args below meth c A X hK hA
  refine gr_eqL (L2 := [(0, .ref (ad 230)), (1, .ref (ad 130))]) rfl ?_
  unfold fc_to_copyFrom_T1_T0 at hf
  refine gr_aload_n X dX9_copyFrom_0 rfl 0 rfl ?_
  refine gC_get_T1_1 X hK fk9_36 dX9_copyFrom_1 ?_
  refine gr_aload_n X dX9_copyFrom_4 rfl 1 rfl ?_
  refine gC_get_T0_1 X hK fk9_36 dX9_copyFrom_5 ?_
  obtain ⟨τ2, hq_, hf⟩ := ot_b hf
  refine gc_Vv (rest := []) X kC_ok hK hA cw9_81 (rvC_R1 hK) (xc_ru_copyFrom_R1_R0 hq_) rfl ⟨rfl, rfl, Nat.le_of_ble_eq_true rfl, Nat.le_of_ble_eq_true rfl⟩ rfl (Nat.le_of_ble_eq_true rfl) dX9_copyFrom_8 ?_
  refine gr_aload_n X dX9_copyFrom_11 rfl 0 rfl ?_
  refine gr_aload_n X dX9_copyFrom_12 rfl 1 rfl ?_
  obtain ⟨q3, hq_, hf⟩ := ot_b hf
  refine gc_Vi (rest := [.ref (ad 230)]) X kC_ok hK hA cw9_85 (rvC_T0 hK) (xc_to_moment hq_) rfl ⟨rfl, rfl, Nat.le_of_ble_eq_true rfl, Nat.le_of_ble_eq_true rfl⟩ rfl (Nat.le_of_ble_eq_true rfl) dX9_copyFrom_13 ?_
  obtain ⟨τ5, hq_, hf⟩ := ot_b hf
  refine gc_Vv (rest := []) X kC_ok hK hA cw9_89 (rvC_T1 hK) (xc_to_recall_T1 hq_) rfl ⟨rfl, rfl, Nat.le_of_ble_eq_true rfl, Nat.le_of_ble_eq_true rfl⟩ rfl (Nat.le_of_ble_eq_true rfl) dX9_copyFrom_16 ?_
  refine gr_aload_n X dX9_copyFrom_19 rfl 0 rfl ?_
  refine gr_aload_n X dX9_copyFrom_20 rfl 1 rfl ?_
  refine gC_get_T0_3 X hK fk9_40 dX9_copyFrom_21 ?_
  refine gC_put_T1_3 X hK fk9_40 dX9_copyFrom_24 ?_
  refine gC_gen (fun τ6 e_τ6 => ?_)
  replace hf := ot_l hf e_τ6
  refine gr_aload_n X dX9_copyFrom_27 rfl 0 rfl ?_
  refine gr_aload_n X dX9_copyFrom_28 rfl 1 rfl ?_
  refine gC_get_T0_4 X hK fk9_93 dX9_copyFrom_29 ?_
  refine gC_put_T1_4 X hK fk9_93 dX9_copyFrom_32 ?_
  refine gC_gen (fun τ7 e_τ7 => ?_)
  replace hf := ot_l hf e_τ7
  refine gr_aload_n X dX9_copyFrom_35 rfl 0 rfl ?_
  refine gr_aload_n X dX9_copyFrom_36 rfl 1 rfl ?_
  refine gC_get_T0_9 X hK fk9_47 dX9_copyFrom_37 ?_
  refine gC_put_T1_9 X hK fk9_47 dX9_copyFrom_40 ?_
  refine gC_gen (fun τ8 e_τ8 => ?_)
  replace hf := ot_l hf e_τ8
  refine gr_aload_n X dX9_copyFrom_43 rfl 0 rfl ?_
  refine gr_aload_n X dX9_copyFrom_44 rfl 1 rfl ?_
  refine gC_get_T0_13 X hK fk9_96 dX9_copyFrom_45 ?_
  refine gC_put_T1_13 X hK fk9_96 dX9_copyFrom_48 ?_
  refine gC_gen (fun τ9 e_τ9 => ?_)
  replace hf := ot_l hf e_τ9
  refine gr_aload_n X dX9_copyFrom_51 rfl 0 rfl ?_
  refine gr_aload_n X dX9_copyFrom_52 rfl 1 rfl ?_
  refine gC_get_T0_18 X hK fk9_99 dX9_copyFrom_53 ?_
  refine gC_put_T1_18 X hK fk9_99 dX9_copyFrom_56 ?_
  refine gC_gen (fun τ10 e_τ10 => ?_)
  replace hf := ot_l hf e_τ10
  refine gr_aload_n X dX9_copyFrom_59 rfl 1 rfl ?_
  refine gC_get_T0_10 X hK fk9_50 dX9_copyFrom_60 ?_
  refine gr_iconst (v := 0) X dX9_copyFrom_63 (by decide) ?_
  refine gr_aload_n X dX9_copyFrom_64 rfl 0 rfl ?_
  refine gC_get_T1_10 X hK fk9_50 dX9_copyFrom_65 ?_
  refine gr_iconst (v := 0) X dX9_copyFrom_68 (by decide) ?_
  refine gr_bipush (v := 16) X dX9_copyFrom_69 (by decide) ?_
  refine gC_copy_110_210 X hK cy9_102 ⟨Nat.le_of_ble_eq_true rfl, Nat.le_of_ble_eq_true rfl⟩ dX9_copyFrom_71 ?_
  refine gC_gen (fun τ11 e_τ11 => ?_)
  replace hf := ot_l hf e_τ11
  refine gr_aload_n X dX9_copyFrom_74 rfl 1 rfl ?_
  refine gC_get_T0_11 X hK fk9_54 dX9_copyFrom_75 ?_
  refine gr_iconst (v := 0) X dX9_copyFrom_78 (by decide) ?_
  refine gr_aload_n X dX9_copyFrom_79 rfl 0 rfl ?_
  refine gC_get_T1_11 X hK fk9_54 dX9_copyFrom_80 ?_
  refine gr_iconst (v := 0) X dX9_copyFrom_83 (by decide) ?_
  refine gr_bipush (v := 6) X dX9_copyFrom_84 (by decide) ?_
  refine gC_copy_111_211 X hK cy9_102 ⟨Nat.le_of_ble_eq_true rfl, Nat.le_of_ble_eq_true rfl⟩ dX9_copyFrom_86 ?_
  refine gC_gen (fun τ12 e_τ12 => ?_)
  replace hf := ot_l hf e_τ12
  refine gr_aload_n X dX9_copyFrom_89 rfl 1 rfl ?_
  refine gC_get_T0_12 X hK fk9_57 dX9_copyFrom_90 ?_
  refine gr_iconst (v := 0) X dX9_copyFrom_93 (by decide) ?_
  refine gr_aload_n X dX9_copyFrom_94 rfl 0 rfl ?_
  refine gC_get_T1_12 X hK fk9_57 dX9_copyFrom_95 ?_
  refine gr_iconst (v := 0) X dX9_copyFrom_98 (by decide) ?_
  refine gr_bipush (v := 6) X dX9_copyFrom_99 (by decide) ?_
  refine gC_copy_112_212 X hK cy9_102 ⟨Nat.le_of_ble_eq_true rfl, Nat.le_of_ble_eq_true rfl⟩ dX9_copyFrom_101 ?_
  refine gC_gen (fun τ13 e_τ13 => ?_)
  replace hf := ot_l hf e_τ13
  refine gr_aload_n X dX9_copyFrom_104 rfl 1 rfl ?_
  refine gC_get_T0_14 X hK fk9_60 dX9_copyFrom_105 ?_
  refine gr_iconst (v := 0) X dX9_copyFrom_108 (by decide) ?_
  refine gr_aload_n X dX9_copyFrom_109 rfl 0 rfl ?_
  refine gC_get_T1_14 X hK fk9_60 dX9_copyFrom_110 ?_
  refine gr_iconst (v := 0) X dX9_copyFrom_113 (by decide) ?_
  refine gr_bipush (v := 6) X dX9_copyFrom_114 (by decide) ?_
  refine gC_copy_114_214 X hK cy9_102 ⟨Nat.le_of_ble_eq_true rfl, Nat.le_of_ble_eq_true rfl⟩ dX9_copyFrom_116 ?_
  refine gC_gen (fun τ14 e_τ14 => ?_)
  replace hf := ot_l hf e_τ14
  refine gr_aload_n X dX9_copyFrom_119 rfl 1 rfl ?_
  refine gC_get_T0_15 X hK fk9_63 dX9_copyFrom_120 ?_
  refine gr_iconst (v := 0) X dX9_copyFrom_123 (by decide) ?_
  refine gr_aload_n X dX9_copyFrom_124 rfl 0 rfl ?_
  refine gC_get_T1_15 X hK fk9_63 dX9_copyFrom_125 ?_
  refine gr_iconst (v := 0) X dX9_copyFrom_128 (by decide) ?_
  refine gr_bipush (v := 6) X dX9_copyFrom_129 (by decide) ?_
  refine gC_copy_115_215 X hK cy9_102 ⟨Nat.le_of_ble_eq_true rfl, Nat.le_of_ble_eq_true rfl⟩ dX9_copyFrom_131 ?_
  refine gC_gen (fun τ15 e_τ15 => ?_)
  replace hf := ot_l hf e_τ15
  refine gr_aload_n X dX9_copyFrom_134 rfl 1 rfl ?_
  refine gC_get_T0_16 X hK fk9_66 dX9_copyFrom_135 ?_
  refine gr_iconst (v := 0) X dX9_copyFrom_138 (by decide) ?_
  refine gr_aload_n X dX9_copyFrom_139 rfl 0 rfl ?_
  refine gC_get_T1_16 X hK fk9_66 dX9_copyFrom_140 ?_
  refine gr_iconst (v := 0) X dX9_copyFrom_143 (by decide) ?_
  refine gr_bipush (v := 6) X dX9_copyFrom_144 (by decide) ?_
  refine gC_copy_116_216 X hK cy9_102 ⟨Nat.le_of_ble_eq_true rfl, Nat.le_of_ble_eq_true rfl⟩ dX9_copyFrom_146 ?_
  refine gC_gen (fun τ16 e_τ16 => ?_)
  replace hf := ot_l hf e_τ16
  refine gr_aload_n X dX9_copyFrom_149 rfl 1 rfl ?_
  refine gC_get_T0_17 X hK fk9_69 dX9_copyFrom_150 ?_
  refine gr_iconst (v := 0) X dX9_copyFrom_153 (by decide) ?_
  refine gr_aload_n X dX9_copyFrom_154 rfl 0 rfl ?_
  refine gC_get_T1_17 X hK fk9_69 dX9_copyFrom_155 ?_
  refine gr_iconst (v := 0) X dX9_copyFrom_158 (by decide) ?_
  refine gr_bipush (v := 6) X dX9_copyFrom_159 (by decide) ?_
  refine gC_copy_117_217 X hK cy9_102 ⟨Nat.le_of_ble_eq_true rfl, Nat.le_of_ble_eq_true rfl⟩ dX9_copyFrom_161 ?_
  refine gC_gen (fun τ17 e_τ17 => ?_)
  replace hf := ot_l hf e_τ17
  refine gr_aload_n X dX9_copyFrom_164 rfl 1 rfl ?_
  refine gC_get_T0_19 X hK fk9_72 dX9_copyFrom_165 ?_
  refine gr_iconst (v := 0) X dX9_copyFrom_168 (by decide) ?_
  refine gr_aload_n X dX9_copyFrom_169 rfl 0 rfl ?_
  refine gC_get_T1_19 X hK fk9_72 dX9_copyFrom_170 ?_
  refine gr_iconst (v := 0) X dX9_copyFrom_173 (by decide) ?_
  refine gr_bipush (v := 24) X dX9_copyFrom_174 (by decide) ?_
  refine gC_copy_119_219 X hK cy9_102 ⟨Nat.le_of_ble_eq_true rfl, Nat.le_of_ble_eq_true rfl⟩ dX9_copyFrom_176 ?_
  refine gC_gen (fun τ18 e_τ18 => ?_)
  replace hf := ot_l hf e_τ18
  exact gr_vret X dX9_copyFrom_179 (Option.some.inj hf)
abbrev ro_hh_keep : Room := { frames := 3, cells := 0, slots := 0, locals := 122 }
def fc_hh_keep (τ : SC) : Option (Int32 × SC) := (Option.bind (fc_to_copyFrom_T1_T0 τ) fun τ2 => (hl (sc τ2 2 (fun _ => (1 : Int32))) fun τ3 => (some ((1 : Int32), τ3))))
set_option maxHeartbeats 4000000 in
set_option maxRecDepth 100000 in
theorem xc_hh_keep {l : Launch} {D : va_G} {cs : Nat → ClassId} {sK sV : Nat → Nat} {tA : Nat} {ad : Nat → Nat} {τ : SC} {r : Int32} {υ : SC} (hf : fc_hh_keep τ = some (r, υ)) : ctI l (wC ad cs) D vwCl (kC D cs sK sV tA) yX11_keep cX11_keep 1 .int ro_hh_keep [.ref (ad 16)] τ r υ := by
  refine ct_I RX11 (by decide +kernel) rfl (Nat.le_of_ble_eq_true rfl) ?_
  intro p e s m args below meth c A X hK hA
  refine gr_eqL (L2 := [(0, .ref (ad 16))]) rfl ?_
  unfold fc_hh_keep at hf
  refine gr_aload_n X dX11_keep_0 rfl 0 rfl ?_
  refine gC_get_HH_1 X hK fk11_16 dX11_keep_1 ?_
  refine gr_aload_n X dX11_keep_4 rfl 0 rfl ?_
  refine gC_get_HH_0 X hK fk11_10 dX11_keep_5 ?_
  obtain ⟨τ2, hq_, hf⟩ := ot_b hf
  refine gc_Vv (rest := []) X kC_ok hK hA cw11_382 (rvC_T1 hK) (xc_to_copyFrom_T1_T0 hq_) rfl ⟨rfl, rfl, Nat.le_of_ble_eq_true rfl, Nat.le_of_ble_eq_true rfl⟩ rfl (Nat.le_of_ble_eq_true rfl) dX11_keep_8 ?_
  refine gr_aload_n X dX11_keep_11 rfl 0 rfl ?_
  refine gr_iconst (v := 1) X dX11_keep_12 (by decide) ?_
  refine gC_put_HH_2 X hK (by decide) fk11_384 dX11_keep_13 ?_
  refine gC_gen (fun τ3 e_τ3 => ?_)
  replace hf := ot_l hf e_τ3
  refine gr_iconst (v := 1) X dX11_keep_16 (by decide) ?_
  exact gr_iret X dX11_keep_17 (Prod.mk.inj (Option.some.inj hf)).1 (Prod.mk.inj (Option.some.inj hf)).2
abbrev ro_ru_copyFrom_R0_R1 : Room := { frames := 1, cells := 0, slots := 0, locals := 80 }
def fc_ru_copyFrom_R0_R1 (τ : SC) : Option SC := (hl (sc τ 120 (fun _ => (τ.1 220 0))) fun τ1 => (hl (sc τ1 121 (va_cpy (τ1.1 221) (τ1.1 121) 0 0 8)) fun τ2 => (hl (sc τ2 122 (va_cpy (τ2.1 222) (τ2.1 122) 0 0 8)) fun τ3 => (hl (sc τ3 123 (va_cpy (τ3.1 223) (τ3.1 123) 0 0 8)) fun τ4 => (hl (sc τ4 124 (va_cpy (τ4.1 224) (τ4.1 124) 0 0 200)) fun τ5 => (some τ5))))))
set_option maxHeartbeats 4000000 in
set_option maxRecDepth 100000 in
theorem xc_ru_copyFrom_R0_R1 {l : Launch} {D : va_G} {cs : Nat → ClassId} {sK sV : Nat → Nat} {tA : Nat} {ad : Nat → Nat} {τ : SC} {υ : SC} (hf : fc_ru_copyFrom_R0_R1 τ = some υ) : ctV l (wC ad cs) D vwCl (kC D cs sK sV tA) yX8_copyFrom cX8_copyFrom 2 ro_ru_copyFrom_R0_R1 [.ref (ad 131), .ref (ad 231)] τ υ := by
  refine ct_V RX8 (by decide +kernel) rfl (Nat.le_of_ble_eq_true rfl) ?_
  intro p e s m args below meth c A X hK hA
  refine gr_eqL (L2 := [(0, .ref (ad 131)), (1, .ref (ad 231))]) rfl ?_
  unfold fc_ru_copyFrom_R0_R1 at hf
  refine gr_aload_n X dX8_copyFrom_0 rfl 0 rfl ?_
  refine gr_aload_n X dX8_copyFrom_1 rfl 1 rfl ?_
  refine gC_get_R1_0 X hK fk8_30 dX8_copyFrom_2 ?_
  refine gC_put_R0_0 X hK fk8_30 dX8_copyFrom_5 ?_
  refine gC_gen (fun τ1 e_τ1 => ?_)
  replace hf := ot_l hf e_τ1
  refine gr_aload_n X dX8_copyFrom_8 rfl 1 rfl ?_
  refine gC_get_R1_1 X hK fk8_9 dX8_copyFrom_9 ?_
  refine gr_iconst (v := 0) X dX8_copyFrom_12 (by decide) ?_
  refine gr_aload_n X dX8_copyFrom_13 rfl 0 rfl ?_
  refine gC_get_R0_1 X hK fk8_9 dX8_copyFrom_14 ?_
  refine gr_iconst (v := 0) X dX8_copyFrom_17 (by decide) ?_
  refine gr_bipush (v := 8) X dX8_copyFrom_18 (by decide) ?_
  refine gC_copy_221_121 X hK cy8_34 ⟨Nat.le_of_ble_eq_true rfl, Nat.le_of_ble_eq_true rfl⟩ dX8_copyFrom_20 ?_
  refine gC_gen (fun τ2 e_τ2 => ?_)
  replace hf := ot_l hf e_τ2
  refine gr_aload_n X dX8_copyFrom_23 rfl 1 rfl ?_
  refine gC_get_R1_2 X hK fk8_15 dX8_copyFrom_24 ?_
  refine gr_iconst (v := 0) X dX8_copyFrom_27 (by decide) ?_
  refine gr_aload_n X dX8_copyFrom_28 rfl 0 rfl ?_
  refine gC_get_R0_2 X hK fk8_15 dX8_copyFrom_29 ?_
  refine gr_iconst (v := 0) X dX8_copyFrom_32 (by decide) ?_
  refine gr_bipush (v := 8) X dX8_copyFrom_33 (by decide) ?_
  refine gC_copy_222_122 X hK cy8_34 ⟨Nat.le_of_ble_eq_true rfl, Nat.le_of_ble_eq_true rfl⟩ dX8_copyFrom_35 ?_
  refine gC_gen (fun τ3 e_τ3 => ?_)
  replace hf := ot_l hf e_τ3
  refine gr_aload_n X dX8_copyFrom_38 rfl 1 rfl ?_
  refine gC_get_R1_3 X hK fk8_18 dX8_copyFrom_39 ?_
  refine gr_iconst (v := 0) X dX8_copyFrom_42 (by decide) ?_
  refine gr_aload_n X dX8_copyFrom_43 rfl 0 rfl ?_
  refine gC_get_R0_3 X hK fk8_18 dX8_copyFrom_44 ?_
  refine gr_iconst (v := 0) X dX8_copyFrom_47 (by decide) ?_
  refine gr_bipush (v := 8) X dX8_copyFrom_48 (by decide) ?_
  refine gC_copy_223_123 X hK cy8_34 ⟨Nat.le_of_ble_eq_true rfl, Nat.le_of_ble_eq_true rfl⟩ dX8_copyFrom_50 ?_
  refine gC_gen (fun τ4 e_τ4 => ?_)
  replace hf := ot_l hf e_τ4
  refine gr_aload_n X dX8_copyFrom_53 rfl 1 rfl ?_
  refine gC_get_R1_4 X hK fk8_21 dX8_copyFrom_54 ?_
  refine gr_iconst (v := 0) X dX8_copyFrom_57 (by decide) ?_
  refine gr_aload_n X dX8_copyFrom_58 rfl 0 rfl ?_
  refine gC_get_R0_4 X hK fk8_21 dX8_copyFrom_59 ?_
  refine gr_iconst (v := 0) X dX8_copyFrom_62 (by decide) ?_
  refine gr_sipush (v := 200) X dX8_copyFrom_63 (by decide) ?_
  refine gC_copy_224_124 X hK cy8_34 ⟨Nat.le_of_ble_eq_true rfl, Nat.le_of_ble_eq_true rfl⟩ dX8_copyFrom_66 ?_
  refine gC_gen (fun τ5 e_τ5 => ?_)
  replace hf := ot_l hf e_τ5
  exact gr_vret X dX8_copyFrom_69 (Option.some.inj hf)
abbrev ro_to_moment_T1 : Room := { frames := 0, cells := 0, slots := 0, locals := 0 }
def fc_to_moment_T1 (τ : SC) : Option Int32 := (some ((((((τ.1 202 0) <<< ((23 : Int32) &&& 31)) ||| ((τ.1 205 0) <<< ((19 : Int32) &&& 31))) ||| ((τ.1 206 0) <<< ((12 : Int32) &&& 31))) ||| ((τ.1 207 0) <<< ((6 : Int32) &&& 31))) ||| (τ.1 208 0)))
set_option maxHeartbeats 4000000 in
set_option maxRecDepth 100000 in
theorem xc_to_moment_T1 {l : Launch} {D : va_G} {cs : Nat → ClassId} {sK sV : Nat → Nat} {tA : Nat} {ad : Nat → Nat} {τ : SC} {r : Int32} (hf : fc_to_moment_T1 τ = some r) : ctI l (wC ad cs) D vwCl (kC D cs sK sV tA) yX9_moment cX9_moment 1 .int ro_to_moment_T1 [.ref (ad 230)] τ r τ := by
  refine ct_I RX9 (by decide +kernel) rfl (Nat.le_of_ble_eq_true rfl) ?_
  intro p e s m args below meth c A X hK hA
  refine gr_eqL (L2 := [(0, .ref (ad 230))]) rfl ?_
  unfold fc_to_moment_T1 at hf
  refine gr_aload_n X dX9_moment_0 rfl 0 rfl ?_
  refine gC_get_T1_2 X hK fk9_108 dX9_moment_1 ?_
  refine gr_bipush (v := 23) X dX9_moment_4 (by decide) ?_
  refine gr_ishl X dX9_moment_6 ?_
  refine gr_aload_n X dX9_moment_7 rfl 0 rfl ?_
  refine gC_get_T1_5 X hK fk9_44 dX9_moment_8 ?_
  refine gr_bipush (v := 19) X dX9_moment_11 (by decide) ?_
  refine gr_ishl X dX9_moment_13 ?_
  refine gr_ior X dX9_moment_14 ?_
  refine gr_aload_n X dX9_moment_15 rfl 0 rfl ?_
  refine gC_get_T1_6 X hK fk9_111 dX9_moment_16 ?_
  refine gr_bipush (v := 12) X dX9_moment_19 (by decide) ?_
  refine gr_ishl X dX9_moment_21 ?_
  refine gr_ior X dX9_moment_22 ?_
  refine gr_aload_n X dX9_moment_23 rfl 0 rfl ?_
  refine gC_get_T1_7 X hK fk9_114 dX9_moment_24 ?_
  refine gr_bipush (v := 6) X dX9_moment_27 (by decide) ?_
  refine gr_ishl X dX9_moment_29 ?_
  refine gr_ior X dX9_moment_30 ?_
  refine gr_aload_n X dX9_moment_31 rfl 0 rfl ?_
  refine gC_get_T1_8 X hK fk9_117 dX9_moment_32 ?_
  refine gr_ior X dX9_moment_35 ?_
  exact gr_iret X dX9_moment_36 (Option.some.inj hf) rfl
abbrev ro_to_copyFrom_T1 : Room := { frames := 2, cells := 0, slots := 0, locals := 101 }
def fc_to_copyFrom_T1 (τ : SC) : Option SC := (Option.bind (fc_ru_copyFrom_R0_R1 τ) fun τ2 => (Option.bind (fc_to_moment_T1 τ2) fun q3 => (Option.bind (fc_to_recall q3 τ2) fun τ5 => (hl (sc τ5 103 (fun _ => (τ5.1 203 0))) fun τ6 => (hl (sc τ6 104 (fun _ => (τ6.1 204 0))) fun τ7 => (hl (sc τ7 109 (fun _ => (τ7.1 209 0))) fun τ8 => (hl (sc τ8 113 (fun _ => (τ8.1 213 0))) fun τ9 => (hl (sc τ9 118 (fun _ => (τ9.1 218 0))) fun τ10 => (hl (sc τ10 110 (va_cpy (τ10.1 210) (τ10.1 110) 0 0 16)) fun τ11 => (hl (sc τ11 111 (va_cpy (τ11.1 211) (τ11.1 111) 0 0 6)) fun τ12 => (hl (sc τ12 112 (va_cpy (τ12.1 212) (τ12.1 112) 0 0 6)) fun τ13 => (hl (sc τ13 114 (va_cpy (τ13.1 214) (τ13.1 114) 0 0 6)) fun τ14 => (hl (sc τ14 115 (va_cpy (τ14.1 215) (τ14.1 115) 0 0 6)) fun τ15 => (hl (sc τ15 116 (va_cpy (τ15.1 216) (τ15.1 116) 0 0 6)) fun τ16 => (hl (sc τ16 117 (va_cpy (τ16.1 217) (τ16.1 117) 0 0 6)) fun τ17 => (hl (sc τ17 119 (va_cpy (τ17.1 219) (τ17.1 119) 0 0 24)) fun τ18 => (some τ18)))))))))))))))))
set_option maxHeartbeats 4000000 in
set_option maxRecDepth 100000 in
theorem xc_to_copyFrom_T1 {l : Launch} {D : va_G} {cs : Nat → ClassId} {sK sV : Nat → Nat} {tA : Nat} {ad : Nat → Nat} {τ : SC} {υ : SC} (hf : fc_to_copyFrom_T1 τ = some υ) : ctV l (wC ad cs) D vwCl (kC D cs sK sV tA) yX9_copyFrom cX9_copyFrom 2 ro_to_copyFrom_T1 [.ref (ad 130), .ref (ad 230)] τ υ := by
  refine ct_V RX9 (by decide +kernel) rfl (Nat.le_of_ble_eq_true rfl) ?_
  intro p e s m args below meth c A X hK hA
  refine gr_eqL (L2 := [(0, .ref (ad 130)), (1, .ref (ad 230))]) rfl ?_
  unfold fc_to_copyFrom_T1 at hf
  refine gr_aload_n X dX9_copyFrom_0 rfl 0 rfl ?_
  refine gC_get_T0_1 X hK fk9_36 dX9_copyFrom_1 ?_
  refine gr_aload_n X dX9_copyFrom_4 rfl 1 rfl ?_
  refine gC_get_T1_1 X hK fk9_36 dX9_copyFrom_5 ?_
  obtain ⟨τ2, hq_, hf⟩ := ot_b hf
  refine gc_Vv (rest := []) X kC_ok hK hA cw9_81 (rvC_R0 hK) (xc_ru_copyFrom_R0_R1 hq_) rfl ⟨rfl, rfl, Nat.le_of_ble_eq_true rfl, Nat.le_of_ble_eq_true rfl⟩ rfl (Nat.le_of_ble_eq_true rfl) dX9_copyFrom_8 ?_
  refine gr_aload_n X dX9_copyFrom_11 rfl 0 rfl ?_
  refine gr_aload_n X dX9_copyFrom_12 rfl 1 rfl ?_
  obtain ⟨q3, hq_, hf⟩ := ot_b hf
  refine gc_Vi (rest := [.ref (ad 130)]) X kC_ok hK hA cw9_85 (rvC_T1 hK) (xc_to_moment_T1 hq_) rfl ⟨rfl, rfl, Nat.le_of_ble_eq_true rfl, Nat.le_of_ble_eq_true rfl⟩ rfl (Nat.le_of_ble_eq_true rfl) dX9_copyFrom_13 ?_
  obtain ⟨τ5, hq_, hf⟩ := ot_b hf
  refine gc_Vv (rest := []) X kC_ok hK hA cw9_89 (rvC_T0 hK) (xc_to_recall hq_) rfl ⟨rfl, rfl, Nat.le_of_ble_eq_true rfl, Nat.le_of_ble_eq_true rfl⟩ rfl (Nat.le_of_ble_eq_true rfl) dX9_copyFrom_16 ?_
  refine gr_aload_n X dX9_copyFrom_19 rfl 0 rfl ?_
  refine gr_aload_n X dX9_copyFrom_20 rfl 1 rfl ?_
  refine gC_get_T1_3 X hK fk9_40 dX9_copyFrom_21 ?_
  refine gC_put_T0_3 X hK fk9_40 dX9_copyFrom_24 ?_
  refine gC_gen (fun τ6 e_τ6 => ?_)
  replace hf := ot_l hf e_τ6
  refine gr_aload_n X dX9_copyFrom_27 rfl 0 rfl ?_
  refine gr_aload_n X dX9_copyFrom_28 rfl 1 rfl ?_
  refine gC_get_T1_4 X hK fk9_93 dX9_copyFrom_29 ?_
  refine gC_put_T0_4 X hK fk9_93 dX9_copyFrom_32 ?_
  refine gC_gen (fun τ7 e_τ7 => ?_)
  replace hf := ot_l hf e_τ7
  refine gr_aload_n X dX9_copyFrom_35 rfl 0 rfl ?_
  refine gr_aload_n X dX9_copyFrom_36 rfl 1 rfl ?_
  refine gC_get_T1_9 X hK fk9_47 dX9_copyFrom_37 ?_
  refine gC_put_T0_9 X hK fk9_47 dX9_copyFrom_40 ?_
  refine gC_gen (fun τ8 e_τ8 => ?_)
  replace hf := ot_l hf e_τ8
  refine gr_aload_n X dX9_copyFrom_43 rfl 0 rfl ?_
  refine gr_aload_n X dX9_copyFrom_44 rfl 1 rfl ?_
  refine gC_get_T1_13 X hK fk9_96 dX9_copyFrom_45 ?_
  refine gC_put_T0_13 X hK fk9_96 dX9_copyFrom_48 ?_
  refine gC_gen (fun τ9 e_τ9 => ?_)
  replace hf := ot_l hf e_τ9
  refine gr_aload_n X dX9_copyFrom_51 rfl 0 rfl ?_
  refine gr_aload_n X dX9_copyFrom_52 rfl 1 rfl ?_
  refine gC_get_T1_18 X hK fk9_99 dX9_copyFrom_53 ?_
  refine gC_put_T0_18 X hK fk9_99 dX9_copyFrom_56 ?_
  refine gC_gen (fun τ10 e_τ10 => ?_)
  replace hf := ot_l hf e_τ10
  refine gr_aload_n X dX9_copyFrom_59 rfl 1 rfl ?_
  refine gC_get_T1_10 X hK fk9_50 dX9_copyFrom_60 ?_
  refine gr_iconst (v := 0) X dX9_copyFrom_63 (by decide) ?_
  refine gr_aload_n X dX9_copyFrom_64 rfl 0 rfl ?_
  refine gC_get_T0_10 X hK fk9_50 dX9_copyFrom_65 ?_
  refine gr_iconst (v := 0) X dX9_copyFrom_68 (by decide) ?_
  refine gr_bipush (v := 16) X dX9_copyFrom_69 (by decide) ?_
  refine gC_copy_210_110 X hK cy9_102 ⟨Nat.le_of_ble_eq_true rfl, Nat.le_of_ble_eq_true rfl⟩ dX9_copyFrom_71 ?_
  refine gC_gen (fun τ11 e_τ11 => ?_)
  replace hf := ot_l hf e_τ11
  refine gr_aload_n X dX9_copyFrom_74 rfl 1 rfl ?_
  refine gC_get_T1_11 X hK fk9_54 dX9_copyFrom_75 ?_
  refine gr_iconst (v := 0) X dX9_copyFrom_78 (by decide) ?_
  refine gr_aload_n X dX9_copyFrom_79 rfl 0 rfl ?_
  refine gC_get_T0_11 X hK fk9_54 dX9_copyFrom_80 ?_
  refine gr_iconst (v := 0) X dX9_copyFrom_83 (by decide) ?_
  refine gr_bipush (v := 6) X dX9_copyFrom_84 (by decide) ?_
  refine gC_copy_211_111 X hK cy9_102 ⟨Nat.le_of_ble_eq_true rfl, Nat.le_of_ble_eq_true rfl⟩ dX9_copyFrom_86 ?_
  refine gC_gen (fun τ12 e_τ12 => ?_)
  replace hf := ot_l hf e_τ12
  refine gr_aload_n X dX9_copyFrom_89 rfl 1 rfl ?_
  refine gC_get_T1_12 X hK fk9_57 dX9_copyFrom_90 ?_
  refine gr_iconst (v := 0) X dX9_copyFrom_93 (by decide) ?_
  refine gr_aload_n X dX9_copyFrom_94 rfl 0 rfl ?_
  refine gC_get_T0_12 X hK fk9_57 dX9_copyFrom_95 ?_
  refine gr_iconst (v := 0) X dX9_copyFrom_98 (by decide) ?_
  refine gr_bipush (v := 6) X dX9_copyFrom_99 (by decide) ?_
  refine gC_copy_212_112 X hK cy9_102 ⟨Nat.le_of_ble_eq_true rfl, Nat.le_of_ble_eq_true rfl⟩ dX9_copyFrom_101 ?_
  refine gC_gen (fun τ13 e_τ13 => ?_)
  replace hf := ot_l hf e_τ13
  refine gr_aload_n X dX9_copyFrom_104 rfl 1 rfl ?_
  refine gC_get_T1_14 X hK fk9_60 dX9_copyFrom_105 ?_
  refine gr_iconst (v := 0) X dX9_copyFrom_108 (by decide) ?_
  refine gr_aload_n X dX9_copyFrom_109 rfl 0 rfl ?_
  refine gC_get_T0_14 X hK fk9_60 dX9_copyFrom_110 ?_
  refine gr_iconst (v := 0) X dX9_copyFrom_113 (by decide) ?_
  refine gr_bipush (v := 6) X dX9_copyFrom_114 (by decide) ?_
  refine gC_copy_214_114 X hK cy9_102 ⟨Nat.le_of_ble_eq_true rfl, Nat.le_of_ble_eq_true rfl⟩ dX9_copyFrom_116 ?_
  refine gC_gen (fun τ14 e_τ14 => ?_)
  replace hf := ot_l hf e_τ14
  refine gr_aload_n X dX9_copyFrom_119 rfl 1 rfl ?_
  refine gC_get_T1_15 X hK fk9_63 dX9_copyFrom_120 ?_
  refine gr_iconst (v := 0) X dX9_copyFrom_123 (by decide) ?_
  refine gr_aload_n X dX9_copyFrom_124 rfl 0 rfl ?_
  refine gC_get_T0_15 X hK fk9_63 dX9_copyFrom_125 ?_
  refine gr_iconst (v := 0) X dX9_copyFrom_128 (by decide) ?_
  refine gr_bipush (v := 6) X dX9_copyFrom_129 (by decide) ?_
  refine gC_copy_215_115 X hK cy9_102 ⟨Nat.le_of_ble_eq_true rfl, Nat.le_of_ble_eq_true rfl⟩ dX9_copyFrom_131 ?_
  refine gC_gen (fun τ15 e_τ15 => ?_)
  replace hf := ot_l hf e_τ15
  refine gr_aload_n X dX9_copyFrom_134 rfl 1 rfl ?_
  refine gC_get_T1_16 X hK fk9_66 dX9_copyFrom_135 ?_
  refine gr_iconst (v := 0) X dX9_copyFrom_138 (by decide) ?_
  refine gr_aload_n X dX9_copyFrom_139 rfl 0 rfl ?_
  refine gC_get_T0_16 X hK fk9_66 dX9_copyFrom_140 ?_
  refine gr_iconst (v := 0) X dX9_copyFrom_143 (by decide) ?_
  refine gr_bipush (v := 6) X dX9_copyFrom_144 (by decide) ?_
  refine gC_copy_216_116 X hK cy9_102 ⟨Nat.le_of_ble_eq_true rfl, Nat.le_of_ble_eq_true rfl⟩ dX9_copyFrom_146 ?_
  refine gC_gen (fun τ16 e_τ16 => ?_)
  replace hf := ot_l hf e_τ16
  refine gr_aload_n X dX9_copyFrom_149 rfl 1 rfl ?_
  refine gC_get_T1_17 X hK fk9_69 dX9_copyFrom_150 ?_
  refine gr_iconst (v := 0) X dX9_copyFrom_153 (by decide) ?_
  refine gr_aload_n X dX9_copyFrom_154 rfl 0 rfl ?_
  refine gC_get_T0_17 X hK fk9_69 dX9_copyFrom_155 ?_
  refine gr_iconst (v := 0) X dX9_copyFrom_158 (by decide) ?_
  refine gr_bipush (v := 6) X dX9_copyFrom_159 (by decide) ?_
  refine gC_copy_217_117 X hK cy9_102 ⟨Nat.le_of_ble_eq_true rfl, Nat.le_of_ble_eq_true rfl⟩ dX9_copyFrom_161 ?_
  refine gC_gen (fun τ17 e_τ17 => ?_)
  replace hf := ot_l hf e_τ17
  refine gr_aload_n X dX9_copyFrom_164 rfl 1 rfl ?_
  refine gC_get_T1_19 X hK fk9_72 dX9_copyFrom_165 ?_
  refine gr_iconst (v := 0) X dX9_copyFrom_168 (by decide) ?_
  refine gr_aload_n X dX9_copyFrom_169 rfl 0 rfl ?_
  refine gC_get_T0_19 X hK fk9_72 dX9_copyFrom_170 ?_
  refine gr_iconst (v := 0) X dX9_copyFrom_173 (by decide) ?_
  refine gr_bipush (v := 24) X dX9_copyFrom_174 (by decide) ?_
  refine gC_copy_219_119 X hK cy9_102 ⟨Nat.le_of_ble_eq_true rfl, Nat.le_of_ble_eq_true rfl⟩ dX9_copyFrom_176 ?_
  refine gC_gen (fun τ18 e_τ18 => ?_)
  replace hf := ot_l hf e_τ18
  exact gr_vret X dX9_copyFrom_179 (Option.some.inj hf)
abbrev ro_hh_again : Room := { frames := 3, cells := 0, slots := 0, locals := 122 }
def fc_hh_again (τ : SC) : Option (Int32 × SC) := (if ¬ (τ.1 2 0) = 0 then (Option.bind (fc_to_copyFrom_T1 τ) fun τ2 => (some ((τ2.1 113 0), τ2))) else (some ((-3 : Int32), τ)))
set_option maxHeartbeats 4000000 in
set_option maxRecDepth 100000 in
theorem xc_hh_again {l : Launch} {D : va_G} {cs : Nat → ClassId} {sK sV : Nat → Nat} {tA : Nat} {ad : Nat → Nat} {τ : SC} {r : Int32} {υ : SC} (hf : fc_hh_again τ = some (r, υ)) : ctI l (wC ad cs) D vwCl (kC D cs sK sV tA) yX11_again cX11_again 1 .int ro_hh_again [.ref (ad 16)] τ r υ := by
  refine ct_I RX11 (by decide +kernel) rfl (Nat.le_of_ble_eq_true rfl) ?_
  intro p e s m args below meth c A X hK hA
  refine gr_eqL (L2 := [(0, .ref (ad 16))]) rfl ?_
  unfold fc_hh_again at hf
  refine gr_aload_n X dX11_again_0 rfl 0 rfl ?_
  refine gC_get_HH_2 X hK fk11_384 dX11_again_1 ?_
  refine gr_if_ne X 10 dX11_again_4 (by decide) (fun hc_ => ?_) (fun hc_ => ?_)
  · replace hf := ot_t hf hc_
    refine gr_aload_n X dX11_again_10 rfl 0 rfl ?_
    refine gC_get_HH_0 X hK fk11_10 dX11_again_11 ?_
    refine gr_aload_n X dX11_again_14 rfl 0 rfl ?_
    refine gC_get_HH_1 X hK fk11_16 dX11_again_15 ?_
    obtain ⟨τ2, hq_, hf⟩ := ot_b hf
    refine gc_Vv (rest := []) X kC_ok hK hA cw11_382 (rvC_T0 hK) (xc_to_copyFrom_T1 hq_) rfl ⟨rfl, rfl, Nat.le_of_ble_eq_true rfl, Nat.le_of_ble_eq_true rfl⟩ rfl (Nat.le_of_ble_eq_true rfl) dX11_again_18 ?_
    refine gr_aload_n X dX11_again_21 rfl 0 rfl ?_
    refine gC_get_HH_0 X hK fk11_10 dX11_again_22 ?_
    refine gC_get_T0_13 X hK fk11_83 dX11_again_25 ?_
    exact gr_iret X dX11_again_28 (Prod.mk.inj (Option.some.inj hf)).1 (Prod.mk.inj (Option.some.inj hf)).2
  · replace hf := ot_f hf hc_
    refine gr_bipush (v := -3) X dX11_again_7 (by decide) ?_
    exact gr_iret X dX11_again_9 (Prod.mk.inj (Option.some.inj hf)).1 (Prod.mk.inj (Option.some.inj hf)).2
