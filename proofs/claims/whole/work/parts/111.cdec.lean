theorem dX9_copyFrom_28 : decode cX9_copyFrom 28 = .ok (.aload_n 1, 1) := by decide +kernel
theorem dX9_copyFrom_29 : decode cX9_copyFrom 29 = .ok (.getfield 93, 3) := by decide +kernel
theorem dX9_copyFrom_32 : decode cX9_copyFrom 32 = .ok (.putfield 93, 3) := by decide +kernel
theorem dX9_copyFrom_35 : decode cX9_copyFrom 35 = .ok (.aload_n 0, 1) := by decide +kernel
theorem dX9_copyFrom_36 : decode cX9_copyFrom 36 = .ok (.aload_n 1, 1) := by decide +kernel
theorem dX9_copyFrom_37 : decode cX9_copyFrom 37 = .ok (.getfield 47, 3) := by decide +kernel
theorem dX9_copyFrom_40 : decode cX9_copyFrom 40 = .ok (.putfield 47, 3) := by decide +kernel
theorem dX9_copyFrom_43 : decode cX9_copyFrom 43 = .ok (.aload_n 0, 1) := by decide +kernel
theorem dX9_copyFrom_44 : decode cX9_copyFrom 44 = .ok (.aload_n 1, 1) := by decide +kernel
theorem dX9_copyFrom_45 : decode cX9_copyFrom 45 = .ok (.getfield 96, 3) := by decide +kernel
theorem dX9_copyFrom_48 : decode cX9_copyFrom 48 = .ok (.putfield 96, 3) := by decide +kernel
theorem dX9_copyFrom_51 : decode cX9_copyFrom 51 = .ok (.aload_n 0, 1) := by decide +kernel
theorem dX9_copyFrom_52 : decode cX9_copyFrom 52 = .ok (.aload_n 1, 1) := by decide +kernel
theorem dX9_copyFrom_53 : decode cX9_copyFrom 53 = .ok (.getfield 99, 3) := by decide +kernel
theorem dX9_copyFrom_56 : decode cX9_copyFrom 56 = .ok (.putfield 99, 3) := by decide +kernel
theorem dX9_copyFrom_59 : decode cX9_copyFrom 59 = .ok (.aload_n 1, 1) := by decide +kernel
theorem dX9_copyFrom_60 : decode cX9_copyFrom 60 = .ok (.getfield 50, 3) := by decide +kernel
theorem dX9_copyFrom_63 : decode cX9_copyFrom 63 = .ok (.iconst 0, 1) := by decide +kernel
theorem dX9_copyFrom_64 : decode cX9_copyFrom 64 = .ok (.aload_n 0, 1) := by decide +kernel
theorem dX9_copyFrom_65 : decode cX9_copyFrom 65 = .ok (.getfield 50, 3) := by decide +kernel
theorem dX9_copyFrom_68 : decode cX9_copyFrom 68 = .ok (.iconst 0, 1) := by decide +kernel
theorem dX9_copyFrom_69 : decode cX9_copyFrom 69 = .ok (.bipush 16, 2) := by decide +kernel
theorem dX9_copyFrom_71 : decode cX9_copyFrom 71 = .ok (.invokestatic 102, 3) := by decide +kernel
theorem dX9_copyFrom_74 : decode cX9_copyFrom 74 = .ok (.aload_n 1, 1) := by decide +kernel
theorem dX9_copyFrom_75 : decode cX9_copyFrom 75 = .ok (.getfield 54, 3) := by decide +kernel
theorem dX9_copyFrom_78 : decode cX9_copyFrom 78 = .ok (.iconst 0, 1) := by decide +kernel
theorem dX9_copyFrom_79 : decode cX9_copyFrom 79 = .ok (.aload_n 0, 1) := by decide +kernel
theorem dX9_copyFrom_80 : decode cX9_copyFrom 80 = .ok (.getfield 54, 3) := by decide +kernel
theorem dX9_copyFrom_83 : decode cX9_copyFrom 83 = .ok (.iconst 0, 1) := by decide +kernel
theorem dX9_copyFrom_84 : decode cX9_copyFrom 84 = .ok (.bipush 6, 2) := by decide +kernel
theorem dX9_copyFrom_86 : decode cX9_copyFrom 86 = .ok (.invokestatic 102, 3) := by decide +kernel
theorem dX9_copyFrom_89 : decode cX9_copyFrom 89 = .ok (.aload_n 1, 1) := by decide +kernel
theorem dX9_copyFrom_90 : decode cX9_copyFrom 90 = .ok (.getfield 57, 3) := by decide +kernel
theorem dX9_copyFrom_93 : decode cX9_copyFrom 93 = .ok (.iconst 0, 1) := by decide +kernel
theorem dX9_copyFrom_94 : decode cX9_copyFrom 94 = .ok (.aload_n 0, 1) := by decide +kernel
theorem dX9_copyFrom_95 : decode cX9_copyFrom 95 = .ok (.getfield 57, 3) := by decide +kernel
theorem dX9_copyFrom_98 : decode cX9_copyFrom 98 = .ok (.iconst 0, 1) := by decide +kernel
theorem dX9_copyFrom_99 : decode cX9_copyFrom 99 = .ok (.bipush 6, 2) := by decide +kernel
theorem dX9_copyFrom_101 : decode cX9_copyFrom 101 = .ok (.invokestatic 102, 3) := by decide +kernel
theorem dX9_copyFrom_104 : decode cX9_copyFrom 104 = .ok (.aload_n 1, 1) := by decide +kernel
theorem dX9_copyFrom_105 : decode cX9_copyFrom 105 = .ok (.getfield 60, 3) := by decide +kernel
theorem dX9_copyFrom_108 : decode cX9_copyFrom 108 = .ok (.iconst 0, 1) := by decide +kernel
theorem dX9_copyFrom_109 : decode cX9_copyFrom 109 = .ok (.aload_n 0, 1) := by decide +kernel
theorem dX9_copyFrom_110 : decode cX9_copyFrom 110 = .ok (.getfield 60, 3) := by decide +kernel
theorem dX9_copyFrom_113 : decode cX9_copyFrom 113 = .ok (.iconst 0, 1) := by decide +kernel
theorem dX9_copyFrom_114 : decode cX9_copyFrom 114 = .ok (.bipush 6, 2) := by decide +kernel
theorem dX9_copyFrom_116 : decode cX9_copyFrom 116 = .ok (.invokestatic 102, 3) := by decide +kernel
theorem dX9_copyFrom_119 : decode cX9_copyFrom 119 = .ok (.aload_n 1, 1) := by decide +kernel
theorem dX9_copyFrom_120 : decode cX9_copyFrom 120 = .ok (.getfield 63, 3) := by decide +kernel
theorem dX9_copyFrom_123 : decode cX9_copyFrom 123 = .ok (.iconst 0, 1) := by decide +kernel
theorem dX9_copyFrom_124 : decode cX9_copyFrom 124 = .ok (.aload_n 0, 1) := by decide +kernel
theorem dX9_copyFrom_125 : decode cX9_copyFrom 125 = .ok (.getfield 63, 3) := by decide +kernel
theorem dX9_copyFrom_128 : decode cX9_copyFrom 128 = .ok (.iconst 0, 1) := by decide +kernel
theorem dX9_copyFrom_129 : decode cX9_copyFrom 129 = .ok (.bipush 6, 2) := by decide +kernel
theorem dX9_copyFrom_131 : decode cX9_copyFrom 131 = .ok (.invokestatic 102, 3) := by decide +kernel
theorem dX9_copyFrom_134 : decode cX9_copyFrom 134 = .ok (.aload_n 1, 1) := by decide +kernel
theorem dX9_copyFrom_135 : decode cX9_copyFrom 135 = .ok (.getfield 66, 3) := by decide +kernel
theorem dX9_copyFrom_138 : decode cX9_copyFrom 138 = .ok (.iconst 0, 1) := by decide +kernel
theorem dX9_copyFrom_139 : decode cX9_copyFrom 139 = .ok (.aload_n 0, 1) := by decide +kernel
theorem dX9_copyFrom_140 : decode cX9_copyFrom 140 = .ok (.getfield 66, 3) := by decide +kernel
theorem dX9_copyFrom_143 : decode cX9_copyFrom 143 = .ok (.iconst 0, 1) := by decide +kernel
theorem dX9_copyFrom_144 : decode cX9_copyFrom 144 = .ok (.bipush 6, 2) := by decide +kernel
theorem dX9_copyFrom_146 : decode cX9_copyFrom 146 = .ok (.invokestatic 102, 3) := by decide +kernel
theorem dX9_copyFrom_149 : decode cX9_copyFrom 149 = .ok (.aload_n 1, 1) := by decide +kernel
theorem dX9_copyFrom_150 : decode cX9_copyFrom 150 = .ok (.getfield 69, 3) := by decide +kernel
theorem dX9_copyFrom_153 : decode cX9_copyFrom 153 = .ok (.iconst 0, 1) := by decide +kernel
theorem dX9_copyFrom_154 : decode cX9_copyFrom 154 = .ok (.aload_n 0, 1) := by decide +kernel
theorem dX9_copyFrom_155 : decode cX9_copyFrom 155 = .ok (.getfield 69, 3) := by decide +kernel
theorem dX9_copyFrom_158 : decode cX9_copyFrom 158 = .ok (.iconst 0, 1) := by decide +kernel
theorem dX9_copyFrom_159 : decode cX9_copyFrom 159 = .ok (.bipush 6, 2) := by decide +kernel
theorem dX9_copyFrom_161 : decode cX9_copyFrom 161 = .ok (.invokestatic 102, 3) := by decide +kernel
theorem dX9_copyFrom_164 : decode cX9_copyFrom 164 = .ok (.aload_n 1, 1) := by decide +kernel
theorem dX9_copyFrom_165 : decode cX9_copyFrom 165 = .ok (.getfield 72, 3) := by decide +kernel
theorem dX9_copyFrom_168 : decode cX9_copyFrom 168 = .ok (.iconst 0, 1) := by decide +kernel
theorem dX9_copyFrom_169 : decode cX9_copyFrom 169 = .ok (.aload_n 0, 1) := by decide +kernel
theorem dX9_copyFrom_170 : decode cX9_copyFrom 170 = .ok (.getfield 72, 3) := by decide +kernel
theorem dX9_copyFrom_173 : decode cX9_copyFrom 173 = .ok (.iconst 0, 1) := by decide +kernel
theorem dX9_copyFrom_174 : decode cX9_copyFrom 174 = .ok (.bipush 24, 2) := by decide +kernel
theorem dX9_copyFrom_176 : decode cX9_copyFrom 176 = .ok (.invokestatic 102, 3) := by decide +kernel
theorem dX9_copyFrom_179 : decode cX9_copyFrom 179 = .ok (.return_, 1) := by decide +kernel
theorem dX9_moment_0 : decode cX9_moment 0 = .ok (.aload_n 0, 1) := by decide +kernel
theorem dX9_moment_1 : decode cX9_moment 1 = .ok (.getfield 108, 3) := by decide +kernel
theorem dX9_moment_4 : decode cX9_moment 4 = .ok (.bipush 23, 2) := by decide +kernel
theorem dX9_moment_6 : decode cX9_moment 6 = .ok (.ishl, 1) := by decide +kernel
theorem dX9_moment_7 : decode cX9_moment 7 = .ok (.aload_n 0, 1) := by decide +kernel
theorem dX9_moment_8 : decode cX9_moment 8 = .ok (.getfield 44, 3) := by decide +kernel
theorem dX9_moment_11 : decode cX9_moment 11 = .ok (.bipush 19, 2) := by decide +kernel
theorem dX9_moment_13 : decode cX9_moment 13 = .ok (.ishl, 1) := by decide +kernel
theorem dX9_moment_14 : decode cX9_moment 14 = .ok (.ior, 1) := by decide +kernel
theorem dX9_moment_15 : decode cX9_moment 15 = .ok (.aload_n 0, 1) := by decide +kernel
theorem dX9_moment_16 : decode cX9_moment 16 = .ok (.getfield 111, 3) := by decide +kernel
theorem dX9_moment_19 : decode cX9_moment 19 = .ok (.bipush 12, 2) := by decide +kernel
theorem dX9_moment_21 : decode cX9_moment 21 = .ok (.ishl, 1) := by decide +kernel
theorem dX9_moment_22 : decode cX9_moment 22 = .ok (.ior, 1) := by decide +kernel
theorem dX9_moment_23 : decode cX9_moment 23 = .ok (.aload_n 0, 1) := by decide +kernel
theorem dX9_moment_24 : decode cX9_moment 24 = .ok (.getfield 114, 3) := by decide +kernel
theorem dX9_moment_27 : decode cX9_moment 27 = .ok (.bipush 6, 2) := by decide +kernel
theorem dX9_moment_29 : decode cX9_moment 29 = .ok (.ishl, 1) := by decide +kernel
theorem dX9_moment_30 : decode cX9_moment 30 = .ok (.ior, 1) := by decide +kernel
theorem dX9_moment_31 : decode cX9_moment 31 = .ok (.aload_n 0, 1) := by decide +kernel
theorem dX9_moment_32 : decode cX9_moment 32 = .ok (.getfield 117, 3) := by decide +kernel
theorem dX9_moment_35 : decode cX9_moment 35 = .ok (.ior, 1) := by decide +kernel
theorem dX9_moment_36 : decode cX9_moment 36 = .ok (.ireturn, 1) := by decide +kernel
theorem dX9_recall_0 : decode cX9_recall 0 = .ok (.aload_n 0, 1) := by decide +kernel
theorem dX9_recall_1 : decode cX9_recall 1 = .ok (.iload_n 1, 1) := by decide +kernel
theorem dX9_recall_2 : decode cX9_recall 2 = .ok (.bipush 23, 2) := by decide +kernel
theorem dX9_recall_4 : decode cX9_recall 4 = .ok (.iushr, 1) := by decide +kernel
theorem dX9_recall_5 : decode cX9_recall 5 = .ok (.putfield 108, 3) := by decide +kernel
theorem dX9_recall_8 : decode cX9_recall 8 = .ok (.aload_n 0, 1) := by decide +kernel
theorem dX9_recall_9 : decode cX9_recall 9 = .ok (.iload_n 1, 1) := by decide +kernel
theorem dX9_recall_10 : decode cX9_recall 10 = .ok (.bipush 19, 2) := by decide +kernel
theorem dX9_recall_12 : decode cX9_recall 12 = .ok (.iushr, 1) := by decide +kernel
theorem dX9_recall_13 : decode cX9_recall 13 = .ok (.bipush 15, 2) := by decide +kernel
theorem dX9_recall_15 : decode cX9_recall 15 = .ok (.iand, 1) := by decide +kernel
theorem dX9_recall_16 : decode cX9_recall 16 = .ok (.putfield 44, 3) := by decide +kernel
theorem dX9_recall_19 : decode cX9_recall 19 = .ok (.aload_n 0, 1) := by decide +kernel
theorem dX9_recall_20 : decode cX9_recall 20 = .ok (.iload_n 1, 1) := by decide +kernel
theorem dX9_recall_21 : decode cX9_recall 21 = .ok (.bipush 12, 2) := by decide +kernel
theorem dX9_recall_23 : decode cX9_recall 23 = .ok (.iushr, 1) := by decide +kernel
theorem dX9_recall_24 : decode cX9_recall 24 = .ok (.bipush 127, 2) := by decide +kernel
theorem dX9_recall_26 : decode cX9_recall 26 = .ok (.iand, 1) := by decide +kernel
theorem dX9_recall_27 : decode cX9_recall 27 = .ok (.putfield 111, 3) := by decide +kernel
theorem dX9_recall_30 : decode cX9_recall 30 = .ok (.aload_n 0, 1) := by decide +kernel
theorem dX9_recall_31 : decode cX9_recall 31 = .ok (.iload_n 1, 1) := by decide +kernel
theorem dX9_recall_32 : decode cX9_recall 32 = .ok (.bipush 6, 2) := by decide +kernel
theorem dX9_recall_34 : decode cX9_recall 34 = .ok (.iushr, 1) := by decide +kernel
theorem dX9_recall_35 : decode cX9_recall 35 = .ok (.bipush 63, 2) := by decide +kernel
theorem dX9_recall_37 : decode cX9_recall 37 = .ok (.iand, 1) := by decide +kernel
theorem dX9_recall_38 : decode cX9_recall 38 = .ok (.putfield 114, 3) := by decide +kernel
theorem dX9_recall_41 : decode cX9_recall 41 = .ok (.aload_n 0, 1) := by decide +kernel
theorem dX9_recall_42 : decode cX9_recall 42 = .ok (.iload_n 1, 1) := by decide +kernel
theorem dX9_recall_43 : decode cX9_recall 43 = .ok (.bipush 63, 2) := by decide +kernel
theorem dX9_recall_45 : decode cX9_recall 45 = .ok (.iand, 1) := by decide +kernel
theorem dX9_recall_46 : decode cX9_recall 46 = .ok (.putfield 117, 3) := by decide +kernel
theorem dX9_recall_49 : decode cX9_recall 49 = .ok (.return_, 1) := by decide +kernel
theorem dX9_settle_0 : decode cX9_settle 0 = .ok (.aload_n 0, 1) := by decide +kernel
theorem dX9_settle_1 : decode cX9_settle 1 = .ok (.getfield 96, 3) := by decide +kernel
theorem dX9_settle_4 : decode cX9_settle 4 = .ok (.istore 5, 2) := by decide +kernel
theorem dX9_settle_6 : decode cX9_settle 6 = .ok (.aload_n 0, 1) := by decide +kernel
theorem dX9_settle_7 : decode cX9_settle 7 = .ok (.getfield 60, 3) := by decide +kernel
theorem dX9_settle_10 : decode cX9_settle 10 = .ok (.iload 5, 2) := by decide +kernel
theorem dX9_settle_12 : decode cX9_settle 12 = .ok (.iload_n 1, 1) := by decide +kernel
theorem dX9_settle_13 : decode cX9_settle 13 = .ok (.iastore, 1) := by decide +kernel
theorem dX9_settle_14 : decode cX9_settle 14 = .ok (.aload_n 0, 1) := by decide +kernel
theorem dX9_settle_15 : decode cX9_settle 15 = .ok (.getfield 63, 3) := by decide +kernel
theorem dX9_settle_18 : decode cX9_settle 18 = .ok (.iload 5, 2) := by decide +kernel
theorem dX9_settle_20 : decode cX9_settle 20 = .ok (.iload_n 2, 1) := by decide +kernel
theorem dX9_settle_21 : decode cX9_settle 21 = .ok (.iastore, 1) := by decide +kernel
theorem dX9_settle_22 : decode cX9_settle 22 = .ok (.aload_n 0, 1) := by decide +kernel
theorem dX9_settle_23 : decode cX9_settle 23 = .ok (.getfield 66, 3) := by decide +kernel
theorem dX9_settle_26 : decode cX9_settle 26 = .ok (.iload 5, 2) := by decide +kernel
theorem dX9_settle_28 : decode cX9_settle 28 = .ok (.iload_n 3, 1) := by decide +kernel
theorem dX9_settle_29 : decode cX9_settle 29 = .ok (.iastore, 1) := by decide +kernel
theorem dX9_settle_30 : decode cX9_settle 30 = .ok (.aload_n 0, 1) := by decide +kernel
theorem dX9_settle_31 : decode cX9_settle 31 = .ok (.getfield 69, 3) := by decide +kernel
theorem dX9_settle_34 : decode cX9_settle 34 = .ok (.iload 5, 2) := by decide +kernel
theorem dX9_settle_36 : decode cX9_settle 36 = .ok (.iload 4, 2) := by decide +kernel
theorem dX9_settle_38 : decode cX9_settle 38 = .ok (.iastore, 1) := by decide +kernel
theorem dX9_settle_39 : decode cX9_settle 39 = .ok (.aload_n 0, 1) := by decide +kernel
theorem dX9_settle_40 : decode cX9_settle 40 = .ok (.aload_n 0, 1) := by decide +kernel
theorem dX9_settle_41 : decode cX9_settle 41 = .ok (.getfield 114, 3) := by decide +kernel
theorem dX9_settle_44 : decode cX9_settle 44 = .ok (.iload 5, 2) := by decide +kernel
theorem dX9_settle_46 : decode cX9_settle 46 = .ok (.iconst 1, 1) := by decide +kernel
theorem dX9_settle_47 : decode cX9_settle 47 = .ok (.invokestatic 120, 3) := by decide +kernel
theorem dX9_settle_50 : decode cX9_settle 50 = .ok (.putfield 114, 3) := by decide +kernel
theorem dX9_settle_53 : decode cX9_settle 53 = .ok (.aload_n 0, 1) := by decide +kernel
theorem dX9_settle_54 : decode cX9_settle 54 = .ok (.iload 5, 2) := by decide +kernel
theorem dX9_settle_56 : decode cX9_settle 56 = .ok (.iconst 1, 1) := by decide +kernel
theorem dX9_settle_57 : decode cX9_settle 57 = .ok (.iadd, 1) := by decide +kernel
theorem dX9_settle_58 : decode cX9_settle 58 = .ok (.putfield 96, 3) := by decide +kernel
theorem dX9_settle_61 : decode cX9_settle 61 = .ok (.iload 5, 2) := by decide +kernel
theorem dX9_settle_63 : decode cX9_settle 63 = .ok (.ireturn, 1) := by decide +kernel
theorem dX9_startOver_0 : decode cX9_startOver 0 = .ok (.aload_n 0, 1) := by decide +kernel
theorem dX9_startOver_1 : decode cX9_startOver 1 = .ok (.iconst 0, 1) := by decide +kernel
theorem dX9_startOver_2 : decode cX9_startOver 2 = .ok (.putfield 108, 3) := by decide +kernel
theorem dX9_startOver_5 : decode cX9_startOver 5 = .ok (.aload_n 0, 1) := by decide +kernel
theorem dX9_startOver_6 : decode cX9_startOver 6 = .ok (.iconst 0, 1) := by decide +kernel
theorem dX9_startOver_7 : decode cX9_startOver 7 = .ok (.putfield 93, 3) := by decide +kernel
theorem dX9_startOver_10 : decode cX9_startOver 10 = .ok (.aload_n 0, 1) := by decide +kernel
theorem dX9_startOver_11 : decode cX9_startOver 11 = .ok (.iconst 5, 1) := by decide +kernel
theorem dX9_startOver_12 : decode cX9_startOver 12 = .ok (.putfield 44, 3) := by decide +kernel
theorem dX9_startOver_15 : decode cX9_startOver 15 = .ok (.aload_n 0, 1) := by decide +kernel
theorem dX9_startOver_16 : decode cX9_startOver 16 = .ok (.iconst 0, 1) := by decide +kernel
theorem dX9_startOver_17 : decode cX9_startOver 17 = .ok (.putfield 111, 3) := by decide +kernel
theorem dX9_startOver_20 : decode cX9_startOver 20 = .ok (.aload_n 0, 1) := by decide +kernel
theorem dX9_startOver_21 : decode cX9_startOver 21 = .ok (.aload_n 0, 1) := by decide +kernel
theorem dX9_startOver_22 : decode cX9_startOver 22 = .ok (.invokevirtual 124, 3) := by decide +kernel
theorem dX9_startOver_25 : decode cX9_startOver 25 = .ok (.putfield 114, 3) := by decide +kernel
theorem dX9_startOver_28 : decode cX9_startOver 28 = .ok (.aload_n 0, 1) := by decide +kernel
theorem dX9_startOver_29 : decode cX9_startOver 29 = .ok (.iconst 0, 1) := by decide +kernel
theorem dX9_startOver_30 : decode cX9_startOver 30 = .ok (.putfield 117, 3) := by decide +kernel
theorem dX9_startOver_33 : decode cX9_startOver 33 = .ok (.return_, 1) := by decide +kernel
theorem dX9_has_0 : decode cX9_has 0 = .ok (.iload_n 1, 1) := by decide +kernel
theorem dX9_has_1 : decode cX9_has 1 = .ok (.ifCond .lt 15, 3) := by decide +kernel
theorem dX9_has_4 : decode cX9_has 4 = .ok (.iload_n 1, 1) := by decide +kernel
theorem dX9_has_5 : decode cX9_has 5 = .ok (.aload_n 0, 1) := by decide +kernel
theorem dX9_has_6 : decode cX9_has 6 = .ok (.getfield 96, 3) := by decide +kernel
theorem dX9_has_9 : decode cX9_has 9 = .ok (.if_icmp .ge 7, 3) := by decide +kernel
theorem dX9_has_12 : decode cX9_has 12 = .ok (.iconst 1, 1) := by decide +kernel
theorem dX9_has_13 : decode cX9_has 13 = .ok (.goto 4, 3) := by decide +kernel
theorem dX9_has_16 : decode cX9_has 16 = .ok (.iconst 0, 1) := by decide +kernel
theorem dX9_has_17 : decode cX9_has 17 = .ok (.ireturn, 1) := by decide +kernel
theorem dX9_everyGuild_0 : decode cX9_everyGuild 0 = .ok (.iconst 1, 1) := by decide +kernel
theorem dX9_everyGuild_1 : decode cX9_everyGuild 1 = .ok (.aload_n 0, 1) := by decide +kernel
theorem dX9_everyGuild_2 : decode cX9_everyGuild 2 = .ok (.getfield 96, 3) := by decide +kernel
theorem dX9_everyGuild_5 : decode cX9_everyGuild 5 = .ok (.ishl, 1) := by decide +kernel
theorem dX9_everyGuild_6 : decode cX9_everyGuild 6 = .ok (.iconst 1, 1) := by decide +kernel
theorem dX9_everyGuild_7 : decode cX9_everyGuild 7 = .ok (.isub, 1) := by decide +kernel
theorem dX9_everyGuild_8 : decode cX9_everyGuild 8 = .ok (.ireturn, 1) := by decide +kernel
theorem dX9_isAct_0 : decode cX9_isAct 0 = .ok (.iload_n 1, 1) := by decide +kernel
theorem dX9_isAct_1 : decode cX9_isAct 1 = .ok (.ifCond .lt 15, 3) := by decide +kernel
theorem dX9_isAct_4 : decode cX9_isAct 4 = .ok (.iload_n 1, 1) := by decide +kernel
theorem dX9_isAct_5 : decode cX9_isAct 5 = .ok (.aload_n 0, 1) := by decide +kernel
theorem dX9_isAct_6 : decode cX9_isAct 6 = .ok (.getfield 96, 3) := by decide +kernel
theorem dX9_isAct_9 : decode cX9_isAct 9 = .ok (.if_icmp .gt 7, 3) := by decide +kernel
theorem dX9_isAct_12 : decode cX9_isAct 12 = .ok (.iconst 1, 1) := by decide +kernel
theorem dX9_isAct_13 : decode cX9_isAct 13 = .ok (.goto 4, 3) := by decide +kernel
theorem dX9_isAct_16 : decode cX9_isAct 16 = .ok (.iconst 0, 1) := by decide +kernel
theorem dX9_isAct_17 : decode cX9_isAct 17 = .ok (.ireturn, 1) := by decide +kernel
theorem dX9_isOver_0 : decode cX9_isOver 0 = .ok (.aload_n 0, 1) := by decide +kernel
theorem dX9_isOver_1 : decode cX9_isOver 1 = .ok (.getfield 108, 3) := by decide +kernel
theorem dX9_isOver_4 : decode cX9_isOver 4 = .ok (.aload_n 0, 1) := by decide +kernel
theorem dX9_isOver_5 : decode cX9_isOver 5 = .ok (.getfield 40, 3) := by decide +kernel
theorem dX9_isOver_8 : decode cX9_isOver 8 = .ok (.if_icmp .lt 7, 3) := by decide +kernel
theorem dX9_isOver_11 : decode cX9_isOver 11 = .ok (.iconst 1, 1) := by decide +kernel
theorem dX9_isOver_12 : decode cX9_isOver 12 = .ok (.goto 4, 3) := by decide +kernel
theorem dX9_isOver_15 : decode cX9_isOver 15 = .ok (.iconst 0, 1) := by decide +kernel
theorem dX9_isOver_16 : decode cX9_isOver 16 = .ok (.ireturn, 1) := by decide +kernel
theorem dX9_hoursOf_0 : decode cX9_hoursOf 0 = .ok (.iload_n 1, 1) := by decide +kernel
theorem dX9_hoursOf_1 : decode cX9_hoursOf 1 = .ok (.iconst 0, 1) := by decide +kernel
theorem dX9_hoursOf_2 : decode cX9_hoursOf 2 = .ok (.aload_n 0, 1) := by decide +kernel
theorem dX9_hoursOf_3 : decode cX9_hoursOf 3 = .ok (.getfield 40, 3) := by decide +kernel
theorem dX9_hoursOf_6 : decode cX9_hoursOf 6 = .ok (.aload_n 0, 1) := by decide +kernel
theorem dX9_hoursOf_7 : decode cX9_hoursOf 7 = .ok (.getfield 108, 3) := by decide +kernel
theorem dX9_hoursOf_10 : decode cX9_hoursOf 10 = .ok (.isub, 1) := by decide +kernel
theorem dX9_hoursOf_11 : decode cX9_hoursOf 11 = .ok (.invokestatic 127, 3) := by decide +kernel
theorem dX9_hoursOf_14 : decode cX9_hoursOf 14 = .ok (.invokestatic 133, 3) := by decide +kernel
theorem dX9_hoursOf_17 : decode cX9_hoursOf 17 = .ok (.ireturn, 1) := by decide +kernel
theorem dX9_dueWithShift_0 : decode cX9_dueWithShift 0 = .ok (.aload_n 0, 1) := by decide +kernel
theorem dX9_dueWithShift_1 : decode cX9_dueWithShift 1 = .ok (.getfield 63, 3) := by decide +kernel
theorem dX9_dueWithShift_4 : decode cX9_dueWithShift 4 = .ok (.iload_n 1, 1) := by decide +kernel
theorem dX9_dueWithShift_5 : decode cX9_dueWithShift 5 = .ok (.iaload, 1) := by decide +kernel
theorem dX9_dueWithShift_6 : decode cX9_dueWithShift 6 = .ok (.aload_n 0, 1) := by decide +kernel
theorem dX9_dueWithShift_7 : decode cX9_dueWithShift 7 = .ok (.getfield 54, 3) := by decide +kernel
theorem dX9_dueWithShift_10 : decode cX9_dueWithShift 10 = .ok (.aload_n 0, 1) := by decide +kernel
theorem dX9_dueWithShift_11 : decode cX9_dueWithShift 11 = .ok (.getfield 69, 3) := by decide +kernel
theorem dX9_dueWithShift_14 : decode cX9_dueWithShift 14 = .ok (.iload_n 1, 1) := by decide +kernel
theorem dX9_dueWithShift_15 : decode cX9_dueWithShift 15 = .ok (.iaload, 1) := by decide +kernel
theorem dX9_dueWithShift_16 : decode cX9_dueWithShift 16 = .ok (.iaload, 1) := by decide +kernel
theorem dX9_dueWithShift_17 : decode cX9_dueWithShift 17 = .ok (.iadd, 1) := by decide +kernel
theorem dX9_dueWithShift_18 : decode cX9_dueWithShift 18 = .ok (.ireturn, 1) := by decide +kernel
theorem dX9_late_0 : decode cX9_late 0 = .ok (.aload_n 0, 1) := by decide +kernel
theorem dX9_late_1 : decode cX9_late 1 = .ok (.getfield 111, 3) := by decide +kernel
theorem dX9_late_4 : decode cX9_late 4 = .ok (.aload_n 0, 1) := by decide +kernel
theorem dX9_late_5 : decode cX9_late 5 = .ok (.iload_n 1, 1) := by decide +kernel
theorem dX9_late_6 : decode cX9_late 6 = .ok (.invokevirtual 136, 3) := by decide +kernel
theorem dX9_late_9 : decode cX9_late 9 = .ok (.isub, 1) := by decide +kernel
theorem dX9_late_10 : decode cX9_late 10 = .ok (.invokestatic 140, 3) := by decide +kernel
theorem dX9_late_13 : decode cX9_late 13 = .ok (.ireturn, 1) := by decide +kernel
theorem dX9_cheersOf_0 : decode cX9_cheersOf 0 = .ok (.aload_n 0, 1) := by decide +kernel
theorem dX9_cheersOf_1 : decode cX9_cheersOf 1 = .ok (.getfield 27, 3) := by decide +kernel
theorem dX9_cheersOf_4 : decode cX9_cheersOf 4 = .ok (.aload_n 0, 1) := by decide +kernel
theorem dX9_cheersOf_5 : decode cX9_cheersOf 5 = .ok (.getfield 60, 3) := by decide +kernel
theorem dX9_cheersOf_8 : decode cX9_cheersOf 8 = .ok (.iload_n 1, 1) := by decide +kernel
theorem dX9_cheersOf_9 : decode cX9_cheersOf 9 = .ok (.iaload, 1) := by decide +kernel
theorem dX9_cheersOf_10 : decode cX9_cheersOf 10 = .ok (.aaload, 1) := by decide +kernel
theorem dX9_cheersOf_11 : decode cX9_cheersOf 11 = .ok (.aload_n 0, 1) := by decide +kernel
theorem dX9_cheersOf_12 : decode cX9_cheersOf 12 = .ok (.getfield 66, 3) := by decide +kernel
theorem dX9_cheersOf_15 : decode cX9_cheersOf 15 = .ok (.iload_n 1, 1) := by decide +kernel
theorem dX9_cheersOf_16 : decode cX9_cheersOf 16 = .ok (.iaload, 1) := by decide +kernel
theorem dX9_cheersOf_17 : decode cX9_cheersOf 17 = .ok (.aload_n 0, 1) := by decide +kernel
theorem dX9_cheersOf_18 : decode cX9_cheersOf 18 = .ok (.getfield 108, 3) := by decide +kernel
theorem dX9_cheersOf_21 : decode cX9_cheersOf 21 = .ok (.invokevirtual 143, 3) := by decide +kernel
theorem dX9_cheersOf_24 : decode cX9_cheersOf 24 = .ok (.ireturn, 1) := by decide +kernel
theorem dX9_paysOf_0 : decode cX9_paysOf 0 = .ok (.aload_n 0, 1) := by decide +kernel
theorem dX9_paysOf_1 : decode cX9_paysOf 1 = .ok (.getfield 27, 3) := by decide +kernel
theorem dX9_paysOf_4 : decode cX9_paysOf 4 = .ok (.aload_n 0, 1) := by decide +kernel
theorem dX9_paysOf_5 : decode cX9_paysOf 5 = .ok (.getfield 60, 3) := by decide +kernel
theorem dX9_paysOf_8 : decode cX9_paysOf 8 = .ok (.iload_n 1, 1) := by decide +kernel
theorem dX9_paysOf_9 : decode cX9_paysOf 9 = .ok (.iaload, 1) := by decide +kernel
theorem dX9_paysOf_10 : decode cX9_paysOf 10 = .ok (.aaload, 1) := by decide +kernel
theorem dX9_paysOf_11 : decode cX9_paysOf 11 = .ok (.iload_n 1, 1) := by decide +kernel
theorem dX9_paysOf_12 : decode cX9_paysOf 12 = .ok (.invokevirtual 146, 3) := by decide +kernel
theorem dX9_paysOf_15 : decode cX9_paysOf 15 = .ok (.ireturn, 1) := by decide +kernel
theorem dX9_will_0 : decode cX9_will 0 = .ok (.aload_n 0, 1) := by decide +kernel
theorem dX9_will_1 : decode cX9_will 1 = .ok (.getfield 36, 3) := by decide +kernel
theorem dX9_will_4 : decode cX9_will 4 = .ok (.aload_n 0, 1) := by decide +kernel
theorem dX9_will_5 : decode cX9_will 5 = .ok (.getfield 108, 3) := by decide +kernel
theorem dX9_will_8 : decode cX9_will 8 = .ok (.aload_n 0, 1) := by decide +kernel
theorem dX9_will_9 : decode cX9_will 9 = .ok (.getfield 66, 3) := by decide +kernel
theorem dX9_will_12 : decode cX9_will 12 = .ok (.iload_n 1, 1) := by decide +kernel
theorem dX9_will_13 : decode cX9_will 13 = .ok (.iaload, 1) := by decide +kernel
theorem dX9_will_14 : decode cX9_will 14 = .ok (.aload_n 0, 1) := by decide +kernel
theorem dX9_will_15 : decode cX9_will 15 = .ok (.iload_n 1, 1) := by decide +kernel
theorem dX9_will_16 : decode cX9_will 16 = .ok (.invokevirtual 149, 3) := by decide +kernel
theorem dX9_will_19 : decode cX9_will 19 = .ok (.aload_n 0, 1) := by decide +kernel
theorem dX9_will_20 : decode cX9_will 20 = .ok (.getfield 44, 3) := by decide +kernel
theorem dX9_will_23 : decode cX9_will 23 = .ok (.iload_n 1, 1) := by decide +kernel
theorem dX9_will_24 : decode cX9_will 24 = .ok (.invokevirtual 152, 3) := by decide +kernel
theorem dX9_will_27 : decode cX9_will 27 = .ok (.aload_n 0, 1) := by decide +kernel
theorem dX9_will_28 : decode cX9_will 28 = .ok (.getfield 36, 3) := by decide +kernel
theorem dX9_will_31 : decode cX9_will 31 = .ok (.aload_n 0, 1) := by decide +kernel
theorem dX9_will_32 : decode cX9_will 32 = .ok (.getfield 60, 3) := by decide +kernel
theorem dX9_will_35 : decode cX9_will 35 = .ok (.iload_n 1, 1) := by decide +kernel
theorem dX9_will_36 : decode cX9_will 36 = .ok (.iaload, 1) := by decide +kernel
theorem dX9_will_37 : decode cX9_will 37 = .ok (.invokevirtual 156, 3) := by decide +kernel
theorem dX9_will_40 : decode cX9_will 40 = .ok (.ireturn, 1) := by decide +kernel
theorem dX9_pass_0 : decode cX9_pass 0 = .ok (.aload_n 0, 1) := by decide +kernel
theorem dX9_pass_1 : decode cX9_pass 1 = .ok (.aload_n 0, 1) := by decide +kernel
theorem dX9_pass_2 : decode cX9_pass 2 = .ok (.aload_n 0, 1) := by decide +kernel
theorem dX9_pass_3 : decode cX9_pass 3 = .ok (.getfield 108, 3) := by decide +kernel
theorem dX9_pass_6 : decode cX9_pass 6 = .ok (.aload_n 0, 1) := by decide +kernel
theorem dX9_pass_7 : decode cX9_pass 7 = .ok (.getfield 44, 3) := by decide +kernel
theorem dX9_pass_10 : decode cX9_pass 10 = .ok (.invokevirtual 159, 3) := by decide +kernel
theorem dX9_pass_13 : decode cX9_pass 13 = .ok (.putfield 44, 3) := by decide +kernel
theorem dX9_pass_16 : decode cX9_pass 16 = .ok (.aload_n 0, 1) := by decide +kernel
theorem dX9_pass_17 : decode cX9_pass 17 = .ok (.iload_n 1, 1) := by decide +kernel
theorem dX9_pass_18 : decode cX9_pass 18 = .ok (.iconst 1, 1) := by decide +kernel
theorem dX9_pass_19 : decode cX9_pass 19 = .ok (.isub, 1) := by decide +kernel
theorem dX9_pass_20 : decode cX9_pass 20 = .ok (.invokevirtual 162, 3) := by decide +kernel
theorem dX9_pass_23 : decode cX9_pass 23 = .ok (.ifCond .eq 13, 3) := by decide +kernel
theorem dX9_pass_26 : decode cX9_pass 26 = .ok (.aload_n 0, 1) := by decide +kernel
theorem dX9_pass_27 : decode cX9_pass 27 = .ok (.iload_n 1, 1) := by decide +kernel
theorem dX9_pass_28 : decode cX9_pass 28 = .ok (.iconst 1, 1) := by decide +kernel
theorem dX9_pass_29 : decode cX9_pass 29 = .ok (.isub, 1) := by decide +kernel
theorem dX9_pass_30 : decode cX9_pass 30 = .ok (.invokevirtual 166, 3) := by decide +kernel
theorem dX9_pass_33 : decode cX9_pass 33 = .ok (.goto 4, 3) := by decide +kernel
theorem dX9_pass_36 : decode cX9_pass 36 = .ok (.iconst 0, 1) := by decide +kernel
theorem dX9_pass_37 : decode cX9_pass 37 = .ok (.istore_n 2, 1) := by decide +kernel
theorem dX9_pass_38 : decode cX9_pass 38 = .ok (.aload_n 0, 1) := by decide +kernel
theorem dX9_pass_39 : decode cX9_pass 39 = .ok (.invokevirtual 169, 3) := by decide +kernel
theorem dX9_pass_42 : decode cX9_pass 42 = .ok (.iload_n 2, 1) := by decide +kernel
theorem dX9_pass_43 : decode cX9_pass 43 = .ok (.ireturn, 1) := by decide +kernel
theorem dX9_passAsInTheRest_0 : decode cX9_passAsInTheRest 0 = .ok (.aload_n 0, 1) := by decide +kernel
theorem dX9_passAsInTheRest_1 : decode cX9_passAsInTheRest 1 = .ok (.aload_n 0, 1) := by decide +kernel
theorem dX9_passAsInTheRest_2 : decode cX9_passAsInTheRest 2 = .ok (.aload_n 0, 1) := by decide +kernel
theorem dX9_passAsInTheRest_3 : decode cX9_passAsInTheRest 3 = .ok (.getfield 108, 3) := by decide +kernel
theorem dX9_passAsInTheRest_6 : decode cX9_passAsInTheRest 6 = .ok (.aload_n 0, 1) := by decide +kernel
theorem dX9_passAsInTheRest_7 : decode cX9_passAsInTheRest 7 = .ok (.getfield 44, 3) := by decide +kernel
theorem dX9_passAsInTheRest_10 : decode cX9_passAsInTheRest 10 = .ok (.invokevirtual 159, 3) := by decide +kernel
theorem dX9_passAsInTheRest_13 : decode cX9_passAsInTheRest 13 = .ok (.putfield 44, 3) := by decide +kernel
theorem dX9_passAsInTheRest_16 : decode cX9_passAsInTheRest 16 = .ok (.iconst 0, 1) := by decide +kernel
theorem dX9_passAsInTheRest_17 : decode cX9_passAsInTheRest 17 = .ok (.istore_n 1, 1) := by decide +kernel
theorem dX9_passAsInTheRest_18 : decode cX9_passAsInTheRest 18 = .ok (.iconst 0, 1) := by decide +kernel
theorem dX9_passAsInTheRest_19 : decode cX9_passAsInTheRest 19 = .ok (.istore_n 2, 1) := by decide +kernel
theorem dX9_passAsInTheRest_20 : decode cX9_passAsInTheRest 20 = .ok (.iload_n 2, 1) := by decide +kernel
theorem dX9_passAsInTheRest_21 : decode cX9_passAsInTheRest 21 = .ok (.aload_n 0, 1) := by decide +kernel
theorem dX9_passAsInTheRest_22 : decode cX9_passAsInTheRest 22 = .ok (.getfield 96, 3) := by decide +kernel
theorem dX9_passAsInTheRest_25 : decode cX9_passAsInTheRest 25 = .ok (.if_icmp .ge 38, 3) := by decide +kernel
theorem dX9_passAsInTheRest_28 : decode cX9_passAsInTheRest 28 = .ok (.aload_n 0, 1) := by decide +kernel
theorem dX9_passAsInTheRest_29 : decode cX9_passAsInTheRest 29 = .ok (.getfield 114, 3) := by decide +kernel
theorem dX9_passAsInTheRest_32 : decode cX9_passAsInTheRest 32 = .ok (.iload_n 2, 1) := by decide +kernel
theorem dX9_passAsInTheRest_33 : decode cX9_passAsInTheRest 33 = .ok (.invokestatic 172, 3) := by decide +kernel
theorem dX9_passAsInTheRest_36 : decode cX9_passAsInTheRest 36 = .ok (.iconst 1, 1) := by decide +kernel
theorem dX9_passAsInTheRest_37 : decode cX9_passAsInTheRest 37 = .ok (.if_icmp .ne 20, 3) := by decide +kernel
theorem dX9_passAsInTheRest_40 : decode cX9_passAsInTheRest 40 = .ok (.aload_n 0, 1) := by decide +kernel
theorem dX9_passAsInTheRest_41 : decode cX9_passAsInTheRest 41 = .ok (.iload_n 2, 1) := by decide +kernel
theorem dX9_passAsInTheRest_42 : decode cX9_passAsInTheRest 42 = .ok (.invokevirtual 175, 3) := by decide +kernel
theorem dX9_passAsInTheRest_45 : decode cX9_passAsInTheRest 45 = .ok (.ifCond .eq 12, 3) := by decide +kernel
theorem dX9_passAsInTheRest_48 : decode cX9_passAsInTheRest 48 = .ok (.aload_n 0, 1) := by decide +kernel
theorem dX9_passAsInTheRest_49 : decode cX9_passAsInTheRest 49 = .ok (.iload_n 2, 1) := by decide +kernel
theorem dX9_passAsInTheRest_50 : decode cX9_passAsInTheRest 50 = .ok (.invokevirtual 166, 3) := by decide +kernel
theorem dX9_passAsInTheRest_53 : decode cX9_passAsInTheRest 53 = .ok (.istore_n 1, 1) := by decide +kernel
theorem dX9_passAsInTheRest_54 : decode cX9_passAsInTheRest 54 = .ok (.goto 9, 3) := by decide +kernel
theorem dX9_passAsInTheRest_57 : decode cX9_passAsInTheRest 57 = .ok (.iinc 2 1, 3) := by decide +kernel
theorem dX9_passAsInTheRest_60 : decode cX9_passAsInTheRest 60 = .ok (.goto (-40), 3) := by decide +kernel
theorem dX9_passAsInTheRest_63 : decode cX9_passAsInTheRest 63 = .ok (.aload_n 0, 1) := by decide +kernel
theorem dX9_passAsInTheRest_64 : decode cX9_passAsInTheRest 64 = .ok (.invokevirtual 169, 3) := by decide +kernel
theorem dX9_passAsInTheRest_67 : decode cX9_passAsInTheRest 67 = .ok (.iload_n 1, 1) := by decide +kernel
theorem dX9_passAsInTheRest_68 : decode cX9_passAsInTheRest 68 = .ok (.ireturn, 1) := by decide +kernel
theorem dX9_passByLot_0 : decode cX9_passByLot 0 = .ok (.aload_n 0, 1) := by decide +kernel
theorem dX9_passByLot_1 : decode cX9_passByLot 1 = .ok (.aload_n 0, 1) := by decide +kernel
theorem dX9_passByLot_2 : decode cX9_passByLot 2 = .ok (.getfield 47, 3) := by decide +kernel
theorem dX9_passByLot_5 : decode cX9_passByLot 5 = .ok (.ldc 178, 2) := by decide +kernel
theorem dX9_passByLot_7 : decode cX9_passByLot 7 = .ok (.imul, 1) := by decide +kernel
theorem dX9_passByLot_8 : decode cX9_passByLot 8 = .ok (.sipush 12345, 3) := by decide +kernel
theorem dX9_passByLot_11 : decode cX9_passByLot 11 = .ok (.iadd, 1) := by decide +kernel
theorem dX9_passByLot_12 : decode cX9_passByLot 12 = .ok (.putfield 47, 3) := by decide +kernel
theorem dX9_passByLot_15 : decode cX9_passByLot 15 = .ok (.aload_n 0, 1) := by decide +kernel
theorem dX9_passByLot_16 : decode cX9_passByLot 16 = .ok (.aload_n 0, 1) := by decide +kernel
theorem dX9_passByLot_17 : decode cX9_passByLot 17 = .ok (.getfield 47, 3) := by decide +kernel
theorem dX9_passByLot_20 : decode cX9_passByLot 20 = .ok (.bipush 16, 2) := by decide +kernel
theorem dX9_passByLot_22 : decode cX9_passByLot 22 = .ok (.iushr, 1) := by decide +kernel
theorem dX9_passByLot_23 : decode cX9_passByLot 23 = .ok (.aload_n 0, 1) := by decide +kernel
theorem dX9_passByLot_24 : decode cX9_passByLot 24 = .ok (.getfield 96, 3) := by decide +kernel
theorem dX9_passByLot_27 : decode cX9_passByLot 27 = .ok (.iconst 1, 1) := by decide +kernel
theorem dX9_passByLot_28 : decode cX9_passByLot 28 = .ok (.iadd, 1) := by decide +kernel
theorem dX9_passByLot_29 : decode cX9_passByLot 29 = .ok (.irem, 1) := by decide +kernel
theorem dX9_passByLot_30 : decode cX9_passByLot 30 = .ok (.invokevirtual 179, 3) := by decide +kernel
theorem dX9_passByLot_33 : decode cX9_passByLot 33 = .ok (.ireturn, 1) := by decide +kernel
theorem dX9_moodByNews_0 : decode cX9_moodByNews 0 = .ok (.iload_n 1, 1) := by decide +kernel
theorem dX9_moodByNews_1 : decode cX9_moodByNews 1 = .ok (.ifCond .lt 9, 3) := by decide +kernel
theorem dX9_moodByNews_4 : decode cX9_moodByNews 4 = .ok (.iload_n 1, 1) := by decide +kernel
theorem dX9_moodByNews_5 : decode cX9_moodByNews 5 = .ok (.bipush 16, 2) := by decide +kernel
theorem dX9_moodByNews_7 : decode cX9_moodByNews 7 = .ok (.if_icmp .lt 5, 3) := by decide +kernel
theorem dX9_moodByNews_10 : decode cX9_moodByNews 10 = .ok (.iload_n 2, 1) := by decide +kernel
theorem dX9_moodByNews_11 : decode cX9_moodByNews 11 = .ok (.ireturn, 1) := by decide +kernel
theorem dX9_moodByNews_12 : decode cX9_moodByNews 12 = .ok (.aload_n 0, 1) := by decide +kernel
theorem dX9_moodByNews_13 : decode cX9_moodByNews 13 = .ok (.getfield 50, 3) := by decide +kernel
theorem dX9_moodByNews_16 : decode cX9_moodByNews 16 = .ok (.iload_n 1, 1) := by decide +kernel
theorem dX9_moodByNews_17 : decode cX9_moodByNews 17 = .ok (.iaload, 1) := by decide +kernel
theorem dX9_moodByNews_18 : decode cX9_moodByNews 18 = .ok (.iconst 2, 1) := by decide +kernel
theorem dX9_moodByNews_19 : decode cX9_moodByNews 19 = .ok (.ishr, 1) := by decide +kernel
theorem dX9_moodByNews_20 : decode cX9_moodByNews 20 = .ok (.istore_n 3, 1) := by decide +kernel
theorem dX9_moodByNews_21 : decode cX9_moodByNews 21 = .ok (.aload_n 0, 1) := by decide +kernel
theorem dX9_moodByNews_22 : decode cX9_moodByNews 22 = .ok (.getfield 50, 3) := by decide +kernel
theorem dX9_moodByNews_25 : decode cX9_moodByNews 25 = .ok (.iload_n 1, 1) := by decide +kernel
theorem dX9_moodByNews_26 : decode cX9_moodByNews 26 = .ok (.iaload, 1) := by decide +kernel
theorem dX9_moodByNews_27 : decode cX9_moodByNews 27 = .ok (.iconst 3, 1) := by decide +kernel
theorem dX9_moodByNews_28 : decode cX9_moodByNews 28 = .ok (.iand, 1) := by decide +kernel
theorem dX9_moodByNews_29 : decode cX9_moodByNews 29 = .ok (.tableswitch 68 0 2 #[27, 36, 45], 27) := by decide +kernel
theorem dX9_moodByNews_56 : decode cX9_moodByNews 56 = .ok (.iload_n 2, 1) := by decide +kernel
theorem dX9_moodByNews_57 : decode cX9_moodByNews 57 = .ok (.iload_n 3, 1) := by decide +kernel
theorem dX9_moodByNews_58 : decode cX9_moodByNews 58 = .ok (.iadd, 1) := by decide +kernel
theorem dX9_moodByNews_59 : decode cX9_moodByNews 59 = .ok (.bipush 9, 2) := by decide +kernel
theorem dX9_moodByNews_61 : decode cX9_moodByNews 61 = .ok (.invokestatic 182, 3) := by decide +kernel
theorem dX9_moodByNews_64 : decode cX9_moodByNews 64 = .ok (.ireturn, 1) := by decide +kernel
theorem dX9_moodByNews_65 : decode cX9_moodByNews 65 = .ok (.iload_n 2, 1) := by decide +kernel
theorem dX9_moodByNews_66 : decode cX9_moodByNews 66 = .ok (.iload_n 3, 1) := by decide +kernel
theorem dX9_moodByNews_67 : decode cX9_moodByNews 67 = .ok (.isub, 1) := by decide +kernel
theorem dX9_moodByNews_68 : decode cX9_moodByNews 68 = .ok (.bipush 9, 2) := by decide +kernel
theorem dX9_moodByNews_70 : decode cX9_moodByNews 70 = .ok (.invokestatic 182, 3) := by decide +kernel
theorem dX9_moodByNews_73 : decode cX9_moodByNews 73 = .ok (.ireturn, 1) := by decide +kernel
theorem dX9_moodByNews_74 : decode cX9_moodByNews 74 = .ok (.iload_n 2, 1) := by decide +kernel
theorem dX9_moodByNews_75 : decode cX9_moodByNews 75 = .ok (.iconst 5, 1) := by decide +kernel
theorem dX9_moodByNews_76 : decode cX9_moodByNews 76 = .ok (.if_icmp .ge 13, 3) := by decide +kernel
theorem dX9_moodByNews_79 : decode cX9_moodByNews 79 = .ok (.iconst 5, 1) := by decide +kernel
theorem dX9_moodByNews_80 : decode cX9_moodByNews 80 = .ok (.iload_n 2, 1) := by decide +kernel
theorem dX9_moodByNews_81 : decode cX9_moodByNews 81 = .ok (.iload_n 3, 1) := by decide +kernel
theorem dX9_moodByNews_82 : decode cX9_moodByNews 82 = .ok (.iadd, 1) := by decide +kernel
theorem dX9_moodByNews_83 : decode cX9_moodByNews 83 = .ok (.invokestatic 133, 3) := by decide +kernel
theorem dX9_moodByNews_86 : decode cX9_moodByNews 86 = .ok (.goto 10, 3) := by decide +kernel
theorem dX9_moodByNews_89 : decode cX9_moodByNews 89 = .ok (.iconst 5, 1) := by decide +kernel
theorem dX9_moodByNews_90 : decode cX9_moodByNews 90 = .ok (.iload_n 2, 1) := by decide +kernel
theorem dX9_moodByNews_91 : decode cX9_moodByNews 91 = .ok (.iload_n 3, 1) := by decide +kernel
theorem dX9_moodByNews_92 : decode cX9_moodByNews 92 = .ok (.isub, 1) := by decide +kernel
theorem dX9_moodByNews_93 : decode cX9_moodByNews 93 = .ok (.invokestatic 127, 3) := by decide +kernel
theorem dX9_moodByNews_96 : decode cX9_moodByNews 96 = .ok (.ireturn, 1) := by decide +kernel
theorem dX9_moodByNews_97 : decode cX9_moodByNews 97 = .ok (.iload_n 2, 1) := by decide +kernel
theorem dX9_moodByNews_98 : decode cX9_moodByNews 98 = .ok (.ireturn, 1) := by decide +kernel
theorem dX9_isInTime_0 : decode cX9_isInTime 0 = .ok (.aload_n 0, 1) := by decide +kernel
theorem dX9_isInTime_1 : decode cX9_isInTime 1 = .ok (.iload_n 1, 1) := by decide +kernel
theorem dX9_isInTime_2 : decode cX9_isInTime 2 = .ok (.invokevirtual 149, 3) := by decide +kernel
theorem dX9_isInTime_5 : decode cX9_isInTime 5 = .ok (.aload_n 0, 1) := by decide +kernel
theorem dX9_isInTime_6 : decode cX9_isInTime 6 = .ok (.getfield 57, 3) := by decide +kernel
theorem dX9_isInTime_9 : decode cX9_isInTime 9 = .ok (.aload_n 0, 1) := by decide +kernel
theorem dX9_isInTime_10 : decode cX9_isInTime 10 = .ok (.getfield 69, 3) := by decide +kernel
theorem dX9_isInTime_13 : decode cX9_isInTime 13 = .ok (.iload_n 1, 1) := by decide +kernel
theorem dX9_isInTime_14 : decode cX9_isInTime 14 = .ok (.iaload, 1) := by decide +kernel
theorem dX9_isInTime_15 : decode cX9_isInTime 15 = .ok (.iaload, 1) := by decide +kernel
theorem dX9_isInTime_16 : decode cX9_isInTime 16 = .ok (.if_icmp .gt 7, 3) := by decide +kernel
theorem dX9_isInTime_19 : decode cX9_isInTime 19 = .ok (.iconst 1, 1) := by decide +kernel
theorem dX9_isInTime_20 : decode cX9_isInTime 20 = .ok (.goto 4, 3) := by decide +kernel
theorem dX9_isInTime_23 : decode cX9_isInTime 23 = .ok (.iconst 0, 1) := by decide +kernel
theorem dX9_isInTime_24 : decode cX9_isInTime 24 = .ok (.ireturn, 1) := by decide +kernel
theorem dX9_calls_0 : decode cX9_calls 0 = .ok (.aload_n 0, 1) := by decide +kernel
theorem dX9_calls_1 : decode cX9_calls 1 = .ok (.getfield 114, 3) := by decide +kernel
theorem dX9_calls_4 : decode cX9_calls 4 = .ok (.iload_n 1, 1) := by decide +kernel
theorem dX9_calls_5 : decode cX9_calls 5 = .ok (.invokestatic 172, 3) := by decide +kernel
theorem dX9_calls_8 : decode cX9_calls 8 = .ok (.ifCond .ne 5, 3) := by decide +kernel
theorem dX9_calls_11 : decode cX9_calls 11 = .ok (.iconst 0, 1) := by decide +kernel
theorem dX9_calls_12 : decode cX9_calls 12 = .ok (.ireturn, 1) := by decide +kernel
theorem dX9_calls_13 : decode cX9_calls 13 = .ok (.aload_n 0, 1) := by decide +kernel
theorem dX9_calls_14 : decode cX9_calls 14 = .ok (.iload_n 1, 1) := by decide +kernel
theorem dX9_calls_15 : decode cX9_calls 15 = .ok (.invokevirtual 185, 3) := by decide +kernel
theorem dX9_calls_18 : decode cX9_calls 18 = .ok (.istore_n 2, 1) := by decide +kernel
theorem dX9_calls_19 : decode cX9_calls 19 = .ok (.iload_n 2, 1) := by decide +kernel
theorem dX9_calls_20 : decode cX9_calls 20 = .ok (.iconst 1, 1) := by decide +kernel
theorem dX9_calls_21 : decode cX9_calls 21 = .ok (.if_icmp .ne 5, 3) := by decide +kernel
theorem dX9_calls_24 : decode cX9_calls 24 = .ok (.iconst 0, 1) := by decide +kernel
theorem dX9_calls_25 : decode cX9_calls 25 = .ok (.ireturn, 1) := by decide +kernel
theorem dX9_calls_26 : decode cX9_calls 26 = .ok (.aload_n 0, 1) := by decide +kernel
theorem dX9_calls_27 : decode cX9_calls 27 = .ok (.aload_n 0, 1) := by decide +kernel
theorem dX9_calls_28 : decode cX9_calls 28 = .ok (.getfield 114, 3) := by decide +kernel
theorem dX9_calls_31 : decode cX9_calls 31 = .ok (.iload_n 1, 1) := by decide +kernel
theorem dX9_calls_32 : decode cX9_calls 32 = .ok (.iconst 0, 1) := by decide +kernel
theorem dX9_calls_33 : decode cX9_calls 33 = .ok (.invokestatic 120, 3) := by decide +kernel
theorem dX9_calls_36 : decode cX9_calls 36 = .ok (.putfield 114, 3) := by decide +kernel
theorem dX9_calls_39 : decode cX9_calls 39 = .ok (.iload_n 2, 1) := by decide +kernel
theorem dX9_calls_40 : decode cX9_calls 40 = .ok (.iconst 2, 1) := by decide +kernel
theorem dX9_calls_41 : decode cX9_calls 41 = .ok (.if_icmp .ne 5, 3) := by decide +kernel
theorem dX9_calls_44 : decode cX9_calls 44 = .ok (.iconst 1, 1) := by decide +kernel
theorem dX9_calls_45 : decode cX9_calls 45 = .ok (.ireturn, 1) := by decide +kernel
theorem dX9_calls_46 : decode cX9_calls 46 = .ok (.aload_n 0, 1) := by decide +kernel
theorem dX9_calls_47 : decode cX9_calls 47 = .ok (.aload_n 0, 1) := by decide +kernel
theorem dX9_calls_48 : decode cX9_calls 48 = .ok (.getfield 44, 3) := by decide +kernel
theorem dX9_calls_51 : decode cX9_calls 51 = .ok (.aload_n 0, 1) := by decide +kernel
theorem dX9_calls_52 : decode cX9_calls 52 = .ok (.iload_n 1, 1) := by decide +kernel
theorem dX9_calls_53 : decode cX9_calls 53 = .ok (.invokevirtual 188, 3) := by decide +kernel
theorem dX9_calls_56 : decode cX9_calls 56 = .ok (.iadd, 1) := by decide +kernel
theorem dX9_calls_57 : decode cX9_calls 57 = .ok (.bipush 9, 2) := by decide +kernel
theorem dX9_calls_59 : decode cX9_calls 59 = .ok (.invokestatic 182, 3) := by decide +kernel
theorem dX9_calls_62 : decode cX9_calls 62 = .ok (.putfield 44, 3) := by decide +kernel
theorem dX9_calls_65 : decode cX9_calls 65 = .ok (.aload_n 0, 1) := by decide +kernel
theorem dX9_calls_66 : decode cX9_calls 66 = .ok (.iload_n 1, 1) := by decide +kernel
theorem dX9_calls_67 : decode cX9_calls 67 = .ok (.invokevirtual 175, 3) := by decide +kernel
theorem dX9_calls_70 : decode cX9_calls 70 = .ok (.ifCond .ne 5, 3) := by decide +kernel
theorem dX9_calls_73 : decode cX9_calls 73 = .ok (.iconst 0, 1) := by decide +kernel
theorem dX9_calls_74 : decode cX9_calls 74 = .ok (.ireturn, 1) := by decide +kernel
theorem dX9_calls_75 : decode cX9_calls 75 = .ok (.aload_n 0, 1) := by decide +kernel
theorem dX9_calls_76 : decode cX9_calls 76 = .ok (.aload_n 0, 1) := by decide +kernel
theorem dX9_calls_77 : decode cX9_calls 77 = .ok (.getfield 117, 3) := by decide +kernel
theorem dX9_calls_80 : decode cX9_calls 80 = .ok (.iload_n 1, 1) := by decide +kernel
theorem dX9_calls_81 : decode cX9_calls 81 = .ok (.iconst 1, 1) := by decide +kernel
theorem dX9_calls_82 : decode cX9_calls 82 = .ok (.invokestatic 120, 3) := by decide +kernel
theorem dX9_calls_85 : decode cX9_calls 85 = .ok (.putfield 117, 3) := by decide +kernel
theorem dX9_calls_88 : decode cX9_calls 88 = .ok (.aload_n 0, 1) := by decide +kernel
theorem dX9_calls_89 : decode cX9_calls 89 = .ok (.iload_n 1, 1) := by decide +kernel
theorem dX9_calls_90 : decode cX9_calls 90 = .ok (.invokevirtual 191, 3) := by decide +kernel
theorem dX9_calls_93 : decode cX9_calls 93 = .ok (.iconst 0, 1) := by decide +kernel
theorem dX9_calls_94 : decode cX9_calls 94 = .ok (.bipush 9, 2) := by decide +kernel
theorem dX9_calls_96 : decode cX9_calls 96 = .ok (.aload_n 0, 1) := by decide +kernel
theorem dX9_calls_97 : decode cX9_calls 97 = .ok (.iload_n 1, 1) := by decide +kernel
theorem dX9_calls_98 : decode cX9_calls 98 = .ok (.invokevirtual 149, 3) := by decide +kernel
theorem dX9_calls_101 : decode cX9_calls 101 = .ok (.isub, 1) := by decide +kernel
theorem dX9_calls_102 : decode cX9_calls 102 = .ok (.invokestatic 127, 3) := by decide +kernel
theorem dX9_calls_105 : decode cX9_calls 105 = .ok (.iadd, 1) := by decide +kernel
theorem dX9_calls_106 : decode cX9_calls 106 = .ok (.ireturn, 1) := by decide +kernel
theorem dX9_goOn_0 : decode cX9_goOn 0 = .ok (.aload_n 0, 1) := by decide +kernel
theorem dX9_goOn_1 : decode cX9_goOn 1 = .ok (.aload_n 0, 1) := by decide +kernel
theorem dX9_goOn_2 : decode cX9_goOn 2 = .ok (.getfield 111, 3) := by decide +kernel
theorem dX9_goOn_5 : decode cX9_goOn 5 = .ok (.aload_n 0, 1) := by decide +kernel
theorem dX9_goOn_6 : decode cX9_goOn 6 = .ok (.getfield 44, 3) := by decide +kernel
theorem dX9_goOn_9 : decode cX9_goOn 9 = .ok (.invokestatic 194, 3) := by decide +kernel
theorem dX9_goOn_12 : decode cX9_goOn 12 = .ok (.putfield 111, 3) := by decide +kernel
theorem dX9_goOn_15 : decode cX9_goOn 15 = .ok (.aload_n 0, 1) := by decide +kernel
theorem dX9_goOn_16 : decode cX9_goOn 16 = .ok (.dup, 1) := by decide +kernel
theorem dX9_goOn_17 : decode cX9_goOn 17 = .ok (.getfield 108, 3) := by decide +kernel
theorem dX9_goOn_20 : decode cX9_goOn 20 = .ok (.iconst 1, 1) := by decide +kernel
theorem dX9_goOn_21 : decode cX9_goOn 21 = .ok (.iadd, 1) := by decide +kernel
theorem dX9_goOn_22 : decode cX9_goOn 22 = .ok (.putfield 108, 3) := by decide +kernel
theorem dX9_goOn_25 : decode cX9_goOn 25 = .ok (.return_, 1) := by decide +kernel
theorem dX9_handsAfter_0 : decode cX9_handsAfter 0 = .ok (.bipush 99, 2) := by decide +kernel
theorem dX9_handsAfter_2 : decode cX9_handsAfter 2 = .ok (.iload_n 0, 1) := by decide +kernel
theorem dX9_handsAfter_3 : decode cX9_handsAfter 3 = .ok (.bipush 6, 2) := by decide +kernel
theorem dX9_handsAfter_5 : decode cX9_handsAfter 5 = .ok (.iadd, 1) := by decide +kernel
theorem dX9_handsAfter_6 : decode cX9_handsAfter 6 = .ok (.iload_n 1, 1) := by decide +kernel
theorem dX9_handsAfter_7 : decode cX9_handsAfter 7 = .ok (.iconst 2, 1) := by decide +kernel
theorem dX9_handsAfter_8 : decode cX9_handsAfter 8 = .ok (.idiv, 1) := by decide +kernel
theorem dX9_handsAfter_9 : decode cX9_handsAfter 9 = .ok (.isub, 1) := by decide +kernel
theorem dX9_handsAfter_10 : decode cX9_handsAfter 10 = .ok (.invokestatic 133, 3) := by decide +kernel
theorem dX9_handsAfter_13 : decode cX9_handsAfter 13 = .ok (.ireturn, 1) := by decide +kernel
theorem dX9_hourOfLeaving_0 : decode cX9_hourOfLeaving 0 = .ok (.aload_n 0, 1) := by decide +kernel
theorem dX9_hourOfLeaving_1 : decode cX9_hourOfLeaving 1 = .ok (.invokevirtual 85, 3) := by decide +kernel
theorem dX9_hourOfLeaving_4 : decode cX9_hourOfLeaving 4 = .ok (.istore_n 2, 1) := by decide +kernel
theorem dX9_hourOfLeaving_5 : decode cX9_hourOfLeaving 5 = .ok (.aload_n 0, 1) := by decide +kernel
theorem dX9_hourOfLeaving_6 : decode cX9_hourOfLeaving 6 = .ok (.bipush 16, 2) := by decide +kernel
theorem dX9_hourOfLeaving_8 : decode cX9_hourOfLeaving 8 = .ok (.invokevirtual 197, 3) := by decide +kernel
theorem dX9_hourOfLeaving_11 : decode cX9_hourOfLeaving 11 = .ok (.istore_n 3, 1) := by decide +kernel
theorem dX9_hourOfLeaving_12 : decode cX9_hourOfLeaving 12 = .ok (.bipush (-3), 2) := by decide +kernel
theorem dX9_hourOfLeaving_14 : decode cX9_hourOfLeaving 14 = .ok (.istore 4, 2) := by decide +kernel
theorem dX9_hourOfLeaving_16 : decode cX9_hourOfLeaving 16 = .ok (.iconst 0, 1) := by decide +kernel
theorem dX9_hourOfLeaving_17 : decode cX9_hourOfLeaving 17 = .ok (.istore 5, 2) := by decide +kernel
theorem dX9_hourOfLeaving_19 : decode cX9_hourOfLeaving 19 = .ok (.iload 5, 2) := by decide +kernel
theorem dX9_hourOfLeaving_21 : decode cX9_hourOfLeaving 21 = .ok (.iload_n 3, 1) := by decide +kernel
theorem dX9_hourOfLeaving_22 : decode cX9_hourOfLeaving 22 = .ok (.if_icmp .ge 40, 3) := by decide +kernel
theorem dX9_hourOfLeaving_25 : decode cX9_hourOfLeaving 25 = .ok (.iload 4, 2) := by decide +kernel
theorem dX9_hourOfLeaving_27 : decode cX9_hourOfLeaving 27 = .ok (.bipush (-3), 2) := by decide +kernel
theorem dX9_hourOfLeaving_29 : decode cX9_hourOfLeaving 29 = .ok (.if_icmp .ne 33, 3) := by decide +kernel
theorem dX9_hourOfLeaving_32 : decode cX9_hourOfLeaving 32 = .ok (.aload_n 0, 1) := by decide +kernel
theorem dX9_hourOfLeaving_33 : decode cX9_hourOfLeaving 33 = .ok (.invokevirtual 200, 3) := by decide +kernel
theorem dX9_hourOfLeaving_36 : decode cX9_hourOfLeaving 36 = .ok (.pop, 1) := by decide +kernel
theorem dX9_hourOfLeaving_37 : decode cX9_hourOfLeaving 37 = .ok (.aload_n 0, 1) := by decide +kernel
theorem dX9_hourOfLeaving_38 : decode cX9_hourOfLeaving 38 = .ok (.getfield 114, 3) := by decide +kernel
theorem dX9_hourOfLeaving_41 : decode cX9_hourOfLeaving 41 = .ok (.iload_n 1, 1) := by decide +kernel
theorem dX9_hourOfLeaving_42 : decode cX9_hourOfLeaving 42 = .ok (.invokestatic 172, 3) := by decide +kernel
theorem dX9_hourOfLeaving_45 : decode cX9_hourOfLeaving 45 = .ok (.ifCond .ne 11, 3) := by decide +kernel
theorem dX9_hourOfLeaving_48 : decode cX9_hourOfLeaving 48 = .ok (.aload_n 0, 1) := by decide +kernel
theorem dX9_hourOfLeaving_49 : decode cX9_hourOfLeaving 49 = .ok (.getfield 108, 3) := by decide +kernel
theorem dX9_hourOfLeaving_52 : decode cX9_hourOfLeaving 52 = .ok (.iconst 1, 1) := by decide +kernel
theorem dX9_hourOfLeaving_53 : decode cX9_hourOfLeaving 53 = .ok (.isub, 1) := by decide +kernel
theorem dX9_hourOfLeaving_54 : decode cX9_hourOfLeaving 54 = .ok (.istore 4, 2) := by decide +kernel
theorem dX9_hourOfLeaving_56 : decode cX9_hourOfLeaving 56 = .ok (.iinc 5 1, 3) := by decide +kernel
theorem dX9_hourOfLeaving_59 : decode cX9_hourOfLeaving 59 = .ok (.goto (-40), 3) := by decide +kernel
theorem dX9_hourOfLeaving_62 : decode cX9_hourOfLeaving 62 = .ok (.aload_n 0, 1) := by decide +kernel
theorem dX9_hourOfLeaving_63 : decode cX9_hourOfLeaving 63 = .ok (.iload_n 2, 1) := by decide +kernel
theorem dX9_hourOfLeaving_64 : decode cX9_hourOfLeaving 64 = .ok (.invokevirtual 89, 3) := by decide +kernel
theorem dX9_hourOfLeaving_67 : decode cX9_hourOfLeaving 67 = .ok (.iload 4, 2) := by decide +kernel
theorem dX9_hourOfLeaving_69 : decode cX9_hourOfLeaving 69 = .ok (.ireturn, 1) := by decide +kernel
theorem dX9_hourThatShows_0 : decode cX9_hourThatShows 0 = .ok (.aload_n 0, 1) := by decide +kernel
theorem dX9_hourThatShows_1 : decode cX9_hourThatShows 1 = .ok (.invokevirtual 85, 3) := by decide +kernel
theorem dX9_hourThatShows_4 : decode cX9_hourThatShows 4 = .ok (.istore_n 2, 1) := by decide +kernel
theorem dX9_hourThatShows_5 : decode cX9_hourThatShows 5 = .ok (.aload_n 0, 1) := by decide +kernel
theorem dX9_hourThatShows_6 : decode cX9_hourThatShows 6 = .ok (.bipush 16, 2) := by decide +kernel
theorem dX9_hourThatShows_8 : decode cX9_hourThatShows 8 = .ok (.invokevirtual 197, 3) := by decide +kernel
theorem dX9_hourThatShows_11 : decode cX9_hourThatShows 11 = .ok (.istore_n 3, 1) := by decide +kernel
theorem dX9_hourThatShows_12 : decode cX9_hourThatShows 12 = .ok (.bipush (-3), 2) := by decide +kernel
theorem dX9_hourThatShows_14 : decode cX9_hourThatShows 14 = .ok (.istore 4, 2) := by decide +kernel
theorem dX9_hourThatShows_16 : decode cX9_hourThatShows 16 = .ok (.iconst 0, 1) := by decide +kernel
theorem dX9_hourThatShows_17 : decode cX9_hourThatShows 17 = .ok (.istore 5, 2) := by decide +kernel
theorem dX9_hourThatShows_19 : decode cX9_hourThatShows 19 = .ok (.iload 5, 2) := by decide +kernel
theorem dX9_hourThatShows_21 : decode cX9_hourThatShows 21 = .ok (.iload_n 3, 1) := by decide +kernel
theorem dX9_hourThatShows_22 : decode cX9_hourThatShows 22 = .ok (.if_icmp .ge 38, 3) := by decide +kernel
theorem dX9_hourThatShows_25 : decode cX9_hourThatShows 25 = .ok (.iload 4, 2) := by decide +kernel
theorem dX9_hourThatShows_27 : decode cX9_hourThatShows 27 = .ok (.bipush (-3), 2) := by decide +kernel
theorem dX9_hourThatShows_29 : decode cX9_hourThatShows 29 = .ok (.if_icmp .ne 31, 3) := by decide +kernel
theorem dX9_hourThatShows_32 : decode cX9_hourThatShows 32 = .ok (.aload_n 0, 1) := by decide +kernel
theorem dX9_hourThatShows_33 : decode cX9_hourThatShows 33 = .ok (.iconst 0, 1) := by decide +kernel
theorem dX9_hourThatShows_34 : decode cX9_hourThatShows 34 = .ok (.invokevirtual 179, 3) := by decide +kernel
theorem dX9_hourThatShows_37 : decode cX9_hourThatShows 37 = .ok (.pop, 1) := by decide +kernel
theorem dX9_hourThatShows_38 : decode cX9_hourThatShows 38 = .ok (.aload_n 0, 1) := by decide +kernel
theorem dX9_hourThatShows_39 : decode cX9_hourThatShows 39 = .ok (.getfield 111, 3) := by decide +kernel
theorem dX9_hourThatShows_42 : decode cX9_hourThatShows 42 = .ok (.iload_n 1, 1) := by decide +kernel
theorem dX9_hourThatShows_43 : decode cX9_hourThatShows 43 = .ok (.if_icmp .lt 11, 3) := by decide +kernel
theorem dX9_hourThatShows_46 : decode cX9_hourThatShows 46 = .ok (.aload_n 0, 1) := by decide +kernel
theorem dX9_hourThatShows_47 : decode cX9_hourThatShows 47 = .ok (.getfield 108, 3) := by decide +kernel
theorem dX9_hourThatShows_50 : decode cX9_hourThatShows 50 = .ok (.iconst 1, 1) := by decide +kernel
theorem dX9_hourThatShows_51 : decode cX9_hourThatShows 51 = .ok (.isub, 1) := by decide +kernel
theorem dX9_hourThatShows_52 : decode cX9_hourThatShows 52 = .ok (.istore 4, 2) := by decide +kernel
theorem dX9_hourThatShows_54 : decode cX9_hourThatShows 54 = .ok (.iinc 5 1, 3) := by decide +kernel
theorem dX9_hourThatShows_57 : decode cX9_hourThatShows 57 = .ok (.goto (-38), 3) := by decide +kernel
theorem dX9_hourThatShows_60 : decode cX9_hourThatShows 60 = .ok (.aload_n 0, 1) := by decide +kernel
theorem dX9_hourThatShows_61 : decode cX9_hourThatShows 61 = .ok (.iload_n 2, 1) := by decide +kernel
theorem dX9_hourThatShows_62 : decode cX9_hourThatShows 62 = .ok (.invokevirtual 89, 3) := by decide +kernel
theorem dX9_hourThatShows_65 : decode cX9_hourThatShows 65 = .ok (.iload 4, 2) := by decide +kernel
theorem dX9_hourThatShows_67 : decode cX9_hourThatShows 67 = .ok (.ireturn, 1) := by decide +kernel
theorem dX9_queueOf_0 : decode cX9_queueOf 0 = .ok (.aload_n 0, 1) := by decide +kernel
theorem dX9_queueOf_1 : decode cX9_queueOf 1 = .ok (.getfield 114, 3) := by decide +kernel
theorem dX9_queueOf_4 : decode cX9_queueOf 4 = .ok (.iconst 1, 1) := by decide +kernel
theorem dX9_queueOf_5 : decode cX9_queueOf 5 = .ok (.iload_n 1, 1) := by decide +kernel
theorem dX9_queueOf_6 : decode cX9_queueOf 6 = .ok (.ishl, 1) := by decide +kernel
theorem dX9_queueOf_7 : decode cX9_queueOf 7 = .ok (.iand, 1) := by decide +kernel
theorem dX9_queueOf_8 : decode cX9_queueOf 8 = .ok (.istore_n 2, 1) := by decide +kernel
theorem dX9_queueOf_9 : decode cX9_queueOf 9 = .ok (.iconst 0, 1) := by decide +kernel
theorem dX9_queueOf_10 : decode cX9_queueOf 10 = .ok (.istore_n 3, 1) := by decide +kernel
theorem dX9_queueOf_11 : decode cX9_queueOf 11 = .ok (.iload_n 3, 1) := by decide +kernel
theorem dX9_queueOf_12 : decode cX9_queueOf 12 = .ok (.aload_n 0, 1) := by decide +kernel
theorem dX9_queueOf_13 : decode cX9_queueOf 13 = .ok (.getfield 96, 3) := by decide +kernel
theorem dX9_queueOf_16 : decode cX9_queueOf 16 = .ok (.if_icmp .ge 46, 3) := by decide +kernel
theorem dX9_queueOf_19 : decode cX9_queueOf 19 = .ok (.iconst 0, 1) := by decide +kernel
theorem dX9_queueOf_20 : decode cX9_queueOf 20 = .ok (.istore 4, 2) := by decide +kernel
theorem dX9_queueOf_22 : decode cX9_queueOf 22 = .ok (.iload 4, 2) := by decide +kernel
theorem dX9_queueOf_24 : decode cX9_queueOf 24 = .ok (.aload_n 0, 1) := by decide +kernel
theorem dX9_queueOf_25 : decode cX9_queueOf 25 = .ok (.getfield 96, 3) := by decide +kernel
theorem dX9_queueOf_28 : decode cX9_queueOf 28 = .ok (.if_icmp .ge 28, 3) := by decide +kernel
theorem dX9_queueOf_31 : decode cX9_queueOf 31 = .ok (.iload_n 2, 1) := by decide +kernel
theorem dX9_queueOf_32 : decode cX9_queueOf 32 = .ok (.iload 4, 2) := by decide +kernel
theorem dX9_queueOf_34 : decode cX9_queueOf 34 = .ok (.invokestatic 172, 3) := by decide +kernel
theorem dX9_queueOf_37 : decode cX9_queueOf 37 = .ok (.iconst 1, 1) := by decide +kernel
theorem dX9_queueOf_38 : decode cX9_queueOf 38 = .ok (.if_icmp .ne 12, 3) := by decide +kernel
theorem dX9_queueOf_41 : decode cX9_queueOf 41 = .ok (.iload_n 2, 1) := by decide +kernel
theorem dX9_queueOf_42 : decode cX9_queueOf 42 = .ok (.aload_n 0, 1) := by decide +kernel
theorem dX9_queueOf_43 : decode cX9_queueOf 43 = .ok (.iload 4, 2) := by decide +kernel
theorem dX9_queueOf_45 : decode cX9_queueOf 45 = .ok (.invokevirtual 203, 3) := by decide +kernel
theorem dX9_queueOf_48 : decode cX9_queueOf 48 = .ok (.ior, 1) := by decide +kernel
theorem dX9_queueOf_49 : decode cX9_queueOf 49 = .ok (.istore_n 2, 1) := by decide +kernel
theorem dX9_queueOf_50 : decode cX9_queueOf 50 = .ok (.iinc 4 1, 3) := by decide +kernel
theorem dX9_queueOf_53 : decode cX9_queueOf 53 = .ok (.goto (-31), 3) := by decide +kernel
theorem dX9_queueOf_56 : decode cX9_queueOf 56 = .ok (.iinc 3 1, 3) := by decide +kernel
theorem dX9_queueOf_59 : decode cX9_queueOf 59 = .ok (.goto (-48), 3) := by decide +kernel
theorem dX9_queueOf_62 : decode cX9_queueOf 62 = .ok (.iload_n 2, 1) := by decide +kernel
theorem dX9_queueOf_63 : decode cX9_queueOf 63 = .ok (.ireturn, 1) := by decide +kernel
theorem dX9_closeTo_0 : decode cX9_closeTo 0 = .ok (.iconst 0, 1) := by decide +kernel
theorem dX9_closeTo_1 : decode cX9_closeTo 1 = .ok (.istore_n 2, 1) := by decide +kernel
theorem dX9_closeTo_2 : decode cX9_closeTo 2 = .ok (.iconst 0, 1) := by decide +kernel
theorem dX9_closeTo_3 : decode cX9_closeTo 3 = .ok (.istore_n 3, 1) := by decide +kernel
theorem dX9_closeTo_4 : decode cX9_closeTo 4 = .ok (.iload_n 3, 1) := by decide +kernel
theorem dX9_closeTo_5 : decode cX9_closeTo 5 = .ok (.aload_n 0, 1) := by decide +kernel
theorem dX9_closeTo_6 : decode cX9_closeTo 6 = .ok (.getfield 96, 3) := by decide +kernel
theorem dX9_closeTo_9 : decode cX9_closeTo 9 = .ok (.if_icmp .ge 45, 3) := by decide +kernel
theorem dX9_closeTo_12 : decode cX9_closeTo 12 = .ok (.aload_n 0, 1) := by decide +kernel
theorem dX9_closeTo_13 : decode cX9_closeTo 13 = .ok (.getfield 114, 3) := by decide +kernel
theorem dX9_closeTo_16 : decode cX9_closeTo 16 = .ok (.iload_n 3, 1) := by decide +kernel
theorem dX9_closeTo_17 : decode cX9_closeTo 17 = .ok (.invokestatic 172, 3) := by decide +kernel
theorem dX9_closeTo_20 : decode cX9_closeTo 20 = .ok (.iconst 1, 1) := by decide +kernel
theorem dX9_closeTo_21 : decode cX9_closeTo 21 = .ok (.if_icmp .ne 27, 3) := by decide +kernel
theorem dX9_closeTo_24 : decode cX9_closeTo 24 = .ok (.aload_n 0, 1) := by decide +kernel
theorem dX9_closeTo_25 : decode cX9_closeTo 25 = .ok (.iload_n 3, 1) := by decide +kernel
theorem dX9_closeTo_26 : decode cX9_closeTo 26 = .ok (.invokevirtual 136, 3) := by decide +kernel
theorem dX9_closeTo_29 : decode cX9_closeTo 29 = .ok (.aload_n 0, 1) := by decide +kernel
theorem dX9_closeTo_30 : decode cX9_closeTo 30 = .ok (.iload_n 1, 1) := by decide +kernel
theorem dX9_closeTo_31 : decode cX9_closeTo 31 = .ok (.invokevirtual 136, 3) := by decide +kernel
theorem dX9_closeTo_34 : decode cX9_closeTo 34 = .ok (.isub, 1) := by decide +kernel
theorem dX9_closeTo_35 : decode cX9_closeTo 35 = .ok (.invokestatic 140, 3) := by decide +kernel
theorem dX9_closeTo_38 : decode cX9_closeTo 38 = .ok (.iconst 2, 1) := by decide +kernel
theorem dX9_closeTo_39 : decode cX9_closeTo 39 = .ok (.if_icmp .gt 9, 3) := by decide +kernel
theorem dX9_closeTo_42 : decode cX9_closeTo 42 = .ok (.iload_n 2, 1) := by decide +kernel
theorem dX9_closeTo_43 : decode cX9_closeTo 43 = .ok (.iconst 1, 1) := by decide +kernel
theorem dX9_closeTo_44 : decode cX9_closeTo 44 = .ok (.iload_n 3, 1) := by decide +kernel
theorem dX9_closeTo_45 : decode cX9_closeTo 45 = .ok (.ishl, 1) := by decide +kernel
theorem dX9_closeTo_46 : decode cX9_closeTo 46 = .ok (.ior, 1) := by decide +kernel
theorem dX9_closeTo_47 : decode cX9_closeTo 47 = .ok (.istore_n 2, 1) := by decide +kernel
theorem dX9_closeTo_48 : decode cX9_closeTo 48 = .ok (.iinc 3 1, 3) := by decide +kernel
theorem dX9_closeTo_51 : decode cX9_closeTo 51 = .ok (.goto (-47), 3) := by decide +kernel
theorem dX9_closeTo_54 : decode cX9_closeTo 54 = .ok (.iload_n 2, 1) := by decide +kernel
theorem dX9_closeTo_55 : decode cX9_closeTo 55 = .ok (.ireturn, 1) := by decide +kernel
theorem dX9_wayFrom_0 : decode cX9_wayFrom 0 = .ok (.ldc 208, 2) := by decide +kernel
theorem dX9_wayFrom_2 : decode cX9_wayFrom 2 = .ok (.istore_n 3, 1) := by decide +kernel
theorem dX9_wayFrom_3 : decode cX9_wayFrom 3 = .ok (.iconst (-1), 1) := by decide +kernel
theorem dX9_wayFrom_4 : decode cX9_wayFrom 4 = .ok (.istore 4, 2) := by decide +kernel
theorem dX9_wayFrom_6 : decode cX9_wayFrom 6 = .ok (.iconst 0, 1) := by decide +kernel
theorem dX9_wayFrom_7 : decode cX9_wayFrom 7 = .ok (.istore 5, 2) := by decide +kernel
theorem dX9_wayFrom_9 : decode cX9_wayFrom 9 = .ok (.iload 5, 2) := by decide +kernel
theorem dX9_wayFrom_11 : decode cX9_wayFrom 11 = .ok (.aload_n 0, 1) := by decide +kernel
theorem dX9_wayFrom_12 : decode cX9_wayFrom 12 = .ok (.getfield 96, 3) := by decide +kernel
theorem dX9_wayFrom_15 : decode cX9_wayFrom 15 = .ok (.if_icmp .ge 43, 3) := by decide +kernel
theorem dX9_wayFrom_18 : decode cX9_wayFrom 18 = .ok (.iload_n 2, 1) := by decide +kernel
theorem dX9_wayFrom_19 : decode cX9_wayFrom 19 = .ok (.iload 5, 2) := by decide +kernel
theorem dX9_wayFrom_21 : decode cX9_wayFrom 21 = .ok (.invokestatic 172, 3) := by decide +kernel
theorem dX9_wayFrom_24 : decode cX9_wayFrom 24 = .ok (.iconst 1, 1) := by decide +kernel
theorem dX9_wayFrom_25 : decode cX9_wayFrom 25 = .ok (.if_icmp .ne 27, 3) := by decide +kernel
theorem dX9_wayFrom_28 : decode cX9_wayFrom 28 = .ok (.iload_n 3, 1) := by decide +kernel
theorem dX9_wayFrom_29 : decode cX9_wayFrom 29 = .ok (.aload_n 0, 1) := by decide +kernel
theorem dX9_wayFrom_30 : decode cX9_wayFrom 30 = .ok (.iload 5, 2) := by decide +kernel
theorem dX9_wayFrom_32 : decode cX9_wayFrom 32 = .ok (.invokevirtual 136, 3) := by decide +kernel
theorem dX9_wayFrom_35 : decode cX9_wayFrom 35 = .ok (.invokestatic 133, 3) := by decide +kernel
theorem dX9_wayFrom_38 : decode cX9_wayFrom 38 = .ok (.istore_n 3, 1) := by decide +kernel
theorem dX9_wayFrom_39 : decode cX9_wayFrom 39 = .ok (.iload 4, 2) := by decide +kernel
theorem dX9_wayFrom_41 : decode cX9_wayFrom 41 = .ok (.aload_n 0, 1) := by decide +kernel
theorem dX9_wayFrom_42 : decode cX9_wayFrom 42 = .ok (.iload 5, 2) := by decide +kernel
theorem dX9_wayFrom_44 : decode cX9_wayFrom 44 = .ok (.invokevirtual 136, 3) := by decide +kernel
theorem dX9_wayFrom_47 : decode cX9_wayFrom 47 = .ok (.invokestatic 127, 3) := by decide +kernel
theorem dX9_wayFrom_50 : decode cX9_wayFrom 50 = .ok (.istore 4, 2) := by decide +kernel
theorem dX9_wayFrom_52 : decode cX9_wayFrom 52 = .ok (.iinc 5 1, 3) := by decide +kernel
theorem dX9_wayFrom_55 : decode cX9_wayFrom 55 = .ok (.goto (-46), 3) := by decide +kernel
theorem dX9_wayFrom_58 : decode cX9_wayFrom 58 = .ok (.iload 4, 2) := by decide +kernel
theorem dX9_wayFrom_60 : decode cX9_wayFrom 60 = .ok (.ifCond .ge 5, 3) := by decide +kernel
theorem dX9_wayFrom_63 : decode cX9_wayFrom 63 = .ok (.iconst 0, 1) := by decide +kernel
theorem dX9_wayFrom_64 : decode cX9_wayFrom 64 = .ok (.ireturn, 1) := by decide +kernel
theorem dX9_wayFrom_65 : decode cX9_wayFrom 65 = .ok (.iload 4, 2) := by decide +kernel
theorem dX9_wayFrom_67 : decode cX9_wayFrom 67 = .ok (.iload_n 3, 1) := by decide +kernel
theorem dX9_wayFrom_68 : decode cX9_wayFrom 68 = .ok (.isub, 1) := by decide +kernel
theorem dX9_wayFrom_69 : decode cX9_wayFrom 69 = .ok (.iload_n 1, 1) := by decide +kernel
theorem dX9_wayFrom_70 : decode cX9_wayFrom 70 = .ok (.iload_n 3, 1) := by decide +kernel
theorem dX9_wayFrom_71 : decode cX9_wayFrom 71 = .ok (.isub, 1) := by decide +kernel
theorem dX9_wayFrom_72 : decode cX9_wayFrom 72 = .ok (.invokestatic 140, 3) := by decide +kernel
theorem dX9_wayFrom_75 : decode cX9_wayFrom 75 = .ok (.iload_n 1, 1) := by decide +kernel
theorem dX9_wayFrom_76 : decode cX9_wayFrom 76 = .ok (.iload 4, 2) := by decide +kernel
theorem dX9_wayFrom_78 : decode cX9_wayFrom 78 = .ok (.isub, 1) := by decide +kernel
theorem dX9_wayFrom_79 : decode cX9_wayFrom 79 = .ok (.invokestatic 140, 3) := by decide +kernel
theorem dX9_wayFrom_82 : decode cX9_wayFrom 82 = .ok (.invokestatic 133, 3) := by decide +kernel
theorem dX9_wayFrom_85 : decode cX9_wayFrom 85 = .ok (.iadd, 1) := by decide +kernel
theorem dX9_wayFrom_86 : decode cX9_wayFrom 86 = .ok (.ireturn, 1) := by decide +kernel
theorem dX9_noteReport_0 : decode cX9_noteReport 0 = .ok (.aload_n 0, 1) := by decide +kernel
theorem dX9_noteReport_1 : decode cX9_noteReport 1 = .ok (.getfield 99, 3) := by decide +kernel
theorem dX9_noteReport_4 : decode cX9_noteReport 4 = .ok (.iconst 4, 1) := by decide +kernel
theorem dX9_noteReport_5 : decode cX9_noteReport 5 = .ok (.imul, 1) := by decide +kernel
theorem dX9_noteReport_6 : decode cX9_noteReport 6 = .ok (.istore 5, 2) := by decide +kernel
theorem dX9_noteReport_8 : decode cX9_noteReport 8 = .ok (.aload_n 0, 1) := by decide +kernel
theorem dX9_noteReport_9 : decode cX9_noteReport 9 = .ok (.getfield 72, 3) := by decide +kernel
theorem dX9_noteReport_12 : decode cX9_noteReport 12 = .ok (.iload 5, 2) := by decide +kernel
theorem dX9_noteReport_14 : decode cX9_noteReport 14 = .ok (.iload_n 1, 1) := by decide +kernel
theorem dX9_noteReport_15 : decode cX9_noteReport 15 = .ok (.iastore, 1) := by decide +kernel
theorem dX9_noteReport_16 : decode cX9_noteReport 16 = .ok (.aload_n 0, 1) := by decide +kernel
theorem dX9_noteReport_17 : decode cX9_noteReport 17 = .ok (.getfield 72, 3) := by decide +kernel
theorem dX9_noteReport_20 : decode cX9_noteReport 20 = .ok (.iload 5, 2) := by decide +kernel
theorem dX9_noteReport_22 : decode cX9_noteReport 22 = .ok (.iconst 1, 1) := by decide +kernel
theorem dX9_noteReport_23 : decode cX9_noteReport 23 = .ok (.iadd, 1) := by decide +kernel
theorem dX9_noteReport_24 : decode cX9_noteReport 24 = .ok (.iload_n 2, 1) := by decide +kernel
theorem dX9_noteReport_25 : decode cX9_noteReport 25 = .ok (.iastore, 1) := by decide +kernel
theorem dX9_noteReport_26 : decode cX9_noteReport 26 = .ok (.aload_n 0, 1) := by decide +kernel
theorem dX9_noteReport_27 : decode cX9_noteReport 27 = .ok (.getfield 72, 3) := by decide +kernel
theorem dX9_noteReport_30 : decode cX9_noteReport 30 = .ok (.iload 5, 2) := by decide +kernel
theorem dX9_noteReport_32 : decode cX9_noteReport 32 = .ok (.iconst 2, 1) := by decide +kernel
theorem dX9_noteReport_33 : decode cX9_noteReport 33 = .ok (.iadd, 1) := by decide +kernel
theorem dX9_noteReport_34 : decode cX9_noteReport 34 = .ok (.iload_n 3, 1) := by decide +kernel
theorem dX9_noteReport_35 : decode cX9_noteReport 35 = .ok (.iastore, 1) := by decide +kernel
theorem dX9_noteReport_36 : decode cX9_noteReport 36 = .ok (.aload_n 0, 1) := by decide +kernel
theorem dX9_noteReport_37 : decode cX9_noteReport 37 = .ok (.getfield 72, 3) := by decide +kernel
theorem dX9_noteReport_40 : decode cX9_noteReport 40 = .ok (.iload 5, 2) := by decide +kernel
theorem dX9_noteReport_42 : decode cX9_noteReport 42 = .ok (.iconst 3, 1) := by decide +kernel
theorem dX9_noteReport_43 : decode cX9_noteReport 43 = .ok (.iadd, 1) := by decide +kernel
theorem dX9_noteReport_44 : decode cX9_noteReport 44 = .ok (.iload 4, 2) := by decide +kernel
theorem dX9_noteReport_46 : decode cX9_noteReport 46 = .ok (.iastore, 1) := by decide +kernel
theorem dX9_noteReport_47 : decode cX9_noteReport 47 = .ok (.aload_n 0, 1) := by decide +kernel
theorem dX9_noteReport_48 : decode cX9_noteReport 48 = .ok (.dup, 1) := by decide +kernel
theorem dX9_noteReport_49 : decode cX9_noteReport 49 = .ok (.getfield 99, 3) := by decide +kernel
theorem dX9_noteReport_52 : decode cX9_noteReport 52 = .ok (.iconst 1, 1) := by decide +kernel
theorem dX9_noteReport_53 : decode cX9_noteReport 53 = .ok (.iadd, 1) := by decide +kernel
theorem dX9_noteReport_54 : decode cX9_noteReport 54 = .ok (.putfield 99, 3) := by decide +kernel
theorem dX9_noteReport_57 : decode cX9_noteReport 57 = .ok (.aload_n 0, 1) := by decide +kernel
theorem dX9_noteReport_58 : decode cX9_noteReport 58 = .ok (.getfield 99, 3) := by decide +kernel
theorem dX9_noteReport_61 : decode cX9_noteReport 61 = .ok (.iconst 1, 1) := by decide +kernel
theorem dX9_noteReport_62 : decode cX9_noteReport 62 = .ok (.isub, 1) := by decide +kernel
theorem dX9_noteReport_63 : decode cX9_noteReport 63 = .ok (.ireturn, 1) := by decide +kernel
theorem dX9_wrongReports_0 : decode cX9_wrongReports 0 = .ok (.aload_n 0, 1) := by decide +kernel
theorem dX9_wrongReports_1 : decode cX9_wrongReports 1 = .ok (.getfield 27, 3) := by decide +kernel
theorem dX9_wrongReports_4 : decode cX9_wrongReports 4 = .ok (.iload_n 1, 1) := by decide +kernel
theorem dX9_wrongReports_5 : decode cX9_wrongReports 5 = .ok (.invokestatic 209, 3) := by decide +kernel
theorem dX9_wrongReports_8 : decode cX9_wrongReports 8 = .ok (.aaload, 1) := by decide +kernel
theorem dX9_wrongReports_9 : decode cX9_wrongReports 9 = .ok (.astore_n 2, 1) := by decide +kernel
theorem dX9_wrongReports_10 : decode cX9_wrongReports 10 = .ok (.iload_n 1, 1) := by decide +kernel
theorem dX9_wrongReports_11 : decode cX9_wrongReports 11 = .ok (.invokestatic 212, 3) := by decide +kernel
theorem dX9_wrongReports_14 : decode cX9_wrongReports 14 = .ok (.istore_n 3, 1) := by decide +kernel
theorem dX9_wrongReports_15 : decode cX9_wrongReports 15 = .ok (.iload_n 1, 1) := by decide +kernel
theorem dX9_wrongReports_16 : decode cX9_wrongReports 16 = .ok (.invokestatic 215, 3) := by decide +kernel
theorem dX9_wrongReports_19 : decode cX9_wrongReports 19 = .ok (.istore 4, 2) := by decide +kernel
theorem dX9_wrongReports_21 : decode cX9_wrongReports 21 = .ok (.iconst 0, 1) := by decide +kernel
theorem dX9_wrongReports_22 : decode cX9_wrongReports 22 = .ok (.istore 5, 2) := by decide +kernel
theorem dX9_wrongReports_24 : decode cX9_wrongReports 24 = .ok (.aload_n 0, 1) := by decide +kernel
theorem dX9_wrongReports_25 : decode cX9_wrongReports 25 = .ok (.invokevirtual 218, 3) := by decide +kernel
theorem dX9_wrongReports_28 : decode cX9_wrongReports 28 = .ok (.istore 6, 2) := by decide +kernel
theorem dX9_wrongReports_30 : decode cX9_wrongReports 30 = .ok (.aload_n 0, 1) := by decide +kernel
theorem dX9_wrongReports_31 : decode cX9_wrongReports 31 = .ok (.iconst 0, 1) := by decide +kernel
theorem dX9_wrongReports_32 : decode cX9_wrongReports 32 = .ok (.iload 5, 2) := by decide +kernel
theorem dX9_wrongReports_34 : decode cX9_wrongReports 34 = .ok (.iload 4, 2) := by decide +kernel
theorem dX9_wrongReports_36 : decode cX9_wrongReports 36 = .ok (.invokevirtual 221, 3) := by decide +kernel
theorem dX9_wrongReports_39 : decode cX9_wrongReports 39 = .ok (.istore 7, 2) := by decide +kernel
theorem dX9_wrongReports_41 : decode cX9_wrongReports 41 = .ok (.iconst 0, 1) := by decide +kernel
theorem dX9_wrongReports_42 : decode cX9_wrongReports 42 = .ok (.istore 8, 2) := by decide +kernel
theorem dX9_wrongReports_44 : decode cX9_wrongReports 44 = .ok (.iload 8, 2) := by decide +kernel
theorem dX9_wrongReports_46 : decode cX9_wrongReports 46 = .ok (.iload 6, 2) := by decide +kernel
theorem dX9_wrongReports_48 : decode cX9_wrongReports 48 = .ok (.if_icmp .ge 69, 3) := by decide +kernel
theorem dX9_wrongReports_51 : decode cX9_wrongReports 51 = .ok (.aload_n 0, 1) := by decide +kernel
theorem dX9_wrongReports_52 : decode cX9_wrongReports 52 = .ok (.iload 8, 2) := by decide +kernel
theorem dX9_wrongReports_54 : decode cX9_wrongReports 54 = .ok (.iload 4, 2) := by decide +kernel
theorem dX9_wrongReports_56 : decode cX9_wrongReports 56 = .ok (.invokevirtual 159, 3) := by decide +kernel
theorem dX9_wrongReports_59 : decode cX9_wrongReports 59 = .ok (.istore 4, 2) := by decide +kernel
theorem dX9_wrongReports_61 : decode cX9_wrongReports 61 = .ok (.iload 8, 2) := by decide +kernel
theorem dX9_wrongReports_63 : decode cX9_wrongReports 63 = .ok (.iconst 2, 1) := by decide +kernel
theorem dX9_wrongReports_64 : decode cX9_wrongReports 64 = .ok (.irem, 1) := by decide +kernel
theorem dX9_wrongReports_65 : decode cX9_wrongReports 65 = .ok (.ifCond .ne 20, 3) := by decide +kernel
theorem dX9_wrongReports_68 : decode cX9_wrongReports 68 = .ok (.iload 4, 2) := by decide +kernel
theorem dX9_wrongReports_70 : decode cX9_wrongReports 70 = .ok (.aload_n 2, 1) := by decide +kernel
theorem dX9_wrongReports_71 : decode cX9_wrongReports 71 = .ok (.iload_n 3, 1) := by decide +kernel
theorem dX9_wrongReports_72 : decode cX9_wrongReports 72 = .ok (.iload 8, 2) := by decide +kernel
theorem dX9_wrongReports_74 : decode cX9_wrongReports 74 = .ok (.invokevirtual 143, 3) := by decide +kernel
theorem dX9_wrongReports_77 : decode cX9_wrongReports 77 = .ok (.iadd, 1) := by decide +kernel
theorem dX9_wrongReports_78 : decode cX9_wrongReports 78 = .ok (.bipush 9, 2) := by decide +kernel
theorem dX9_wrongReports_80 : decode cX9_wrongReports 80 = .ok (.invokestatic 182, 3) := by decide +kernel
theorem dX9_wrongReports_83 : decode cX9_wrongReports 83 = .ok (.istore 4, 2) := by decide +kernel
theorem dX9_wrongReports_85 : decode cX9_wrongReports 85 = .ok (.iload 5, 2) := by decide +kernel
theorem dX9_wrongReports_87 : decode cX9_wrongReports 87 = .ok (.iload 4, 2) := by decide +kernel
theorem dX9_wrongReports_89 : decode cX9_wrongReports 89 = .ok (.invokestatic 194, 3) := by decide +kernel
theorem dX9_wrongReports_92 : decode cX9_wrongReports 92 = .ok (.istore 5, 2) := by decide +kernel
theorem dX9_wrongReports_94 : decode cX9_wrongReports 94 = .ok (.iload 7, 2) := by decide +kernel
theorem dX9_wrongReports_96 : decode cX9_wrongReports 96 = .ok (.aload_n 0, 1) := by decide +kernel
theorem dX9_wrongReports_97 : decode cX9_wrongReports 97 = .ok (.iload 8, 2) := by decide +kernel
theorem dX9_wrongReports_99 : decode cX9_wrongReports 99 = .ok (.iconst 1, 1) := by decide +kernel
theorem dX9_wrongReports_100 : decode cX9_wrongReports 100 = .ok (.iadd, 1) := by decide +kernel
theorem dX9_wrongReports_101 : decode cX9_wrongReports 101 = .ok (.iload 5, 2) := by decide +kernel
theorem dX9_wrongReports_103 : decode cX9_wrongReports 103 = .ok (.iload 4, 2) := by decide +kernel
theorem dX9_wrongReports_105 : decode cX9_wrongReports 105 = .ok (.invokevirtual 221, 3) := by decide +kernel
theorem dX9_wrongReports_108 : decode cX9_wrongReports 108 = .ok (.ior, 1) := by decide +kernel
theorem dX9_wrongReports_109 : decode cX9_wrongReports 109 = .ok (.istore 7, 2) := by decide +kernel
theorem dX9_wrongReports_111 : decode cX9_wrongReports 111 = .ok (.iinc 8 1, 3) := by decide +kernel
theorem dX9_wrongReports_114 : decode cX9_wrongReports 114 = .ok (.goto (-70), 3) := by decide +kernel
theorem dX9_wrongReports_117 : decode cX9_wrongReports 117 = .ok (.iload 7, 2) := by decide +kernel
theorem dX9_wrongReports_119 : decode cX9_wrongReports 119 = .ok (.ireturn, 1) := by decide +kernel
theorem dX9_lastHourReported_0 : decode cX9_lastHourReported 0 = .ok (.iconst 0, 1) := by decide +kernel
theorem dX9_lastHourReported_1 : decode cX9_lastHourReported 1 = .ok (.istore_n 1, 1) := by decide +kernel
theorem dX9_lastHourReported_2 : decode cX9_lastHourReported 2 = .ok (.iconst 0, 1) := by decide +kernel
theorem dX9_lastHourReported_3 : decode cX9_lastHourReported 3 = .ok (.istore_n 2, 1) := by decide +kernel
theorem dX9_lastHourReported_4 : decode cX9_lastHourReported 4 = .ok (.iload_n 2, 1) := by decide +kernel
theorem dX9_lastHourReported_5 : decode cX9_lastHourReported 5 = .ok (.aload_n 0, 1) := by decide +kernel
theorem dX9_lastHourReported_6 : decode cX9_lastHourReported 6 = .ok (.getfield 99, 3) := by decide +kernel
theorem dX9_lastHourReported_9 : decode cX9_lastHourReported 9 = .ok (.if_icmp .ge 22, 3) := by decide +kernel
theorem dX9_lastHourReported_12 : decode cX9_lastHourReported 12 = .ok (.iload_n 1, 1) := by decide +kernel
theorem dX9_lastHourReported_13 : decode cX9_lastHourReported 13 = .ok (.aload_n 0, 1) := by decide +kernel
theorem dX9_lastHourReported_14 : decode cX9_lastHourReported 14 = .ok (.getfield 72, 3) := by decide +kernel
theorem dX9_lastHourReported_17 : decode cX9_lastHourReported 17 = .ok (.iload_n 2, 1) := by decide +kernel
theorem dX9_lastHourReported_18 : decode cX9_lastHourReported 18 = .ok (.iconst 4, 1) := by decide +kernel
theorem dX9_lastHourReported_19 : decode cX9_lastHourReported 19 = .ok (.imul, 1) := by decide +kernel
theorem dX9_lastHourReported_20 : decode cX9_lastHourReported 20 = .ok (.iaload, 1) := by decide +kernel
theorem dX9_lastHourReported_21 : decode cX9_lastHourReported 21 = .ok (.invokestatic 127, 3) := by decide +kernel
theorem dX9_lastHourReported_24 : decode cX9_lastHourReported 24 = .ok (.istore_n 1, 1) := by decide +kernel
theorem dX9_lastHourReported_25 : decode cX9_lastHourReported 25 = .ok (.iinc 2 1, 3) := by decide +kernel
theorem dX9_lastHourReported_28 : decode cX9_lastHourReported 28 = .ok (.goto (-24), 3) := by decide +kernel
theorem dX9_lastHourReported_31 : decode cX9_lastHourReported 31 = .ok (.iload_n 1, 1) := by decide +kernel
theorem dX9_lastHourReported_32 : decode cX9_lastHourReported 32 = .ok (.ireturn, 1) := by decide +kernel
theorem dX9_wrongBehind_0 : decode cX9_wrongBehind 0 = .ok (.iconst 0, 1) := by decide +kernel
theorem dX9_wrongBehind_1 : decode cX9_wrongBehind 1 = .ok (.istore 4, 2) := by decide +kernel
theorem dX9_wrongBehind_3 : decode cX9_wrongBehind 3 = .ok (.iconst 0, 1) := by decide +kernel
theorem dX9_wrongBehind_4 : decode cX9_wrongBehind 4 = .ok (.istore 5, 2) := by decide +kernel
theorem dX9_wrongBehind_6 : decode cX9_wrongBehind 6 = .ok (.iload 5, 2) := by decide +kernel
theorem dX9_wrongBehind_8 : decode cX9_wrongBehind 8 = .ok (.aload_n 0, 1) := by decide +kernel
theorem dX9_wrongBehind_9 : decode cX9_wrongBehind 9 = .ok (.getfield 99, 3) := by decide +kernel
theorem dX9_wrongBehind_12 : decode cX9_wrongBehind 12 = .ok (.if_icmp .ge 82, 3) := by decide +kernel
theorem dX9_wrongBehind_15 : decode cX9_wrongBehind 15 = .ok (.iload 5, 2) := by decide +kernel
theorem dX9_wrongBehind_17 : decode cX9_wrongBehind 17 = .ok (.iconst 4, 1) := by decide +kernel
theorem dX9_wrongBehind_18 : decode cX9_wrongBehind 18 = .ok (.imul, 1) := by decide +kernel
theorem dX9_wrongBehind_19 : decode cX9_wrongBehind 19 = .ok (.istore 6, 2) := by decide +kernel
theorem dX9_wrongBehind_21 : decode cX9_wrongBehind 21 = .ok (.aload_n 0, 1) := by decide +kernel
theorem dX9_wrongBehind_22 : decode cX9_wrongBehind 22 = .ok (.getfield 72, 3) := by decide +kernel
theorem dX9_wrongBehind_25 : decode cX9_wrongBehind 25 = .ok (.iload 6, 2) := by decide +kernel
theorem dX9_wrongBehind_27 : decode cX9_wrongBehind 27 = .ok (.iaload, 1) := by decide +kernel
theorem dX9_wrongBehind_28 : decode cX9_wrongBehind 28 = .ok (.iload_n 1, 1) := by decide +kernel
theorem dX9_wrongBehind_29 : decode cX9_wrongBehind 29 = .ok (.if_icmp .ne 59, 3) := by decide +kernel
theorem dX9_wrongBehind_32 : decode cX9_wrongBehind 32 = .ok (.aload_n 0, 1) := by decide +kernel
theorem dX9_wrongBehind_33 : decode cX9_wrongBehind 33 = .ok (.getfield 72, 3) := by decide +kernel
theorem dX9_wrongBehind_36 : decode cX9_wrongBehind 36 = .ok (.iload 6, 2) := by decide +kernel
theorem dX9_wrongBehind_38 : decode cX9_wrongBehind 38 = .ok (.iconst 1, 1) := by decide +kernel
theorem dX9_wrongBehind_39 : decode cX9_wrongBehind 39 = .ok (.iadd, 1) := by decide +kernel
theorem dX9_wrongBehind_40 : decode cX9_wrongBehind 40 = .ok (.iaload, 1) := by decide +kernel
theorem dX9_wrongBehind_41 : decode cX9_wrongBehind 41 = .ok (.ifCond .ne 7, 3) := by decide +kernel
theorem dX9_wrongBehind_44 : decode cX9_wrongBehind 44 = .ok (.iload_n 2, 1) := by decide +kernel
theorem dX9_wrongBehind_45 : decode cX9_wrongBehind 45 = .ok (.goto 4, 3) := by decide +kernel
theorem dX9_wrongBehind_48 : decode cX9_wrongBehind 48 = .ok (.iload_n 3, 1) := by decide +kernel
theorem dX9_wrongBehind_49 : decode cX9_wrongBehind 49 = .ok (.istore 7, 2) := by decide +kernel
theorem dX9_wrongBehind_51 : decode cX9_wrongBehind 51 = .ok (.iload 7, 2) := by decide +kernel
theorem dX9_wrongBehind_53 : decode cX9_wrongBehind 53 = .ok (.aload_n 0, 1) := by decide +kernel
theorem dX9_wrongBehind_54 : decode cX9_wrongBehind 54 = .ok (.getfield 72, 3) := by decide +kernel
theorem dX9_wrongBehind_57 : decode cX9_wrongBehind 57 = .ok (.iload 6, 2) := by decide +kernel
theorem dX9_wrongBehind_59 : decode cX9_wrongBehind 59 = .ok (.iconst 2, 1) := by decide +kernel
theorem dX9_wrongBehind_60 : decode cX9_wrongBehind 60 = .ok (.iadd, 1) := by decide +kernel
theorem dX9_wrongBehind_61 : decode cX9_wrongBehind 61 = .ok (.iaload, 1) := by decide +kernel
theorem dX9_wrongBehind_62 : decode cX9_wrongBehind 62 = .ok (.if_icmp .lt 17, 3) := by decide +kernel
theorem dX9_wrongBehind_65 : decode cX9_wrongBehind 65 = .ok (.iload 7, 2) := by decide +kernel
theorem dX9_wrongBehind_67 : decode cX9_wrongBehind 67 = .ok (.aload_n 0, 1) := by decide +kernel
theorem dX9_wrongBehind_68 : decode cX9_wrongBehind 68 = .ok (.getfield 72, 3) := by decide +kernel
theorem dX9_wrongBehind_71 : decode cX9_wrongBehind 71 = .ok (.iload 6, 2) := by decide +kernel
theorem dX9_wrongBehind_73 : decode cX9_wrongBehind 73 = .ok (.iconst 3, 1) := by decide +kernel
theorem dX9_wrongBehind_74 : decode cX9_wrongBehind 74 = .ok (.iadd, 1) := by decide +kernel
theorem dX9_wrongBehind_75 : decode cX9_wrongBehind 75 = .ok (.iaload, 1) := by decide +kernel
theorem dX9_wrongBehind_76 : decode cX9_wrongBehind 76 = .ok (.if_icmp .le 12, 3) := by decide +kernel
theorem dX9_wrongBehind_79 : decode cX9_wrongBehind 79 = .ok (.iload 4, 2) := by decide +kernel
theorem dX9_wrongBehind_81 : decode cX9_wrongBehind 81 = .ok (.iconst 1, 1) := by decide +kernel
theorem dX9_wrongBehind_82 : decode cX9_wrongBehind 82 = .ok (.iload 5, 2) := by decide +kernel
theorem dX9_wrongBehind_84 : decode cX9_wrongBehind 84 = .ok (.ishl, 1) := by decide +kernel
theorem dX9_wrongBehind_85 : decode cX9_wrongBehind 85 = .ok (.ior, 1) := by decide +kernel
theorem dX9_wrongBehind_86 : decode cX9_wrongBehind 86 = .ok (.istore 4, 2) := by decide +kernel
theorem dX9_wrongBehind_88 : decode cX9_wrongBehind 88 = .ok (.iinc 5 1, 3) := by decide +kernel
theorem dX9_wrongBehind_91 : decode cX9_wrongBehind 91 = .ok (.goto (-85), 3) := by decide +kernel
theorem dX9_wrongBehind_94 : decode cX9_wrongBehind 94 = .ok (.iload 4, 2) := by decide +kernel
theorem dX9_wrongBehind_96 : decode cX9_wrongBehind 96 = .ok (.ireturn, 1) := by decide +kernel
theorem dX10_init_0 : decode cX10_init 0 = .ok (.aload_n 0, 1) := by decide +kernel
theorem dX10_init_1 : decode cX10_init 1 = .ok (.invokespecial 3, 3) := by decide +kernel
theorem dX10_init_4 : decode cX10_init 4 = .ok (.aload_n 0, 1) := by decide +kernel
theorem dX10_init_5 : decode cX10_init 5 = .ok (.bipush 30, 2) := by decide +kernel
theorem dX10_init_7 : decode cX10_init 7 = .ok (.newarray .int, 2) := by decide +kernel
theorem dX10_init_9 : decode cX10_init 9 = .ok (.putfield 9, 3) := by decide +kernel
theorem dX10_init_12 : decode cX10_init 12 = .ok (.return_, 1) := by decide +kernel
theorem dX10_clear_0 : decode cX10_clear 0 = .ok (.aload_n 0, 1) := by decide +kernel
theorem dX10_clear_1 : decode cX10_clear 1 = .ok (.iconst 0, 1) := by decide +kernel
theorem dX10_clear_2 : decode cX10_clear 2 = .ok (.putfield 15, 3) := by decide +kernel
theorem dX10_clear_5 : decode cX10_clear 5 = .ok (.aload_n 0, 1) := by decide +kernel
theorem dX10_clear_6 : decode cX10_clear 6 = .ok (.iconst 0, 1) := by decide +kernel
theorem dX10_clear_7 : decode cX10_clear 7 = .ok (.putfield 19, 3) := by decide +kernel
theorem dX10_clear_10 : decode cX10_clear 10 = .ok (.return_, 1) := by decide +kernel
theorem dX10_begin_0 : decode cX10_begin 0 = .ok (.aload_n 0, 1) := by decide +kernel
theorem dX10_begin_1 : decode cX10_begin 1 = .ok (.getfield 15, 3) := by decide +kernel
theorem dX10_begin_4 : decode cX10_begin 4 = .ok (.ifCond .ne 32, 3) := by decide +kernel
theorem dX10_begin_7 : decode cX10_begin 7 = .ok (.aload_n 0, 1) := by decide +kernel
theorem dX10_begin_8 : decode cX10_begin 8 = .ok (.getfield 19, 3) := by decide +kernel
theorem dX10_begin_11 : decode cX10_begin 11 = .ok (.bipush 30, 2) := by decide +kernel
theorem dX10_begin_13 : decode cX10_begin 13 = .ok (.if_icmp .ge 23, 3) := by decide +kernel
theorem dX10_begin_16 : decode cX10_begin 16 = .ok (.aload_n 0, 1) := by decide +kernel
theorem dX10_begin_17 : decode cX10_begin 17 = .ok (.getfield 9, 3) := by decide +kernel
theorem dX10_begin_20 : decode cX10_begin 20 = .ok (.aload_n 0, 1) := by decide +kernel
theorem dX10_begin_21 : decode cX10_begin 21 = .ok (.getfield 19, 3) := by decide +kernel
theorem dX10_begin_24 : decode cX10_begin 24 = .ok (.iload_n 1, 1) := by decide +kernel
theorem dX10_begin_25 : decode cX10_begin 25 = .ok (.iastore, 1) := by decide +kernel
theorem dX10_begin_26 : decode cX10_begin 26 = .ok (.aload_n 0, 1) := by decide +kernel
theorem dX10_begin_27 : decode cX10_begin 27 = .ok (.dup, 1) := by decide +kernel
theorem dX10_begin_28 : decode cX10_begin 28 = .ok (.getfield 19, 3) := by decide +kernel
theorem dX10_begin_31 : decode cX10_begin 31 = .ok (.iconst 1, 1) := by decide +kernel
theorem dX10_begin_32 : decode cX10_begin 32 = .ok (.iadd, 1) := by decide +kernel
theorem dX10_begin_33 : decode cX10_begin 33 = .ok (.putfield 19, 3) := by decide +kernel
theorem dX10_begin_36 : decode cX10_begin 36 = .ok (.return_, 1) := by decide +kernel
theorem dX11_init_0 : decode cX11_init 0 = .ok (.aload_n 0, 1) := by decide +kernel
theorem dX11_init_1 : decode cX11_init 1 = .ok (.invokespecial 1, 3) := by decide +kernel
theorem dX11_init_4 : decode cX11_init 4 = .ok (.aload_n 0, 1) := by decide +kernel
theorem dX11_init_5 : decode cX11_init 5 = .ok (.new 7, 3) := by decide +kernel
theorem dX11_init_8 : decode cX11_init 8 = .ok (.dup, 1) := by decide +kernel
theorem dX11_init_9 : decode cX11_init 9 = .ok (.invokespecial 9, 3) := by decide +kernel
theorem dX11_init_12 : decode cX11_init 12 = .ok (.putfield 10, 3) := by decide +kernel
theorem dX11_init_15 : decode cX11_init 15 = .ok (.aload_n 0, 1) := by decide +kernel
theorem dX11_init_16 : decode cX11_init 16 = .ok (.new 7, 3) := by decide +kernel
theorem dX11_init_19 : decode cX11_init 19 = .ok (.dup, 1) := by decide +kernel
theorem dX11_init_20 : decode cX11_init 20 = .ok (.invokespecial 9, 3) := by decide +kernel
theorem dX11_init_23 : decode cX11_init 23 = .ok (.putfield 16, 3) := by decide +kernel
theorem dX11_init_26 : decode cX11_init 26 = .ok (.aload_n 0, 1) := by decide +kernel
theorem dX11_init_27 : decode cX11_init 27 = .ok (.new 19, 3) := by decide +kernel
theorem dX11_init_30 : decode cX11_init 30 = .ok (.dup, 1) := by decide +kernel
theorem dX11_init_31 : decode cX11_init 31 = .ok (.aload_n 0, 1) := by decide +kernel
theorem dX11_init_32 : decode cX11_init 32 = .ok (.getfield 10, 3) := by decide +kernel
theorem dX11_init_35 : decode cX11_init 35 = .ok (.invokespecial 21, 3) := by decide +kernel
theorem dX11_init_38 : decode cX11_init 38 = .ok (.putfield 24, 3) := by decide +kernel
theorem dX11_init_41 : decode cX11_init 41 = .ok (.aload_n 0, 1) := by decide +kernel
theorem dX11_init_42 : decode cX11_init 42 = .ok (.new 28, 3) := by decide +kernel
theorem dX11_init_45 : decode cX11_init 45 = .ok (.dup, 1) := by decide +kernel
theorem dX11_init_46 : decode cX11_init 46 = .ok (.invokespecial 30, 3) := by decide +kernel
theorem dX11_init_49 : decode cX11_init 49 = .ok (.putfield 31, 3) := by decide +kernel
theorem dX11_init_52 : decode cX11_init 52 = .ok (.aload_n 0, 1) := by decide +kernel
theorem dX11_init_53 : decode cX11_init 53 = .ok (.new 35, 3) := by decide +kernel
theorem dX11_init_56 : decode cX11_init 56 = .ok (.dup, 1) := by decide +kernel
theorem dX11_init_57 : decode cX11_init 57 = .ok (.invokespecial 37, 3) := by decide +kernel
theorem dX11_init_60 : decode cX11_init 60 = .ok (.putfield 38, 3) := by decide +kernel
theorem dX11_init_63 : decode cX11_init 63 = .ok (.aload_n 0, 1) := by decide +kernel
theorem dX11_init_64 : decode cX11_init 64 = .ok (.sipush 200, 3) := by decide +kernel
theorem dX11_init_67 : decode cX11_init 67 = .ok (.newarray .byte, 2) := by decide +kernel
theorem dX11_init_69 : decode cX11_init 69 = .ok (.putfield 42, 3) := by decide +kernel
theorem dX11_init_72 : decode cX11_init 72 = .ok (.aload_n 0, 1) := by decide +kernel
theorem dX11_init_73 : decode cX11_init 73 = .ok (.bipush 12, 2) := by decide +kernel
theorem dX11_init_75 : decode cX11_init 75 = .ok (.newarray .int, 2) := by decide +kernel
theorem dX11_init_77 : decode cX11_init 77 = .ok (.putfield 46, 3) := by decide +kernel
theorem dX11_init_80 : decode cX11_init 80 = .ok (.aload_n 0, 1) := by decide +kernel
theorem dX11_init_81 : decode cX11_init 81 = .ok (.iconst 4, 1) := by decide +kernel
theorem dX11_init_82 : decode cX11_init 82 = .ok (.newarray .int, 2) := by decide +kernel
theorem dX11_init_84 : decode cX11_init 84 = .ok (.putfield 50, 3) := by decide +kernel
theorem dX11_init_87 : decode cX11_init 87 = .ok (.aload_n 0, 1) := by decide +kernel
theorem dX11_init_88 : decode cX11_init 88 = .ok (.iconst 4, 1) := by decide +kernel
theorem dX11_init_89 : decode cX11_init 89 = .ok (.newarray .int, 2) := by decide +kernel
theorem dX11_init_91 : decode cX11_init 91 = .ok (.putfield 53, 3) := by decide +kernel
theorem dX11_init_94 : decode cX11_init 94 = .ok (.aload_n 0, 1) := by decide +kernel
theorem dX11_init_95 : decode cX11_init 95 = .ok (.sipush 160, 3) := by decide +kernel
theorem dX11_init_98 : decode cX11_init 98 = .ok (.newarray .long, 2) := by decide +kernel
theorem dX11_init_100 : decode cX11_init 100 = .ok (.putfield 56, 3) := by decide +kernel
theorem dX11_init_103 : decode cX11_init 103 = .ok (.aload_n 0, 1) := by decide +kernel
theorem dX11_init_104 : decode cX11_init 104 = .ok (.iconst 4, 1) := by decide +kernel
theorem dX11_init_105 : decode cX11_init 105 = .ok (.newarray .int, 2) := by decide +kernel
theorem dX11_init_107 : decode cX11_init 107 = .ok (.putfield 60, 3) := by decide +kernel
theorem dX11_init_110 : decode cX11_init 110 = .ok (.aload_n 0, 1) := by decide +kernel
theorem dX11_init_111 : decode cX11_init 111 = .ok (.iconst 4, 1) := by decide +kernel
theorem dX11_init_112 : decode cX11_init 112 = .ok (.newarray .int, 2) := by decide +kernel
theorem dX11_init_114 : decode cX11_init 114 = .ok (.putfield 63, 3) := by decide +kernel
theorem dX11_init_117 : decode cX11_init 117 = .ok (.aload_n 0, 1) := by decide +kernel
theorem dX11_init_118 : decode cX11_init 118 = .ok (.iconst 4, 1) := by decide +kernel
theorem dX11_init_119 : decode cX11_init 119 = .ok (.newarray .int, 2) := by decide +kernel
theorem dX11_init_121 : decode cX11_init 121 = .ok (.putfield 66, 3) := by decide +kernel
theorem dX11_init_124 : decode cX11_init 124 = .ok (.aload_n 0, 1) := by decide +kernel
theorem dX11_init_125 : decode cX11_init 125 = .ok (.getfield 50, 3) := by decide +kernel
theorem dX11_init_128 : decode cX11_init 128 = .ok (.iconst (-1), 1) := by decide +kernel
theorem dX11_init_129 : decode cX11_init 129 = .ok (.invokestatic 69, 3) := by decide +kernel
theorem dX11_init_132 : decode cX11_init 132 = .ok (.return_, 1) := by decide +kernel
theorem dX11_guild_0 : decode cX11_guild 0 = .ok (.iload_n 1, 1) := by decide +kernel
theorem dX11_guild_1 : decode cX11_guild 1 = .ok (.invokestatic 75, 3) := by decide +kernel
theorem dX11_guild_4 : decode cX11_guild 4 = .ok (.ifCond .eq 30, 3) := by decide +kernel
theorem dX11_guild_7 : decode cX11_guild 7 = .ok (.iload_n 2, 1) := by decide +kernel
theorem dX11_guild_8 : decode cX11_guild 8 = .ok (.bipush 60, 2) := by decide +kernel
theorem dX11_guild_10 : decode cX11_guild 10 = .ok (.invokestatic 79, 3) := by decide +kernel
theorem dX11_guild_13 : decode cX11_guild 13 = .ok (.ifCond .eq 21, 3) := by decide +kernel
theorem dX11_guild_16 : decode cX11_guild 16 = .ok (.iload_n 3, 1) := by decide +kernel
theorem dX11_guild_17 : decode cX11_guild 17 = .ok (.bipush 9, 2) := by decide +kernel
theorem dX11_guild_19 : decode cX11_guild 19 = .ok (.invokestatic 79, 3) := by decide +kernel
theorem dX11_guild_22 : decode cX11_guild 22 = .ok (.ifCond .eq 12, 3) := by decide +kernel
theorem dX11_guild_25 : decode cX11_guild 25 = .ok (.iload 4, 2) := by decide +kernel
theorem dX11_guild_27 : decode cX11_guild 27 = .ok (.iconst 5, 1) := by decide +kernel
theorem dX11_guild_28 : decode cX11_guild 28 = .ok (.invokestatic 79, 3) := by decide +kernel
theorem dX11_guild_31 : decode cX11_guild 31 = .ok (.ifCond .ne 5, 3) := by decide +kernel
theorem dX11_guild_34 : decode cX11_guild 34 = .ok (.iconst (-1), 1) := by decide +kernel
theorem dX11_guild_35 : decode cX11_guild 35 = .ok (.ireturn, 1) := by decide +kernel
theorem dX11_guild_36 : decode cX11_guild 36 = .ok (.aload_n 0, 1) := by decide +kernel
theorem dX11_guild_37 : decode cX11_guild 37 = .ok (.getfield 10, 3) := by decide +kernel
theorem dX11_guild_40 : decode cX11_guild 40 = .ok (.getfield 83, 3) := by decide +kernel
theorem dX11_guild_43 : decode cX11_guild 43 = .ok (.bipush 6, 2) := by decide +kernel
theorem dX11_guild_45 : decode cX11_guild 45 = .ok (.if_icmp .lt 6, 3) := by decide +kernel
theorem dX11_guild_48 : decode cX11_guild 48 = .ok (.bipush (-2), 2) := by decide +kernel
theorem dX11_guild_50 : decode cX11_guild 50 = .ok (.ireturn, 1) := by decide +kernel
theorem dX11_guild_51 : decode cX11_guild 51 = .ok (.aload_n 0, 1) := by decide +kernel
theorem dX11_guild_52 : decode cX11_guild 52 = .ok (.getfield 10, 3) := by decide +kernel
theorem dX11_guild_55 : decode cX11_guild 55 = .ok (.iload_n 1, 1) := by decide +kernel
theorem dX11_guild_56 : decode cX11_guild 56 = .ok (.iload_n 2, 1) := by decide +kernel
theorem dX11_guild_57 : decode cX11_guild 57 = .ok (.iload_n 3, 1) := by decide +kernel
theorem dX11_guild_58 : decode cX11_guild 58 = .ok (.iload 4, 2) := by decide +kernel
theorem dX11_guild_60 : decode cX11_guild 60 = .ok (.invokevirtual 87, 3) := by decide +kernel
theorem dX11_guild_63 : decode cX11_guild 63 = .ok (.ireturn, 1) := by decide +kernel
theorem dX11_guildOf_0 : decode cX11_guildOf 0 = .ok (.aload_n 0, 1) := by decide +kernel
theorem dX11_guildOf_1 : decode cX11_guildOf 1 = .ok (.getfield 10, 3) := by decide +kernel
theorem dX11_guildOf_4 : decode cX11_guildOf 4 = .ok (.iload_n 1, 1) := by decide +kernel
theorem dX11_guildOf_5 : decode cX11_guildOf 5 = .ok (.invokevirtual 91, 3) := by decide +kernel
theorem dX11_guildOf_8 : decode cX11_guildOf 8 = .ok (.ifCond .ne 5, 3) := by decide +kernel
theorem dX11_guildOf_11 : decode cX11_guildOf 11 = .ok (.iconst (-1), 1) := by decide +kernel
theorem dX11_guildOf_12 : decode cX11_guildOf 12 = .ok (.ireturn, 1) := by decide +kernel
theorem dX11_guildOf_13 : decode cX11_guildOf 13 = .ok (.iload_n 2, 1) := by decide +kernel
theorem dX11_guildOf_14 : decode cX11_guildOf 14 = .ok (.tableswitch 157 0 9 #[54, 64, 74, 84, 94, 106, 118, 130, 139, 148], 54) := by decide +kernel
theorem dX11_guildOf_68 : decode cX11_guildOf 68 = .ok (.aload_n 0, 1) := by decide +kernel
theorem dX11_guildOf_69 : decode cX11_guildOf 69 = .ok (.getfield 10, 3) := by decide +kernel
theorem dX11_guildOf_72 : decode cX11_guildOf 72 = .ok (.getfield 94, 3) := by decide +kernel
theorem dX11_guildOf_75 : decode cX11_guildOf 75 = .ok (.iload_n 1, 1) := by decide +kernel
theorem dX11_guildOf_76 : decode cX11_guildOf 76 = .ok (.iaload, 1) := by decide +kernel
theorem dX11_guildOf_77 : decode cX11_guildOf 77 = .ok (.ireturn, 1) := by decide +kernel
theorem dX11_guildOf_78 : decode cX11_guildOf 78 = .ok (.aload_n 0, 1) := by decide +kernel
theorem dX11_guildOf_79 : decode cX11_guildOf 79 = .ok (.getfield 10, 3) := by decide +kernel
theorem dX11_guildOf_82 : decode cX11_guildOf 82 = .ok (.getfield 97, 3) := by decide +kernel
theorem dX11_guildOf_85 : decode cX11_guildOf 85 = .ok (.iload_n 1, 1) := by decide +kernel
theorem dX11_guildOf_86 : decode cX11_guildOf 86 = .ok (.iaload, 1) := by decide +kernel
theorem dX11_guildOf_87 : decode cX11_guildOf 87 = .ok (.ireturn, 1) := by decide +kernel
theorem dX11_guildOf_88 : decode cX11_guildOf 88 = .ok (.aload_n 0, 1) := by decide +kernel
theorem dX11_guildOf_89 : decode cX11_guildOf 89 = .ok (.getfield 10, 3) := by decide +kernel
theorem dX11_guildOf_92 : decode cX11_guildOf 92 = .ok (.getfield 100, 3) := by decide +kernel
theorem dX11_guildOf_95 : decode cX11_guildOf 95 = .ok (.iload_n 1, 1) := by decide +kernel
theorem dX11_guildOf_96 : decode cX11_guildOf 96 = .ok (.iaload, 1) := by decide +kernel
theorem dX11_guildOf_97 : decode cX11_guildOf 97 = .ok (.ireturn, 1) := by decide +kernel
theorem dX11_guildOf_98 : decode cX11_guildOf 98 = .ok (.aload_n 0, 1) := by decide +kernel
theorem dX11_guildOf_99 : decode cX11_guildOf 99 = .ok (.getfield 10, 3) := by decide +kernel
theorem dX11_guildOf_102 : decode cX11_guildOf 102 = .ok (.getfield 103, 3) := by decide +kernel
theorem dX11_guildOf_105 : decode cX11_guildOf 105 = .ok (.iload_n 1, 1) := by decide +kernel
theorem dX11_guildOf_106 : decode cX11_guildOf 106 = .ok (.iaload, 1) := by decide +kernel
theorem dX11_guildOf_107 : decode cX11_guildOf 107 = .ok (.ireturn, 1) := by decide +kernel
theorem dX11_guildOf_108 : decode cX11_guildOf 108 = .ok (.aload_n 0, 1) := by decide +kernel
theorem dX11_guildOf_109 : decode cX11_guildOf 109 = .ok (.getfield 10, 3) := by decide +kernel
theorem dX11_guildOf_112 : decode cX11_guildOf 112 = .ok (.getfield 106, 3) := by decide +kernel
theorem dX11_guildOf_115 : decode cX11_guildOf 115 = .ok (.iload_n 1, 1) := by decide +kernel
theorem dX11_guildOf_116 : decode cX11_guildOf 116 = .ok (.invokestatic 109, 3) := by decide +kernel
theorem dX11_guildOf_119 : decode cX11_guildOf 119 = .ok (.ireturn, 1) := by decide +kernel
theorem dX11_guildOf_120 : decode cX11_guildOf 120 = .ok (.aload_n 0, 1) := by decide +kernel
theorem dX11_guildOf_121 : decode cX11_guildOf 121 = .ok (.getfield 10, 3) := by decide +kernel
theorem dX11_guildOf_124 : decode cX11_guildOf 124 = .ok (.getfield 113, 3) := by decide +kernel
theorem dX11_guildOf_127 : decode cX11_guildOf 127 = .ok (.iload_n 1, 1) := by decide +kernel
theorem dX11_guildOf_128 : decode cX11_guildOf 128 = .ok (.invokestatic 109, 3) := by decide +kernel
theorem dX11_guildOf_131 : decode cX11_guildOf 131 = .ok (.ireturn, 1) := by decide +kernel
theorem dX11_guildOf_132 : decode cX11_guildOf 132 = .ok (.bipush 10, 2) := by decide +kernel
theorem dX11_guildOf_134 : decode cX11_guildOf 134 = .ok (.aload_n 0, 1) := by decide +kernel
theorem dX11_guildOf_135 : decode cX11_guildOf 135 = .ok (.getfield 10, 3) := by decide +kernel
theorem dX11_guildOf_138 : decode cX11_guildOf 138 = .ok (.iload_n 1, 1) := by decide +kernel
theorem dX11_guildOf_139 : decode cX11_guildOf 139 = .ok (.invokevirtual 116, 3) := by decide +kernel
theorem dX11_guildOf_142 : decode cX11_guildOf 142 = .ok (.iadd, 1) := by decide +kernel
theorem dX11_guildOf_143 : decode cX11_guildOf 143 = .ok (.ireturn, 1) := by decide +kernel
theorem dX11_guildOf_144 : decode cX11_guildOf 144 = .ok (.aload_n 0, 1) := by decide +kernel
theorem dX11_guildOf_145 : decode cX11_guildOf 145 = .ok (.getfield 10, 3) := by decide +kernel
theorem dX11_guildOf_148 : decode cX11_guildOf 148 = .ok (.iload_n 1, 1) := by decide +kernel
theorem dX11_guildOf_149 : decode cX11_guildOf 149 = .ok (.invokevirtual 120, 3) := by decide +kernel
theorem dX11_guildOf_152 : decode cX11_guildOf 152 = .ok (.ireturn, 1) := by decide +kernel
theorem dX11_guildOf_153 : decode cX11_guildOf 153 = .ok (.aload_n 0, 1) := by decide +kernel
theorem dX11_guildOf_154 : decode cX11_guildOf 154 = .ok (.getfield 10, 3) := by decide +kernel
theorem dX11_guildOf_157 : decode cX11_guildOf 157 = .ok (.iload_n 1, 1) := by decide +kernel
theorem dX11_guildOf_158 : decode cX11_guildOf 158 = .ok (.invokevirtual 123, 3) := by decide +kernel
theorem dX11_guildOf_161 : decode cX11_guildOf 161 = .ok (.ireturn, 1) := by decide +kernel
theorem dX11_guildOf_162 : decode cX11_guildOf 162 = .ok (.aload_n 0, 1) := by decide +kernel
theorem dX11_guildOf_163 : decode cX11_guildOf 163 = .ok (.getfield 10, 3) := by decide +kernel
theorem dX11_guildOf_166 : decode cX11_guildOf 166 = .ok (.iload_n 1, 1) := by decide +kernel
theorem dX11_guildOf_167 : decode cX11_guildOf 167 = .ok (.invokevirtual 126, 3) := by decide +kernel
theorem dX11_guildOf_170 : decode cX11_guildOf 170 = .ok (.ireturn, 1) := by decide +kernel
theorem dX11_guildOf_171 : decode cX11_guildOf 171 = .ok (.iconst (-1), 1) := by decide +kernel
theorem dX11_guildOf_172 : decode cX11_guildOf 172 = .ok (.ireturn, 1) := by decide +kernel
theorem dX11_change_0 : decode cX11_change 0 = .ok (.aload_n 0, 1) := by decide +kernel
theorem dX11_change_1 : decode cX11_change 1 = .ok (.getfield 10, 3) := by decide +kernel
theorem dX11_change_4 : decode cX11_change 4 = .ok (.iload_n 1, 1) := by decide +kernel
theorem dX11_change_5 : decode cX11_change 5 = .ok (.invokevirtual 91, 3) := by decide +kernel
theorem dX11_change_8 : decode cX11_change 8 = .ok (.ifCond .eq 7, 3) := by decide +kernel
theorem dX11_change_11 : decode cX11_change 11 = .ok (.iload_n 3, 1) := by decide +kernel
theorem dX11_change_12 : decode cX11_change 12 = .ok (.ifCond .ge 5, 3) := by decide +kernel
theorem dX11_change_15 : decode cX11_change 15 = .ok (.iconst (-1), 1) := by decide +kernel
theorem dX11_change_16 : decode cX11_change 16 = .ok (.ireturn, 1) := by decide +kernel
theorem dX11_change_17 : decode cX11_change 17 = .ok (.iload_n 2, 1) := by decide +kernel
theorem dX11_change_18 : decode cX11_change 18 = .ok (.tableswitch 135 1 5 #[34, 57, 80, 103, 119], 34) := by decide +kernel
theorem dX11_change_52 : decode cX11_change 52 = .ok (.iload_n 3, 1) := by decide +kernel
theorem dX11_change_53 : decode cX11_change 53 = .ok (.bipush 60, 2) := by decide +kernel
theorem dX11_change_55 : decode cX11_change 55 = .ok (.if_icmp .le 7, 3) := by decide +kernel
theorem dX11_change_58 : decode cX11_change 58 = .ok (.iconst (-1), 1) := by decide +kernel
theorem dX11_change_59 : decode cX11_change 59 = .ok (.goto 15, 3) := by decide +kernel
theorem dX11_change_62 : decode cX11_change 62 = .ok (.aload_n 0, 1) := by decide +kernel
theorem dX11_change_63 : decode cX11_change 63 = .ok (.getfield 10, 3) := by decide +kernel
theorem dX11_change_66 : decode cX11_change 66 = .ok (.getfield 97, 3) := by decide +kernel
theorem dX11_change_69 : decode cX11_change 69 = .ok (.iload_n 1, 1) := by decide +kernel
theorem dX11_change_70 : decode cX11_change 70 = .ok (.iload_n 3, 1) := by decide +kernel
theorem dX11_change_71 : decode cX11_change 71 = .ok (.invokestatic 129, 3) := by decide +kernel
theorem dX11_change_74 : decode cX11_change 74 = .ok (.ireturn, 1) := by decide +kernel
theorem dX11_change_75 : decode cX11_change 75 = .ok (.iload_n 3, 1) := by decide +kernel
theorem dX11_change_76 : decode cX11_change 76 = .ok (.bipush 10, 2) := by decide +kernel
theorem dX11_change_78 : decode cX11_change 78 = .ok (.if_icmp .lt 7, 3) := by decide +kernel
theorem dX11_change_81 : decode cX11_change 81 = .ok (.iconst (-1), 1) := by decide +kernel
theorem dX11_change_82 : decode cX11_change 82 = .ok (.goto 15, 3) := by decide +kernel
theorem dX11_change_85 : decode cX11_change 85 = .ok (.aload_n 0, 1) := by decide +kernel
theorem dX11_change_86 : decode cX11_change 86 = .ok (.getfield 10, 3) := by decide +kernel
theorem dX11_change_89 : decode cX11_change 89 = .ok (.getfield 100, 3) := by decide +kernel
theorem dX11_change_92 : decode cX11_change 92 = .ok (.iload_n 1, 1) := by decide +kernel
theorem dX11_change_93 : decode cX11_change 93 = .ok (.iload_n 3, 1) := by decide +kernel
theorem dX11_change_94 : decode cX11_change 94 = .ok (.invokestatic 129, 3) := by decide +kernel
theorem dX11_change_97 : decode cX11_change 97 = .ok (.ireturn, 1) := by decide +kernel
theorem dX11_change_98 : decode cX11_change 98 = .ok (.iload_n 3, 1) := by decide +kernel
theorem dX11_change_99 : decode cX11_change 99 = .ok (.bipush 6, 2) := by decide +kernel
theorem dX11_change_101 : decode cX11_change 101 = .ok (.if_icmp .lt 7, 3) := by decide +kernel
theorem dX11_change_104 : decode cX11_change 104 = .ok (.iconst (-1), 1) := by decide +kernel
theorem dX11_change_105 : decode cX11_change 105 = .ok (.goto 15, 3) := by decide +kernel
theorem dX11_change_108 : decode cX11_change 108 = .ok (.aload_n 0, 1) := by decide +kernel
theorem dX11_change_109 : decode cX11_change 109 = .ok (.getfield 10, 3) := by decide +kernel
theorem dX11_change_112 : decode cX11_change 112 = .ok (.getfield 103, 3) := by decide +kernel
theorem dX11_change_115 : decode cX11_change 115 = .ok (.iload_n 1, 1) := by decide +kernel
theorem dX11_change_116 : decode cX11_change 116 = .ok (.iload_n 3, 1) := by decide +kernel
theorem dX11_change_117 : decode cX11_change 117 = .ok (.invokestatic 129, 3) := by decide +kernel
theorem dX11_change_120 : decode cX11_change 120 = .ok (.ireturn, 1) := by decide +kernel
theorem dX11_change_121 : decode cX11_change 121 = .ok (.iload_n 3, 1) := by decide +kernel
theorem dX11_change_122 : decode cX11_change 122 = .ok (.iconst 1, 1) := by decide +kernel
theorem dX11_change_123 : decode cX11_change 123 = .ok (.if_icmp .le 7, 3) := by decide +kernel
theorem dX11_change_126 : decode cX11_change 126 = .ok (.iconst (-1), 1) := by decide +kernel
theorem dX11_change_127 : decode cX11_change 127 = .ok (.goto 9, 3) := by decide +kernel
theorem dX11_change_130 : decode cX11_change 130 = .ok (.aload_n 0, 1) := by decide +kernel
theorem dX11_change_131 : decode cX11_change 131 = .ok (.iload_n 1, 1) := by decide +kernel
theorem dX11_change_132 : decode cX11_change 132 = .ok (.iload_n 3, 1) := by decide +kernel
theorem dX11_change_133 : decode cX11_change 133 = .ok (.invokevirtual 133, 3) := by decide +kernel
theorem dX11_change_136 : decode cX11_change 136 = .ok (.ireturn, 1) := by decide +kernel
theorem dX11_change_137 : decode cX11_change 137 = .ok (.iload_n 3, 1) := by decide +kernel
theorem dX11_change_138 : decode cX11_change 138 = .ok (.iconst 1, 1) := by decide +kernel
theorem dX11_change_139 : decode cX11_change 139 = .ok (.if_icmp .le 7, 3) := by decide +kernel
theorem dX11_change_142 : decode cX11_change 142 = .ok (.iconst (-1), 1) := by decide +kernel
theorem dX11_change_143 : decode cX11_change 143 = .ok (.goto 9, 3) := by decide +kernel
theorem dX11_change_146 : decode cX11_change 146 = .ok (.aload_n 0, 1) := by decide +kernel
theorem dX11_change_147 : decode cX11_change 147 = .ok (.iload_n 1, 1) := by decide +kernel
theorem dX11_change_148 : decode cX11_change 148 = .ok (.iload_n 3, 1) := by decide +kernel
theorem dX11_change_149 : decode cX11_change 149 = .ok (.invokevirtual 136, 3) := by decide +kernel
theorem dX11_change_152 : decode cX11_change 152 = .ok (.ireturn, 1) := by decide +kernel
theorem dX11_change_153 : decode cX11_change 153 = .ok (.iconst (-1), 1) := by decide +kernel
theorem dX11_change_154 : decode cX11_change 154 = .ok (.ireturn, 1) := by decide +kernel
theorem dX11_markWaits_0 : decode cX11_markWaits 0 = .ok (.aload_n 0, 1) := by decide +kernel
theorem dX11_markWaits_1 : decode cX11_markWaits 1 = .ok (.getfield 10, 3) := by decide +kernel
theorem dX11_markWaits_4 : decode cX11_markWaits 4 = .ok (.getfield 106, 3) := by decide +kernel
theorem dX11_markWaits_7 : decode cX11_markWaits 7 = .ok (.iload_n 1, 1) := by decide +kernel
theorem dX11_markWaits_8 : decode cX11_markWaits 8 = .ok (.invokestatic 109, 3) := by decide +kernel
theorem dX11_markWaits_11 : decode cX11_markWaits 11 = .ok (.istore_n 3, 1) := by decide +kernel
theorem dX11_markWaits_12 : decode cX11_markWaits 12 = .ok (.aload_n 0, 1) := by decide +kernel
theorem dX11_markWaits_13 : decode cX11_markWaits 13 = .ok (.getfield 10, 3) := by decide +kernel
theorem dX11_markWaits_16 : decode cX11_markWaits 16 = .ok (.aload_n 0, 1) := by decide +kernel
theorem dX11_markWaits_17 : decode cX11_markWaits 17 = .ok (.getfield 10, 3) := by decide +kernel
theorem dX11_markWaits_20 : decode cX11_markWaits 20 = .ok (.getfield 106, 3) := by decide +kernel
theorem dX11_markWaits_23 : decode cX11_markWaits 23 = .ok (.iload_n 1, 1) := by decide +kernel
theorem dX11_markWaits_24 : decode cX11_markWaits 24 = .ok (.iload_n 2, 1) := by decide +kernel
theorem dX11_markWaits_25 : decode cX11_markWaits 25 = .ok (.invokestatic 139, 3) := by decide +kernel
theorem dX11_markWaits_28 : decode cX11_markWaits 28 = .ok (.putfield 106, 3) := by decide +kernel
theorem dX11_markWaits_31 : decode cX11_markWaits 31 = .ok (.iload_n 3, 1) := by decide +kernel
theorem dX11_markWaits_32 : decode cX11_markWaits 32 = .ok (.ireturn, 1) := by decide +kernel
theorem dX11_markDone_0 : decode cX11_markDone 0 = .ok (.aload_n 0, 1) := by decide +kernel
theorem dX11_markDone_1 : decode cX11_markDone 1 = .ok (.getfield 10, 3) := by decide +kernel
theorem dX11_markDone_4 : decode cX11_markDone 4 = .ok (.getfield 113, 3) := by decide +kernel
theorem dX11_markDone_7 : decode cX11_markDone 7 = .ok (.iload_n 1, 1) := by decide +kernel
theorem dX11_markDone_8 : decode cX11_markDone 8 = .ok (.invokestatic 109, 3) := by decide +kernel
theorem dX11_markDone_11 : decode cX11_markDone 11 = .ok (.istore_n 3, 1) := by decide +kernel
theorem dX11_markDone_12 : decode cX11_markDone 12 = .ok (.aload_n 0, 1) := by decide +kernel
theorem dX11_markDone_13 : decode cX11_markDone 13 = .ok (.getfield 10, 3) := by decide +kernel
theorem dX11_markDone_16 : decode cX11_markDone 16 = .ok (.aload_n 0, 1) := by decide +kernel
theorem dX11_markDone_17 : decode cX11_markDone 17 = .ok (.getfield 10, 3) := by decide +kernel
theorem dX11_markDone_20 : decode cX11_markDone 20 = .ok (.getfield 113, 3) := by decide +kernel
theorem dX11_markDone_23 : decode cX11_markDone 23 = .ok (.iload_n 1, 1) := by decide +kernel
theorem dX11_markDone_24 : decode cX11_markDone 24 = .ok (.iload_n 2, 1) := by decide +kernel
theorem dX11_markDone_25 : decode cX11_markDone 25 = .ok (.invokestatic 139, 3) := by decide +kernel
theorem dX11_markDone_28 : decode cX11_markDone 28 = .ok (.putfield 113, 3) := by decide +kernel
theorem dX11_markDone_31 : decode cX11_markDone 31 = .ok (.iload_n 3, 1) := by decide +kernel
theorem dX11_markDone_32 : decode cX11_markDone 32 = .ok (.ireturn, 1) := by decide +kernel
theorem dX11_remake_0 : decode cX11_remake 0 = .ok (.aload_n 0, 1) := by decide +kernel
theorem dX11_remake_1 : decode cX11_remake 1 = .ok (.getfield 10, 3) := by decide +kernel
theorem dX11_remake_4 : decode cX11_remake 4 = .ok (.iload_n 1, 1) := by decide +kernel
theorem dX11_remake_5 : decode cX11_remake 5 = .ok (.invokevirtual 91, 3) := by decide +kernel
theorem dX11_remake_8 : decode cX11_remake 8 = .ok (.ifCond .eq 10, 3) := by decide +kernel
theorem dX11_remake_11 : decode cX11_remake 11 = .ok (.iload_n 2, 1) := by decide +kernel
theorem dX11_remake_12 : decode cX11_remake 12 = .ok (.invokestatic 75, 3) := by decide +kernel
theorem dX11_remake_15 : decode cX11_remake 15 = .ok (.ifCond .ne 5, 3) := by decide +kernel
theorem dX11_remake_18 : decode cX11_remake 18 = .ok (.iconst (-1), 1) := by decide +kernel
theorem dX11_remake_19 : decode cX11_remake 19 = .ok (.ireturn, 1) := by decide +kernel
theorem dX11_remake_20 : decode cX11_remake 20 = .ok (.aload_n 0, 1) := by decide +kernel
theorem dX11_remake_21 : decode cX11_remake 21 = .ok (.getfield 10, 3) := by decide +kernel
theorem dX11_remake_24 : decode cX11_remake 24 = .ok (.getfield 94, 3) := by decide +kernel
theorem dX11_remake_27 : decode cX11_remake 27 = .ok (.iload_n 1, 1) := by decide +kernel
theorem dX11_remake_28 : decode cX11_remake 28 = .ok (.iload_n 2, 1) := by decide +kernel
theorem dX11_remake_29 : decode cX11_remake 29 = .ok (.invokestatic 129, 3) := by decide +kernel
theorem dX11_remake_32 : decode cX11_remake 32 = .ok (.ireturn, 1) := by decide +kernel
theorem dX11_news_0 : decode cX11_news 0 = .ok (.iload_n 1, 1) := by decide +kernel
theorem dX11_news_1 : decode cX11_news 1 = .ok (.bipush 15, 2) := by decide +kernel
theorem dX11_news_3 : decode cX11_news 3 = .ok (.invokestatic 79, 3) := by decide +kernel
theorem dX11_news_6 : decode cX11_news 6 = .ok (.ifCond .eq 12, 3) := by decide +kernel
theorem dX11_news_9 : decode cX11_news 9 = .ok (.iload_n 2, 1) := by decide +kernel
theorem dX11_news_10 : decode cX11_news 10 = .ok (.bipush 15, 2) := by decide +kernel
theorem dX11_news_12 : decode cX11_news 12 = .ok (.invokestatic 79, 3) := by decide +kernel
theorem dX11_news_15 : decode cX11_news 15 = .ok (.ifCond .ne 5, 3) := by decide +kernel
theorem dX11_news_18 : decode cX11_news 18 = .ok (.iconst (-1), 1) := by decide +kernel
theorem dX11_news_19 : decode cX11_news 19 = .ok (.ireturn, 1) := by decide +kernel
theorem dX11_news_20 : decode cX11_news 20 = .ok (.aload_n 0, 1) := by decide +kernel
theorem dX11_news_21 : decode cX11_news 21 = .ok (.getfield 10, 3) := by decide +kernel
theorem dX11_news_24 : decode cX11_news 24 = .ok (.getfield 143, 3) := by decide +kernel
theorem dX11_news_27 : decode cX11_news 27 = .ok (.iload_n 1, 1) := by decide +kernel
theorem dX11_news_28 : decode cX11_news 28 = .ok (.iload_n 2, 1) := by decide +kernel
theorem dX11_news_29 : decode cX11_news 29 = .ok (.invokestatic 129, 3) := by decide +kernel
theorem dX11_news_32 : decode cX11_news 32 = .ok (.ireturn, 1) := by decide +kernel
theorem dX11_street_0 : decode cX11_street 0 = .ok (.iload_n 1, 1) := by decide +kernel
theorem dX11_street_1 : decode cX11_street 1 = .ok (.iconst 5, 1) := by decide +kernel
theorem dX11_street_2 : decode cX11_street 2 = .ok (.invokestatic 79, 3) := by decide +kernel
theorem dX11_street_5 : decode cX11_street 5 = .ok (.ifCond .ne 5, 3) := by decide +kernel
theorem dX11_street_8 : decode cX11_street 8 = .ok (.iconst (-1), 1) := by decide +kernel
theorem dX11_street_9 : decode cX11_street 9 = .ok (.ireturn, 1) := by decide +kernel
theorem dX11_street_10 : decode cX11_street 10 = .ok (.iload_n 2, 1) := by decide +kernel
theorem dX11_street_11 : decode cX11_street 11 = .ok (.ifCond .ne 25, 3) := by decide +kernel
theorem dX11_street_14 : decode cX11_street 14 = .ok (.iload_n 3, 1) := by decide +kernel
theorem dX11_street_15 : decode cX11_street 15 = .ok (.bipush 9, 2) := by decide +kernel
theorem dX11_street_17 : decode cX11_street 17 = .ok (.invokestatic 79, 3) := by decide +kernel
theorem dX11_street_20 : decode cX11_street 20 = .ok (.ifCond .eq 16, 3) := by decide +kernel
theorem dX11_street_23 : decode cX11_street 23 = .ok (.aload_n 0, 1) := by decide +kernel
theorem dX11_street_24 : decode cX11_street 24 = .ok (.getfield 10, 3) := by decide +kernel
theorem dX11_street_27 : decode cX11_street 27 = .ok (.getfield 146, 3) := by decide +kernel
theorem dX11_street_30 : decode cX11_street 30 = .ok (.iload_n 1, 1) := by decide +kernel
theorem dX11_street_31 : decode cX11_street 31 = .ok (.iload_n 3, 1) := by decide +kernel
theorem dX11_street_32 : decode cX11_street 32 = .ok (.invokestatic 129, 3) := by decide +kernel
theorem dX11_street_35 : decode cX11_street 35 = .ok (.ireturn, 1) := by decide +kernel
theorem dX11_street_36 : decode cX11_street 36 = .ok (.iload_n 2, 1) := by decide +kernel
theorem dX11_street_37 : decode cX11_street 37 = .ok (.iconst 1, 1) := by decide +kernel
theorem dX11_street_38 : decode cX11_street 38 = .ok (.if_icmp .ne 25, 3) := by decide +kernel
theorem dX11_street_41 : decode cX11_street 41 = .ok (.iload_n 3, 1) := by decide +kernel
theorem dX11_street_42 : decode cX11_street 42 = .ok (.bipush 14, 2) := by decide +kernel
theorem dX11_street_44 : decode cX11_street 44 = .ok (.invokestatic 79, 3) := by decide +kernel
theorem dX11_street_47 : decode cX11_street 47 = .ok (.ifCond .eq 16, 3) := by decide +kernel
theorem dX11_street_50 : decode cX11_street 50 = .ok (.aload_n 0, 1) := by decide +kernel
theorem dX11_street_51 : decode cX11_street 51 = .ok (.getfield 10, 3) := by decide +kernel
theorem dX11_street_54 : decode cX11_street 54 = .ok (.getfield 149, 3) := by decide +kernel
theorem dX11_street_57 : decode cX11_street 57 = .ok (.iload_n 1, 1) := by decide +kernel
theorem dX11_street_58 : decode cX11_street 58 = .ok (.iload_n 3, 1) := by decide +kernel
theorem dX11_street_59 : decode cX11_street 59 = .ok (.invokestatic 129, 3) := by decide +kernel
theorem dX11_street_62 : decode cX11_street 62 = .ok (.ireturn, 1) := by decide +kernel
theorem dX11_street_63 : decode cX11_street 63 = .ok (.iconst (-1), 1) := by decide +kernel
theorem dX11_street_64 : decode cX11_street 64 = .ok (.ireturn, 1) := by decide +kernel
theorem dX11_streetOf_0 : decode cX11_streetOf 0 = .ok (.iload_n 1, 1) := by decide +kernel
theorem dX11_streetOf_1 : decode cX11_streetOf 1 = .ok (.iconst 5, 1) := by decide +kernel
theorem dX11_streetOf_2 : decode cX11_streetOf 2 = .ok (.invokestatic 79, 3) := by decide +kernel
theorem dX11_streetOf_5 : decode cX11_streetOf 5 = .ok (.ifCond .eq 11, 3) := by decide +kernel
theorem dX11_streetOf_8 : decode cX11_streetOf 8 = .ok (.iload_n 2, 1) := by decide +kernel
theorem dX11_streetOf_9 : decode cX11_streetOf 9 = .ok (.iconst 1, 1) := by decide +kernel
theorem dX11_streetOf_10 : decode cX11_streetOf 10 = .ok (.invokestatic 79, 3) := by decide +kernel
theorem dX11_streetOf_13 : decode cX11_streetOf 13 = .ok (.ifCond .ne 5, 3) := by decide +kernel
theorem dX11_streetOf_16 : decode cX11_streetOf 16 = .ok (.iconst (-1), 1) := by decide +kernel
theorem dX11_streetOf_17 : decode cX11_streetOf 17 = .ok (.ireturn, 1) := by decide +kernel
theorem dX11_streetOf_18 : decode cX11_streetOf 18 = .ok (.iload_n 2, 1) := by decide +kernel
theorem dX11_streetOf_19 : decode cX11_streetOf 19 = .ok (.ifCond .ne 15, 3) := by decide +kernel
theorem dX11_streetOf_22 : decode cX11_streetOf 22 = .ok (.aload_n 0, 1) := by decide +kernel
theorem dX11_streetOf_23 : decode cX11_streetOf 23 = .ok (.getfield 10, 3) := by decide +kernel
theorem dX11_streetOf_26 : decode cX11_streetOf 26 = .ok (.getfield 146, 3) := by decide +kernel
theorem dX11_streetOf_29 : decode cX11_streetOf 29 = .ok (.iload_n 1, 1) := by decide +kernel
theorem dX11_streetOf_30 : decode cX11_streetOf 30 = .ok (.iaload, 1) := by decide +kernel
theorem dX11_streetOf_31 : decode cX11_streetOf 31 = .ok (.goto 12, 3) := by decide +kernel
theorem dX11_streetOf_34 : decode cX11_streetOf 34 = .ok (.aload_n 0, 1) := by decide +kernel
theorem dX11_streetOf_35 : decode cX11_streetOf 35 = .ok (.getfield 10, 3) := by decide +kernel
theorem dX11_streetOf_38 : decode cX11_streetOf 38 = .ok (.getfield 149, 3) := by decide +kernel
theorem dX11_streetOf_41 : decode cX11_streetOf 41 = .ok (.iload_n 1, 1) := by decide +kernel
theorem dX11_streetOf_42 : decode cX11_streetOf 42 = .ok (.iaload, 1) := by decide +kernel
theorem dX11_streetOf_43 : decode cX11_streetOf 43 = .ok (.ireturn, 1) := by decide +kernel
theorem dX11_heart_0 : decode cX11_heart 0 = .ok (.iload_n 1, 1) := by decide +kernel
theorem dX11_heart_1 : decode cX11_heart 1 = .ok (.ifCond .ne 31, 3) := by decide +kernel
theorem dX11_heart_4 : decode cX11_heart 4 = .ok (.iload_n 2, 1) := by decide +kernel
theorem dX11_heart_5 : decode cX11_heart 5 = .ok (.bipush 9, 2) := by decide +kernel
theorem dX11_heart_7 : decode cX11_heart 7 = .ok (.invokestatic 79, 3) := by decide +kernel
theorem dX11_heart_10 : decode cX11_heart 10 = .ok (.ifCond .eq 22, 3) := by decide +kernel
theorem dX11_heart_13 : decode cX11_heart 13 = .ok (.aload_n 0, 1) := by decide +kernel
theorem dX11_heart_14 : decode cX11_heart 14 = .ok (.getfield 10, 3) := by decide +kernel
theorem dX11_heart_17 : decode cX11_heart 17 = .ok (.getfield 152, 3) := by decide +kernel
theorem dX11_heart_20 : decode cX11_heart 20 = .ok (.istore_n 3, 1) := by decide +kernel
theorem dX11_heart_21 : decode cX11_heart 21 = .ok (.aload_n 0, 1) := by decide +kernel
theorem dX11_heart_22 : decode cX11_heart 22 = .ok (.getfield 10, 3) := by decide +kernel
theorem dX11_heart_25 : decode cX11_heart 25 = .ok (.iload_n 2, 1) := by decide +kernel
theorem dX11_heart_26 : decode cX11_heart 26 = .ok (.putfield 152, 3) := by decide +kernel
theorem dX11_heart_29 : decode cX11_heart 29 = .ok (.goto 38, 3) := by decide +kernel
theorem dX11_heart_32 : decode cX11_heart 32 = .ok (.iload_n 1, 1) := by decide +kernel
theorem dX11_heart_33 : decode cX11_heart 33 = .ok (.iconst 1, 1) := by decide +kernel
theorem dX11_heart_34 : decode cX11_heart 34 = .ok (.if_icmp .ne 31, 3) := by decide +kernel
theorem dX11_heart_37 : decode cX11_heart 37 = .ok (.iload_n 2, 1) := by decide +kernel
theorem dX11_heart_38 : decode cX11_heart 38 = .ok (.bipush 99, 2) := by decide +kernel
theorem dX11_heart_40 : decode cX11_heart 40 = .ok (.invokestatic 79, 3) := by decide +kernel
theorem dX11_heart_43 : decode cX11_heart 43 = .ok (.ifCond .eq 22, 3) := by decide +kernel
theorem dX11_heart_46 : decode cX11_heart 46 = .ok (.aload_n 0, 1) := by decide +kernel
theorem dX11_heart_47 : decode cX11_heart 47 = .ok (.getfield 10, 3) := by decide +kernel
theorem dX11_heart_50 : decode cX11_heart 50 = .ok (.getfield 155, 3) := by decide +kernel
theorem dX11_heart_53 : decode cX11_heart 53 = .ok (.istore_n 3, 1) := by decide +kernel
theorem dX11_heart_54 : decode cX11_heart 54 = .ok (.aload_n 0, 1) := by decide +kernel
theorem dX11_heart_55 : decode cX11_heart 55 = .ok (.getfield 10, 3) := by decide +kernel
theorem dX11_heart_58 : decode cX11_heart 58 = .ok (.iload_n 2, 1) := by decide +kernel
theorem dX11_heart_59 : decode cX11_heart 59 = .ok (.putfield 155, 3) := by decide +kernel
theorem dX11_heart_62 : decode cX11_heart 62 = .ok (.goto 5, 3) := by decide +kernel
theorem dX11_heart_65 : decode cX11_heart 65 = .ok (.iconst (-1), 1) := by decide +kernel
theorem dX11_heart_66 : decode cX11_heart 66 = .ok (.istore_n 3, 1) := by decide +kernel
theorem dX11_heart_67 : decode cX11_heart 67 = .ok (.iload_n 3, 1) := by decide +kernel
theorem dX11_heart_68 : decode cX11_heart 68 = .ok (.ireturn, 1) := by decide +kernel
theorem dX11_ends_0 : decode cX11_ends 0 = .ok (.iload_n 1, 1) := by decide +kernel
theorem dX11_ends_1 : decode cX11_ends 1 = .ok (.iconst 1, 1) := by decide +kernel
theorem dX11_ends_2 : decode cX11_ends 2 = .ok (.if_icmp .lt 9, 3) := by decide +kernel
theorem dX11_ends_5 : decode cX11_ends 5 = .ok (.iload_n 1, 1) := by decide +kernel
theorem dX11_ends_6 : decode cX11_ends 6 = .ok (.bipush 16, 2) := by decide +kernel
theorem dX11_ends_8 : decode cX11_ends 8 = .ok (.if_icmp .le 5, 3) := by decide +kernel
theorem dX11_ends_11 : decode cX11_ends 11 = .ok (.iconst (-1), 1) := by decide +kernel
theorem dX11_ends_12 : decode cX11_ends 12 = .ok (.ireturn, 1) := by decide +kernel
theorem dX11_ends_13 : decode cX11_ends 13 = .ok (.iload_n 1, 1) := by decide +kernel
theorem dX11_ends_14 : decode cX11_ends 14 = .ok (.aload_n 0, 1) := by decide +kernel
theorem dX11_ends_15 : decode cX11_ends 15 = .ok (.getfield 10, 3) := by decide +kernel
theorem dX11_ends_18 : decode cX11_ends 18 = .ok (.getfield 158, 3) := by decide +kernel
theorem dX11_ends_21 : decode cX11_ends 21 = .ok (.if_icmp .ge 6, 3) := by decide +kernel
theorem dX11_ends_24 : decode cX11_ends 24 = .ok (.bipush (-4), 2) := by decide +kernel
theorem dX11_ends_26 : decode cX11_ends 26 = .ok (.ireturn, 1) := by decide +kernel
theorem dX11_ends_27 : decode cX11_ends 27 = .ok (.aload_n 0, 1) := by decide +kernel
theorem dX11_ends_28 : decode cX11_ends 28 = .ok (.getfield 10, 3) := by decide +kernel
theorem dX11_ends_31 : decode cX11_ends 31 = .ok (.getfield 161, 3) := by decide +kernel
theorem dX11_ends_34 : decode cX11_ends 34 = .ok (.istore_n 2, 1) := by decide +kernel
theorem dX11_ends_35 : decode cX11_ends 35 = .ok (.aload_n 0, 1) := by decide +kernel
theorem dX11_ends_36 : decode cX11_ends 36 = .ok (.getfield 10, 3) := by decide +kernel
theorem dX11_ends_39 : decode cX11_ends 39 = .ok (.iload_n 1, 1) := by decide +kernel
theorem dX11_ends_40 : decode cX11_ends 40 = .ok (.putfield 161, 3) := by decide +kernel
theorem dX11_ends_43 : decode cX11_ends 43 = .ok (.iload_n 2, 1) := by decide +kernel
theorem dX11_ends_44 : decode cX11_ends 44 = .ok (.ireturn, 1) := by decide +kernel
theorem dX11_anew_0 : decode cX11_anew 0 = .ok (.aload_n 0, 1) := by decide +kernel
theorem dX11_anew_1 : decode cX11_anew 1 = .ok (.getfield 10, 3) := by decide +kernel
theorem dX11_anew_4 : decode cX11_anew 4 = .ok (.getfield 158, 3) := by decide +kernel
theorem dX11_anew_7 : decode cX11_anew 7 = .ok (.istore_n 1, 1) := by decide +kernel
theorem dX11_anew_8 : decode cX11_anew 8 = .ok (.aload_n 0, 1) := by decide +kernel
theorem dX11_anew_9 : decode cX11_anew 9 = .ok (.getfield 10, 3) := by decide +kernel
theorem dX11_anew_12 : decode cX11_anew 12 = .ok (.invokevirtual 164, 3) := by decide +kernel
theorem dX11_anew_15 : decode cX11_anew 15 = .ok (.iload_n 1, 1) := by decide +kernel
theorem dX11_anew_16 : decode cX11_anew 16 = .ok (.ireturn, 1) := by decide +kernel
theorem dX11_state_0 : decode cX11_state 0 = .ok (.iload_n 1, 1) := by decide +kernel
theorem dX11_state_1 : decode cX11_state 1 = .ok (.tableswitch 155 0 8 #[51, 59, 67, 75, 91, 99, 107, 139, 147], 51) := by decide +kernel
theorem dX11_state_52 : decode cX11_state 52 = .ok (.aload_n 0, 1) := by decide +kernel
theorem dX11_state_53 : decode cX11_state 53 = .ok (.getfield 10, 3) := by decide +kernel
theorem dX11_state_56 : decode cX11_state 56 = .ok (.getfield 158, 3) := by decide +kernel
theorem dX11_state_59 : decode cX11_state 59 = .ok (.ireturn, 1) := by decide +kernel
theorem dX11_state_60 : decode cX11_state 60 = .ok (.aload_n 0, 1) := by decide +kernel
theorem dX11_state_61 : decode cX11_state 61 = .ok (.getfield 10, 3) := by decide +kernel
theorem dX11_state_64 : decode cX11_state 64 = .ok (.getfield 161, 3) := by decide +kernel
theorem dX11_state_67 : decode cX11_state 67 = .ok (.ireturn, 1) := by decide +kernel
theorem dX11_state_68 : decode cX11_state 68 = .ok (.aload_n 0, 1) := by decide +kernel
theorem dX11_state_69 : decode cX11_state 69 = .ok (.getfield 10, 3) := by decide +kernel
theorem dX11_state_72 : decode cX11_state 72 = .ok (.getfield 167, 3) := by decide +kernel
theorem dX11_state_75 : decode cX11_state 75 = .ok (.ireturn, 1) := by decide +kernel
theorem dX11_state_76 : decode cX11_state 76 = .ok (.aload_n 0, 1) := by decide +kernel
theorem dX11_state_77 : decode cX11_state 77 = .ok (.getfield 10, 3) := by decide +kernel
theorem dX11_state_80 : decode cX11_state 80 = .ok (.invokevirtual 170, 3) := by decide +kernel
theorem dX11_state_83 : decode cX11_state 83 = .ok (.ifCond .eq 7, 3) := by decide +kernel
theorem dX11_state_86 : decode cX11_state 86 = .ok (.iconst 1, 1) := by decide +kernel
theorem dX11_state_87 : decode cX11_state 87 = .ok (.goto 4, 3) := by decide +kernel
theorem dX11_state_90 : decode cX11_state 90 = .ok (.iconst 0, 1) := by decide +kernel
theorem dX11_state_91 : decode cX11_state 91 = .ok (.ireturn, 1) := by decide +kernel
theorem dX11_state_92 : decode cX11_state 92 = .ok (.aload_n 0, 1) := by decide +kernel
theorem dX11_state_93 : decode cX11_state 93 = .ok (.getfield 10, 3) := by decide +kernel
theorem dX11_state_96 : decode cX11_state 96 = .ok (.getfield 106, 3) := by decide +kernel
theorem dX11_state_99 : decode cX11_state 99 = .ok (.ireturn, 1) := by decide +kernel
theorem dX11_state_100 : decode cX11_state 100 = .ok (.aload_n 0, 1) := by decide +kernel
theorem dX11_state_101 : decode cX11_state 101 = .ok (.getfield 10, 3) := by decide +kernel
theorem dX11_state_104 : decode cX11_state 104 = .ok (.getfield 113, 3) := by decide +kernel
theorem dX11_state_107 : decode cX11_state 107 = .ok (.ireturn, 1) := by decide +kernel
theorem dX11_state_108 : decode cX11_state 108 = .ok (.aload_n 0, 1) := by decide +kernel
theorem dX11_state_109 : decode cX11_state 109 = .ok (.getfield 10, 3) := by decide +kernel
theorem dX11_state_112 : decode cX11_state 112 = .ok (.getfield 158, 3) := by decide +kernel
theorem dX11_state_115 : decode cX11_state 115 = .ok (.bipush 16, 2) := by decide +kernel
theorem dX11_state_117 : decode cX11_state 117 = .ok (.if_icmp .ge 21, 3) := by decide +kernel
theorem dX11_state_120 : decode cX11_state 120 = .ok (.aload_n 0, 1) := by decide +kernel
theorem dX11_state_121 : decode cX11_state 121 = .ok (.getfield 10, 3) := by decide +kernel
theorem dX11_state_124 : decode cX11_state 124 = .ok (.getfield 143, 3) := by decide +kernel
theorem dX11_state_127 : decode cX11_state 127 = .ok (.aload_n 0, 1) := by decide +kernel
theorem dX11_state_128 : decode cX11_state 128 = .ok (.getfield 10, 3) := by decide +kernel
theorem dX11_state_131 : decode cX11_state 131 = .ok (.getfield 158, 3) := by decide +kernel
theorem dX11_state_134 : decode cX11_state 134 = .ok (.iaload, 1) := by decide +kernel
theorem dX11_state_135 : decode cX11_state 135 = .ok (.goto 4, 3) := by decide +kernel
theorem dX11_state_138 : decode cX11_state 138 = .ok (.iconst 0, 1) := by decide +kernel
theorem dX11_state_139 : decode cX11_state 139 = .ok (.ireturn, 1) := by decide +kernel
theorem dX11_state_140 : decode cX11_state 140 = .ok (.aload_n 0, 1) := by decide +kernel
theorem dX11_state_141 : decode cX11_state 141 = .ok (.getfield 10, 3) := by decide +kernel
theorem dX11_state_144 : decode cX11_state 144 = .ok (.getfield 152, 3) := by decide +kernel
theorem dX11_state_147 : decode cX11_state 147 = .ok (.ireturn, 1) := by decide +kernel
theorem dX11_state_148 : decode cX11_state 148 = .ok (.aload_n 0, 1) := by decide +kernel
theorem dX11_state_149 : decode cX11_state 149 = .ok (.getfield 10, 3) := by decide +kernel
theorem dX11_state_152 : decode cX11_state 152 = .ok (.getfield 155, 3) := by decide +kernel
theorem dX11_state_155 : decode cX11_state 155 = .ok (.ireturn, 1) := by decide +kernel
theorem dX11_state_156 : decode cX11_state 156 = .ok (.iconst (-1), 1) := by decide +kernel
theorem dX11_state_157 : decode cX11_state 157 = .ok (.ireturn, 1) := by decide +kernel
theorem dX11_feed_0 : decode cX11_feed 0 = .ok (.iload_n 3, 1) := by decide +kernel
theorem dX11_feed_1 : decode cX11_feed 1 = .ok (.iconst 1, 1) := by decide +kernel
theorem dX11_feed_2 : decode cX11_feed 2 = .ok (.if_icmp .lt 9, 3) := by decide +kernel
theorem dX11_feed_5 : decode cX11_feed 5 = .ok (.iload_n 3, 1) := by decide +kernel
theorem dX11_feed_6 : decode cX11_feed 6 = .ok (.bipush 8, 2) := by decide +kernel
theorem dX11_feed_8 : decode cX11_feed 8 = .ok (.if_icmp .le 5, 3) := by decide +kernel
theorem dX11_feed_11 : decode cX11_feed 11 = .ok (.iconst (-1), 1) := by decide +kernel
theorem dX11_feed_12 : decode cX11_feed 12 = .ok (.ireturn, 1) := by decide +kernel
theorem dX11_feed_13 : decode cX11_feed 13 = .ok (.aload_n 0, 1) := by decide +kernel
theorem dX11_feed_14 : decode cX11_feed 14 = .ok (.getfield 174, 3) := by decide +kernel
theorem dX11_feed_17 : decode cX11_feed 17 = .ok (.iload_n 3, 1) := by decide +kernel
theorem dX11_feed_18 : decode cX11_feed 18 = .ok (.iadd, 1) := by decide +kernel
theorem dX11_feed_19 : decode cX11_feed 19 = .ok (.sipush 200, 3) := by decide +kernel
theorem dX11_feed_22 : decode cX11_feed 22 = .ok (.if_icmp .le 6, 3) := by decide +kernel
theorem dX11_feed_25 : decode cX11_feed 25 = .ok (.bipush (-2), 2) := by decide +kernel
theorem dX11_feed_27 : decode cX11_feed 27 = .ok (.ireturn, 1) := by decide +kernel
theorem dX11_feed_28 : decode cX11_feed 28 = .ok (.iconst 0, 1) := by decide +kernel
theorem dX11_feed_29 : decode cX11_feed 29 = .ok (.istore 4, 2) := by decide +kernel
theorem dX11_feed_31 : decode cX11_feed 31 = .ok (.iload 4, 2) := by decide +kernel
theorem dX11_feed_33 : decode cX11_feed 33 = .ok (.iload_n 3, 1) := by decide +kernel
theorem dX11_feed_34 : decode cX11_feed 34 = .ok (.if_icmp .ge 30, 3) := by decide +kernel
theorem dX11_feed_37 : decode cX11_feed 37 = .ok (.aload_n 0, 1) := by decide +kernel
theorem dX11_feed_38 : decode cX11_feed 38 = .ok (.getfield 42, 3) := by decide +kernel
theorem dX11_feed_41 : decode cX11_feed 41 = .ok (.aload_n 0, 1) := by decide +kernel
theorem dX11_feed_42 : decode cX11_feed 42 = .ok (.getfield 174, 3) := by decide +kernel
theorem dX11_feed_45 : decode cX11_feed 45 = .ok (.iload 4, 2) := by decide +kernel
theorem dX11_feed_47 : decode cX11_feed 47 = .ok (.iadd, 1) := by decide +kernel
theorem dX11_feed_48 : decode cX11_feed 48 = .ok (.lload_n 1, 1) := by decide +kernel
theorem dX11_feed_49 : decode cX11_feed 49 = .ok (.bipush 8, 2) := by decide +kernel
theorem dX11_feed_51 : decode cX11_feed 51 = .ok (.iload 4, 2) := by decide +kernel
theorem dX11_feed_53 : decode cX11_feed 53 = .ok (.imul, 1) := by decide +kernel
theorem dX11_feed_54 : decode cX11_feed 54 = .ok (.lushr, 1) := by decide +kernel
theorem dX11_feed_55 : decode cX11_feed 55 = .ok (.l2i, 1) := by decide +kernel
theorem dX11_feed_56 : decode cX11_feed 56 = .ok (.i2b, 1) := by decide +kernel
theorem dX11_feed_57 : decode cX11_feed 57 = .ok (.bastore, 1) := by decide +kernel
theorem dX11_feed_58 : decode cX11_feed 58 = .ok (.iinc 4 1, 3) := by decide +kernel
theorem dX11_feed_61 : decode cX11_feed 61 = .ok (.goto (-30), 3) := by decide +kernel
theorem dX11_feed_64 : decode cX11_feed 64 = .ok (.aload_n 0, 1) := by decide +kernel
theorem dX11_feed_65 : decode cX11_feed 65 = .ok (.dup, 1) := by decide +kernel
theorem dX11_feed_66 : decode cX11_feed 66 = .ok (.getfield 174, 3) := by decide +kernel
theorem dX11_feed_69 : decode cX11_feed 69 = .ok (.iload_n 3, 1) := by decide +kernel
theorem dX11_feed_70 : decode cX11_feed 70 = .ok (.iadd, 1) := by decide +kernel
theorem dX11_feed_71 : decode cX11_feed 71 = .ok (.putfield 174, 3) := by decide +kernel
theorem dX11_feed_74 : decode cX11_feed 74 = .ok (.aload_n 0, 1) := by decide +kernel
theorem dX11_feed_75 : decode cX11_feed 75 = .ok (.getfield 174, 3) := by decide +kernel
theorem dX11_feed_78 : decode cX11_feed 78 = .ok (.ireturn, 1) := by decide +kernel
theorem dX11_rules_0 : decode cX11_rules 0 = .ok (.aload_n 0, 1) := by decide +kernel
theorem dX11_rules_1 : decode cX11_rules 1 = .ok (.getfield 31, 3) := by decide +kernel
theorem dX11_rules_4 : decode cX11_rules 4 = .ok (.aload_n 0, 1) := by decide +kernel
theorem dX11_rules_5 : decode cX11_rules 5 = .ok (.getfield 42, 3) := by decide +kernel
theorem dX11_rules_8 : decode cX11_rules 8 = .ok (.aload_n 0, 1) := by decide +kernel
theorem dX11_rules_9 : decode cX11_rules 9 = .ok (.getfield 174, 3) := by decide +kernel
theorem dX11_rules_12 : decode cX11_rules 12 = .ok (.invokevirtual 177, 3) := by decide +kernel
theorem dX11_rules_15 : decode cX11_rules 15 = .ok (.aload_n 0, 1) := by decide +kernel
theorem dX11_rules_16 : decode cX11_rules 16 = .ok (.iconst 0, 1) := by decide +kernel
theorem dX11_rules_17 : decode cX11_rules 17 = .ok (.putfield 174, 3) := by decide +kernel
theorem dX11_rules_20 : decode cX11_rules 20 = .ok (.aload_n 0, 1) := by decide +kernel
theorem dX11_rules_21 : decode cX11_rules 21 = .ok (.getfield 31, 3) := by decide +kernel
theorem dX11_rules_24 : decode cX11_rules 24 = .ok (.invokevirtual 181, 3) := by decide +kernel
theorem dX11_rules_27 : decode cX11_rules 27 = .ok (.ifCond .ne 14, 3) := by decide +kernel
theorem dX11_rules_30 : decode cX11_rules 30 = .ok (.bipush (-100), 2) := by decide +kernel
theorem dX11_rules_32 : decode cX11_rules 32 = .ok (.aload_n 0, 1) := by decide +kernel
theorem dX11_rules_33 : decode cX11_rules 33 = .ok (.getfield 31, 3) := by decide +kernel
theorem dX11_rules_36 : decode cX11_rules 36 = .ok (.getfield 184, 3) := by decide +kernel
theorem dX11_rules_39 : decode cX11_rules 39 = .ok (.isub, 1) := by decide +kernel
theorem dX11_rules_40 : decode cX11_rules 40 = .ok (.ireturn, 1) := by decide +kernel
theorem dX11_rules_41 : decode cX11_rules 41 = .ok (.aload_n 0, 1) := by decide +kernel
theorem dX11_rules_42 : decode cX11_rules 42 = .ok (.getfield 10, 3) := by decide +kernel
theorem dX11_rules_45 : decode cX11_rules 45 = .ok (.getfield 186, 3) := by decide +kernel
theorem dX11_rules_48 : decode cX11_rules 48 = .ok (.aload_n 0, 1) := by decide +kernel
theorem dX11_rules_49 : decode cX11_rules 49 = .ok (.getfield 31, 3) := by decide +kernel
theorem dX11_rules_52 : decode cX11_rules 52 = .ok (.getfield 190, 3) := by decide +kernel
theorem dX11_rules_55 : decode cX11_rules 55 = .ok (.invokevirtual 193, 3) := by decide +kernel
theorem dX11_rules_58 : decode cX11_rules 58 = .ok (.aload_n 0, 1) := by decide +kernel
theorem dX11_rules_59 : decode cX11_rules 59 = .ok (.getfield 10, 3) := by decide +kernel
theorem dX11_rules_62 : decode cX11_rules 62 = .ok (.getfield 186, 3) := by decide +kernel
theorem dX11_rules_65 : decode cX11_rules 65 = .ok (.getfield 199, 3) := by decide +kernel
theorem dX11_rules_68 : decode cX11_rules 68 = .ok (.ireturn, 1) := by decide +kernel
theorem dX11_hour_0 : decode cX11_hour 0 = .ok (.aload_n 0, 1) := by decide +kernel
theorem dX11_hour_1 : decode cX11_hour 1 = .ok (.getfield 10, 3) := by decide +kernel
theorem dX11_hour_4 : decode cX11_hour 4 = .ok (.invokevirtual 170, 3) := by decide +kernel
theorem dX11_hour_7 : decode cX11_hour 7 = .ok (.ifCond .eq 6, 3) := by decide +kernel
theorem dX11_hour_10 : decode cX11_hour 10 = .ok (.bipush (-4), 2) := by decide +kernel
theorem dX11_hour_12 : decode cX11_hour 12 = .ok (.ireturn, 1) := by decide +kernel
theorem dX11_hour_13 : decode cX11_hour 13 = .ok (.aload_n 0, 1) := by decide +kernel
theorem dX11_hour_14 : decode cX11_hour 14 = .ok (.aload_n 0, 1) := by decide +kernel
theorem dX11_hour_15 : decode cX11_hour 15 = .ok (.getfield 10, 3) := by decide +kernel
theorem dX11_hour_18 : decode cX11_hour 18 = .ok (.invokevirtual 202, 3) := by decide +kernel
theorem dX11_hour_21 : decode cX11_hour 21 = .ok (.invokevirtual 206, 3) := by decide +kernel
theorem dX11_hour_24 : decode cX11_hour 24 = .ok (.ireturn, 1) := by decide +kernel
theorem dX11_on_0 : decode cX11_on 0 = .ok (.iload_n 1, 1) := by decide +kernel
theorem dX11_on_1 : decode cX11_on 1 = .ok (.bipush 16, 2) := by decide +kernel
theorem dX11_on_3 : decode cX11_on 3 = .ok (.invokestatic 79, 3) := by decide +kernel
theorem dX11_on_6 : decode cX11_on 6 = .ok (.ifCond .ne 5, 3) := by decide +kernel
theorem dX11_on_9 : decode cX11_on 9 = .ok (.iconst (-1), 1) := by decide +kernel
theorem dX11_on_10 : decode cX11_on 10 = .ok (.ireturn, 1) := by decide +kernel
theorem dX11_on_11 : decode cX11_on 11 = .ok (.aload_n 0, 1) := by decide +kernel
theorem dX11_on_12 : decode cX11_on 12 = .ok (.getfield 10, 3) := by decide +kernel
theorem dX11_on_15 : decode cX11_on 15 = .ok (.invokevirtual 209, 3) := by decide +kernel
theorem dX11_on_18 : decode cX11_on 18 = .ok (.istore_n 2, 1) := by decide +kernel
theorem dX11_on_19 : decode cX11_on 19 = .ok (.aload_n 0, 1) := by decide +kernel
theorem dX11_on_20 : decode cX11_on 20 = .ok (.getfield 10, 3) := by decide +kernel
theorem dX11_on_23 : decode cX11_on 23 = .ok (.iload_n 1, 1) := by decide +kernel
theorem dX11_on_24 : decode cX11_on 24 = .ok (.invokevirtual 212, 3) := by decide +kernel
theorem dX11_on_27 : decode cX11_on 27 = .ok (.istore_n 3, 1) := by decide +kernel
theorem dX11_on_28 : decode cX11_on 28 = .ok (.iconst 0, 1) := by decide +kernel
theorem dX11_on_29 : decode cX11_on 29 = .ok (.istore 4, 2) := by decide +kernel
theorem dX11_on_31 : decode cX11_on 31 = .ok (.iconst 0, 1) := by decide +kernel
theorem dX11_on_32 : decode cX11_on 32 = .ok (.istore 5, 2) := by decide +kernel
theorem dX11_on_34 : decode cX11_on 34 = .ok (.iload 5, 2) := by decide +kernel
theorem dX11_on_36 : decode cX11_on 36 = .ok (.iload_n 3, 1) := by decide +kernel
theorem dX11_on_37 : decode cX11_on 37 = .ok (.if_icmp .ge 21, 3) := by decide +kernel
theorem dX11_on_40 : decode cX11_on 40 = .ok (.iload 4, 2) := by decide +kernel
theorem dX11_on_42 : decode cX11_on 42 = .ok (.aload_n 0, 1) := by decide +kernel
theorem dX11_on_43 : decode cX11_on 43 = .ok (.getfield 10, 3) := by decide +kernel
theorem dX11_on_46 : decode cX11_on 46 = .ok (.invokevirtual 202, 3) := by decide +kernel
theorem dX11_on_49 : decode cX11_on 49 = .ok (.iadd, 1) := by decide +kernel
theorem dX11_on_50 : decode cX11_on 50 = .ok (.istore 4, 2) := by decide +kernel
theorem dX11_on_52 : decode cX11_on 52 = .ok (.iinc 5 1, 3) := by decide +kernel
theorem dX11_on_55 : decode cX11_on 55 = .ok (.goto (-21), 3) := by decide +kernel
theorem dX11_on_58 : decode cX11_on 58 = .ok (.aload_n 0, 1) := by decide +kernel
theorem dX11_on_59 : decode cX11_on 59 = .ok (.getfield 10, 3) := by decide +kernel
theorem dX11_on_62 : decode cX11_on 62 = .ok (.iload_n 2, 1) := by decide +kernel
theorem dX11_on_63 : decode cX11_on 63 = .ok (.invokevirtual 215, 3) := by decide +kernel
theorem dX11_on_66 : decode cX11_on 66 = .ok (.iload 4, 2) := by decide +kernel
theorem dX11_on_68 : decode cX11_on 68 = .ok (.ireturn, 1) := by decide +kernel
theorem dX11_when_0 : decode cX11_when 0 = .ok (.aload_n 0, 1) := by decide +kernel
theorem dX11_when_1 : decode cX11_when 1 = .ok (.getfield 10, 3) := by decide +kernel
theorem dX11_when_4 : decode cX11_when 4 = .ok (.iload_n 1, 1) := by decide +kernel
theorem dX11_when_5 : decode cX11_when 5 = .ok (.invokevirtual 91, 3) := by decide +kernel
theorem dX11_when_8 : decode cX11_when 8 = .ok (.ifCond .ne 5, 3) := by decide +kernel
theorem dX11_when_11 : decode cX11_when 11 = .ok (.iconst (-1), 1) := by decide +kernel
theorem dX11_when_12 : decode cX11_when 12 = .ok (.ireturn, 1) := by decide +kernel
theorem dX11_when_13 : decode cX11_when 13 = .ok (.aload_n 0, 1) := by decide +kernel
theorem dX11_when_14 : decode cX11_when 14 = .ok (.getfield 10, 3) := by decide +kernel
theorem dX11_when_17 : decode cX11_when 17 = .ok (.getfield 106, 3) := by decide +kernel
theorem dX11_when_20 : decode cX11_when 20 = .ok (.iload_n 1, 1) := by decide +kernel
theorem dX11_when_21 : decode cX11_when 21 = .ok (.invokestatic 109, 3) := by decide +kernel
theorem dX11_when_24 : decode cX11_when 24 = .ok (.ifCond .ne 8, 3) := by decide +kernel
theorem dX11_when_27 : decode cX11_when 27 = .ok (.bipush (-3), 2) := by decide +kernel
theorem dX11_when_29 : decode cX11_when 29 = .ok (.goto 11, 3) := by decide +kernel
theorem dX11_when_32 : decode cX11_when 32 = .ok (.aload_n 0, 1) := by decide +kernel
theorem dX11_when_33 : decode cX11_when 33 = .ok (.getfield 10, 3) := by decide +kernel
theorem dX11_when_36 : decode cX11_when 36 = .ok (.iload_n 1, 1) := by decide +kernel
theorem dX11_when_37 : decode cX11_when 37 = .ok (.invokevirtual 219, 3) := by decide +kernel
theorem dX11_when_40 : decode cX11_when 40 = .ok (.ireturn, 1) := by decide +kernel
theorem dX11_giftFor_0 : decode cX11_giftFor 0 = .ok (.aload_n 0, 1) := by decide +kernel
theorem dX11_giftFor_1 : decode cX11_giftFor 1 = .ok (.getfield 10, 3) := by decide +kernel
theorem dX11_giftFor_4 : decode cX11_giftFor 4 = .ok (.iload_n 1, 1) := by decide +kernel
theorem dX11_giftFor_5 : decode cX11_giftFor 5 = .ok (.invokevirtual 91, 3) := by decide +kernel
theorem dX11_giftFor_8 : decode cX11_giftFor 8 = .ok (.ifCond .eq 20, 3) := by decide +kernel
theorem dX11_giftFor_11 : decode cX11_giftFor 11 = .ok (.aload_n 0, 1) := by decide +kernel
theorem dX11_giftFor_12 : decode cX11_giftFor 12 = .ok (.aload_n 0, 1) := by decide +kernel
theorem dX11_giftFor_13 : decode cX11_giftFor 13 = .ok (.getfield 10, 3) := by decide +kernel
theorem dX11_giftFor_16 : decode cX11_giftFor 16 = .ok (.getfield 100, 3) := by decide +kernel
theorem dX11_giftFor_19 : decode cX11_giftFor 19 = .ok (.iload_n 1, 1) := by decide +kernel
theorem dX11_giftFor_20 : decode cX11_giftFor 20 = .ok (.bipush 9, 2) := by decide +kernel
theorem dX11_giftFor_22 : decode cX11_giftFor 22 = .ok (.invokevirtual 222, 3) := by decide +kernel
theorem dX11_giftFor_25 : decode cX11_giftFor 25 = .ok (.goto 4, 3) := by decide +kernel
theorem dX11_giftFor_28 : decode cX11_giftFor 28 = .ok (.iconst (-1), 1) := by decide +kernel
theorem dX11_giftFor_29 : decode cX11_giftFor 29 = .ok (.ireturn, 1) := by decide +kernel
theorem dX11_dueFor_0 : decode cX11_dueFor 0 = .ok (.aload_n 0, 1) := by decide +kernel
theorem dX11_dueFor_1 : decode cX11_dueFor 1 = .ok (.getfield 10, 3) := by decide +kernel
theorem dX11_dueFor_4 : decode cX11_dueFor 4 = .ok (.iload_n 1, 1) := by decide +kernel
theorem dX11_dueFor_5 : decode cX11_dueFor 5 = .ok (.invokevirtual 91, 3) := by decide +kernel
theorem dX11_dueFor_8 : decode cX11_dueFor 8 = .ok (.ifCond .eq 20, 3) := by decide +kernel
theorem dX11_dueFor_11 : decode cX11_dueFor 11 = .ok (.aload_n 0, 1) := by decide +kernel
theorem dX11_dueFor_12 : decode cX11_dueFor 12 = .ok (.aload_n 0, 1) := by decide +kernel
theorem dX11_dueFor_13 : decode cX11_dueFor 13 = .ok (.getfield 10, 3) := by decide +kernel
theorem dX11_dueFor_16 : decode cX11_dueFor 16 = .ok (.getfield 97, 3) := by decide +kernel
theorem dX11_dueFor_19 : decode cX11_dueFor 19 = .ok (.iload_n 1, 1) := by decide +kernel
theorem dX11_dueFor_20 : decode cX11_dueFor 20 = .ok (.bipush 60, 2) := by decide +kernel
theorem dX11_dueFor_22 : decode cX11_dueFor 22 = .ok (.invokevirtual 222, 3) := by decide +kernel
theorem dX11_dueFor_25 : decode cX11_dueFor 25 = .ok (.goto 4, 3) := by decide +kernel
theorem dX11_dueFor_28 : decode cX11_dueFor 28 = .ok (.iconst (-1), 1) := by decide +kernel
theorem dX11_dueFor_29 : decode cX11_dueFor 29 = .ok (.ireturn, 1) := by decide +kernel
theorem dX11_mostWorthy_0 : decode cX11_mostWorthy 0 = .ok (.aload_n 1, 1) := by decide +kernel
theorem dX11_mostWorthy_1 : decode cX11_mostWorthy 1 = .ok (.iload_n 2, 1) := by decide +kernel
theorem dX11_mostWorthy_2 : decode cX11_mostWorthy 2 = .ok (.iaload, 1) := by decide +kernel
theorem dX11_mostWorthy_3 : decode cX11_mostWorthy 3 = .ok (.istore 4, 2) := by decide +kernel
theorem dX11_mostWorthy_5 : decode cX11_mostWorthy 5 = .ok (.aload_n 0, 1) := by decide +kernel
theorem dX11_mostWorthy_6 : decode cX11_mostWorthy 6 = .ok (.getfield 10, 3) := by decide +kernel
theorem dX11_mostWorthy_9 : decode cX11_mostWorthy 9 = .ok (.invokevirtual 209, 3) := by decide +kernel
theorem dX11_mostWorthy_12 : decode cX11_mostWorthy 12 = .ok (.istore 5, 2) := by decide +kernel
theorem dX11_mostWorthy_14 : decode cX11_mostWorthy 14 = .ok (.aload_n 0, 1) := by decide +kernel
theorem dX11_mostWorthy_15 : decode cX11_mostWorthy 15 = .ok (.getfield 10, 3) := by decide +kernel
theorem dX11_mostWorthy_18 : decode cX11_mostWorthy 18 = .ok (.bipush 16, 2) := by decide +kernel
theorem dX11_mostWorthy_20 : decode cX11_mostWorthy 20 = .ok (.invokevirtual 212, 3) := by decide +kernel
theorem dX11_mostWorthy_23 : decode cX11_mostWorthy 23 = .ok (.istore 6, 2) := by decide +kernel
theorem dX11_mostWorthy_25 : decode cX11_mostWorthy 25 = .ok (.iconst 0, 1) := by decide +kernel
theorem dX11_mostWorthy_26 : decode cX11_mostWorthy 26 = .ok (.istore 7, 2) := by decide +kernel
theorem dX11_mostWorthy_28 : decode cX11_mostWorthy 28 = .ok (.iconst (-1), 1) := by decide +kernel
theorem dX11_mostWorthy_29 : decode cX11_mostWorthy 29 = .ok (.istore 8, 2) := by decide +kernel
theorem dX11_mostWorthy_31 : decode cX11_mostWorthy 31 = .ok (.iconst 0, 1) := by decide +kernel
theorem dX11_mostWorthy_32 : decode cX11_mostWorthy 32 = .ok (.istore 9, 2) := by decide +kernel
theorem dX11_mostWorthy_34 : decode cX11_mostWorthy 34 = .ok (.iload 9, 2) := by decide +kernel
theorem dX11_mostWorthy_36 : decode cX11_mostWorthy 36 = .ok (.iload_n 3, 1) := by decide +kernel
theorem dX11_mostWorthy_37 : decode cX11_mostWorthy 37 = .ok (.if_icmp .gt 69, 3) := by decide +kernel
theorem dX11_mostWorthy_40 : decode cX11_mostWorthy 40 = .ok (.aload_n 1, 1) := by decide +kernel
theorem dX11_mostWorthy_41 : decode cX11_mostWorthy 41 = .ok (.iload_n 2, 1) := by decide +kernel
theorem dX11_mostWorthy_42 : decode cX11_mostWorthy 42 = .ok (.iload 9, 2) := by decide +kernel
theorem dX11_mostWorthy_44 : decode cX11_mostWorthy 44 = .ok (.iastore, 1) := by decide +kernel
theorem dX11_mostWorthy_45 : decode cX11_mostWorthy 45 = .ok (.iconst 0, 1) := by decide +kernel
theorem dX11_mostWorthy_46 : decode cX11_mostWorthy 46 = .ok (.istore 10, 2) := by decide +kernel
theorem dX11_mostWorthy_48 : decode cX11_mostWorthy 48 = .ok (.iconst 0, 1) := by decide +kernel
theorem dX11_mostWorthy_49 : decode cX11_mostWorthy 49 = .ok (.istore 11, 2) := by decide +kernel
theorem dX11_mostWorthy_51 : decode cX11_mostWorthy 51 = .ok (.iload 11, 2) := by decide +kernel
theorem dX11_mostWorthy_53 : decode cX11_mostWorthy 53 = .ok (.iload 6, 2) := by decide +kernel
theorem dX11_mostWorthy_55 : decode cX11_mostWorthy 55 = .ok (.if_icmp .ge 21, 3) := by decide +kernel
theorem dX11_mostWorthy_58 : decode cX11_mostWorthy 58 = .ok (.iload 10, 2) := by decide +kernel
theorem dX11_mostWorthy_60 : decode cX11_mostWorthy 60 = .ok (.aload_n 0, 1) := by decide +kernel
theorem dX11_mostWorthy_61 : decode cX11_mostWorthy 61 = .ok (.getfield 10, 3) := by decide +kernel
theorem dX11_mostWorthy_64 : decode cX11_mostWorthy 64 = .ok (.invokevirtual 202, 3) := by decide +kernel
theorem dX11_mostWorthy_67 : decode cX11_mostWorthy 67 = .ok (.iadd, 1) := by decide +kernel
theorem dX11_mostWorthy_68 : decode cX11_mostWorthy 68 = .ok (.istore 10, 2) := by decide +kernel
theorem dX11_mostWorthy_70 : decode cX11_mostWorthy 70 = .ok (.iinc 11 1, 3) := by decide +kernel
theorem dX11_mostWorthy_73 : decode cX11_mostWorthy 73 = .ok (.goto (-22), 3) := by decide +kernel
theorem dX11_mostWorthy_76 : decode cX11_mostWorthy 76 = .ok (.aload_n 0, 1) := by decide +kernel
theorem dX11_mostWorthy_77 : decode cX11_mostWorthy 77 = .ok (.getfield 10, 3) := by decide +kernel
theorem dX11_mostWorthy_80 : decode cX11_mostWorthy 80 = .ok (.iload 5, 2) := by decide +kernel
theorem dX11_mostWorthy_82 : decode cX11_mostWorthy 82 = .ok (.invokevirtual 215, 3) := by decide +kernel
theorem dX11_mostWorthy_85 : decode cX11_mostWorthy 85 = .ok (.iload 10, 2) := by decide +kernel
theorem dX11_mostWorthy_87 : decode cX11_mostWorthy 87 = .ok (.iload 8, 2) := by decide +kernel
theorem dX11_mostWorthy_89 : decode cX11_mostWorthy 89 = .ok (.if_icmp .le 11, 3) := by decide +kernel
theorem dX11_mostWorthy_92 : decode cX11_mostWorthy 92 = .ok (.iload 10, 2) := by decide +kernel
theorem dX11_mostWorthy_94 : decode cX11_mostWorthy 94 = .ok (.istore 8, 2) := by decide +kernel
theorem dX11_mostWorthy_96 : decode cX11_mostWorthy 96 = .ok (.iload 9, 2) := by decide +kernel
theorem dX11_mostWorthy_98 : decode cX11_mostWorthy 98 = .ok (.istore 7, 2) := by decide +kernel
theorem dX11_mostWorthy_100 : decode cX11_mostWorthy 100 = .ok (.iinc 9 1, 3) := by decide +kernel
theorem dX11_mostWorthy_103 : decode cX11_mostWorthy 103 = .ok (.goto (-69), 3) := by decide +kernel
theorem dX11_mostWorthy_106 : decode cX11_mostWorthy 106 = .ok (.aload_n 1, 1) := by decide +kernel
theorem dX11_mostWorthy_107 : decode cX11_mostWorthy 107 = .ok (.iload_n 2, 1) := by decide +kernel
theorem dX11_mostWorthy_108 : decode cX11_mostWorthy 108 = .ok (.iload 4, 2) := by decide +kernel
theorem dX11_mostWorthy_110 : decode cX11_mostWorthy 110 = .ok (.iastore, 1) := by decide +kernel
theorem dX11_mostWorthy_111 : decode cX11_mostWorthy 111 = .ok (.iload 7, 2) := by decide +kernel
theorem dX11_mostWorthy_113 : decode cX11_mostWorthy 113 = .ok (.ireturn, 1) := by decide +kernel
theorem dX11_shows_0 : decode cX11_shows 0 = .ok (.iload_n 1, 1) := by decide +kernel
theorem dX11_shows_1 : decode cX11_shows 1 = .ok (.bipush 99, 2) := by decide +kernel
theorem dX11_shows_3 : decode cX11_shows 3 = .ok (.invokestatic 79, 3) := by decide +kernel
theorem dX11_shows_6 : decode cX11_shows 6 = .ok (.ifCond .eq 14, 3) := by decide +kernel
theorem dX11_shows_9 : decode cX11_shows 9 = .ok (.aload_n 0, 1) := by decide +kernel
theorem dX11_shows_10 : decode cX11_shows 10 = .ok (.getfield 10, 3) := by decide +kernel
theorem dX11_shows_13 : decode cX11_shows 13 = .ok (.iload_n 1, 1) := by decide +kernel
theorem dX11_shows_14 : decode cX11_shows 14 = .ok (.invokevirtual 225, 3) := by decide +kernel
theorem dX11_shows_17 : decode cX11_shows 17 = .ok (.goto 4, 3) := by decide +kernel
theorem dX11_shows_20 : decode cX11_shows 20 = .ok (.iconst (-1), 1) := by decide +kernel
theorem dX11_shows_21 : decode cX11_shows 21 = .ok (.ireturn, 1) := by decide +kernel
theorem dX11_right_0 : decode cX11_right 0 = .ok (.iload_n 1, 1) := by decide +kernel
theorem dX11_right_1 : decode cX11_right 1 = .ok (.iconst 1, 1) := by decide +kernel
theorem dX11_right_2 : decode cX11_right 2 = .ok (.invokestatic 79, 3) := by decide +kernel
theorem dX11_right_5 : decode cX11_right 5 = .ok (.ifCond .ne 5, 3) := by decide +kernel
theorem dX11_right_8 : decode cX11_right 8 = .ok (.iconst (-1), 1) := by decide +kernel
theorem dX11_right_9 : decode cX11_right 9 = .ok (.ireturn, 1) := by decide +kernel
theorem dX11_right_10 : decode cX11_right 10 = .ok (.aload_n 0, 1) := by decide +kernel
theorem dX11_right_11 : decode cX11_right 11 = .ok (.getfield 10, 3) := by decide +kernel
theorem dX11_right_14 : decode cX11_right 14 = .ok (.invokevirtual 209, 3) := by decide +kernel
theorem dX11_right_17 : decode cX11_right 17 = .ok (.istore_n 2, 1) := by decide +kernel
theorem dX11_right_18 : decode cX11_right 18 = .ok (.aload_n 0, 1) := by decide +kernel
theorem dX11_right_19 : decode cX11_right 19 = .ok (.getfield 10, 3) := by decide +kernel
theorem dX11_right_22 : decode cX11_right 22 = .ok (.bipush 16, 2) := by decide +kernel
theorem dX11_right_24 : decode cX11_right 24 = .ok (.invokevirtual 212, 3) := by decide +kernel
theorem dX11_right_27 : decode cX11_right 27 = .ok (.istore_n 3, 1) := by decide +kernel
theorem dX11_right_28 : decode cX11_right 28 = .ok (.iconst 0, 1) := by decide +kernel
theorem dX11_right_29 : decode cX11_right 29 = .ok (.istore 4, 2) := by decide +kernel
