theorem dX12_init_0 : decode cX12_init 0 = .ok (.aload_n 0, 1) := by decide +kernel
theorem dX12_init_1 : decode cX12_init 1 = .ok (.invokespecial 1, 3) := by decide +kernel
theorem dX12_init_4 : decode cX12_init 4 = .ok (.aload_n 0, 1) := by decide +kernel
theorem dX12_init_5 : decode cX12_init 5 = .ok (.sipush 580, 3) := by decide +kernel
theorem dX12_init_8 : decode cX12_init 8 = .ok (.newarray .int, 2) := by decide +kernel
theorem dX12_init_10 : decode cX12_init 10 = .ok (.putfield 7, 3) := by decide +kernel
theorem dX12_init_13 : decode cX12_init 13 = .ok (.aload_n 0, 1) := by decide +kernel
theorem dX12_init_14 : decode cX12_init 14 = .ok (.sipush 580, 3) := by decide +kernel
theorem dX12_init_17 : decode cX12_init 17 = .ok (.newarray .int, 2) := by decide +kernel
theorem dX12_init_19 : decode cX12_init 19 = .ok (.putfield 13, 3) := by decide +kernel
theorem dX12_init_22 : decode cX12_init 22 = .ok (.aload_n 0, 1) := by decide +kernel
theorem dX12_init_23 : decode cX12_init 23 = .ok (.sipush 230, 3) := by decide +kernel
theorem dX12_init_26 : decode cX12_init 26 = .ok (.newarray .int, 2) := by decide +kernel
theorem dX12_init_28 : decode cX12_init 28 = .ok (.putfield 16, 3) := by decide +kernel
theorem dX12_init_31 : decode cX12_init 31 = .ok (.aload_n 0, 1) := by decide +kernel
theorem dX12_init_32 : decode cX12_init 32 = .ok (.sipush 200, 3) := by decide +kernel
theorem dX12_init_35 : decode cX12_init 35 = .ok (.newarray .int, 2) := by decide +kernel
theorem dX12_init_37 : decode cX12_init 37 = .ok (.putfield 19, 3) := by decide +kernel
theorem dX12_init_40 : decode cX12_init 40 = .ok (.aload_n 0, 1) := by decide +kernel
theorem dX12_init_41 : decode cX12_init 41 = .ok (.sipush 580, 3) := by decide +kernel
theorem dX12_init_44 : decode cX12_init 44 = .ok (.newarray .int, 2) := by decide +kernel
theorem dX12_init_46 : decode cX12_init 46 = .ok (.putfield 22, 3) := by decide +kernel
theorem dX12_init_49 : decode cX12_init 49 = .ok (.aload_n 0, 1) := by decide +kernel
theorem dX12_init_50 : decode cX12_init 50 = .ok (.iconst 4, 1) := by decide +kernel
theorem dX12_init_51 : decode cX12_init 51 = .ok (.newarray .int, 2) := by decide +kernel
theorem dX12_init_53 : decode cX12_init 53 = .ok (.putfield 25, 3) := by decide +kernel
theorem dX12_init_56 : decode cX12_init 56 = .ok (.aload_n 0, 1) := by decide +kernel
theorem dX12_init_57 : decode cX12_init 57 = .ok (.iconst 4, 1) := by decide +kernel
theorem dX12_init_58 : decode cX12_init 58 = .ok (.newarray .int, 2) := by decide +kernel
theorem dX12_init_60 : decode cX12_init 60 = .ok (.putfield 28, 3) := by decide +kernel
theorem dX12_init_63 : decode cX12_init 63 = .ok (.aload_n 0, 1) := by decide +kernel
theorem dX12_init_64 : decode cX12_init 64 = .ok (.bipush 16, 2) := by decide +kernel
theorem dX12_init_66 : decode cX12_init 66 = .ok (.newarray .int, 2) := by decide +kernel
theorem dX12_init_68 : decode cX12_init 68 = .ok (.putfield 31, 3) := by decide +kernel
theorem dX12_init_71 : decode cX12_init 71 = .ok (.aload_n 0, 1) := by decide +kernel
theorem dX12_init_72 : decode cX12_init 72 = .ok (.bipush 16, 2) := by decide +kernel
theorem dX12_init_74 : decode cX12_init 74 = .ok (.newarray .int, 2) := by decide +kernel
theorem dX12_init_76 : decode cX12_init 76 = .ok (.putfield 34, 3) := by decide +kernel
theorem dX12_init_79 : decode cX12_init 79 = .ok (.aload_n 0, 1) := by decide +kernel
theorem dX12_init_80 : decode cX12_init 80 = .ok (.bipush 12, 2) := by decide +kernel
theorem dX12_init_82 : decode cX12_init 82 = .ok (.newarray .int, 2) := by decide +kernel
theorem dX12_init_84 : decode cX12_init 84 = .ok (.putfield 37, 3) := by decide +kernel
theorem dX12_init_87 : decode cX12_init 87 = .ok (.aload_n 0, 1) := by decide +kernel
theorem dX12_init_88 : decode cX12_init 88 = .ok (.iconst 4, 1) := by decide +kernel
theorem dX12_init_89 : decode cX12_init 89 = .ok (.newarray .int, 2) := by decide +kernel
theorem dX12_init_91 : decode cX12_init 91 = .ok (.dup, 1) := by decide +kernel
theorem dX12_init_92 : decode cX12_init 92 = .ok (.iconst 0, 1) := by decide +kernel
theorem dX12_init_93 : decode cX12_init 93 = .ok (.iconst (-1), 1) := by decide +kernel
theorem dX12_init_94 : decode cX12_init 94 = .ok (.iastore, 1) := by decide +kernel
theorem dX12_init_95 : decode cX12_init 95 = .ok (.dup, 1) := by decide +kernel
theorem dX12_init_96 : decode cX12_init 96 = .ok (.iconst 1, 1) := by decide +kernel
theorem dX12_init_97 : decode cX12_init 97 = .ok (.iconst (-1), 1) := by decide +kernel
theorem dX12_init_98 : decode cX12_init 98 = .ok (.iastore, 1) := by decide +kernel
theorem dX12_init_99 : decode cX12_init 99 = .ok (.dup, 1) := by decide +kernel
theorem dX12_init_100 : decode cX12_init 100 = .ok (.iconst 2, 1) := by decide +kernel
theorem dX12_init_101 : decode cX12_init 101 = .ok (.iconst (-1), 1) := by decide +kernel
theorem dX12_init_102 : decode cX12_init 102 = .ok (.iastore, 1) := by decide +kernel
theorem dX12_init_103 : decode cX12_init 103 = .ok (.dup, 1) := by decide +kernel
theorem dX12_init_104 : decode cX12_init 104 = .ok (.iconst 3, 1) := by decide +kernel
theorem dX12_init_105 : decode cX12_init 105 = .ok (.iconst (-1), 1) := by decide +kernel
theorem dX12_init_106 : decode cX12_init 106 = .ok (.iastore, 1) := by decide +kernel
theorem dX12_init_107 : decode cX12_init 107 = .ok (.putfield 40, 3) := by decide +kernel
theorem dX12_init_110 : decode cX12_init 110 = .ok (.aload_n 0, 1) := by decide +kernel
theorem dX12_init_111 : decode cX12_init 111 = .ok (.iconst 4, 1) := by decide +kernel
theorem dX12_init_112 : decode cX12_init 112 = .ok (.newarray .int, 2) := by decide +kernel
theorem dX12_init_114 : decode cX12_init 114 = .ok (.putfield 43, 3) := by decide +kernel
theorem dX12_init_117 : decode cX12_init 117 = .ok (.aload_n 0, 1) := by decide +kernel
theorem dX12_init_118 : decode cX12_init 118 = .ok (.sipush 160, 3) := by decide +kernel
theorem dX12_init_121 : decode cX12_init 121 = .ok (.newarray .int, 2) := by decide +kernel
theorem dX12_init_123 : decode cX12_init 123 = .ok (.putfield 46, 3) := by decide +kernel
theorem dX12_init_126 : decode cX12_init 126 = .ok (.aload_n 0, 1) := by decide +kernel
theorem dX12_init_127 : decode cX12_init 127 = .ok (.iconst 4, 1) := by decide +kernel
theorem dX12_init_128 : decode cX12_init 128 = .ok (.newarray .int, 2) := by decide +kernel
theorem dX12_init_130 : decode cX12_init 130 = .ok (.putfield 49, 3) := by decide +kernel
theorem dX12_init_133 : decode cX12_init 133 = .ok (.aload_n 0, 1) := by decide +kernel
theorem dX12_init_134 : decode cX12_init 134 = .ok (.iconst 4, 1) := by decide +kernel
theorem dX12_init_135 : decode cX12_init 135 = .ok (.newarray .int, 2) := by decide +kernel
theorem dX12_init_137 : decode cX12_init 137 = .ok (.putfield 52, 3) := by decide +kernel
theorem dX12_init_140 : decode cX12_init 140 = .ok (.aload_n 0, 1) := by decide +kernel
theorem dX12_init_141 : decode cX12_init 141 = .ok (.iconst 4, 1) := by decide +kernel
theorem dX12_init_142 : decode cX12_init 142 = .ok (.newarray .int, 2) := by decide +kernel
theorem dX12_init_144 : decode cX12_init 144 = .ok (.putfield 55, 3) := by decide +kernel
theorem dX12_init_147 : decode cX12_init 147 = .ok (.aload_n 0, 1) := by decide +kernel
theorem dX12_init_148 : decode cX12_init 148 = .ok (.bipush 30, 2) := by decide +kernel
theorem dX12_init_150 : decode cX12_init 150 = .ok (.newarray .int, 2) := by decide +kernel
theorem dX12_init_152 : decode cX12_init 152 = .ok (.putfield 58, 3) := by decide +kernel
theorem dX12_init_155 : decode cX12_init 155 = .ok (.aload_n 0, 1) := by decide +kernel
theorem dX12_init_156 : decode cX12_init 156 = .ok (.getfield 7, 3) := by decide +kernel
theorem dX12_init_159 : decode cX12_init 159 = .ok (.iconst 2, 1) := by decide +kernel
theorem dX12_init_160 : decode cX12_init 160 = .ok (.bipush 12, 2) := by decide +kernel
theorem dX12_init_162 : decode cX12_init 162 = .ok (.iastore, 1) := by decide +kernel
theorem dX12_init_163 : decode cX12_init 163 = .ok (.aload_n 0, 1) := by decide +kernel
theorem dX12_init_164 : decode cX12_init 164 = .ok (.getfield 7, 3) := by decide +kernel
theorem dX12_init_167 : decode cX12_init 167 = .ok (.iconst 4, 1) := by decide +kernel
theorem dX12_init_168 : decode cX12_init 168 = .ok (.iconst 1, 1) := by decide +kernel
theorem dX12_init_169 : decode cX12_init 169 = .ok (.iastore, 1) := by decide +kernel
theorem dX12_init_170 : decode cX12_init 170 = .ok (.aload_n 0, 1) := by decide +kernel
theorem dX12_init_171 : decode cX12_init 171 = .ok (.getfield 7, 3) := by decide +kernel
theorem dX12_init_174 : decode cX12_init 174 = .ok (.bipush 8, 2) := by decide +kernel
theorem dX12_init_176 : decode cX12_init 176 = .ok (.iconst 5, 1) := by decide +kernel
theorem dX12_init_177 : decode cX12_init 177 = .ok (.iastore, 1) := by decide +kernel
theorem dX12_init_178 : decode cX12_init 178 = .ok (.iconst 0, 1) := by decide +kernel
theorem dX12_init_179 : decode cX12_init 179 = .ok (.istore_n 1, 1) := by decide +kernel
theorem dX12_init_180 : decode cX12_init 180 = .ok (.iload_n 1, 1) := by decide +kernel
theorem dX12_init_181 : decode cX12_init 181 = .ok (.bipush 6, 2) := by decide +kernel
theorem dX12_init_183 : decode cX12_init 183 = .ok (.if_icmp .ge 19, 3) := by decide +kernel
theorem dX12_init_186 : decode cX12_init 186 = .ok (.aload_n 0, 1) := by decide +kernel
theorem dX12_init_187 : decode cX12_init 187 = .ok (.getfield 7, 3) := by decide +kernel
theorem dX12_init_190 : decode cX12_init 190 = .ok (.bipush 52, 2) := by decide +kernel
theorem dX12_init_192 : decode cX12_init 192 = .ok (.iload_n 1, 1) := by decide +kernel
theorem dX12_init_193 : decode cX12_init 193 = .ok (.iadd, 1) := by decide +kernel
theorem dX12_init_194 : decode cX12_init 194 = .ok (.iconst 3, 1) := by decide +kernel
theorem dX12_init_195 : decode cX12_init 195 = .ok (.iastore, 1) := by decide +kernel
theorem dX12_init_196 : decode cX12_init 196 = .ok (.iinc 1 1, 3) := by decide +kernel
theorem dX12_init_199 : decode cX12_init 199 = .ok (.goto (-19), 3) := by decide +kernel
theorem dX12_init_202 : decode cX12_init 202 = .ok (.iconst 0, 1) := by decide +kernel
theorem dX12_init_203 : decode cX12_init 203 = .ok (.istore_n 1, 1) := by decide +kernel
theorem dX12_init_204 : decode cX12_init 204 = .ok (.iload_n 1, 1) := by decide +kernel
theorem dX12_init_205 : decode cX12_init 205 = .ok (.bipush 16, 2) := by decide +kernel
theorem dX12_init_207 : decode cX12_init 207 = .ok (.if_icmp .ge 19, 3) := by decide +kernel
theorem dX12_init_210 : decode cX12_init 210 = .ok (.aload_n 0, 1) := by decide +kernel
theorem dX12_init_211 : decode cX12_init 211 = .ok (.getfield 7, 3) := by decide +kernel
theorem dX12_init_214 : decode cX12_init 214 = .ok (.bipush 58, 2) := by decide +kernel
theorem dX12_init_216 : decode cX12_init 216 = .ok (.iload_n 1, 1) := by decide +kernel
theorem dX12_init_217 : decode cX12_init 217 = .ok (.iadd, 1) := by decide +kernel
theorem dX12_init_218 : decode cX12_init 218 = .ok (.iconst 4, 1) := by decide +kernel
theorem dX12_init_219 : decode cX12_init 219 = .ok (.iastore, 1) := by decide +kernel
theorem dX12_init_220 : decode cX12_init 220 = .ok (.iinc 1 1, 3) := by decide +kernel
theorem dX12_init_223 : decode cX12_init 223 = .ok (.goto (-19), 3) := by decide +kernel
theorem dX12_init_226 : decode cX12_init 226 = .ok (.return_, 1) := by decide +kernel
theorem dX12_isIn_0 : decode cX12_isIn 0 = .ok (.lload_n 0, 1) := by decide +kernel
theorem dX12_isIn_1 : decode cX12_isIn 1 = .ok (.lload_n 2, 1) := by decide +kernel
theorem dX12_isIn_2 : decode cX12_isIn 2 = .ok (.lcmp, 1) := by decide +kernel
theorem dX12_isIn_3 : decode cX12_isIn 3 = .ok (.ifCond .lt 14, 3) := by decide +kernel
theorem dX12_isIn_6 : decode cX12_isIn 6 = .ok (.lload_n 0, 1) := by decide +kernel
theorem dX12_isIn_7 : decode cX12_isIn 7 = .ok (.lload 4, 2) := by decide +kernel
theorem dX12_isIn_9 : decode cX12_isIn 9 = .ok (.lcmp, 1) := by decide +kernel
theorem dX12_isIn_10 : decode cX12_isIn 10 = .ok (.ifCond .gt 7, 3) := by decide +kernel
theorem dX12_isIn_13 : decode cX12_isIn 13 = .ok (.iconst 1, 1) := by decide +kernel
theorem dX12_isIn_14 : decode cX12_isIn 14 = .ok (.goto 4, 3) := by decide +kernel
theorem dX12_isIn_17 : decode cX12_isIn 17 = .ok (.iconst 0, 1) := by decide +kernel
theorem dX12_isIn_18 : decode cX12_isIn 18 = .ok (.ireturn, 1) := by decide +kernel
theorem dX12_isOne_0 : decode cX12_isOne 0 = .ok (.iload_n 1, 1) := by decide +kernel
theorem dX12_isOne_1 : decode cX12_isOne 1 = .ok (.ifCond .lt 17, 3) := by decide +kernel
theorem dX12_isOne_4 : decode cX12_isOne 4 = .ok (.iload_n 1, 1) := by decide +kernel
theorem dX12_isOne_5 : decode cX12_isOne 5 = .ok (.aload_n 0, 1) := by decide +kernel
theorem dX12_isOne_6 : decode cX12_isOne 6 = .ok (.getfield 7, 3) := by decide +kernel
theorem dX12_isOne_9 : decode cX12_isOne 9 = .ok (.iconst 0, 1) := by decide +kernel
theorem dX12_isOne_10 : decode cX12_isOne 10 = .ok (.iaload, 1) := by decide +kernel
theorem dX12_isOne_11 : decode cX12_isOne 11 = .ok (.if_icmp .ge 7, 3) := by decide +kernel
theorem dX12_isOne_14 : decode cX12_isOne 14 = .ok (.iconst 1, 1) := by decide +kernel
theorem dX12_isOne_15 : decode cX12_isOne 15 = .ok (.goto 4, 3) := by decide +kernel
theorem dX12_isOne_18 : decode cX12_isOne 18 = .ok (.iconst 0, 1) := by decide +kernel
theorem dX12_isOne_19 : decode cX12_isOne 19 = .ok (.ireturn, 1) := by decide +kernel
theorem dX12_isStreet_0 : decode cX12_isStreet 0 = .ok (.iload_n 0, 1) := by decide +kernel
theorem dX12_isStreet_1 : decode cX12_isStreet 1 = .ok (.ifCond .lt 13, 3) := by decide +kernel
theorem dX12_isStreet_4 : decode cX12_isStreet 4 = .ok (.iload_n 0, 1) := by decide +kernel
theorem dX12_isStreet_5 : decode cX12_isStreet 5 = .ok (.bipush 6, 2) := by decide +kernel
theorem dX12_isStreet_7 : decode cX12_isStreet 7 = .ok (.if_icmp .ge 7, 3) := by decide +kernel
theorem dX12_isStreet_10 : decode cX12_isStreet 10 = .ok (.iconst 1, 1) := by decide +kernel
theorem dX12_isStreet_11 : decode cX12_isStreet 11 = .ok (.goto 4, 3) := by decide +kernel
theorem dX12_isStreet_14 : decode cX12_isStreet 14 = .ok (.iconst 0, 1) := by decide +kernel
theorem dX12_isStreet_15 : decode cX12_isStreet 15 = .ok (.ireturn, 1) := by decide +kernel
theorem dX12_its_0 : decode cX12_its 0 = .ok (.aload_n 0, 1) := by decide +kernel
theorem dX12_its_1 : decode cX12_its 1 = .ok (.getfield 7, 3) := by decide +kernel
theorem dX12_its_4 : decode cX12_its 4 = .ok (.bipush 10, 2) := by decide +kernel
theorem dX12_its_6 : decode cX12_its 6 = .ok (.bipush 6, 2) := by decide +kernel
theorem dX12_its_8 : decode cX12_its 8 = .ok (.iload_n 1, 1) := by decide +kernel
theorem dX12_its_9 : decode cX12_its 9 = .ok (.imul, 1) := by decide +kernel
theorem dX12_its_10 : decode cX12_its 10 = .ok (.iadd, 1) := by decide +kernel
theorem dX12_its_11 : decode cX12_its 11 = .ok (.iload_n 2, 1) := by decide +kernel
theorem dX12_its_12 : decode cX12_its 12 = .ok (.iadd, 1) := by decide +kernel
theorem dX12_its_13 : decode cX12_its 13 = .ok (.iaload, 1) := by decide +kernel
theorem dX12_its_14 : decode cX12_its 14 = .ok (.ireturn, 1) := by decide +kernel
theorem dX12_becomes_0 : decode cX12_becomes 0 = .ok (.aload_n 0, 1) := by decide +kernel
theorem dX12_becomes_1 : decode cX12_becomes 1 = .ok (.getfield 7, 3) := by decide +kernel
theorem dX12_becomes_4 : decode cX12_becomes 4 = .ok (.iload_n 1, 1) := by decide +kernel
theorem dX12_becomes_5 : decode cX12_becomes 5 = .ok (.iaload, 1) := by decide +kernel
theorem dX12_becomes_6 : decode cX12_becomes 6 = .ok (.istore_n 3, 1) := by decide +kernel
theorem dX12_becomes_7 : decode cX12_becomes 7 = .ok (.aload_n 0, 1) := by decide +kernel
theorem dX12_becomes_8 : decode cX12_becomes 8 = .ok (.getfield 7, 3) := by decide +kernel
theorem dX12_becomes_11 : decode cX12_becomes 11 = .ok (.iload_n 1, 1) := by decide +kernel
theorem dX12_becomes_12 : decode cX12_becomes 12 = .ok (.iload_n 2, 1) := by decide +kernel
theorem dX12_becomes_13 : decode cX12_becomes 13 = .ok (.iastore, 1) := by decide +kernel
theorem dX12_becomes_14 : decode cX12_becomes 14 = .ok (.iload_n 3, 1) := by decide +kernel
theorem dX12_becomes_15 : decode cX12_becomes 15 = .ok (.ireturn, 1) := by decide +kernel
theorem dX12_laysAside_0 : decode cX12_laysAside 0 = .ok (.iconst 0, 1) := by decide +kernel
theorem dX12_laysAside_1 : decode cX12_laysAside 1 = .ok (.istore_n 2, 1) := by decide +kernel
theorem dX12_laysAside_2 : decode cX12_laysAside 2 = .ok (.iload_n 2, 1) := by decide +kernel
theorem dX12_laysAside_3 : decode cX12_laysAside 3 = .ok (.bipush 46, 2) := by decide +kernel
theorem dX12_laysAside_5 : decode cX12_laysAside 5 = .ok (.if_icmp .ge 26, 3) := by decide +kernel
theorem dX12_laysAside_8 : decode cX12_laysAside 8 = .ok (.aload_n 0, 1) := by decide +kernel
theorem dX12_laysAside_9 : decode cX12_laysAside 9 = .ok (.getfield 16, 3) := by decide +kernel
theorem dX12_laysAside_12 : decode cX12_laysAside 12 = .ok (.bipush 46, 2) := by decide +kernel
theorem dX12_laysAside_14 : decode cX12_laysAside 14 = .ok (.iload_n 1, 1) := by decide +kernel
theorem dX12_laysAside_15 : decode cX12_laysAside 15 = .ok (.imul, 1) := by decide +kernel
theorem dX12_laysAside_16 : decode cX12_laysAside 16 = .ok (.iload_n 2, 1) := by decide +kernel
theorem dX12_laysAside_17 : decode cX12_laysAside 17 = .ok (.iadd, 1) := by decide +kernel
theorem dX12_laysAside_18 : decode cX12_laysAside 18 = .ok (.aload_n 0, 1) := by decide +kernel
theorem dX12_laysAside_19 : decode cX12_laysAside 19 = .ok (.getfield 7, 3) := by decide +kernel
theorem dX12_laysAside_22 : decode cX12_laysAside 22 = .ok (.iload_n 2, 1) := by decide +kernel
theorem dX12_laysAside_23 : decode cX12_laysAside 23 = .ok (.iaload, 1) := by decide +kernel
theorem dX12_laysAside_24 : decode cX12_laysAside 24 = .ok (.iastore, 1) := by decide +kernel
theorem dX12_laysAside_25 : decode cX12_laysAside 25 = .ok (.iinc 2 1, 3) := by decide +kernel
theorem dX12_laysAside_28 : decode cX12_laysAside 28 = .ok (.goto (-26), 3) := by decide +kernel
theorem dX12_laysAside_31 : decode cX12_laysAside 31 = .ok (.return_, 1) := by decide +kernel
theorem dX12_laysBack_0 : decode cX12_laysBack 0 = .ok (.iconst 0, 1) := by decide +kernel
theorem dX12_laysBack_1 : decode cX12_laysBack 1 = .ok (.istore_n 2, 1) := by decide +kernel
theorem dX12_laysBack_2 : decode cX12_laysBack 2 = .ok (.iload_n 2, 1) := by decide +kernel
theorem dX12_laysBack_3 : decode cX12_laysBack 3 = .ok (.bipush 46, 2) := by decide +kernel
theorem dX12_laysBack_5 : decode cX12_laysBack 5 = .ok (.if_icmp .ge 26, 3) := by decide +kernel
theorem dX12_laysBack_8 : decode cX12_laysBack 8 = .ok (.aload_n 0, 1) := by decide +kernel
theorem dX12_laysBack_9 : decode cX12_laysBack 9 = .ok (.getfield 7, 3) := by decide +kernel
theorem dX12_laysBack_12 : decode cX12_laysBack 12 = .ok (.iload_n 2, 1) := by decide +kernel
theorem dX12_laysBack_13 : decode cX12_laysBack 13 = .ok (.aload_n 0, 1) := by decide +kernel
theorem dX12_laysBack_14 : decode cX12_laysBack 14 = .ok (.getfield 16, 3) := by decide +kernel
theorem dX12_laysBack_17 : decode cX12_laysBack 17 = .ok (.bipush 46, 2) := by decide +kernel
theorem dX12_laysBack_19 : decode cX12_laysBack 19 = .ok (.iload_n 1, 1) := by decide +kernel
theorem dX12_laysBack_20 : decode cX12_laysBack 20 = .ok (.imul, 1) := by decide +kernel
theorem dX12_laysBack_21 : decode cX12_laysBack 21 = .ok (.iload_n 2, 1) := by decide +kernel
theorem dX12_laysBack_22 : decode cX12_laysBack 22 = .ok (.iadd, 1) := by decide +kernel
theorem dX12_laysBack_23 : decode cX12_laysBack 23 = .ok (.iaload, 1) := by decide +kernel
theorem dX12_laysBack_24 : decode cX12_laysBack 24 = .ok (.iastore, 1) := by decide +kernel
theorem dX12_laysBack_25 : decode cX12_laysBack 25 = .ok (.iinc 2 1, 3) := by decide +kernel
theorem dX12_laysBack_28 : decode cX12_laysBack 28 = .ok (.goto (-26), 3) := by decide +kernel
theorem dX12_laysBack_31 : decode cX12_laysBack 31 = .ok (.return_, 1) := by decide +kernel
theorem dX12_isOver_0 : decode cX12_isOver 0 = .ok (.aload_n 0, 1) := by decide +kernel
theorem dX12_isOver_1 : decode cX12_isOver 1 = .ok (.getfield 7, 3) := by decide +kernel
theorem dX12_isOver_4 : decode cX12_isOver 4 = .ok (.iconst 1, 1) := by decide +kernel
theorem dX12_isOver_5 : decode cX12_isOver 5 = .ok (.iaload, 1) := by decide +kernel
theorem dX12_isOver_6 : decode cX12_isOver 6 = .ok (.aload_n 0, 1) := by decide +kernel
theorem dX12_isOver_7 : decode cX12_isOver 7 = .ok (.getfield 7, 3) := by decide +kernel
theorem dX12_isOver_10 : decode cX12_isOver 10 = .ok (.iconst 2, 1) := by decide +kernel
theorem dX12_isOver_11 : decode cX12_isOver 11 = .ok (.iaload, 1) := by decide +kernel
theorem dX12_isOver_12 : decode cX12_isOver 12 = .ok (.if_icmp .lt 7, 3) := by decide +kernel
theorem dX12_isOver_15 : decode cX12_isOver 15 = .ok (.iconst 1, 1) := by decide +kernel
theorem dX12_isOver_16 : decode cX12_isOver 16 = .ok (.goto 4, 3) := by decide +kernel
theorem dX12_isOver_19 : decode cX12_isOver 19 = .ok (.iconst 0, 1) := by decide +kernel
theorem dX12_isOver_20 : decode cX12_isOver 20 = .ok (.ireturn, 1) := by decide +kernel
theorem dX12_size_0 : decode cX12_size 0 = .ok (.iconst 0, 1) := by decide +kernel
theorem dX12_size_1 : decode cX12_size 1 = .ok (.istore_n 1, 1) := by decide +kernel
theorem dX12_size_2 : decode cX12_size 2 = .ok (.iload_n 0, 1) := by decide +kernel
theorem dX12_size_3 : decode cX12_size 3 = .ok (.istore_n 2, 1) := by decide +kernel
theorem dX12_size_4 : decode cX12_size 4 = .ok (.iload_n 2, 1) := by decide +kernel
theorem dX12_size_5 : decode cX12_size 5 = .ok (.ifCond .eq 15, 3) := by decide +kernel
theorem dX12_size_8 : decode cX12_size 8 = .ok (.iinc 1 1, 3) := by decide +kernel
theorem dX12_size_11 : decode cX12_size 11 = .ok (.iload_n 2, 1) := by decide +kernel
theorem dX12_size_12 : decode cX12_size 12 = .ok (.iload_n 2, 1) := by decide +kernel
theorem dX12_size_13 : decode cX12_size 13 = .ok (.iconst 1, 1) := by decide +kernel
theorem dX12_size_14 : decode cX12_size 14 = .ok (.isub, 1) := by decide +kernel
theorem dX12_size_15 : decode cX12_size 15 = .ok (.iand, 1) := by decide +kernel
theorem dX12_size_16 : decode cX12_size 16 = .ok (.istore_n 2, 1) := by decide +kernel
theorem dX12_size_17 : decode cX12_size 17 = .ok (.goto (-13), 3) := by decide +kernel
theorem dX12_size_20 : decode cX12_size 20 = .ok (.iload_n 1, 1) := by decide +kernel
theorem dX12_size_21 : decode cX12_size 21 = .ok (.ireturn, 1) := by decide +kernel
theorem dX12_least_0 : decode cX12_least 0 = .ok (.iload_n 0, 1) := by decide +kernel
theorem dX12_least_1 : decode cX12_least 1 = .ok (.iload_n 1, 1) := by decide +kernel
theorem dX12_least_2 : decode cX12_least 2 = .ok (.if_icmp .ge 7, 3) := by decide +kernel
theorem dX12_least_5 : decode cX12_least 5 = .ok (.iload_n 0, 1) := by decide +kernel
theorem dX12_least_6 : decode cX12_least 6 = .ok (.goto 4, 3) := by decide +kernel
theorem dX12_least_9 : decode cX12_least 9 = .ok (.iload_n 1, 1) := by decide +kernel
theorem dX12_least_10 : decode cX12_least 10 = .ok (.ireturn, 1) := by decide +kernel
theorem dX12_greatest_0 : decode cX12_greatest 0 = .ok (.iload_n 0, 1) := by decide +kernel
theorem dX12_greatest_1 : decode cX12_greatest 1 = .ok (.iload_n 1, 1) := by decide +kernel
theorem dX12_greatest_2 : decode cX12_greatest 2 = .ok (.if_icmp .le 7, 3) := by decide +kernel
theorem dX12_greatest_5 : decode cX12_greatest 5 = .ok (.iload_n 0, 1) := by decide +kernel
theorem dX12_greatest_6 : decode cX12_greatest 6 = .ok (.goto 4, 3) := by decide +kernel
theorem dX12_greatest_9 : decode cX12_greatest 9 = .ok (.iload_n 1, 1) := by decide +kernel
theorem dX12_greatest_10 : decode cX12_greatest 10 = .ok (.ireturn, 1) := by decide +kernel
theorem dX12_within_0 : decode cX12_within 0 = .ok (.iload_n 0, 1) := by decide +kernel
theorem dX12_within_1 : decode cX12_within 1 = .ok (.ifCond .ge 7, 3) := by decide +kernel
theorem dX12_within_4 : decode cX12_within 4 = .ok (.iconst 0, 1) := by decide +kernel
theorem dX12_within_5 : decode cX12_within 5 = .ok (.goto 15, 3) := by decide +kernel
theorem dX12_within_8 : decode cX12_within 8 = .ok (.iload_n 0, 1) := by decide +kernel
theorem dX12_within_9 : decode cX12_within 9 = .ok (.bipush 9, 2) := by decide +kernel
theorem dX12_within_11 : decode cX12_within 11 = .ok (.if_icmp .le 8, 3) := by decide +kernel
theorem dX12_within_14 : decode cX12_within 14 = .ok (.bipush 9, 2) := by decide +kernel
theorem dX12_within_16 : decode cX12_within 16 = .ok (.goto 4, 3) := by decide +kernel
theorem dX12_within_19 : decode cX12_within 19 = .ok (.iload_n 0, 1) := by decide +kernel
theorem dX12_within_20 : decode cX12_within 20 = .ok (.ireturn, 1) := by decide +kernel
theorem dX12_apart_0 : decode cX12_apart 0 = .ok (.iload_n 0, 1) := by decide +kernel
theorem dX12_apart_1 : decode cX12_apart 1 = .ok (.iload_n 1, 1) := by decide +kernel
theorem dX12_apart_2 : decode cX12_apart 2 = .ok (.if_icmp .ge 9, 3) := by decide +kernel
theorem dX12_apart_5 : decode cX12_apart 5 = .ok (.iload_n 1, 1) := by decide +kernel
theorem dX12_apart_6 : decode cX12_apart 6 = .ok (.iload_n 0, 1) := by decide +kernel
theorem dX12_apart_7 : decode cX12_apart 7 = .ok (.isub, 1) := by decide +kernel
theorem dX12_apart_8 : decode cX12_apart 8 = .ok (.goto 6, 3) := by decide +kernel
theorem dX12_apart_11 : decode cX12_apart 11 = .ok (.iload_n 0, 1) := by decide +kernel
theorem dX12_apart_12 : decode cX12_apart 12 = .ok (.iload_n 1, 1) := by decide +kernel
theorem dX12_apart_13 : decode cX12_apart 13 = .ok (.isub, 1) := by decide +kernel
theorem dX12_apart_14 : decode cX12_apart 14 = .ok (.ireturn, 1) := by decide +kernel
theorem dX12_guild_0 : decode cX12_guild 0 = .ok (.iload_n 1, 1) := by decide +kernel
theorem dX12_guild_1 : decode cX12_guild 1 = .ok (.i2l, 1) := by decide +kernel
theorem dX12_guild_2 : decode cX12_guild 2 = .ok (.lconst 1, 1) := by decide +kernel
theorem dX12_guild_3 : decode cX12_guild 3 = .ok (.ldc2_w 61, 3) := by decide +kernel
theorem dX12_guild_6 : decode cX12_guild 6 = .ok (.invokestatic 63, 3) := by decide +kernel
theorem dX12_guild_9 : decode cX12_guild 9 = .ok (.ifCond .eq 35, 3) := by decide +kernel
theorem dX12_guild_12 : decode cX12_guild 12 = .ok (.iload_n 2, 1) := by decide +kernel
theorem dX12_guild_13 : decode cX12_guild 13 = .ok (.i2l, 1) := by decide +kernel
theorem dX12_guild_14 : decode cX12_guild 14 = .ok (.lconst 0, 1) := by decide +kernel
theorem dX12_guild_15 : decode cX12_guild 15 = .ok (.ldc2_w 67, 3) := by decide +kernel
theorem dX12_guild_18 : decode cX12_guild 18 = .ok (.invokestatic 63, 3) := by decide +kernel
theorem dX12_guild_21 : decode cX12_guild 21 = .ok (.ifCond .eq 23, 3) := by decide +kernel
theorem dX12_guild_24 : decode cX12_guild 24 = .ok (.iload_n 3, 1) := by decide +kernel
theorem dX12_guild_25 : decode cX12_guild 25 = .ok (.i2l, 1) := by decide +kernel
theorem dX12_guild_26 : decode cX12_guild 26 = .ok (.lconst 0, 1) := by decide +kernel
theorem dX12_guild_27 : decode cX12_guild 27 = .ok (.ldc2_w 69, 3) := by decide +kernel
theorem dX12_guild_30 : decode cX12_guild 30 = .ok (.invokestatic 63, 3) := by decide +kernel
theorem dX12_guild_33 : decode cX12_guild 33 = .ok (.ifCond .eq 11, 3) := by decide +kernel
theorem dX12_guild_36 : decode cX12_guild 36 = .ok (.iload 4, 2) := by decide +kernel
theorem dX12_guild_38 : decode cX12_guild 38 = .ok (.invokestatic 71, 3) := by decide +kernel
theorem dX12_guild_41 : decode cX12_guild 41 = .ok (.ifCond .ne 5, 3) := by decide +kernel
theorem dX12_guild_44 : decode cX12_guild 44 = .ok (.iconst (-1), 1) := by decide +kernel
theorem dX12_guild_45 : decode cX12_guild 45 = .ok (.ireturn, 1) := by decide +kernel
theorem dX12_guild_46 : decode cX12_guild 46 = .ok (.aload_n 0, 1) := by decide +kernel
theorem dX12_guild_47 : decode cX12_guild 47 = .ok (.getfield 7, 3) := by decide +kernel
theorem dX12_guild_50 : decode cX12_guild 50 = .ok (.iconst 0, 1) := by decide +kernel
theorem dX12_guild_51 : decode cX12_guild 51 = .ok (.iaload, 1) := by decide +kernel
theorem dX12_guild_52 : decode cX12_guild 52 = .ok (.bipush 6, 2) := by decide +kernel
theorem dX12_guild_54 : decode cX12_guild 54 = .ok (.if_icmp .ne 6, 3) := by decide +kernel
theorem dX12_guild_57 : decode cX12_guild 57 = .ok (.bipush (-2), 2) := by decide +kernel
theorem dX12_guild_59 : decode cX12_guild 59 = .ok (.ireturn, 1) := by decide +kernel
theorem dX12_guild_60 : decode cX12_guild 60 = .ok (.bipush 10, 2) := by decide +kernel
theorem dX12_guild_62 : decode cX12_guild 62 = .ok (.bipush 6, 2) := by decide +kernel
theorem dX12_guild_64 : decode cX12_guild 64 = .ok (.aload_n 0, 1) := by decide +kernel
theorem dX12_guild_65 : decode cX12_guild 65 = .ok (.getfield 7, 3) := by decide +kernel
theorem dX12_guild_68 : decode cX12_guild 68 = .ok (.iconst 0, 1) := by decide +kernel
theorem dX12_guild_69 : decode cX12_guild 69 = .ok (.iaload, 1) := by decide +kernel
theorem dX12_guild_70 : decode cX12_guild 70 = .ok (.imul, 1) := by decide +kernel
theorem dX12_guild_71 : decode cX12_guild 71 = .ok (.iadd, 1) := by decide +kernel
theorem dX12_guild_72 : decode cX12_guild 72 = .ok (.istore 5, 2) := by decide +kernel
theorem dX12_guild_74 : decode cX12_guild 74 = .ok (.aload_n 0, 1) := by decide +kernel
theorem dX12_guild_75 : decode cX12_guild 75 = .ok (.getfield 7, 3) := by decide +kernel
theorem dX12_guild_78 : decode cX12_guild 78 = .ok (.iload 5, 2) := by decide +kernel
theorem dX12_guild_80 : decode cX12_guild 80 = .ok (.iload_n 1, 1) := by decide +kernel
theorem dX12_guild_81 : decode cX12_guild 81 = .ok (.iastore, 1) := by decide +kernel
theorem dX12_guild_82 : decode cX12_guild 82 = .ok (.aload_n 0, 1) := by decide +kernel
theorem dX12_guild_83 : decode cX12_guild 83 = .ok (.getfield 7, 3) := by decide +kernel
theorem dX12_guild_86 : decode cX12_guild 86 = .ok (.iload 5, 2) := by decide +kernel
theorem dX12_guild_88 : decode cX12_guild 88 = .ok (.iconst 1, 1) := by decide +kernel
theorem dX12_guild_89 : decode cX12_guild 89 = .ok (.iadd, 1) := by decide +kernel
theorem dX12_guild_90 : decode cX12_guild 90 = .ok (.iload_n 2, 1) := by decide +kernel
theorem dX12_guild_91 : decode cX12_guild 91 = .ok (.iastore, 1) := by decide +kernel
theorem dX12_guild_92 : decode cX12_guild 92 = .ok (.aload_n 0, 1) := by decide +kernel
theorem dX12_guild_93 : decode cX12_guild 93 = .ok (.getfield 7, 3) := by decide +kernel
theorem dX12_guild_96 : decode cX12_guild 96 = .ok (.iload 5, 2) := by decide +kernel
theorem dX12_guild_98 : decode cX12_guild 98 = .ok (.iconst 2, 1) := by decide +kernel
theorem dX12_guild_99 : decode cX12_guild 99 = .ok (.iadd, 1) := by decide +kernel
theorem dX12_guild_100 : decode cX12_guild 100 = .ok (.iload_n 3, 1) := by decide +kernel
theorem dX12_guild_101 : decode cX12_guild 101 = .ok (.iastore, 1) := by decide +kernel
theorem dX12_guild_102 : decode cX12_guild 102 = .ok (.aload_n 0, 1) := by decide +kernel
theorem dX12_guild_103 : decode cX12_guild 103 = .ok (.getfield 7, 3) := by decide +kernel
theorem dX12_guild_106 : decode cX12_guild 106 = .ok (.iload 5, 2) := by decide +kernel
theorem dX12_guild_108 : decode cX12_guild 108 = .ok (.iconst 3, 1) := by decide +kernel
theorem dX12_guild_109 : decode cX12_guild 109 = .ok (.iadd, 1) := by decide +kernel
theorem dX12_guild_110 : decode cX12_guild 110 = .ok (.iload 4, 2) := by decide +kernel
theorem dX12_guild_112 : decode cX12_guild 112 = .ok (.iastore, 1) := by decide +kernel
theorem dX12_guild_113 : decode cX12_guild 113 = .ok (.aload_n 0, 1) := by decide +kernel
theorem dX12_guild_114 : decode cX12_guild 114 = .ok (.getfield 7, 3) := by decide +kernel
theorem dX12_guild_117 : decode cX12_guild 117 = .ok (.iload 5, 2) := by decide +kernel
theorem dX12_guild_119 : decode cX12_guild 119 = .ok (.iconst 4, 1) := by decide +kernel
theorem dX12_guild_120 : decode cX12_guild 120 = .ok (.iadd, 1) := by decide +kernel
theorem dX12_guild_121 : decode cX12_guild 121 = .ok (.iconst 1, 1) := by decide +kernel
theorem dX12_guild_122 : decode cX12_guild 122 = .ok (.iastore, 1) := by decide +kernel
theorem dX12_guild_123 : decode cX12_guild 123 = .ok (.aload_n 0, 1) := by decide +kernel
theorem dX12_guild_124 : decode cX12_guild 124 = .ok (.getfield 7, 3) := by decide +kernel
theorem dX12_guild_127 : decode cX12_guild 127 = .ok (.iload 5, 2) := by decide +kernel
theorem dX12_guild_129 : decode cX12_guild 129 = .ok (.iconst 5, 1) := by decide +kernel
theorem dX12_guild_130 : decode cX12_guild 130 = .ok (.iadd, 1) := by decide +kernel
theorem dX12_guild_131 : decode cX12_guild 131 = .ok (.iconst 0, 1) := by decide +kernel
theorem dX12_guild_132 : decode cX12_guild 132 = .ok (.iastore, 1) := by decide +kernel
theorem dX12_guild_133 : decode cX12_guild 133 = .ok (.aload_n 0, 1) := by decide +kernel
theorem dX12_guild_134 : decode cX12_guild 134 = .ok (.getfield 7, 3) := by decide +kernel
theorem dX12_guild_137 : decode cX12_guild 137 = .ok (.iconst 0, 1) := by decide +kernel
theorem dX12_guild_138 : decode cX12_guild 138 = .ok (.dup2, 1) := by decide +kernel
theorem dX12_guild_139 : decode cX12_guild 139 = .ok (.iaload, 1) := by decide +kernel
theorem dX12_guild_140 : decode cX12_guild 140 = .ok (.iconst 1, 1) := by decide +kernel
theorem dX12_guild_141 : decode cX12_guild 141 = .ok (.iadd, 1) := by decide +kernel
theorem dX12_guild_142 : decode cX12_guild 142 = .ok (.iastore, 1) := by decide +kernel
theorem dX12_guild_143 : decode cX12_guild 143 = .ok (.aload_n 0, 1) := by decide +kernel
theorem dX12_guild_144 : decode cX12_guild 144 = .ok (.getfield 7, 3) := by decide +kernel
theorem dX12_guild_147 : decode cX12_guild 147 = .ok (.iconst 0, 1) := by decide +kernel
theorem dX12_guild_148 : decode cX12_guild 148 = .ok (.iaload, 1) := by decide +kernel
theorem dX12_guild_149 : decode cX12_guild 149 = .ok (.iconst 1, 1) := by decide +kernel
theorem dX12_guild_150 : decode cX12_guild 150 = .ok (.isub, 1) := by decide +kernel
theorem dX12_guild_151 : decode cX12_guild 151 = .ok (.ireturn, 1) := by decide +kernel
theorem dX12_cheersBy_0 : decode cX12_cheersBy 0 = .ok (.iload_n 1, 1) := by decide +kernel
theorem dX12_cheersBy_1 : decode cX12_cheersBy 1 = .ok (.iconst 3, 1) := by decide +kernel
theorem dX12_cheersBy_2 : decode cX12_cheersBy 2 = .ok (.idiv, 1) := by decide +kernel
theorem dX12_cheersBy_3 : decode cX12_cheersBy 3 = .ok (.istore_n 3, 1) := by decide +kernel
theorem dX12_cheersBy_4 : decode cX12_cheersBy 4 = .ok (.iload_n 0, 1) := by decide +kernel
theorem dX12_cheersBy_5 : decode cX12_cheersBy 5 = .ok (.tableswitch 63 1 4 #[31, 35, 39, 55], 31) := by decide +kernel
theorem dX12_cheersBy_36 : decode cX12_cheersBy 36 = .ok (.iconst 2, 1) := by decide +kernel
theorem dX12_cheersBy_37 : decode cX12_cheersBy 37 = .ok (.iload_n 3, 1) := by decide +kernel
theorem dX12_cheersBy_38 : decode cX12_cheersBy 38 = .ok (.imul, 1) := by decide +kernel
theorem dX12_cheersBy_39 : decode cX12_cheersBy 39 = .ok (.ireturn, 1) := by decide +kernel
theorem dX12_cheersBy_40 : decode cX12_cheersBy 40 = .ok (.iload_n 3, 1) := by decide +kernel
theorem dX12_cheersBy_41 : decode cX12_cheersBy 41 = .ok (.iconst 3, 1) := by decide +kernel
theorem dX12_cheersBy_42 : decode cX12_cheersBy 42 = .ok (.isub, 1) := by decide +kernel
theorem dX12_cheersBy_43 : decode cX12_cheersBy 43 = .ok (.ireturn, 1) := by decide +kernel
theorem dX12_cheersBy_44 : decode cX12_cheersBy 44 = .ok (.iload_n 2, 1) := by decide +kernel
theorem dX12_cheersBy_45 : decode cX12_cheersBy 45 = .ok (.iconst 2, 1) := by decide +kernel
theorem dX12_cheersBy_46 : decode cX12_cheersBy 46 = .ok (.irem, 1) := by decide +kernel
theorem dX12_cheersBy_47 : decode cX12_cheersBy 47 = .ok (.ifCond .ne 9, 3) := by decide +kernel
theorem dX12_cheersBy_50 : decode cX12_cheersBy 50 = .ok (.iload_n 3, 1) := by decide +kernel
theorem dX12_cheersBy_51 : decode cX12_cheersBy 51 = .ok (.iconst 1, 1) := by decide +kernel
theorem dX12_cheersBy_52 : decode cX12_cheersBy 52 = .ok (.iadd, 1) := by decide +kernel
theorem dX12_cheersBy_53 : decode cX12_cheersBy 53 = .ok (.goto 6, 3) := by decide +kernel
theorem dX12_cheersBy_56 : decode cX12_cheersBy 56 = .ok (.iload_n 3, 1) := by decide +kernel
theorem dX12_cheersBy_57 : decode cX12_cheersBy 57 = .ok (.iconst 3, 1) := by decide +kernel
theorem dX12_cheersBy_58 : decode cX12_cheersBy 58 = .ok (.isub, 1) := by decide +kernel
theorem dX12_cheersBy_59 : decode cX12_cheersBy 59 = .ok (.ireturn, 1) := by decide +kernel
theorem dX12_cheersBy_60 : decode cX12_cheersBy 60 = .ok (.iconst 2, 1) := by decide +kernel
theorem dX12_cheersBy_61 : decode cX12_cheersBy 61 = .ok (.iload_n 3, 1) := by decide +kernel
theorem dX12_cheersBy_62 : decode cX12_cheersBy 62 = .ok (.iconst 1, 1) := by decide +kernel
theorem dX12_cheersBy_63 : decode cX12_cheersBy 63 = .ok (.iadd, 1) := by decide +kernel
theorem dX12_cheersBy_64 : decode cX12_cheersBy 64 = .ok (.invokestatic 75, 3) := by decide +kernel
theorem dX12_cheersBy_67 : decode cX12_cheersBy 67 = .ok (.ireturn, 1) := by decide +kernel
theorem dX12_cheersBy_68 : decode cX12_cheersBy 68 = .ok (.iload_n 2, 1) := by decide +kernel
theorem dX12_cheersBy_69 : decode cX12_cheersBy 69 = .ok (.iconst 3, 1) := by decide +kernel
theorem dX12_cheersBy_70 : decode cX12_cheersBy 70 = .ok (.irem, 1) := by decide +kernel
theorem dX12_cheersBy_71 : decode cX12_cheersBy 71 = .ok (.iconst 1, 1) := by decide +kernel
theorem dX12_cheersBy_72 : decode cX12_cheersBy 72 = .ok (.if_icmp .ne 7, 3) := by decide +kernel
theorem dX12_cheersBy_75 : decode cX12_cheersBy 75 = .ok (.iconst 0, 1) := by decide +kernel
theorem dX12_cheersBy_76 : decode cX12_cheersBy 76 = .ok (.goto 10, 3) := by decide +kernel
theorem dX12_cheersBy_79 : decode cX12_cheersBy 79 = .ok (.iconst 2, 1) := by decide +kernel
theorem dX12_cheersBy_80 : decode cX12_cheersBy 80 = .ok (.iload_n 3, 1) := by decide +kernel
theorem dX12_cheersBy_81 : decode cX12_cheersBy 81 = .ok (.iconst 1, 1) := by decide +kernel
theorem dX12_cheersBy_82 : decode cX12_cheersBy 82 = .ok (.iadd, 1) := by decide +kernel
theorem dX12_cheersBy_83 : decode cX12_cheersBy 83 = .ok (.invokestatic 75, 3) := by decide +kernel
theorem dX12_cheersBy_86 : decode cX12_cheersBy 86 = .ok (.ireturn, 1) := by decide +kernel
theorem dX12_cheers_0 : decode cX12_cheers 0 = .ok (.aload_n 0, 1) := by decide +kernel
theorem dX12_cheers_1 : decode cX12_cheers 1 = .ok (.iload_n 1, 1) := by decide +kernel
theorem dX12_cheers_2 : decode cX12_cheers 2 = .ok (.iconst 0, 1) := by decide +kernel
theorem dX12_cheers_3 : decode cX12_cheers 3 = .ok (.invokevirtual 79, 3) := by decide +kernel
theorem dX12_cheers_6 : decode cX12_cheers 6 = .ok (.aload_n 0, 1) := by decide +kernel
theorem dX12_cheers_7 : decode cX12_cheers 7 = .ok (.iload_n 1, 1) := by decide +kernel
theorem dX12_cheers_8 : decode cX12_cheers 8 = .ok (.iconst 2, 1) := by decide +kernel
theorem dX12_cheers_9 : decode cX12_cheers 9 = .ok (.invokevirtual 79, 3) := by decide +kernel
theorem dX12_cheers_12 : decode cX12_cheers 12 = .ok (.aload_n 0, 1) := by decide +kernel
theorem dX12_cheers_13 : decode cX12_cheers 13 = .ok (.getfield 7, 3) := by decide +kernel
theorem dX12_cheers_16 : decode cX12_cheers 16 = .ok (.iconst 1, 1) := by decide +kernel
theorem dX12_cheers_17 : decode cX12_cheers 17 = .ok (.iaload, 1) := by decide +kernel
theorem dX12_cheers_18 : decode cX12_cheers 18 = .ok (.invokestatic 82, 3) := by decide +kernel
theorem dX12_cheers_21 : decode cX12_cheers 21 = .ok (.ireturn, 1) := by decide +kernel
theorem dX12_pays_0 : decode cX12_pays 0 = .ok (.aload_n 0, 1) := by decide +kernel
theorem dX12_pays_1 : decode cX12_pays 1 = .ok (.iload_n 1, 1) := by decide +kernel
theorem dX12_pays_2 : decode cX12_pays 2 = .ok (.iconst 0, 1) := by decide +kernel
theorem dX12_pays_3 : decode cX12_pays 3 = .ok (.invokevirtual 79, 3) := by decide +kernel
theorem dX12_pays_6 : decode cX12_pays 6 = .ok (.tableswitch 45 1 4 #[30, 33, 37, 43], 30) := by decide +kernel
theorem dX12_pays_36 : decode cX12_pays 36 = .ok (.bipush 6, 2) := by decide +kernel
theorem dX12_pays_38 : decode cX12_pays 38 = .ok (.ireturn, 1) := by decide +kernel
theorem dX12_pays_39 : decode cX12_pays 39 = .ok (.iconst 4, 1) := by decide +kernel
theorem dX12_pays_40 : decode cX12_pays 40 = .ok (.iload_n 1, 1) := by decide +kernel
theorem dX12_pays_41 : decode cX12_pays 41 = .ok (.iadd, 1) := by decide +kernel
theorem dX12_pays_42 : decode cX12_pays 42 = .ok (.ireturn, 1) := by decide +kernel
theorem dX12_pays_43 : decode cX12_pays 43 = .ok (.iconst 2, 1) := by decide +kernel
theorem dX12_pays_44 : decode cX12_pays 44 = .ok (.iconst 4, 1) := by decide +kernel
theorem dX12_pays_45 : decode cX12_pays 45 = .ok (.iload_n 1, 1) := by decide +kernel
theorem dX12_pays_46 : decode cX12_pays 46 = .ok (.iadd, 1) := by decide +kernel
theorem dX12_pays_47 : decode cX12_pays 47 = .ok (.imul, 1) := by decide +kernel
theorem dX12_pays_48 : decode cX12_pays 48 = .ok (.ireturn, 1) := by decide +kernel
theorem dX12_pays_49 : decode cX12_pays 49 = .ok (.iconst 3, 1) := by decide +kernel
theorem dX12_pays_50 : decode cX12_pays 50 = .ok (.ireturn, 1) := by decide +kernel
theorem dX12_pays_51 : decode cX12_pays 51 = .ok (.iconst 1, 1) := by decide +kernel
theorem dX12_pays_52 : decode cX12_pays 52 = .ok (.ireturn, 1) := by decide +kernel
theorem dX12_place_0 : decode cX12_place 0 = .ok (.aload_n 0, 1) := by decide +kernel
theorem dX12_place_1 : decode cX12_place 1 = .ok (.iload_n 1, 1) := by decide +kernel
theorem dX12_place_2 : decode cX12_place 2 = .ok (.iconst 1, 1) := by decide +kernel
theorem dX12_place_3 : decode cX12_place 3 = .ok (.invokevirtual 79, 3) := by decide +kernel
theorem dX12_place_6 : decode cX12_place 6 = .ok (.aload_n 0, 1) := by decide +kernel
theorem dX12_place_7 : decode cX12_place 7 = .ok (.getfield 7, 3) := by decide +kernel
theorem dX12_place_10 : decode cX12_place 10 = .ok (.bipush 46, 2) := by decide +kernel
theorem dX12_place_12 : decode cX12_place 12 = .ok (.aload_n 0, 1) := by decide +kernel
theorem dX12_place_13 : decode cX12_place 13 = .ok (.iload_n 1, 1) := by decide +kernel
theorem dX12_place_14 : decode cX12_place 14 = .ok (.iconst 3, 1) := by decide +kernel
theorem dX12_place_15 : decode cX12_place 15 = .ok (.invokevirtual 79, 3) := by decide +kernel
theorem dX12_place_18 : decode cX12_place 18 = .ok (.iadd, 1) := by decide +kernel
theorem dX12_place_19 : decode cX12_place 19 = .ok (.iaload, 1) := by decide +kernel
theorem dX12_place_20 : decode cX12_place 20 = .ok (.iadd, 1) := by decide +kernel
theorem dX12_place_21 : decode cX12_place 21 = .ok (.ireturn, 1) := by decide +kernel
theorem dX12_late_0 : decode cX12_late 0 = .ok (.aload_n 0, 1) := by decide +kernel
theorem dX12_late_1 : decode cX12_late 1 = .ok (.getfield 7, 3) := by decide +kernel
theorem dX12_late_4 : decode cX12_late 4 = .ok (.bipush 9, 2) := by decide +kernel
theorem dX12_late_6 : decode cX12_late 6 = .ok (.iaload, 1) := by decide +kernel
theorem dX12_late_7 : decode cX12_late 7 = .ok (.aload_n 0, 1) := by decide +kernel
theorem dX12_late_8 : decode cX12_late 8 = .ok (.iload_n 1, 1) := by decide +kernel
theorem dX12_late_9 : decode cX12_late 9 = .ok (.invokevirtual 86, 3) := by decide +kernel
theorem dX12_late_12 : decode cX12_late 12 = .ok (.invokestatic 90, 3) := by decide +kernel
theorem dX12_late_15 : decode cX12_late 15 = .ok (.ireturn, 1) := by decide +kernel
theorem dX12_isInTime_0 : decode cX12_isInTime 0 = .ok (.aload_n 0, 1) := by decide +kernel
theorem dX12_isInTime_1 : decode cX12_isInTime 1 = .ok (.iload_n 1, 1) := by decide +kernel
theorem dX12_isInTime_2 : decode cX12_isInTime 2 = .ok (.invokevirtual 93, 3) := by decide +kernel
theorem dX12_isInTime_5 : decode cX12_isInTime 5 = .ok (.aload_n 0, 1) := by decide +kernel
theorem dX12_isInTime_6 : decode cX12_isInTime 6 = .ok (.getfield 7, 3) := by decide +kernel
theorem dX12_isInTime_9 : decode cX12_isInTime 9 = .ok (.bipush 52, 2) := by decide +kernel
theorem dX12_isInTime_11 : decode cX12_isInTime 11 = .ok (.aload_n 0, 1) := by decide +kernel
theorem dX12_isInTime_12 : decode cX12_isInTime 12 = .ok (.iload_n 1, 1) := by decide +kernel
theorem dX12_isInTime_13 : decode cX12_isInTime 13 = .ok (.iconst 3, 1) := by decide +kernel
theorem dX12_isInTime_14 : decode cX12_isInTime 14 = .ok (.invokevirtual 79, 3) := by decide +kernel
theorem dX12_isInTime_17 : decode cX12_isInTime 17 = .ok (.iadd, 1) := by decide +kernel
theorem dX12_isInTime_18 : decode cX12_isInTime 18 = .ok (.iaload, 1) := by decide +kernel
theorem dX12_isInTime_19 : decode cX12_isInTime 19 = .ok (.if_icmp .gt 7, 3) := by decide +kernel
theorem dX12_isInTime_22 : decode cX12_isInTime 22 = .ok (.iconst 1, 1) := by decide +kernel
theorem dX12_isInTime_23 : decode cX12_isInTime 23 = .ok (.goto 4, 3) := by decide +kernel
theorem dX12_isInTime_26 : decode cX12_isInTime 26 = .ok (.iconst 0, 1) := by decide +kernel
theorem dX12_isInTime_27 : decode cX12_isInTime 27 = .ok (.ireturn, 1) := by decide +kernel
theorem dX12_isUnder_0 : decode cX12_isUnder 0 = .ok (.iload_n 1, 1) := by decide +kernel
theorem dX12_isUnder_1 : decode cX12_isUnder 1 = .ok (.ifCond .eq 28, 3) := by decide +kernel
theorem dX12_isUnder_4 : decode cX12_isUnder 4 = .ok (.iload_n 0, 1) := by decide +kernel
theorem dX12_isUnder_5 : decode cX12_isUnder 5 = .ok (.iload_n 1, 1) := by decide +kernel
theorem dX12_isUnder_6 : decode cX12_isUnder 6 = .ok (.if_icmp .eq 23, 3) := by decide +kernel
theorem dX12_isUnder_9 : decode cX12_isUnder 9 = .ok (.iload_n 1, 1) := by decide +kernel
theorem dX12_isUnder_10 : decode cX12_isUnder 10 = .ok (.iconst 2, 1) := by decide +kernel
theorem dX12_isUnder_11 : decode cX12_isUnder 11 = .ok (.if_icmp .ne 8, 3) := by decide +kernel
theorem dX12_isUnder_14 : decode cX12_isUnder 14 = .ok (.iload_n 0, 1) := by decide +kernel
theorem dX12_isUnder_15 : decode cX12_isUnder 15 = .ok (.iconst 3, 1) := by decide +kernel
theorem dX12_isUnder_16 : decode cX12_isUnder 16 = .ok (.if_icmp .eq 13, 3) := by decide +kernel
theorem dX12_isUnder_19 : decode cX12_isUnder 19 = .ok (.iload_n 1, 1) := by decide +kernel
theorem dX12_isUnder_20 : decode cX12_isUnder 20 = .ok (.iconst 4, 1) := by decide +kernel
theorem dX12_isUnder_21 : decode cX12_isUnder 21 = .ok (.if_icmp .ne 12, 3) := by decide +kernel
theorem dX12_isUnder_24 : decode cX12_isUnder 24 = .ok (.iload_n 0, 1) := by decide +kernel
theorem dX12_isUnder_25 : decode cX12_isUnder 25 = .ok (.iconst 5, 1) := by decide +kernel
theorem dX12_isUnder_26 : decode cX12_isUnder 26 = .ok (.if_icmp .ne 7, 3) := by decide +kernel
theorem dX12_isUnder_29 : decode cX12_isUnder 29 = .ok (.iconst 1, 1) := by decide +kernel
theorem dX12_isUnder_30 : decode cX12_isUnder 30 = .ok (.goto 4, 3) := by decide +kernel
theorem dX12_isUnder_33 : decode cX12_isUnder 33 = .ok (.iconst 0, 1) := by decide +kernel
theorem dX12_isUnder_34 : decode cX12_isUnder 34 = .ok (.ireturn, 1) := by decide +kernel
theorem dX12_valueOf_0 : decode cX12_valueOf 0 = .ok (.iload_n 1, 1) := by decide +kernel
theorem dX12_valueOf_1 : decode cX12_valueOf 1 = .ok (.sipush 10000, 3) := by decide +kernel
theorem dX12_valueOf_4 : decode cX12_valueOf 4 = .ok (.isub, 1) := by decide +kernel
theorem dX12_valueOf_5 : decode cX12_valueOf 5 = .ok (.tableswitch 65 0 4 #[35, 42, 49, 55, 63], 35) := by decide +kernel
theorem dX12_valueOf_40 : decode cX12_valueOf 40 = .ok (.aload_n 0, 1) := by decide +kernel
theorem dX12_valueOf_41 : decode cX12_valueOf 41 = .ok (.getfield 7, 3) := by decide +kernel
theorem dX12_valueOf_44 : decode cX12_valueOf 44 = .ok (.iconst 1, 1) := by decide +kernel
theorem dX12_valueOf_45 : decode cX12_valueOf 45 = .ok (.iaload, 1) := by decide +kernel
theorem dX12_valueOf_46 : decode cX12_valueOf 46 = .ok (.ireturn, 1) := by decide +kernel
theorem dX12_valueOf_47 : decode cX12_valueOf 47 = .ok (.aload_n 0, 1) := by decide +kernel
theorem dX12_valueOf_48 : decode cX12_valueOf 48 = .ok (.iload_n 2, 1) := by decide +kernel
theorem dX12_valueOf_49 : decode cX12_valueOf 49 = .ok (.iconst 2, 1) := by decide +kernel
theorem dX12_valueOf_50 : decode cX12_valueOf 50 = .ok (.invokevirtual 79, 3) := by decide +kernel
theorem dX12_valueOf_53 : decode cX12_valueOf 53 = .ok (.ireturn, 1) := by decide +kernel
theorem dX12_valueOf_54 : decode cX12_valueOf 54 = .ok (.aload_n 0, 1) := by decide +kernel
theorem dX12_valueOf_55 : decode cX12_valueOf 55 = .ok (.iload_n 2, 1) := by decide +kernel
theorem dX12_valueOf_56 : decode cX12_valueOf 56 = .ok (.invokevirtual 93, 3) := by decide +kernel
theorem dX12_valueOf_59 : decode cX12_valueOf 59 = .ok (.ireturn, 1) := by decide +kernel
theorem dX12_valueOf_60 : decode cX12_valueOf 60 = .ok (.aload_n 0, 1) := by decide +kernel
theorem dX12_valueOf_61 : decode cX12_valueOf 61 = .ok (.getfield 7, 3) := by decide +kernel
theorem dX12_valueOf_64 : decode cX12_valueOf 64 = .ok (.bipush 8, 2) := by decide +kernel
theorem dX12_valueOf_66 : decode cX12_valueOf 66 = .ok (.iaload, 1) := by decide +kernel
theorem dX12_valueOf_67 : decode cX12_valueOf 67 = .ok (.ireturn, 1) := by decide +kernel
theorem dX12_valueOf_68 : decode cX12_valueOf 68 = .ok (.iload_n 2, 1) := by decide +kernel
theorem dX12_valueOf_69 : decode cX12_valueOf 69 = .ok (.ireturn, 1) := by decide +kernel
theorem dX12_valueOf_70 : decode cX12_valueOf 70 = .ok (.iload_n 1, 1) := by decide +kernel
theorem dX12_valueOf_71 : decode cX12_valueOf 71 = .ok (.ireturn, 1) := by decide +kernel
theorem dX12_holds_0 : decode cX12_holds 0 = .ok (.lconst 1, 1) := by decide +kernel
theorem dX12_holds_1 : decode cX12_holds 1 = .ok (.lstore_n 3, 1) := by decide +kernel
theorem dX12_holds_2 : decode cX12_holds 2 = .ok (.aload_n 0, 1) := by decide +kernel
theorem dX12_holds_3 : decode cX12_holds 3 = .ok (.getfield 7, 3) := by decide +kernel
theorem dX12_holds_6 : decode cX12_holds 6 = .ok (.bipush 74, 2) := by decide +kernel
theorem dX12_holds_8 : decode cX12_holds 8 = .ok (.iconst 4, 1) := by decide +kernel
theorem dX12_holds_9 : decode cX12_holds 9 = .ok (.iload_n 1, 1) := by decide +kernel
theorem dX12_holds_10 : decode cX12_holds 10 = .ok (.imul, 1) := by decide +kernel
theorem dX12_holds_11 : decode cX12_holds 11 = .ok (.iadd, 1) := by decide +kernel
theorem dX12_holds_12 : decode cX12_holds 12 = .ok (.iconst 2, 1) := by decide +kernel
theorem dX12_holds_13 : decode cX12_holds 13 = .ok (.iadd, 1) := by decide +kernel
theorem dX12_holds_14 : decode cX12_holds 14 = .ok (.iaload, 1) := by decide +kernel
theorem dX12_holds_15 : decode cX12_holds 15 = .ok (.istore 5, 2) := by decide +kernel
theorem dX12_holds_17 : decode cX12_holds 17 = .ok (.iload 5, 2) := by decide +kernel
theorem dX12_holds_19 : decode cX12_holds 19 = .ok (.aload_n 0, 1) := by decide +kernel
theorem dX12_holds_20 : decode cX12_holds 20 = .ok (.getfield 7, 3) := by decide +kernel
theorem dX12_holds_23 : decode cX12_holds 23 = .ok (.bipush 74, 2) := by decide +kernel
theorem dX12_holds_25 : decode cX12_holds 25 = .ok (.iconst 4, 1) := by decide +kernel
theorem dX12_holds_26 : decode cX12_holds 26 = .ok (.iload_n 1, 1) := by decide +kernel
theorem dX12_holds_27 : decode cX12_holds 27 = .ok (.imul, 1) := by decide +kernel
theorem dX12_holds_28 : decode cX12_holds 28 = .ok (.iadd, 1) := by decide +kernel
theorem dX12_holds_29 : decode cX12_holds 29 = .ok (.iconst 3, 1) := by decide +kernel
theorem dX12_holds_30 : decode cX12_holds 30 = .ok (.iadd, 1) := by decide +kernel
theorem dX12_holds_31 : decode cX12_holds 31 = .ok (.iaload, 1) := by decide +kernel
theorem dX12_holds_32 : decode cX12_holds 32 = .ok (.if_icmp .ge 203, 3) := by decide +kernel
theorem dX12_holds_35 : decode cX12_holds 35 = .ok (.aload_n 0, 1) := by decide +kernel
theorem dX12_holds_36 : decode cX12_holds 36 = .ok (.getfield 7, 3) := by decide +kernel
theorem dX12_holds_39 : decode cX12_holds 39 = .ok (.sipush 130, 3) := by decide +kernel
theorem dX12_holds_42 : decode cX12_holds 42 = .ok (.iconst 3, 1) := by decide +kernel
theorem dX12_holds_43 : decode cX12_holds 43 = .ok (.iload 5, 2) := by decide +kernel
theorem dX12_holds_45 : decode cX12_holds 45 = .ok (.imul, 1) := by decide +kernel
theorem dX12_holds_46 : decode cX12_holds 46 = .ok (.iadd, 1) := by decide +kernel
theorem dX12_holds_47 : decode cX12_holds 47 = .ok (.iaload, 1) := by decide +kernel
theorem dX12_holds_48 : decode cX12_holds 48 = .ok (.istore 6, 2) := by decide +kernel
theorem dX12_holds_50 : decode cX12_holds 50 = .ok (.iload 6, 2) := by decide +kernel
theorem dX12_holds_52 : decode cX12_holds 52 = .ok (.iconst 3, 1) := by decide +kernel
theorem dX12_holds_53 : decode cX12_holds 53 = .ok (.if_icmp .ge 122, 3) := by decide +kernel
theorem dX12_holds_56 : decode cX12_holds 56 = .ok (.aload_n 0, 1) := by decide +kernel
theorem dX12_holds_57 : decode cX12_holds 57 = .ok (.aload_n 0, 1) := by decide +kernel
theorem dX12_holds_58 : decode cX12_holds 58 = .ok (.getfield 7, 3) := by decide +kernel
theorem dX12_holds_61 : decode cX12_holds 61 = .ok (.sipush 130, 3) := by decide +kernel
theorem dX12_holds_64 : decode cX12_holds 64 = .ok (.iconst 3, 1) := by decide +kernel
theorem dX12_holds_65 : decode cX12_holds 65 = .ok (.iload 5, 2) := by decide +kernel
theorem dX12_holds_67 : decode cX12_holds 67 = .ok (.imul, 1) := by decide +kernel
theorem dX12_holds_68 : decode cX12_holds 68 = .ok (.iadd, 1) := by decide +kernel
theorem dX12_holds_69 : decode cX12_holds 69 = .ok (.iconst 1, 1) := by decide +kernel
theorem dX12_holds_70 : decode cX12_holds 70 = .ok (.iadd, 1) := by decide +kernel
theorem dX12_holds_71 : decode cX12_holds 71 = .ok (.iaload, 1) := by decide +kernel
theorem dX12_holds_72 : decode cX12_holds 72 = .ok (.iload_n 2, 1) := by decide +kernel
theorem dX12_holds_73 : decode cX12_holds 73 = .ok (.invokevirtual 96, 3) := by decide +kernel
theorem dX12_holds_76 : decode cX12_holds 76 = .ok (.istore 7, 2) := by decide +kernel
theorem dX12_holds_78 : decode cX12_holds 78 = .ok (.aload_n 0, 1) := by decide +kernel
theorem dX12_holds_79 : decode cX12_holds 79 = .ok (.aload_n 0, 1) := by decide +kernel
theorem dX12_holds_80 : decode cX12_holds 80 = .ok (.getfield 7, 3) := by decide +kernel
theorem dX12_holds_83 : decode cX12_holds 83 = .ok (.sipush 130, 3) := by decide +kernel
theorem dX12_holds_86 : decode cX12_holds 86 = .ok (.iconst 3, 1) := by decide +kernel
theorem dX12_holds_87 : decode cX12_holds 87 = .ok (.iload 5, 2) := by decide +kernel
theorem dX12_holds_89 : decode cX12_holds 89 = .ok (.imul, 1) := by decide +kernel
theorem dX12_holds_90 : decode cX12_holds 90 = .ok (.iadd, 1) := by decide +kernel
theorem dX12_holds_91 : decode cX12_holds 91 = .ok (.iconst 2, 1) := by decide +kernel
theorem dX12_holds_92 : decode cX12_holds 92 = .ok (.iadd, 1) := by decide +kernel
theorem dX12_holds_93 : decode cX12_holds 93 = .ok (.iaload, 1) := by decide +kernel
theorem dX12_holds_94 : decode cX12_holds 94 = .ok (.iload_n 2, 1) := by decide +kernel
theorem dX12_holds_95 : decode cX12_holds 95 = .ok (.invokevirtual 96, 3) := by decide +kernel
theorem dX12_holds_98 : decode cX12_holds 98 = .ok (.istore 8, 2) := by decide +kernel
theorem dX12_holds_100 : decode cX12_holds 100 = .ok (.iload 6, 2) := by decide +kernel
theorem dX12_holds_102 : decode cX12_holds 102 = .ok (.ifCond .ne 18, 3) := by decide +kernel
theorem dX12_holds_105 : decode cX12_holds 105 = .ok (.iload 7, 2) := by decide +kernel
theorem dX12_holds_107 : decode cX12_holds 107 = .ok (.iload 8, 2) := by decide +kernel
theorem dX12_holds_109 : decode cX12_holds 109 = .ok (.if_icmp .ge 7, 3) := by decide +kernel
theorem dX12_holds_112 : decode cX12_holds 112 = .ok (.iconst 1, 1) := by decide +kernel
theorem dX12_holds_113 : decode cX12_holds 113 = .ok (.goto 40, 3) := by decide +kernel
theorem dX12_holds_116 : decode cX12_holds 116 = .ok (.iconst 0, 1) := by decide +kernel
theorem dX12_holds_117 : decode cX12_holds 117 = .ok (.goto 36, 3) := by decide +kernel
theorem dX12_holds_120 : decode cX12_holds 120 = .ok (.iload 6, 2) := by decide +kernel
theorem dX12_holds_122 : decode cX12_holds 122 = .ok (.iconst 1, 1) := by decide +kernel
theorem dX12_holds_123 : decode cX12_holds 123 = .ok (.if_icmp .ne 18, 3) := by decide +kernel
theorem dX12_holds_126 : decode cX12_holds 126 = .ok (.iload 7, 2) := by decide +kernel
theorem dX12_holds_128 : decode cX12_holds 128 = .ok (.iload 8, 2) := by decide +kernel
theorem dX12_holds_130 : decode cX12_holds 130 = .ok (.if_icmp .ne 7, 3) := by decide +kernel
theorem dX12_holds_133 : decode cX12_holds 133 = .ok (.iconst 1, 1) := by decide +kernel
theorem dX12_holds_134 : decode cX12_holds 134 = .ok (.goto 19, 3) := by decide +kernel
theorem dX12_holds_137 : decode cX12_holds 137 = .ok (.iconst 0, 1) := by decide +kernel
theorem dX12_holds_138 : decode cX12_holds 138 = .ok (.goto 15, 3) := by decide +kernel
theorem dX12_holds_141 : decode cX12_holds 141 = .ok (.iload 7, 2) := by decide +kernel
theorem dX12_holds_143 : decode cX12_holds 143 = .ok (.iload 8, 2) := by decide +kernel
theorem dX12_holds_145 : decode cX12_holds 145 = .ok (.if_icmp .le 7, 3) := by decide +kernel
theorem dX12_holds_148 : decode cX12_holds 148 = .ok (.iconst 1, 1) := by decide +kernel
theorem dX12_holds_149 : decode cX12_holds 149 = .ok (.goto 4, 3) := by decide +kernel
theorem dX12_holds_152 : decode cX12_holds 152 = .ok (.iconst 0, 1) := by decide +kernel
theorem dX12_holds_153 : decode cX12_holds 153 = .ok (.istore 9, 2) := by decide +kernel
theorem dX12_holds_155 : decode cX12_holds 155 = .ok (.ldc2_w 99, 3) := by decide +kernel
theorem dX12_holds_158 : decode cX12_holds 158 = .ok (.lload_n 3, 1) := by decide +kernel
theorem dX12_holds_159 : decode cX12_holds 159 = .ok (.lmul, 1) := by decide +kernel
theorem dX12_holds_160 : decode cX12_holds 160 = .ok (.iload 9, 2) := by decide +kernel
theorem dX12_holds_162 : decode cX12_holds 162 = .ok (.ifCond .eq 7, 3) := by decide +kernel
theorem dX12_holds_165 : decode cX12_holds 165 = .ok (.lconst 1, 1) := by decide +kernel
theorem dX12_holds_166 : decode cX12_holds 166 = .ok (.goto 4, 3) := by decide +kernel
theorem dX12_holds_169 : decode cX12_holds 169 = .ok (.lconst 0, 1) := by decide +kernel
theorem dX12_holds_170 : decode cX12_holds 170 = .ok (.ladd, 1) := by decide +kernel
theorem dX12_holds_171 : decode cX12_holds 171 = .ok (.lstore_n 3, 1) := by decide +kernel
theorem dX12_holds_172 : decode cX12_holds 172 = .ok (.goto 57, 3) := by decide +kernel
theorem dX12_holds_175 : decode cX12_holds 175 = .ok (.iload 6, 2) := by decide +kernel
theorem dX12_holds_177 : decode cX12_holds 177 = .ok (.iconst 3, 1) := by decide +kernel
theorem dX12_holds_178 : decode cX12_holds 178 = .ok (.if_icmp .ne 10, 3) := by decide +kernel
theorem dX12_holds_181 : decode cX12_holds 181 = .ok (.lload_n 3, 1) := by decide +kernel
theorem dX12_holds_182 : decode cX12_holds 182 = .ok (.lconst 1, 1) := by decide +kernel
theorem dX12_holds_183 : decode cX12_holds 183 = .ok (.lxor, 1) := by decide +kernel
theorem dX12_holds_184 : decode cX12_holds 184 = .ok (.lstore_n 3, 1) := by decide +kernel
theorem dX12_holds_185 : decode cX12_holds 185 = .ok (.goto 44, 3) := by decide +kernel
theorem dX12_holds_188 : decode cX12_holds 188 = .ok (.lload_n 3, 1) := by decide +kernel
theorem dX12_holds_189 : decode cX12_holds 189 = .ok (.lconst 1, 1) := by decide +kernel
theorem dX12_holds_190 : decode cX12_holds 190 = .ok (.land, 1) := by decide +kernel
theorem dX12_holds_191 : decode cX12_holds 191 = .ok (.lstore 7, 2) := by decide +kernel
theorem dX12_holds_193 : decode cX12_holds 193 = .ok (.lload_n 3, 1) := by decide +kernel
theorem dX12_holds_194 : decode cX12_holds 194 = .ok (.ldc2_w 99, 3) := by decide +kernel
theorem dX12_holds_197 : decode cX12_holds 197 = .ok (.ldiv, 1) := by decide +kernel
theorem dX12_holds_198 : decode cX12_holds 198 = .ok (.lstore_n 3, 1) := by decide +kernel
theorem dX12_holds_199 : decode cX12_holds 199 = .ok (.iload 6, 2) := by decide +kernel
theorem dX12_holds_201 : decode cX12_holds 201 = .ok (.iconst 4, 1) := by decide +kernel
theorem dX12_holds_202 : decode cX12_holds 202 = .ok (.if_icmp .eq 10, 3) := by decide +kernel
theorem dX12_holds_205 : decode cX12_holds 205 = .ok (.lload_n 3, 1) := by decide +kernel
theorem dX12_holds_206 : decode cX12_holds 206 = .ok (.lload 7, 2) := by decide +kernel
theorem dX12_holds_208 : decode cX12_holds 208 = .ok (.lor, 1) := by decide +kernel
theorem dX12_holds_209 : decode cX12_holds 209 = .ok (.goto 19, 3) := by decide +kernel
theorem dX12_holds_212 : decode cX12_holds 212 = .ok (.lload 7, 2) := by decide +kernel
theorem dX12_holds_214 : decode cX12_holds 214 = .ok (.lconst 1, 1) := by decide +kernel
theorem dX12_holds_215 : decode cX12_holds 215 = .ok (.lcmp, 1) := by decide +kernel
theorem dX12_holds_216 : decode cX12_holds 216 = .ok (.ifCond .ne 7, 3) := by decide +kernel
theorem dX12_holds_219 : decode cX12_holds 219 = .ok (.lload_n 3, 1) := by decide +kernel
theorem dX12_holds_220 : decode cX12_holds 220 = .ok (.goto 8, 3) := by decide +kernel
theorem dX12_holds_223 : decode cX12_holds 223 = .ok (.lload_n 3, 1) := by decide +kernel
theorem dX12_holds_224 : decode cX12_holds 224 = .ok (.ldc2_w 101, 3) := by decide +kernel
theorem dX12_holds_227 : decode cX12_holds 227 = .ok (.land, 1) := by decide +kernel
theorem dX12_holds_228 : decode cX12_holds 228 = .ok (.lstore_n 3, 1) := by decide +kernel
theorem dX12_holds_229 : decode cX12_holds 229 = .ok (.iinc 5 1, 3) := by decide +kernel
theorem dX12_holds_232 : decode cX12_holds 232 = .ok (.goto (-215), 3) := by decide +kernel
theorem dX12_holds_235 : decode cX12_holds 235 = .ok (.lload_n 3, 1) := by decide +kernel
theorem dX12_holds_236 : decode cX12_holds 236 = .ok (.ldc2_w 99, 3) := by decide +kernel
theorem dX12_holds_239 : decode cX12_holds 239 = .ok (.lrem, 1) := by decide +kernel
theorem dX12_holds_240 : decode cX12_holds 240 = .ok (.lconst 1, 1) := by decide +kernel
theorem dX12_holds_241 : decode cX12_holds 241 = .ok (.lcmp, 1) := by decide +kernel
theorem dX12_holds_242 : decode cX12_holds 242 = .ok (.ifCond .ne 7, 3) := by decide +kernel
theorem dX12_holds_245 : decode cX12_holds 245 = .ok (.iconst 1, 1) := by decide +kernel
theorem dX12_holds_246 : decode cX12_holds 246 = .ok (.goto 4, 3) := by decide +kernel
theorem dX12_holds_249 : decode cX12_holds 249 = .ok (.iconst 0, 1) := by decide +kernel
theorem dX12_holds_250 : decode cX12_holds 250 = .ok (.ireturn, 1) := by decide +kernel
theorem dX12_will_0 : decode cX12_will 0 = .ok (.iconst 0, 1) := by decide +kernel
theorem dX12_will_1 : decode cX12_will 1 = .ok (.istore_n 2, 1) := by decide +kernel
theorem dX12_will_2 : decode cX12_will 2 = .ok (.iload_n 2, 1) := by decide +kernel
theorem dX12_will_3 : decode cX12_will 3 = .ok (.aload_n 0, 1) := by decide +kernel
theorem dX12_will_4 : decode cX12_will 4 = .ok (.getfield 7, 3) := by decide +kernel
theorem dX12_will_7 : decode cX12_will 7 = .ok (.iconst 5, 1) := by decide +kernel
theorem dX12_will_8 : decode cX12_will 8 = .ok (.iaload, 1) := by decide +kernel
theorem dX12_will_9 : decode cX12_will 9 = .ok (.if_icmp .ge 55, 3) := by decide +kernel
theorem dX12_will_12 : decode cX12_will 12 = .ok (.aload_n 0, 1) := by decide +kernel
theorem dX12_will_13 : decode cX12_will 13 = .ok (.iload_n 1, 1) := by decide +kernel
theorem dX12_will_14 : decode cX12_will 14 = .ok (.iconst 0, 1) := by decide +kernel
theorem dX12_will_15 : decode cX12_will 15 = .ok (.invokevirtual 79, 3) := by decide +kernel
theorem dX12_will_18 : decode cX12_will 18 = .ok (.aload_n 0, 1) := by decide +kernel
theorem dX12_will_19 : decode cX12_will 19 = .ok (.getfield 7, 3) := by decide +kernel
theorem dX12_will_22 : decode cX12_will 22 = .ok (.bipush 74, 2) := by decide +kernel
theorem dX12_will_24 : decode cX12_will 24 = .ok (.iconst 4, 1) := by decide +kernel
theorem dX12_will_25 : decode cX12_will 25 = .ok (.iload_n 2, 1) := by decide +kernel
theorem dX12_will_26 : decode cX12_will 26 = .ok (.imul, 1) := by decide +kernel
theorem dX12_will_27 : decode cX12_will 27 = .ok (.iadd, 1) := by decide +kernel
theorem dX12_will_28 : decode cX12_will 28 = .ok (.iaload, 1) := by decide +kernel
theorem dX12_will_29 : decode cX12_will 29 = .ok (.invokestatic 103, 3) := by decide +kernel
theorem dX12_will_32 : decode cX12_will 32 = .ok (.ifCond .eq 26, 3) := by decide +kernel
theorem dX12_will_35 : decode cX12_will 35 = .ok (.aload_n 0, 1) := by decide +kernel
theorem dX12_will_36 : decode cX12_will 36 = .ok (.iload_n 2, 1) := by decide +kernel
theorem dX12_will_37 : decode cX12_will 37 = .ok (.iload_n 1, 1) := by decide +kernel
theorem dX12_will_38 : decode cX12_will 38 = .ok (.invokevirtual 107, 3) := by decide +kernel
theorem dX12_will_41 : decode cX12_will 41 = .ok (.ifCond .eq 17, 3) := by decide +kernel
theorem dX12_will_44 : decode cX12_will 44 = .ok (.aload_n 0, 1) := by decide +kernel
theorem dX12_will_45 : decode cX12_will 45 = .ok (.getfield 7, 3) := by decide +kernel
theorem dX12_will_48 : decode cX12_will 48 = .ok (.bipush 74, 2) := by decide +kernel
theorem dX12_will_50 : decode cX12_will 50 = .ok (.iconst 4, 1) := by decide +kernel
theorem dX12_will_51 : decode cX12_will 51 = .ok (.iload_n 2, 1) := by decide +kernel
theorem dX12_will_52 : decode cX12_will 52 = .ok (.imul, 1) := by decide +kernel
theorem dX12_will_53 : decode cX12_will 53 = .ok (.iadd, 1) := by decide +kernel
theorem dX12_will_54 : decode cX12_will 54 = .ok (.iconst 1, 1) := by decide +kernel
theorem dX12_will_55 : decode cX12_will 55 = .ok (.iadd, 1) := by decide +kernel
theorem dX12_will_56 : decode cX12_will 56 = .ok (.iaload, 1) := by decide +kernel
theorem dX12_will_57 : decode cX12_will 57 = .ok (.ireturn, 1) := by decide +kernel
theorem dX12_will_58 : decode cX12_will 58 = .ok (.iinc 2 1, 3) := by decide +kernel
theorem dX12_will_61 : decode cX12_will 61 = .ok (.goto (-59), 3) := by decide +kernel
theorem dX12_will_64 : decode cX12_will 64 = .ok (.iconst 0, 1) := by decide +kernel
theorem dX12_will_65 : decode cX12_will 65 = .ok (.ireturn, 1) := by decide +kernel
theorem dX12_guildOf_0 : decode cX12_guildOf 0 = .ok (.aload_n 0, 1) := by decide +kernel
theorem dX12_guildOf_1 : decode cX12_guildOf 1 = .ok (.iload_n 1, 1) := by decide +kernel
theorem dX12_guildOf_2 : decode cX12_guildOf 2 = .ok (.invokevirtual 110, 3) := by decide +kernel
theorem dX12_guildOf_5 : decode cX12_guildOf 5 = .ok (.ifCond .eq 15, 3) := by decide +kernel
theorem dX12_guildOf_8 : decode cX12_guildOf 8 = .ok (.iload_n 2, 1) := by decide +kernel
theorem dX12_guildOf_9 : decode cX12_guildOf 9 = .ok (.i2l, 1) := by decide +kernel
theorem dX12_guildOf_10 : decode cX12_guildOf 10 = .ok (.lconst 0, 1) := by decide +kernel
theorem dX12_guildOf_11 : decode cX12_guildOf 11 = .ok (.ldc2_w 69, 3) := by decide +kernel
theorem dX12_guildOf_14 : decode cX12_guildOf 14 = .ok (.invokestatic 63, 3) := by decide +kernel
theorem dX12_guildOf_17 : decode cX12_guildOf 17 = .ok (.ifCond .ne 5, 3) := by decide +kernel
theorem dX12_guildOf_20 : decode cX12_guildOf 20 = .ok (.iconst (-1), 1) := by decide +kernel
theorem dX12_guildOf_21 : decode cX12_guildOf 21 = .ok (.ireturn, 1) := by decide +kernel
theorem dX12_guildOf_22 : decode cX12_guildOf 22 = .ok (.iload_n 2, 1) := by decide +kernel
theorem dX12_guildOf_23 : decode cX12_guildOf 23 = .ok (.tableswitch 56 6 9 #[29, 38, 44, 50], 29) := by decide +kernel
theorem dX12_guildOf_52 : decode cX12_guildOf 52 = .ok (.bipush 10, 2) := by decide +kernel
theorem dX12_guildOf_54 : decode cX12_guildOf 54 = .ok (.aload_n 0, 1) := by decide +kernel
theorem dX12_guildOf_55 : decode cX12_guildOf 55 = .ok (.iload_n 1, 1) := by decide +kernel
theorem dX12_guildOf_56 : decode cX12_guildOf 56 = .ok (.invokevirtual 113, 3) := by decide +kernel
theorem dX12_guildOf_59 : decode cX12_guildOf 59 = .ok (.iadd, 1) := by decide +kernel
theorem dX12_guildOf_60 : decode cX12_guildOf 60 = .ok (.ireturn, 1) := by decide +kernel
theorem dX12_guildOf_61 : decode cX12_guildOf 61 = .ok (.aload_n 0, 1) := by decide +kernel
theorem dX12_guildOf_62 : decode cX12_guildOf 62 = .ok (.iload_n 1, 1) := by decide +kernel
theorem dX12_guildOf_63 : decode cX12_guildOf 63 = .ok (.invokevirtual 116, 3) := by decide +kernel
theorem dX12_guildOf_66 : decode cX12_guildOf 66 = .ok (.ireturn, 1) := by decide +kernel
theorem dX12_guildOf_67 : decode cX12_guildOf 67 = .ok (.aload_n 0, 1) := by decide +kernel
theorem dX12_guildOf_68 : decode cX12_guildOf 68 = .ok (.iload_n 1, 1) := by decide +kernel
theorem dX12_guildOf_69 : decode cX12_guildOf 69 = .ok (.invokevirtual 119, 3) := by decide +kernel
theorem dX12_guildOf_72 : decode cX12_guildOf 72 = .ok (.ireturn, 1) := by decide +kernel
theorem dX12_guildOf_73 : decode cX12_guildOf 73 = .ok (.aload_n 0, 1) := by decide +kernel
theorem dX12_guildOf_74 : decode cX12_guildOf 74 = .ok (.iload_n 1, 1) := by decide +kernel
theorem dX12_guildOf_75 : decode cX12_guildOf 75 = .ok (.invokevirtual 93, 3) := by decide +kernel
theorem dX12_guildOf_78 : decode cX12_guildOf 78 = .ok (.ireturn, 1) := by decide +kernel
theorem dX12_guildOf_79 : decode cX12_guildOf 79 = .ok (.aload_n 0, 1) := by decide +kernel
theorem dX12_guildOf_80 : decode cX12_guildOf 80 = .ok (.iload_n 1, 1) := by decide +kernel
theorem dX12_guildOf_81 : decode cX12_guildOf 81 = .ok (.iload_n 2, 1) := by decide +kernel
theorem dX12_guildOf_82 : decode cX12_guildOf 82 = .ok (.invokevirtual 79, 3) := by decide +kernel
theorem dX12_guildOf_85 : decode cX12_guildOf 85 = .ok (.ireturn, 1) := by decide +kernel
theorem dX12_greatestOf_0 : decode cX12_greatestOf 0 = .ok (.iload_n 0, 1) := by decide +kernel
theorem dX12_greatestOf_1 : decode cX12_greatestOf 1 = .ok (.iconst 1, 1) := by decide +kernel
theorem dX12_greatestOf_2 : decode cX12_greatestOf 2 = .ok (.if_icmp .ne 8, 3) := by decide +kernel
theorem dX12_greatestOf_5 : decode cX12_greatestOf 5 = .ok (.bipush 60, 2) := by decide +kernel
theorem dX12_greatestOf_7 : decode cX12_greatestOf 7 = .ok (.goto 23, 3) := by decide +kernel
theorem dX12_greatestOf_10 : decode cX12_greatestOf 10 = .ok (.iload_n 0, 1) := by decide +kernel
theorem dX12_greatestOf_11 : decode cX12_greatestOf 11 = .ok (.iconst 2, 1) := by decide +kernel
theorem dX12_greatestOf_12 : decode cX12_greatestOf 12 = .ok (.if_icmp .ne 8, 3) := by decide +kernel
theorem dX12_greatestOf_15 : decode cX12_greatestOf 15 = .ok (.bipush 9, 2) := by decide +kernel
theorem dX12_greatestOf_17 : decode cX12_greatestOf 17 = .ok (.goto 13, 3) := by decide +kernel
theorem dX12_greatestOf_20 : decode cX12_greatestOf 20 = .ok (.iload_n 0, 1) := by decide +kernel
theorem dX12_greatestOf_21 : decode cX12_greatestOf 21 = .ok (.iconst 3, 1) := by decide +kernel
theorem dX12_greatestOf_22 : decode cX12_greatestOf 22 = .ok (.if_icmp .ne 7, 3) := by decide +kernel
theorem dX12_greatestOf_25 : decode cX12_greatestOf 25 = .ok (.iconst 5, 1) := by decide +kernel
theorem dX12_greatestOf_26 : decode cX12_greatestOf 26 = .ok (.goto 4, 3) := by decide +kernel
theorem dX12_greatestOf_29 : decode cX12_greatestOf 29 = .ok (.iconst 1, 1) := by decide +kernel
theorem dX12_greatestOf_30 : decode cX12_greatestOf 30 = .ok (.ireturn, 1) := by decide +kernel
theorem dX12_change_0 : decode cX12_change 0 = .ok (.aload_n 0, 1) := by decide +kernel
theorem dX12_change_1 : decode cX12_change 1 = .ok (.iload_n 1, 1) := by decide +kernel
theorem dX12_change_2 : decode cX12_change 2 = .ok (.invokevirtual 110, 3) := by decide +kernel
theorem dX12_change_5 : decode cX12_change 5 = .ok (.ifCond .eq 33, 3) := by decide +kernel
theorem dX12_change_8 : decode cX12_change 8 = .ok (.iload_n 2, 1) := by decide +kernel
theorem dX12_change_9 : decode cX12_change 9 = .ok (.i2l, 1) := by decide +kernel
theorem dX12_change_10 : decode cX12_change 10 = .ok (.lconst 1, 1) := by decide +kernel
theorem dX12_change_11 : decode cX12_change 11 = .ok (.ldc2_w 61, 3) := by decide +kernel
theorem dX12_change_14 : decode cX12_change 14 = .ok (.invokestatic 63, 3) := by decide +kernel
theorem dX12_change_17 : decode cX12_change 17 = .ok (.ifCond .eq 21, 3) := by decide +kernel
theorem dX12_change_20 : decode cX12_change 20 = .ok (.iload_n 3, 1) := by decide +kernel
theorem dX12_change_21 : decode cX12_change 21 = .ok (.i2l, 1) := by decide +kernel
theorem dX12_change_22 : decode cX12_change 22 = .ok (.lconst 0, 1) := by decide +kernel
theorem dX12_change_23 : decode cX12_change 23 = .ok (.iload_n 2, 1) := by decide +kernel
theorem dX12_change_24 : decode cX12_change 24 = .ok (.invokestatic 122, 3) := by decide +kernel
theorem dX12_change_27 : decode cX12_change 27 = .ok (.i2l, 1) := by decide +kernel
theorem dX12_change_28 : decode cX12_change 28 = .ok (.invokestatic 63, 3) := by decide +kernel
theorem dX12_change_31 : decode cX12_change 31 = .ok (.ifCond .eq 7, 3) := by decide +kernel
theorem dX12_change_34 : decode cX12_change 34 = .ok (.iconst 1, 1) := by decide +kernel
theorem dX12_change_35 : decode cX12_change 35 = .ok (.goto 4, 3) := by decide +kernel
theorem dX12_change_38 : decode cX12_change 38 = .ok (.iconst 0, 1) := by decide +kernel
theorem dX12_change_39 : decode cX12_change 39 = .ok (.istore 4, 2) := by decide +kernel
theorem dX12_change_41 : decode cX12_change 41 = .ok (.iload 4, 2) := by decide +kernel
theorem dX12_change_43 : decode cX12_change 43 = .ok (.ifCond .eq 20, 3) := by decide +kernel
theorem dX12_change_46 : decode cX12_change 46 = .ok (.aload_n 0, 1) := by decide +kernel
theorem dX12_change_47 : decode cX12_change 47 = .ok (.bipush 10, 2) := by decide +kernel
theorem dX12_change_49 : decode cX12_change 49 = .ok (.bipush 6, 2) := by decide +kernel
theorem dX12_change_51 : decode cX12_change 51 = .ok (.iload_n 1, 1) := by decide +kernel
theorem dX12_change_52 : decode cX12_change 52 = .ok (.imul, 1) := by decide +kernel
theorem dX12_change_53 : decode cX12_change 53 = .ok (.iadd, 1) := by decide +kernel
theorem dX12_change_54 : decode cX12_change 54 = .ok (.iload_n 2, 1) := by decide +kernel
theorem dX12_change_55 : decode cX12_change 55 = .ok (.iadd, 1) := by decide +kernel
theorem dX12_change_56 : decode cX12_change 56 = .ok (.iload_n 3, 1) := by decide +kernel
theorem dX12_change_57 : decode cX12_change 57 = .ok (.invokevirtual 125, 3) := by decide +kernel
theorem dX12_change_60 : decode cX12_change 60 = .ok (.goto 4, 3) := by decide +kernel
theorem dX12_change_63 : decode cX12_change 63 = .ok (.iconst (-1), 1) := by decide +kernel
theorem dX12_change_64 : decode cX12_change 64 = .ok (.ireturn, 1) := by decide +kernel
theorem dX12_remake_0 : decode cX12_remake 0 = .ok (.aload_n 0, 1) := by decide +kernel
theorem dX12_remake_1 : decode cX12_remake 1 = .ok (.iload_n 1, 1) := by decide +kernel
theorem dX12_remake_2 : decode cX12_remake 2 = .ok (.invokevirtual 110, 3) := by decide +kernel
theorem dX12_remake_5 : decode cX12_remake 5 = .ok (.ifCond .eq 30, 3) := by decide +kernel
theorem dX12_remake_8 : decode cX12_remake 8 = .ok (.iload_n 2, 1) := by decide +kernel
theorem dX12_remake_9 : decode cX12_remake 9 = .ok (.i2l, 1) := by decide +kernel
theorem dX12_remake_10 : decode cX12_remake 10 = .ok (.lconst 1, 1) := by decide +kernel
theorem dX12_remake_11 : decode cX12_remake 11 = .ok (.ldc2_w 61, 3) := by decide +kernel
theorem dX12_remake_14 : decode cX12_remake 14 = .ok (.invokestatic 63, 3) := by decide +kernel
theorem dX12_remake_17 : decode cX12_remake 17 = .ok (.ifCond .eq 18, 3) := by decide +kernel
theorem dX12_remake_20 : decode cX12_remake 20 = .ok (.aload_n 0, 1) := by decide +kernel
theorem dX12_remake_21 : decode cX12_remake 21 = .ok (.bipush 10, 2) := by decide +kernel
theorem dX12_remake_23 : decode cX12_remake 23 = .ok (.bipush 6, 2) := by decide +kernel
theorem dX12_remake_25 : decode cX12_remake 25 = .ok (.iload_n 1, 1) := by decide +kernel
theorem dX12_remake_26 : decode cX12_remake 26 = .ok (.imul, 1) := by decide +kernel
theorem dX12_remake_27 : decode cX12_remake 27 = .ok (.iadd, 1) := by decide +kernel
theorem dX12_remake_28 : decode cX12_remake 28 = .ok (.iload_n 2, 1) := by decide +kernel
theorem dX12_remake_29 : decode cX12_remake 29 = .ok (.invokevirtual 125, 3) := by decide +kernel
theorem dX12_remake_32 : decode cX12_remake 32 = .ok (.goto 4, 3) := by decide +kernel
theorem dX12_remake_35 : decode cX12_remake 35 = .ok (.iconst (-1), 1) := by decide +kernel
theorem dX12_remake_36 : decode cX12_remake 36 = .ok (.ireturn, 1) := by decide +kernel
theorem dX12_news_0 : decode cX12_news 0 = .ok (.iload_n 1, 1) := by decide +kernel
theorem dX12_news_1 : decode cX12_news 1 = .ok (.i2l, 1) := by decide +kernel
theorem dX12_news_2 : decode cX12_news 2 = .ok (.lconst 0, 1) := by decide +kernel
theorem dX12_news_3 : decode cX12_news 3 = .ok (.ldc2_w 128, 3) := by decide +kernel
theorem dX12_news_6 : decode cX12_news 6 = .ok (.invokestatic 63, 3) := by decide +kernel
theorem dX12_news_9 : decode cX12_news 9 = .ok (.ifCond .eq 27, 3) := by decide +kernel
theorem dX12_news_12 : decode cX12_news 12 = .ok (.iload_n 2, 1) := by decide +kernel
theorem dX12_news_13 : decode cX12_news 13 = .ok (.i2l, 1) := by decide +kernel
theorem dX12_news_14 : decode cX12_news 14 = .ok (.lconst 0, 1) := by decide +kernel
theorem dX12_news_15 : decode cX12_news 15 = .ok (.ldc2_w 128, 3) := by decide +kernel
theorem dX12_news_18 : decode cX12_news 18 = .ok (.invokestatic 63, 3) := by decide +kernel
theorem dX12_news_21 : decode cX12_news 21 = .ok (.ifCond .eq 15, 3) := by decide +kernel
theorem dX12_news_24 : decode cX12_news 24 = .ok (.aload_n 0, 1) := by decide +kernel
theorem dX12_news_25 : decode cX12_news 25 = .ok (.bipush 58, 2) := by decide +kernel
theorem dX12_news_27 : decode cX12_news 27 = .ok (.iload_n 1, 1) := by decide +kernel
theorem dX12_news_28 : decode cX12_news 28 = .ok (.iadd, 1) := by decide +kernel
theorem dX12_news_29 : decode cX12_news 29 = .ok (.iload_n 2, 1) := by decide +kernel
theorem dX12_news_30 : decode cX12_news 30 = .ok (.invokevirtual 125, 3) := by decide +kernel
theorem dX12_news_33 : decode cX12_news 33 = .ok (.goto 4, 3) := by decide +kernel
theorem dX12_news_36 : decode cX12_news 36 = .ok (.iconst (-1), 1) := by decide +kernel
theorem dX12_news_37 : decode cX12_news 37 = .ok (.ireturn, 1) := by decide +kernel
theorem dX12_street_0 : decode cX12_street 0 = .ok (.iload_n 1, 1) := by decide +kernel
theorem dX12_street_1 : decode cX12_street 1 = .ok (.invokestatic 71, 3) := by decide +kernel
theorem dX12_street_4 : decode cX12_street 4 = .ok (.ifCond .eq 35, 3) := by decide +kernel
theorem dX12_street_7 : decode cX12_street 7 = .ok (.iload_n 2, 1) := by decide +kernel
theorem dX12_street_8 : decode cX12_street 8 = .ok (.i2l, 1) := by decide +kernel
theorem dX12_street_9 : decode cX12_street 9 = .ok (.lconst 0, 1) := by decide +kernel
theorem dX12_street_10 : decode cX12_street 10 = .ok (.lconst 1, 1) := by decide +kernel
theorem dX12_street_11 : decode cX12_street 11 = .ok (.invokestatic 63, 3) := by decide +kernel
theorem dX12_street_14 : decode cX12_street 14 = .ok (.ifCond .eq 25, 3) := by decide +kernel
theorem dX12_street_17 : decode cX12_street 17 = .ok (.iload_n 3, 1) := by decide +kernel
theorem dX12_street_18 : decode cX12_street 18 = .ok (.i2l, 1) := by decide +kernel
theorem dX12_street_19 : decode cX12_street 19 = .ok (.lconst 0, 1) := by decide +kernel
theorem dX12_street_20 : decode cX12_street 20 = .ok (.iload_n 2, 1) := by decide +kernel
theorem dX12_street_21 : decode cX12_street 21 = .ok (.ifCond .ne 9, 3) := by decide +kernel
theorem dX12_street_24 : decode cX12_street 24 = .ok (.ldc2_w 69, 3) := by decide +kernel
theorem dX12_street_27 : decode cX12_street 27 = .ok (.goto 6, 3) := by decide +kernel
theorem dX12_street_30 : decode cX12_street 30 = .ok (.ldc2_w 130, 3) := by decide +kernel
theorem dX12_street_33 : decode cX12_street 33 = .ok (.invokestatic 63, 3) := by decide +kernel
theorem dX12_street_36 : decode cX12_street 36 = .ok (.ifCond .ne 5, 3) := by decide +kernel
theorem dX12_street_39 : decode cX12_street 39 = .ok (.iconst (-1), 1) := by decide +kernel
theorem dX12_street_40 : decode cX12_street 40 = .ok (.ireturn, 1) := by decide +kernel
theorem dX12_street_41 : decode cX12_street 41 = .ok (.aload_n 0, 1) := by decide +kernel
theorem dX12_street_42 : decode cX12_street 42 = .ok (.iload_n 2, 1) := by decide +kernel
theorem dX12_street_43 : decode cX12_street 43 = .ok (.ifCond .ne 8, 3) := by decide +kernel
theorem dX12_street_46 : decode cX12_street 46 = .ok (.bipush 46, 2) := by decide +kernel
theorem dX12_street_48 : decode cX12_street 48 = .ok (.goto 5, 3) := by decide +kernel
theorem dX12_street_51 : decode cX12_street 51 = .ok (.bipush 52, 2) := by decide +kernel
theorem dX12_street_53 : decode cX12_street 53 = .ok (.iload_n 1, 1) := by decide +kernel
theorem dX12_street_54 : decode cX12_street 54 = .ok (.iadd, 1) := by decide +kernel
theorem dX12_street_55 : decode cX12_street 55 = .ok (.iload_n 3, 1) := by decide +kernel
theorem dX12_street_56 : decode cX12_street 56 = .ok (.invokevirtual 125, 3) := by decide +kernel
theorem dX12_street_59 : decode cX12_street 59 = .ok (.ireturn, 1) := by decide +kernel
theorem dX12_streetOf_0 : decode cX12_streetOf 0 = .ok (.iload_n 1, 1) := by decide +kernel
theorem dX12_streetOf_1 : decode cX12_streetOf 1 = .ok (.invokestatic 71, 3) := by decide +kernel
theorem dX12_streetOf_4 : decode cX12_streetOf 4 = .ok (.ifCond .eq 13, 3) := by decide +kernel
theorem dX12_streetOf_7 : decode cX12_streetOf 7 = .ok (.iload_n 2, 1) := by decide +kernel
theorem dX12_streetOf_8 : decode cX12_streetOf 8 = .ok (.i2l, 1) := by decide +kernel
theorem dX12_streetOf_9 : decode cX12_streetOf 9 = .ok (.lconst 0, 1) := by decide +kernel
theorem dX12_streetOf_10 : decode cX12_streetOf 10 = .ok (.lconst 1, 1) := by decide +kernel
theorem dX12_streetOf_11 : decode cX12_streetOf 11 = .ok (.invokestatic 63, 3) := by decide +kernel
theorem dX12_streetOf_14 : decode cX12_streetOf 14 = .ok (.ifCond .ne 5, 3) := by decide +kernel
theorem dX12_streetOf_17 : decode cX12_streetOf 17 = .ok (.iconst (-1), 1) := by decide +kernel
theorem dX12_streetOf_18 : decode cX12_streetOf 18 = .ok (.ireturn, 1) := by decide +kernel
theorem dX12_streetOf_19 : decode cX12_streetOf 19 = .ok (.aload_n 0, 1) := by decide +kernel
theorem dX12_streetOf_20 : decode cX12_streetOf 20 = .ok (.getfield 7, 3) := by decide +kernel
theorem dX12_streetOf_23 : decode cX12_streetOf 23 = .ok (.iload_n 2, 1) := by decide +kernel
theorem dX12_streetOf_24 : decode cX12_streetOf 24 = .ok (.ifCond .ne 8, 3) := by decide +kernel
theorem dX12_streetOf_27 : decode cX12_streetOf 27 = .ok (.bipush 46, 2) := by decide +kernel
theorem dX12_streetOf_29 : decode cX12_streetOf 29 = .ok (.goto 5, 3) := by decide +kernel
theorem dX12_streetOf_32 : decode cX12_streetOf 32 = .ok (.bipush 52, 2) := by decide +kernel
theorem dX12_streetOf_34 : decode cX12_streetOf 34 = .ok (.iload_n 1, 1) := by decide +kernel
theorem dX12_streetOf_35 : decode cX12_streetOf 35 = .ok (.iadd, 1) := by decide +kernel
theorem dX12_streetOf_36 : decode cX12_streetOf 36 = .ok (.iaload, 1) := by decide +kernel
theorem dX12_streetOf_37 : decode cX12_streetOf 37 = .ok (.ireturn, 1) := by decide +kernel
theorem dX12_heart_0 : decode cX12_heart 0 = .ok (.iload_n 1, 1) := by decide +kernel
theorem dX12_heart_1 : decode cX12_heart 1 = .ok (.i2l, 1) := by decide +kernel
theorem dX12_heart_2 : decode cX12_heart 2 = .ok (.lconst 0, 1) := by decide +kernel
theorem dX12_heart_3 : decode cX12_heart 3 = .ok (.lconst 1, 1) := by decide +kernel
theorem dX12_heart_4 : decode cX12_heart 4 = .ok (.invokestatic 63, 3) := by decide +kernel
theorem dX12_heart_7 : decode cX12_heart 7 = .ok (.ifCond .eq 37, 3) := by decide +kernel
theorem dX12_heart_10 : decode cX12_heart 10 = .ok (.iload_n 2, 1) := by decide +kernel
theorem dX12_heart_11 : decode cX12_heart 11 = .ok (.i2l, 1) := by decide +kernel
theorem dX12_heart_12 : decode cX12_heart 12 = .ok (.lconst 0, 1) := by decide +kernel
theorem dX12_heart_13 : decode cX12_heart 13 = .ok (.iload_n 1, 1) := by decide +kernel
theorem dX12_heart_14 : decode cX12_heart 14 = .ok (.ifCond .ne 9, 3) := by decide +kernel
theorem dX12_heart_17 : decode cX12_heart 17 = .ok (.ldc2_w 69, 3) := by decide +kernel
theorem dX12_heart_20 : decode cX12_heart 20 = .ok (.goto 6, 3) := by decide +kernel
theorem dX12_heart_23 : decode cX12_heart 23 = .ok (.ldc2_w 132, 3) := by decide +kernel
theorem dX12_heart_26 : decode cX12_heart 26 = .ok (.invokestatic 63, 3) := by decide +kernel
theorem dX12_heart_29 : decode cX12_heart 29 = .ok (.ifCond .eq 15, 3) := by decide +kernel
theorem dX12_heart_32 : decode cX12_heart 32 = .ok (.aload_n 0, 1) := by decide +kernel
theorem dX12_heart_33 : decode cX12_heart 33 = .ok (.bipush 8, 2) := by decide +kernel
theorem dX12_heart_35 : decode cX12_heart 35 = .ok (.iload_n 1, 1) := by decide +kernel
theorem dX12_heart_36 : decode cX12_heart 36 = .ok (.iadd, 1) := by decide +kernel
theorem dX12_heart_37 : decode cX12_heart 37 = .ok (.iload_n 2, 1) := by decide +kernel
theorem dX12_heart_38 : decode cX12_heart 38 = .ok (.invokevirtual 125, 3) := by decide +kernel
theorem dX12_heart_41 : decode cX12_heart 41 = .ok (.goto 4, 3) := by decide +kernel
theorem dX12_heart_44 : decode cX12_heart 44 = .ok (.iconst (-1), 1) := by decide +kernel
theorem dX12_heart_45 : decode cX12_heart 45 = .ok (.ireturn, 1) := by decide +kernel
theorem dX12_ends_0 : decode cX12_ends 0 = .ok (.iload_n 1, 1) := by decide +kernel
theorem dX12_ends_1 : decode cX12_ends 1 = .ok (.i2l, 1) := by decide +kernel
theorem dX12_ends_2 : decode cX12_ends 2 = .ok (.lconst 1, 1) := by decide +kernel
theorem dX12_ends_3 : decode cX12_ends 3 = .ok (.ldc2_w 134, 3) := by decide +kernel
theorem dX12_ends_6 : decode cX12_ends 6 = .ok (.invokestatic 63, 3) := by decide +kernel
theorem dX12_ends_9 : decode cX12_ends 9 = .ok (.ifCond .ne 5, 3) := by decide +kernel
theorem dX12_ends_12 : decode cX12_ends 12 = .ok (.iconst (-1), 1) := by decide +kernel
theorem dX12_ends_13 : decode cX12_ends 13 = .ok (.ireturn, 1) := by decide +kernel
theorem dX12_ends_14 : decode cX12_ends 14 = .ok (.iload_n 1, 1) := by decide +kernel
theorem dX12_ends_15 : decode cX12_ends 15 = .ok (.aload_n 0, 1) := by decide +kernel
theorem dX12_ends_16 : decode cX12_ends 16 = .ok (.getfield 7, 3) := by decide +kernel
theorem dX12_ends_19 : decode cX12_ends 19 = .ok (.iconst 1, 1) := by decide +kernel
theorem dX12_ends_20 : decode cX12_ends 20 = .ok (.iaload, 1) := by decide +kernel
theorem dX12_ends_21 : decode cX12_ends 21 = .ok (.if_icmp .ge 8, 3) := by decide +kernel
theorem dX12_ends_24 : decode cX12_ends 24 = .ok (.bipush (-4), 2) := by decide +kernel
theorem dX12_ends_26 : decode cX12_ends 26 = .ok (.goto 9, 3) := by decide +kernel
theorem dX12_ends_29 : decode cX12_ends 29 = .ok (.aload_n 0, 1) := by decide +kernel
theorem dX12_ends_30 : decode cX12_ends 30 = .ok (.iconst 2, 1) := by decide +kernel
theorem dX12_ends_31 : decode cX12_ends 31 = .ok (.iload_n 1, 1) := by decide +kernel
theorem dX12_ends_32 : decode cX12_ends 32 = .ok (.invokevirtual 125, 3) := by decide +kernel
theorem dX12_ends_35 : decode cX12_ends 35 = .ok (.ireturn, 1) := by decide +kernel
theorem dX12_anew_0 : decode cX12_anew 0 = .ok (.iconst 0, 1) := by decide +kernel
theorem dX12_anew_1 : decode cX12_anew 1 = .ok (.istore_n 1, 1) := by decide +kernel
theorem dX12_anew_2 : decode cX12_anew 2 = .ok (.iload_n 1, 1) := by decide +kernel
theorem dX12_anew_3 : decode cX12_anew 3 = .ok (.aload_n 0, 1) := by decide +kernel
theorem dX12_anew_4 : decode cX12_anew 4 = .ok (.getfield 7, 3) := by decide +kernel
theorem dX12_anew_7 : decode cX12_anew 7 = .ok (.iconst 0, 1) := by decide +kernel
theorem dX12_anew_8 : decode cX12_anew 8 = .ok (.iaload, 1) := by decide +kernel
theorem dX12_anew_9 : decode cX12_anew 9 = .ok (.if_icmp .ge 39, 3) := by decide +kernel
theorem dX12_anew_12 : decode cX12_anew 12 = .ok (.aload_n 0, 1) := by decide +kernel
theorem dX12_anew_13 : decode cX12_anew 13 = .ok (.getfield 7, 3) := by decide +kernel
theorem dX12_anew_16 : decode cX12_anew 16 = .ok (.bipush 10, 2) := by decide +kernel
theorem dX12_anew_18 : decode cX12_anew 18 = .ok (.bipush 6, 2) := by decide +kernel
theorem dX12_anew_20 : decode cX12_anew 20 = .ok (.iload_n 1, 1) := by decide +kernel
theorem dX12_anew_21 : decode cX12_anew 21 = .ok (.imul, 1) := by decide +kernel
theorem dX12_anew_22 : decode cX12_anew 22 = .ok (.iadd, 1) := by decide +kernel
theorem dX12_anew_23 : decode cX12_anew 23 = .ok (.iconst 4, 1) := by decide +kernel
theorem dX12_anew_24 : decode cX12_anew 24 = .ok (.iadd, 1) := by decide +kernel
theorem dX12_anew_25 : decode cX12_anew 25 = .ok (.iconst 1, 1) := by decide +kernel
theorem dX12_anew_26 : decode cX12_anew 26 = .ok (.iastore, 1) := by decide +kernel
theorem dX12_anew_27 : decode cX12_anew 27 = .ok (.aload_n 0, 1) := by decide +kernel
theorem dX12_anew_28 : decode cX12_anew 28 = .ok (.getfield 7, 3) := by decide +kernel
theorem dX12_anew_31 : decode cX12_anew 31 = .ok (.bipush 10, 2) := by decide +kernel
theorem dX12_anew_33 : decode cX12_anew 33 = .ok (.bipush 6, 2) := by decide +kernel
theorem dX12_anew_35 : decode cX12_anew 35 = .ok (.iload_n 1, 1) := by decide +kernel
theorem dX12_anew_36 : decode cX12_anew 36 = .ok (.imul, 1) := by decide +kernel
theorem dX12_anew_37 : decode cX12_anew 37 = .ok (.iadd, 1) := by decide +kernel
theorem dX12_anew_38 : decode cX12_anew 38 = .ok (.iconst 5, 1) := by decide +kernel
theorem dX12_anew_39 : decode cX12_anew 39 = .ok (.iadd, 1) := by decide +kernel
theorem dX12_anew_40 : decode cX12_anew 40 = .ok (.iconst 0, 1) := by decide +kernel
theorem dX12_anew_41 : decode cX12_anew 41 = .ok (.iastore, 1) := by decide +kernel
theorem dX12_anew_42 : decode cX12_anew 42 = .ok (.iinc 1 1, 3) := by decide +kernel
theorem dX12_anew_45 : decode cX12_anew 45 = .ok (.goto (-43), 3) := by decide +kernel
theorem dX12_anew_48 : decode cX12_anew 48 = .ok (.aload_n 0, 1) := by decide +kernel
theorem dX12_anew_49 : decode cX12_anew 49 = .ok (.getfield 7, 3) := by decide +kernel
theorem dX12_anew_52 : decode cX12_anew 52 = .ok (.iconst 3, 1) := by decide +kernel
theorem dX12_anew_53 : decode cX12_anew 53 = .ok (.iconst 0, 1) := by decide +kernel
theorem dX12_anew_54 : decode cX12_anew 54 = .ok (.iastore, 1) := by decide +kernel
theorem dX12_anew_55 : decode cX12_anew 55 = .ok (.aload_n 0, 1) := by decide +kernel
theorem dX12_anew_56 : decode cX12_anew 56 = .ok (.getfield 7, 3) := by decide +kernel
theorem dX12_anew_59 : decode cX12_anew 59 = .ok (.bipush 8, 2) := by decide +kernel
theorem dX12_anew_61 : decode cX12_anew 61 = .ok (.iconst 5, 1) := by decide +kernel
theorem dX12_anew_62 : decode cX12_anew 62 = .ok (.iastore, 1) := by decide +kernel
theorem dX12_anew_63 : decode cX12_anew 63 = .ok (.aload_n 0, 1) := by decide +kernel
theorem dX12_anew_64 : decode cX12_anew 64 = .ok (.getfield 7, 3) := by decide +kernel
theorem dX12_anew_67 : decode cX12_anew 67 = .ok (.bipush 9, 2) := by decide +kernel
theorem dX12_anew_69 : decode cX12_anew 69 = .ok (.iconst 0, 1) := by decide +kernel
theorem dX12_anew_70 : decode cX12_anew 70 = .ok (.iastore, 1) := by decide +kernel
theorem dX12_anew_71 : decode cX12_anew 71 = .ok (.aload_n 0, 1) := by decide +kernel
theorem dX12_anew_72 : decode cX12_anew 72 = .ok (.iconst 1, 1) := by decide +kernel
theorem dX12_anew_73 : decode cX12_anew 73 = .ok (.iconst 0, 1) := by decide +kernel
theorem dX12_anew_74 : decode cX12_anew 74 = .ok (.invokevirtual 125, 3) := by decide +kernel
theorem dX12_anew_77 : decode cX12_anew 77 = .ok (.ireturn, 1) := by decide +kernel
theorem dX12_those_0 : decode cX12_those 0 = .ok (.iconst 0, 1) := by decide +kernel
theorem dX12_those_1 : decode cX12_those 1 = .ok (.istore_n 2, 1) := by decide +kernel
theorem dX12_those_2 : decode cX12_those 2 = .ok (.iconst 0, 1) := by decide +kernel
theorem dX12_those_3 : decode cX12_those 3 = .ok (.istore_n 3, 1) := by decide +kernel
theorem dX12_those_4 : decode cX12_those 4 = .ok (.iload_n 3, 1) := by decide +kernel
theorem dX12_those_5 : decode cX12_those 5 = .ok (.aload_n 0, 1) := by decide +kernel
theorem dX12_those_6 : decode cX12_those 6 = .ok (.getfield 7, 3) := by decide +kernel
theorem dX12_those_9 : decode cX12_those 9 = .ok (.iconst 0, 1) := by decide +kernel
theorem dX12_those_10 : decode cX12_those 10 = .ok (.iaload, 1) := by decide +kernel
theorem dX12_those_11 : decode cX12_those 11 = .ok (.if_icmp .ge 20, 3) := by decide +kernel
theorem dX12_those_14 : decode cX12_those 14 = .ok (.iload_n 2, 1) := by decide +kernel
theorem dX12_those_15 : decode cX12_those 15 = .ok (.aload_n 0, 1) := by decide +kernel
theorem dX12_those_16 : decode cX12_those 16 = .ok (.iload_n 3, 1) := by decide +kernel
theorem dX12_those_17 : decode cX12_those 17 = .ok (.iload_n 1, 1) := by decide +kernel
theorem dX12_those_18 : decode cX12_those 18 = .ok (.invokevirtual 79, 3) := by decide +kernel
theorem dX12_those_21 : decode cX12_those 21 = .ok (.iload_n 3, 1) := by decide +kernel
theorem dX12_those_22 : decode cX12_those 22 = .ok (.ishl, 1) := by decide +kernel
theorem dX12_those_23 : decode cX12_those 23 = .ok (.ior, 1) := by decide +kernel
theorem dX12_those_24 : decode cX12_those 24 = .ok (.istore_n 2, 1) := by decide +kernel
theorem dX12_those_25 : decode cX12_those 25 = .ok (.iinc 3 1, 3) := by decide +kernel
theorem dX12_those_28 : decode cX12_those 28 = .ok (.goto (-24), 3) := by decide +kernel
theorem dX12_those_31 : decode cX12_those 31 = .ok (.iload_n 2, 1) := by decide +kernel
theorem dX12_those_32 : decode cX12_those 32 = .ok (.ireturn, 1) := by decide +kernel
theorem dX12_doneOnes_0 : decode cX12_doneOnes 0 = .ok (.aload_n 0, 1) := by decide +kernel
theorem dX12_doneOnes_1 : decode cX12_doneOnes 1 = .ok (.iconst 5, 1) := by decide +kernel
theorem dX12_doneOnes_2 : decode cX12_doneOnes 2 = .ok (.invokevirtual 136, 3) := by decide +kernel
theorem dX12_doneOnes_5 : decode cX12_doneOnes 5 = .ok (.ireturn, 1) := by decide +kernel
theorem dX12_state_0 : decode cX12_state 0 = .ok (.iload_n 1, 1) := by decide +kernel
theorem dX12_state_1 : decode cX12_state 1 = .ok (.tableswitch 130 0 8 #[51, 51, 51, 60, 73, 79, 84, 114, 122], 51) := by decide +kernel
theorem dX12_state_52 : decode cX12_state 52 = .ok (.aload_n 0, 1) := by decide +kernel
theorem dX12_state_53 : decode cX12_state 53 = .ok (.getfield 7, 3) := by decide +kernel
theorem dX12_state_56 : decode cX12_state 56 = .ok (.iconst 1, 1) := by decide +kernel
theorem dX12_state_57 : decode cX12_state 57 = .ok (.iload_n 1, 1) := by decide +kernel
theorem dX12_state_58 : decode cX12_state 58 = .ok (.iadd, 1) := by decide +kernel
theorem dX12_state_59 : decode cX12_state 59 = .ok (.iaload, 1) := by decide +kernel
theorem dX12_state_60 : decode cX12_state 60 = .ok (.ireturn, 1) := by decide +kernel
theorem dX12_state_61 : decode cX12_state 61 = .ok (.aload_n 0, 1) := by decide +kernel
theorem dX12_state_62 : decode cX12_state 62 = .ok (.invokevirtual 139, 3) := by decide +kernel
theorem dX12_state_65 : decode cX12_state 65 = .ok (.ifCond .eq 7, 3) := by decide +kernel
theorem dX12_state_68 : decode cX12_state 68 = .ok (.iconst 1, 1) := by decide +kernel
theorem dX12_state_69 : decode cX12_state 69 = .ok (.goto 4, 3) := by decide +kernel
theorem dX12_state_72 : decode cX12_state 72 = .ok (.iconst 0, 1) := by decide +kernel
theorem dX12_state_73 : decode cX12_state 73 = .ok (.ireturn, 1) := by decide +kernel
theorem dX12_state_74 : decode cX12_state 74 = .ok (.aload_n 0, 1) := by decide +kernel
theorem dX12_state_75 : decode cX12_state 75 = .ok (.iconst 4, 1) := by decide +kernel
theorem dX12_state_76 : decode cX12_state 76 = .ok (.invokevirtual 136, 3) := by decide +kernel
theorem dX12_state_79 : decode cX12_state 79 = .ok (.ireturn, 1) := by decide +kernel
theorem dX12_state_80 : decode cX12_state 80 = .ok (.aload_n 0, 1) := by decide +kernel
theorem dX12_state_81 : decode cX12_state 81 = .ok (.invokevirtual 143, 3) := by decide +kernel
theorem dX12_state_84 : decode cX12_state 84 = .ok (.ireturn, 1) := by decide +kernel
theorem dX12_state_85 : decode cX12_state 85 = .ok (.aload_n 0, 1) := by decide +kernel
theorem dX12_state_86 : decode cX12_state 86 = .ok (.getfield 7, 3) := by decide +kernel
theorem dX12_state_89 : decode cX12_state 89 = .ok (.iconst 1, 1) := by decide +kernel
theorem dX12_state_90 : decode cX12_state 90 = .ok (.iaload, 1) := by decide +kernel
theorem dX12_state_91 : decode cX12_state 91 = .ok (.bipush 16, 2) := by decide +kernel
theorem dX12_state_93 : decode cX12_state 93 = .ok (.if_icmp .ge 20, 3) := by decide +kernel
theorem dX12_state_96 : decode cX12_state 96 = .ok (.aload_n 0, 1) := by decide +kernel
theorem dX12_state_97 : decode cX12_state 97 = .ok (.getfield 7, 3) := by decide +kernel
theorem dX12_state_100 : decode cX12_state 100 = .ok (.bipush 58, 2) := by decide +kernel
theorem dX12_state_102 : decode cX12_state 102 = .ok (.aload_n 0, 1) := by decide +kernel
theorem dX12_state_103 : decode cX12_state 103 = .ok (.getfield 7, 3) := by decide +kernel
theorem dX12_state_106 : decode cX12_state 106 = .ok (.iconst 1, 1) := by decide +kernel
theorem dX12_state_107 : decode cX12_state 107 = .ok (.iaload, 1) := by decide +kernel
theorem dX12_state_108 : decode cX12_state 108 = .ok (.iadd, 1) := by decide +kernel
theorem dX12_state_109 : decode cX12_state 109 = .ok (.iaload, 1) := by decide +kernel
theorem dX12_state_110 : decode cX12_state 110 = .ok (.goto 4, 3) := by decide +kernel
theorem dX12_state_113 : decode cX12_state 113 = .ok (.iconst 0, 1) := by decide +kernel
theorem dX12_state_114 : decode cX12_state 114 = .ok (.ireturn, 1) := by decide +kernel
theorem dX12_state_115 : decode cX12_state 115 = .ok (.aload_n 0, 1) := by decide +kernel
theorem dX12_state_116 : decode cX12_state 116 = .ok (.getfield 7, 3) := by decide +kernel
theorem dX12_state_119 : decode cX12_state 119 = .ok (.bipush 8, 2) := by decide +kernel
theorem dX12_state_121 : decode cX12_state 121 = .ok (.iaload, 1) := by decide +kernel
theorem dX12_state_122 : decode cX12_state 122 = .ok (.ireturn, 1) := by decide +kernel
theorem dX12_state_123 : decode cX12_state 123 = .ok (.aload_n 0, 1) := by decide +kernel
theorem dX12_state_124 : decode cX12_state 124 = .ok (.getfield 7, 3) := by decide +kernel
theorem dX12_state_127 : decode cX12_state 127 = .ok (.bipush 9, 2) := by decide +kernel
theorem dX12_state_129 : decode cX12_state 129 = .ok (.iaload, 1) := by decide +kernel
theorem dX12_state_130 : decode cX12_state 130 = .ok (.ireturn, 1) := by decide +kernel
theorem dX12_state_131 : decode cX12_state 131 = .ok (.iconst (-1), 1) := by decide +kernel
theorem dX12_state_132 : decode cX12_state 132 = .ok (.ireturn, 1) := by decide +kernel
theorem dX12_feed_0 : decode cX12_feed 0 = .ok (.iload_n 3, 1) := by decide +kernel
theorem dX12_feed_1 : decode cX12_feed 1 = .ok (.i2l, 1) := by decide +kernel
theorem dX12_feed_2 : decode cX12_feed 2 = .ok (.lconst 1, 1) := by decide +kernel
theorem dX12_feed_3 : decode cX12_feed 3 = .ok (.ldc2_w 147, 3) := by decide +kernel
theorem dX12_feed_6 : decode cX12_feed 6 = .ok (.invokestatic 63, 3) := by decide +kernel
theorem dX12_feed_9 : decode cX12_feed 9 = .ok (.ifCond .ne 5, 3) := by decide +kernel
theorem dX12_feed_12 : decode cX12_feed 12 = .ok (.iconst (-1), 1) := by decide +kernel
theorem dX12_feed_13 : decode cX12_feed 13 = .ok (.ireturn, 1) := by decide +kernel
theorem dX12_feed_14 : decode cX12_feed 14 = .ok (.aload_n 0, 1) := by decide +kernel
theorem dX12_feed_15 : decode cX12_feed 15 = .ok (.getfield 149, 3) := by decide +kernel
theorem dX12_feed_18 : decode cX12_feed 18 = .ok (.iload_n 3, 1) := by decide +kernel
theorem dX12_feed_19 : decode cX12_feed 19 = .ok (.iadd, 1) := by decide +kernel
theorem dX12_feed_20 : decode cX12_feed 20 = .ok (.sipush 200, 3) := by decide +kernel
theorem dX12_feed_23 : decode cX12_feed 23 = .ok (.if_icmp .le 6, 3) := by decide +kernel
theorem dX12_feed_26 : decode cX12_feed 26 = .ok (.bipush (-2), 2) := by decide +kernel
theorem dX12_feed_28 : decode cX12_feed 28 = .ok (.ireturn, 1) := by decide +kernel
theorem dX12_feed_29 : decode cX12_feed 29 = .ok (.iconst 0, 1) := by decide +kernel
theorem dX12_feed_30 : decode cX12_feed 30 = .ok (.istore 4, 2) := by decide +kernel
theorem dX12_feed_32 : decode cX12_feed 32 = .ok (.iload 4, 2) := by decide +kernel
theorem dX12_feed_34 : decode cX12_feed 34 = .ok (.iload_n 3, 1) := by decide +kernel
theorem dX12_feed_35 : decode cX12_feed 35 = .ok (.if_icmp .ge 40, 3) := by decide +kernel
theorem dX12_feed_38 : decode cX12_feed 38 = .ok (.aload_n 0, 1) := by decide +kernel
theorem dX12_feed_39 : decode cX12_feed 39 = .ok (.getfield 19, 3) := by decide +kernel
theorem dX12_feed_42 : decode cX12_feed 42 = .ok (.aload_n 0, 1) := by decide +kernel
theorem dX12_feed_43 : decode cX12_feed 43 = .ok (.getfield 149, 3) := by decide +kernel
theorem dX12_feed_46 : decode cX12_feed 46 = .ok (.lload_n 1, 1) := by decide +kernel
theorem dX12_feed_47 : decode cX12_feed 47 = .ok (.bipush 8, 2) := by decide +kernel
theorem dX12_feed_49 : decode cX12_feed 49 = .ok (.iload 4, 2) := by decide +kernel
theorem dX12_feed_51 : decode cX12_feed 51 = .ok (.imul, 1) := by decide +kernel
theorem dX12_feed_52 : decode cX12_feed 52 = .ok (.lshr, 1) := by decide +kernel
theorem dX12_feed_53 : decode cX12_feed 53 = .ok (.ldc2_w 153, 3) := by decide +kernel
theorem dX12_feed_56 : decode cX12_feed 56 = .ok (.land, 1) := by decide +kernel
theorem dX12_feed_57 : decode cX12_feed 57 = .ok (.l2i, 1) := by decide +kernel
theorem dX12_feed_58 : decode cX12_feed 58 = .ok (.iastore, 1) := by decide +kernel
theorem dX12_feed_59 : decode cX12_feed 59 = .ok (.aload_n 0, 1) := by decide +kernel
theorem dX12_feed_60 : decode cX12_feed 60 = .ok (.dup, 1) := by decide +kernel
theorem dX12_feed_61 : decode cX12_feed 61 = .ok (.getfield 149, 3) := by decide +kernel
theorem dX12_feed_64 : decode cX12_feed 64 = .ok (.iconst 1, 1) := by decide +kernel
theorem dX12_feed_65 : decode cX12_feed 65 = .ok (.iadd, 1) := by decide +kernel
theorem dX12_feed_66 : decode cX12_feed 66 = .ok (.putfield 149, 3) := by decide +kernel
theorem dX12_feed_69 : decode cX12_feed 69 = .ok (.iinc 4 1, 3) := by decide +kernel
theorem dX12_feed_72 : decode cX12_feed 72 = .ok (.goto (-40), 3) := by decide +kernel
theorem dX12_feed_75 : decode cX12_feed 75 = .ok (.aload_n 0, 1) := by decide +kernel
theorem dX12_feed_76 : decode cX12_feed 76 = .ok (.getfield 149, 3) := by decide +kernel
theorem dX12_feed_79 : decode cX12_feed 79 = .ok (.ireturn, 1) := by decide +kernel
theorem dX12_isAlpha_0 : decode cX12_isAlpha 0 = .ok (.iload_n 0, 1) := by decide +kernel
theorem dX12_isAlpha_1 : decode cX12_isAlpha 1 = .ok (.bipush 97, 2) := by decide +kernel
theorem dX12_isAlpha_3 : decode cX12_isAlpha 3 = .ok (.if_icmp .lt 13, 3) := by decide +kernel
theorem dX12_isAlpha_6 : decode cX12_isAlpha 6 = .ok (.iload_n 0, 1) := by decide +kernel
theorem dX12_isAlpha_7 : decode cX12_isAlpha 7 = .ok (.bipush 122, 2) := by decide +kernel
theorem dX12_isAlpha_9 : decode cX12_isAlpha 9 = .ok (.if_icmp .gt 7, 3) := by decide +kernel
theorem dX12_isAlpha_12 : decode cX12_isAlpha 12 = .ok (.iconst 1, 1) := by decide +kernel
theorem dX12_isAlpha_13 : decode cX12_isAlpha 13 = .ok (.goto 4, 3) := by decide +kernel
theorem dX12_isAlpha_16 : decode cX12_isAlpha 16 = .ok (.iconst 0, 1) := by decide +kernel
theorem dX12_isAlpha_17 : decode cX12_isAlpha 17 = .ok (.ireturn, 1) := by decide +kernel
theorem dX12_isDigit_0 : decode cX12_isDigit 0 = .ok (.iload_n 0, 1) := by decide +kernel
theorem dX12_isDigit_1 : decode cX12_isDigit 1 = .ok (.bipush 48, 2) := by decide +kernel
theorem dX12_isDigit_3 : decode cX12_isDigit 3 = .ok (.if_icmp .lt 13, 3) := by decide +kernel
theorem dX12_isDigit_6 : decode cX12_isDigit 6 = .ok (.iload_n 0, 1) := by decide +kernel
theorem dX12_isDigit_7 : decode cX12_isDigit 7 = .ok (.bipush 57, 2) := by decide +kernel
theorem dX12_isDigit_9 : decode cX12_isDigit 9 = .ok (.if_icmp .gt 7, 3) := by decide +kernel
theorem dX12_isDigit_12 : decode cX12_isDigit 12 = .ok (.iconst 1, 1) := by decide +kernel
theorem dX12_isDigit_13 : decode cX12_isDigit 13 = .ok (.goto 4, 3) := by decide +kernel
theorem dX12_isDigit_16 : decode cX12_isDigit 16 = .ok (.iconst 0, 1) := by decide +kernel
theorem dX12_isDigit_17 : decode cX12_isDigit 17 = .ok (.ireturn, 1) := by decide +kernel
theorem dX12_byteAt_0 : decode cX12_byteAt 0 = .ok (.iload_n 1, 1) := by decide +kernel
theorem dX12_byteAt_1 : decode cX12_byteAt 1 = .ok (.aload_n 0, 1) := by decide +kernel
theorem dX12_byteAt_2 : decode cX12_byteAt 2 = .ok (.getfield 149, 3) := by decide +kernel
theorem dX12_byteAt_5 : decode cX12_byteAt 5 = .ok (.if_icmp .ge 12, 3) := by decide +kernel
theorem dX12_byteAt_8 : decode cX12_byteAt 8 = .ok (.aload_n 0, 1) := by decide +kernel
theorem dX12_byteAt_9 : decode cX12_byteAt 9 = .ok (.getfield 19, 3) := by decide +kernel
theorem dX12_byteAt_12 : decode cX12_byteAt 12 = .ok (.iload_n 1, 1) := by decide +kernel
theorem dX12_byteAt_13 : decode cX12_byteAt 13 = .ok (.iaload, 1) := by decide +kernel
theorem dX12_byteAt_14 : decode cX12_byteAt 14 = .ok (.goto 4, 3) := by decide +kernel
theorem dX12_byteAt_17 : decode cX12_byteAt 17 = .ok (.iconst (-1), 1) := by decide +kernel
theorem dX12_byteAt_18 : decode cX12_byteAt 18 = .ok (.ireturn, 1) := by decide +kernel
theorem dX12_nextToken_0 : decode cX12_nextToken 0 = .ok (.aload_n 0, 1) := by decide +kernel
theorem dX12_nextToken_1 : decode cX12_nextToken 1 = .ok (.aload_n 0, 1) := by decide +kernel
theorem dX12_nextToken_2 : decode cX12_nextToken 2 = .ok (.getfield 155, 3) := by decide +kernel
theorem dX12_nextToken_5 : decode cX12_nextToken 5 = .ok (.putfield 158, 3) := by decide +kernel
theorem dX12_nextToken_8 : decode cX12_nextToken 8 = .ok (.aload_n 0, 1) := by decide +kernel
theorem dX12_nextToken_9 : decode cX12_nextToken 9 = .ok (.aload_n 0, 1) := by decide +kernel
theorem dX12_nextToken_10 : decode cX12_nextToken 10 = .ok (.getfield 158, 3) := by decide +kernel
theorem dX12_nextToken_13 : decode cX12_nextToken 13 = .ok (.invokevirtual 161, 3) := by decide +kernel
theorem dX12_nextToken_16 : decode cX12_nextToken 16 = .ok (.bipush 32, 2) := by decide +kernel
theorem dX12_nextToken_18 : decode cX12_nextToken 18 = .ok (.if_icmp .ne 16, 3) := by decide +kernel
theorem dX12_nextToken_21 : decode cX12_nextToken 21 = .ok (.aload_n 0, 1) := by decide +kernel
theorem dX12_nextToken_22 : decode cX12_nextToken 22 = .ok (.dup, 1) := by decide +kernel
theorem dX12_nextToken_23 : decode cX12_nextToken 23 = .ok (.getfield 158, 3) := by decide +kernel
theorem dX12_nextToken_26 : decode cX12_nextToken 26 = .ok (.iconst 1, 1) := by decide +kernel
theorem dX12_nextToken_27 : decode cX12_nextToken 27 = .ok (.iadd, 1) := by decide +kernel
theorem dX12_nextToken_28 : decode cX12_nextToken 28 = .ok (.putfield 158, 3) := by decide +kernel
theorem dX12_nextToken_31 : decode cX12_nextToken 31 = .ok (.goto (-23), 3) := by decide +kernel
theorem dX12_nextToken_34 : decode cX12_nextToken 34 = .ok (.aload_n 0, 1) := by decide +kernel
theorem dX12_nextToken_35 : decode cX12_nextToken 35 = .ok (.aload_n 0, 1) := by decide +kernel
theorem dX12_nextToken_36 : decode cX12_nextToken 36 = .ok (.getfield 158, 3) := by decide +kernel
theorem dX12_nextToken_39 : decode cX12_nextToken 39 = .ok (.putfield 155, 3) := by decide +kernel
theorem dX12_nextToken_42 : decode cX12_nextToken 42 = .ok (.aload_n 0, 1) := by decide +kernel
theorem dX12_nextToken_43 : decode cX12_nextToken 43 = .ok (.aload_n 0, 1) := by decide +kernel
theorem dX12_nextToken_44 : decode cX12_nextToken 44 = .ok (.getfield 158, 3) := by decide +kernel
theorem dX12_nextToken_47 : decode cX12_nextToken 47 = .ok (.invokevirtual 161, 3) := by decide +kernel
theorem dX12_nextToken_50 : decode cX12_nextToken 50 = .ok (.istore_n 1, 1) := by decide +kernel
theorem dX12_nextToken_51 : decode cX12_nextToken 51 = .ok (.aload_n 0, 1) := by decide +kernel
theorem dX12_nextToken_52 : decode cX12_nextToken 52 = .ok (.iload_n 1, 1) := by decide +kernel
theorem dX12_nextToken_53 : decode cX12_nextToken 53 = .ok (.ifCond .ge 7, 3) := by decide +kernel
theorem dX12_nextToken_56 : decode cX12_nextToken 56 = .ok (.iconst 0, 1) := by decide +kernel
theorem dX12_nextToken_57 : decode cX12_nextToken 57 = .ok (.goto 26, 3) := by decide +kernel
theorem dX12_nextToken_60 : decode cX12_nextToken 60 = .ok (.iload_n 1, 1) := by decide +kernel
theorem dX12_nextToken_61 : decode cX12_nextToken 61 = .ok (.invokestatic 164, 3) := by decide +kernel
theorem dX12_nextToken_64 : decode cX12_nextToken 64 = .ok (.ifCond .eq 7, 3) := by decide +kernel
theorem dX12_nextToken_67 : decode cX12_nextToken 67 = .ok (.iconst 1, 1) := by decide +kernel
theorem dX12_nextToken_68 : decode cX12_nextToken 68 = .ok (.goto 15, 3) := by decide +kernel
theorem dX12_nextToken_71 : decode cX12_nextToken 71 = .ok (.iload_n 1, 1) := by decide +kernel
theorem dX12_nextToken_72 : decode cX12_nextToken 72 = .ok (.invokestatic 167, 3) := by decide +kernel
theorem dX12_nextToken_75 : decode cX12_nextToken 75 = .ok (.ifCond .eq 7, 3) := by decide +kernel
theorem dX12_nextToken_78 : decode cX12_nextToken 78 = .ok (.iconst 2, 1) := by decide +kernel
theorem dX12_nextToken_79 : decode cX12_nextToken 79 = .ok (.goto 4, 3) := by decide +kernel
theorem dX12_nextToken_82 : decode cX12_nextToken 82 = .ok (.iconst 3, 1) := by decide +kernel
theorem dX12_nextToken_83 : decode cX12_nextToken 83 = .ok (.putfield 170, 3) := by decide +kernel
theorem dX12_nextToken_86 : decode cX12_nextToken 86 = .ok (.aload_n 0, 1) := by decide +kernel
theorem dX12_nextToken_87 : decode cX12_nextToken 87 = .ok (.iconst 0, 1) := by decide +kernel
theorem dX12_nextToken_88 : decode cX12_nextToken 88 = .ok (.putfield 173, 3) := by decide +kernel
theorem dX12_nextToken_91 : decode cX12_nextToken 91 = .ok (.aload_n 0, 1) := by decide +kernel
theorem dX12_nextToken_92 : decode cX12_nextToken 92 = .ok (.getfield 170, 3) := by decide +kernel
theorem dX12_nextToken_95 : decode cX12_nextToken 95 = .ok (.iconst 1, 1) := by decide +kernel
theorem dX12_nextToken_96 : decode cX12_nextToken 96 = .ok (.if_icmp .ne 30, 3) := by decide +kernel
theorem dX12_nextToken_99 : decode cX12_nextToken 99 = .ok (.aload_n 0, 1) := by decide +kernel
theorem dX12_nextToken_100 : decode cX12_nextToken 100 = .ok (.aload_n 0, 1) := by decide +kernel
theorem dX12_nextToken_101 : decode cX12_nextToken 101 = .ok (.getfield 155, 3) := by decide +kernel
theorem dX12_nextToken_104 : decode cX12_nextToken 104 = .ok (.invokevirtual 161, 3) := by decide +kernel
theorem dX12_nextToken_107 : decode cX12_nextToken 107 = .ok (.invokestatic 164, 3) := by decide +kernel
theorem dX12_nextToken_110 : decode cX12_nextToken 110 = .ok (.ifCond .eq 16, 3) := by decide +kernel
theorem dX12_nextToken_113 : decode cX12_nextToken 113 = .ok (.aload_n 0, 1) := by decide +kernel
theorem dX12_nextToken_114 : decode cX12_nextToken 114 = .ok (.dup, 1) := by decide +kernel
theorem dX12_nextToken_115 : decode cX12_nextToken 115 = .ok (.getfield 155, 3) := by decide +kernel
theorem dX12_nextToken_118 : decode cX12_nextToken 118 = .ok (.iconst 1, 1) := by decide +kernel
theorem dX12_nextToken_119 : decode cX12_nextToken 119 = .ok (.iadd, 1) := by decide +kernel
theorem dX12_nextToken_120 : decode cX12_nextToken 120 = .ok (.putfield 155, 3) := by decide +kernel
theorem dX12_nextToken_123 : decode cX12_nextToken 123 = .ok (.goto (-32), 3) := by decide +kernel
theorem dX12_nextToken_126 : decode cX12_nextToken 126 = .ok (.aload_n 0, 1) := by decide +kernel
theorem dX12_nextToken_127 : decode cX12_nextToken 127 = .ok (.getfield 170, 3) := by decide +kernel
theorem dX12_nextToken_130 : decode cX12_nextToken 130 = .ok (.iconst 2, 1) := by decide +kernel
theorem dX12_nextToken_131 : decode cX12_nextToken 131 = .ok (.if_icmp .ne 70, 3) := by decide +kernel
theorem dX12_nextToken_134 : decode cX12_nextToken 134 = .ok (.aload_n 0, 1) := by decide +kernel
theorem dX12_nextToken_135 : decode cX12_nextToken 135 = .ok (.aload_n 0, 1) := by decide +kernel
theorem dX12_nextToken_136 : decode cX12_nextToken 136 = .ok (.getfield 155, 3) := by decide +kernel
theorem dX12_nextToken_139 : decode cX12_nextToken 139 = .ok (.invokevirtual 161, 3) := by decide +kernel
theorem dX12_nextToken_142 : decode cX12_nextToken 142 = .ok (.invokestatic 167, 3) := by decide +kernel
theorem dX12_nextToken_145 : decode cX12_nextToken 145 = .ok (.ifCond .eq 56, 3) := by decide +kernel
theorem dX12_nextToken_148 : decode cX12_nextToken 148 = .ok (.aload_n 0, 1) := by decide +kernel
theorem dX12_nextToken_149 : decode cX12_nextToken 149 = .ok (.aload_n 0, 1) := by decide +kernel
theorem dX12_nextToken_150 : decode cX12_nextToken 150 = .ok (.getfield 173, 3) := by decide +kernel
theorem dX12_nextToken_153 : decode cX12_nextToken 153 = .ok (.sipush 9999, 3) := by decide +kernel
theorem dX12_nextToken_156 : decode cX12_nextToken 156 = .ok (.if_icmp .le 10, 3) := by decide +kernel
theorem dX12_nextToken_159 : decode cX12_nextToken 159 = .ok (.aload_n 0, 1) := by decide +kernel
theorem dX12_nextToken_160 : decode cX12_nextToken 160 = .ok (.getfield 173, 3) := by decide +kernel
theorem dX12_nextToken_163 : decode cX12_nextToken 163 = .ok (.goto 22, 3) := by decide +kernel
theorem dX12_nextToken_166 : decode cX12_nextToken 166 = .ok (.bipush 10, 2) := by decide +kernel
theorem dX12_nextToken_168 : decode cX12_nextToken 168 = .ok (.aload_n 0, 1) := by decide +kernel
theorem dX12_nextToken_169 : decode cX12_nextToken 169 = .ok (.getfield 173, 3) := by decide +kernel
theorem dX12_nextToken_172 : decode cX12_nextToken 172 = .ok (.imul, 1) := by decide +kernel
theorem dX12_nextToken_173 : decode cX12_nextToken 173 = .ok (.aload_n 0, 1) := by decide +kernel
theorem dX12_nextToken_174 : decode cX12_nextToken 174 = .ok (.aload_n 0, 1) := by decide +kernel
theorem dX12_nextToken_175 : decode cX12_nextToken 175 = .ok (.getfield 155, 3) := by decide +kernel
theorem dX12_nextToken_178 : decode cX12_nextToken 178 = .ok (.invokevirtual 161, 3) := by decide +kernel
theorem dX12_nextToken_181 : decode cX12_nextToken 181 = .ok (.iadd, 1) := by decide +kernel
theorem dX12_nextToken_182 : decode cX12_nextToken 182 = .ok (.bipush 48, 2) := by decide +kernel
theorem dX12_nextToken_184 : decode cX12_nextToken 184 = .ok (.isub, 1) := by decide +kernel
theorem dX12_nextToken_185 : decode cX12_nextToken 185 = .ok (.putfield 173, 3) := by decide +kernel
theorem dX12_nextToken_188 : decode cX12_nextToken 188 = .ok (.aload_n 0, 1) := by decide +kernel
theorem dX12_nextToken_189 : decode cX12_nextToken 189 = .ok (.dup, 1) := by decide +kernel
theorem dX12_nextToken_190 : decode cX12_nextToken 190 = .ok (.getfield 155, 3) := by decide +kernel
theorem dX12_nextToken_193 : decode cX12_nextToken 193 = .ok (.iconst 1, 1) := by decide +kernel
theorem dX12_nextToken_194 : decode cX12_nextToken 194 = .ok (.iadd, 1) := by decide +kernel
theorem dX12_nextToken_195 : decode cX12_nextToken 195 = .ok (.putfield 155, 3) := by decide +kernel
theorem dX12_nextToken_198 : decode cX12_nextToken 198 = .ok (.goto (-72), 3) := by decide +kernel
theorem dX12_nextToken_201 : decode cX12_nextToken 201 = .ok (.aload_n 0, 1) := by decide +kernel
theorem dX12_nextToken_202 : decode cX12_nextToken 202 = .ok (.dup, 1) := by decide +kernel
theorem dX12_nextToken_203 : decode cX12_nextToken 203 = .ok (.getfield 155, 3) := by decide +kernel
theorem dX12_nextToken_206 : decode cX12_nextToken 206 = .ok (.aload_n 0, 1) := by decide +kernel
theorem dX12_nextToken_207 : decode cX12_nextToken 207 = .ok (.getfield 170, 3) := by decide +kernel
theorem dX12_nextToken_210 : decode cX12_nextToken 210 = .ok (.iconst 2, 1) := by decide +kernel
theorem dX12_nextToken_211 : decode cX12_nextToken 211 = .ok (.if_icmp .le 7, 3) := by decide +kernel
theorem dX12_nextToken_214 : decode cX12_nextToken 214 = .ok (.iconst 1, 1) := by decide +kernel
theorem dX12_nextToken_215 : decode cX12_nextToken 215 = .ok (.goto 4, 3) := by decide +kernel
theorem dX12_nextToken_218 : decode cX12_nextToken 218 = .ok (.iconst 0, 1) := by decide +kernel
theorem dX12_nextToken_219 : decode cX12_nextToken 219 = .ok (.iadd, 1) := by decide +kernel
theorem dX12_nextToken_220 : decode cX12_nextToken 220 = .ok (.putfield 155, 3) := by decide +kernel
theorem dX12_nextToken_223 : decode cX12_nextToken 223 = .ok (.return_, 1) := by decide +kernel
theorem dX12_needs_0 : decode cX12_needs 0 = .ok (.aload_n 0, 1) := by decide +kernel
theorem dX12_needs_1 : decode cX12_needs 1 = .ok (.aload_n 0, 1) := by decide +kernel
theorem dX12_needs_2 : decode cX12_needs 2 = .ok (.getfield 176, 3) := by decide +kernel
theorem dX12_needs_5 : decode cX12_needs 5 = .ok (.ifCond .ne 7, 3) := by decide +kernel
theorem dX12_needs_8 : decode cX12_needs 8 = .ok (.iload_n 1, 1) := by decide +kernel
theorem dX12_needs_9 : decode cX12_needs 9 = .ok (.ifCond .ne 7, 3) := by decide +kernel
theorem dX12_needs_12 : decode cX12_needs 12 = .ok (.iconst 1, 1) := by decide +kernel
theorem dX12_needs_13 : decode cX12_needs 13 = .ok (.goto 4, 3) := by decide +kernel
theorem dX12_needs_16 : decode cX12_needs 16 = .ok (.iconst 0, 1) := by decide +kernel
theorem dX12_needs_17 : decode cX12_needs 17 = .ok (.putfield 176, 3) := by decide +kernel
theorem dX12_needs_20 : decode cX12_needs 20 = .ok (.aload_n 0, 1) := by decide +kernel
theorem dX12_needs_21 : decode cX12_needs 21 = .ok (.getfield 176, 3) := by decide +kernel
theorem dX12_needs_24 : decode cX12_needs 24 = .ok (.ifCond .ne 7, 3) := by decide +kernel
theorem dX12_needs_27 : decode cX12_needs 27 = .ok (.aload_n 0, 1) := by decide +kernel
theorem dX12_needs_28 : decode cX12_needs 28 = .ok (.invokevirtual 180, 3) := by decide +kernel
theorem dX12_needs_31 : decode cX12_needs 31 = .ok (.return_, 1) := by decide +kernel
theorem dX12_isByte_0 : decode cX12_isByte 0 = .ok (.aload_n 0, 1) := by decide +kernel
theorem dX12_isByte_1 : decode cX12_isByte 1 = .ok (.getfield 170, 3) := by decide +kernel
theorem dX12_isByte_4 : decode cX12_isByte 4 = .ok (.iconst 3, 1) := by decide +kernel
theorem dX12_isByte_5 : decode cX12_isByte 5 = .ok (.if_icmp .ne 19, 3) := by decide +kernel
theorem dX12_isByte_8 : decode cX12_isByte 8 = .ok (.aload_n 0, 1) := by decide +kernel
theorem dX12_isByte_9 : decode cX12_isByte 9 = .ok (.aload_n 0, 1) := by decide +kernel
theorem dX12_isByte_10 : decode cX12_isByte 10 = .ok (.getfield 158, 3) := by decide +kernel
theorem dX12_isByte_13 : decode cX12_isByte 13 = .ok (.invokevirtual 161, 3) := by decide +kernel
theorem dX12_isByte_16 : decode cX12_isByte 16 = .ok (.iload_n 1, 1) := by decide +kernel
theorem dX12_isByte_17 : decode cX12_isByte 17 = .ok (.if_icmp .ne 7, 3) := by decide +kernel
theorem dX12_isByte_20 : decode cX12_isByte 20 = .ok (.iconst 1, 1) := by decide +kernel
theorem dX12_isByte_21 : decode cX12_isByte 21 = .ok (.goto 4, 3) := by decide +kernel
theorem dX12_isByte_24 : decode cX12_isByte 24 = .ok (.iconst 0, 1) := by decide +kernel
theorem dX12_isByte_25 : decode cX12_isByte 25 = .ok (.ireturn, 1) := by decide +kernel
theorem dX12_isName_0 : decode cX12_isName 0 = .ok (.aload_n 0, 1) := by decide +kernel
theorem dX12_isName_1 : decode cX12_isName 1 = .ok (.getfield 170, 3) := by decide +kernel
theorem dX12_isName_4 : decode cX12_isName 4 = .ok (.iconst 1, 1) := by decide +kernel
theorem dX12_isName_5 : decode cX12_isName 5 = .ok (.if_icmp .ne 76, 3) := by decide +kernel
theorem dX12_isName_8 : decode cX12_isName 8 = .ok (.aload_n 0, 1) := by decide +kernel
theorem dX12_isName_9 : decode cX12_isName 9 = .ok (.getfield 155, 3) := by decide +kernel
theorem dX12_isName_12 : decode cX12_isName 12 = .ok (.aload_n 0, 1) := by decide +kernel
theorem dX12_isName_13 : decode cX12_isName 13 = .ok (.getfield 158, 3) := by decide +kernel
theorem dX12_isName_16 : decode cX12_isName 16 = .ok (.isub, 1) := by decide +kernel
theorem dX12_isName_17 : decode cX12_isName 17 = .ok (.iload_n 1, 1) := by decide +kernel
theorem dX12_isName_18 : decode cX12_isName 18 = .ok (.if_icmp .ne 63, 3) := by decide +kernel
theorem dX12_isName_21 : decode cX12_isName 21 = .ok (.aload_n 0, 1) := by decide +kernel
theorem dX12_isName_22 : decode cX12_isName 22 = .ok (.aload_n 0, 1) := by decide +kernel
theorem dX12_isName_23 : decode cX12_isName 23 = .ok (.getfield 158, 3) := by decide +kernel
theorem dX12_isName_26 : decode cX12_isName 26 = .ok (.invokevirtual 161, 3) := by decide +kernel
theorem dX12_isName_29 : decode cX12_isName 29 = .ok (.iload_n 2, 1) := by decide +kernel
theorem dX12_isName_30 : decode cX12_isName 30 = .ok (.if_icmp .ne 51, 3) := by decide +kernel
theorem dX12_isName_33 : decode cX12_isName 33 = .ok (.aload_n 0, 1) := by decide +kernel
theorem dX12_isName_34 : decode cX12_isName 34 = .ok (.aload_n 0, 1) := by decide +kernel
theorem dX12_isName_35 : decode cX12_isName 35 = .ok (.getfield 158, 3) := by decide +kernel
theorem dX12_isName_38 : decode cX12_isName 38 = .ok (.iconst 1, 1) := by decide +kernel
theorem dX12_isName_39 : decode cX12_isName 39 = .ok (.iadd, 1) := by decide +kernel
theorem dX12_isName_40 : decode cX12_isName 40 = .ok (.invokevirtual 161, 3) := by decide +kernel
theorem dX12_isName_43 : decode cX12_isName 43 = .ok (.iload_n 3, 1) := by decide +kernel
theorem dX12_isName_44 : decode cX12_isName 44 = .ok (.if_icmp .ne 37, 3) := by decide +kernel
theorem dX12_isName_47 : decode cX12_isName 47 = .ok (.aload_n 0, 1) := by decide +kernel
theorem dX12_isName_48 : decode cX12_isName 48 = .ok (.aload_n 0, 1) := by decide +kernel
theorem dX12_isName_49 : decode cX12_isName 49 = .ok (.getfield 158, 3) := by decide +kernel
theorem dX12_isName_52 : decode cX12_isName 52 = .ok (.iconst 2, 1) := by decide +kernel
theorem dX12_isName_53 : decode cX12_isName 53 = .ok (.iadd, 1) := by decide +kernel
theorem dX12_isName_54 : decode cX12_isName 54 = .ok (.invokevirtual 161, 3) := by decide +kernel
theorem dX12_isName_57 : decode cX12_isName 57 = .ok (.iload 4, 2) := by decide +kernel
theorem dX12_isName_59 : decode cX12_isName 59 = .ok (.if_icmp .ne 22, 3) := by decide +kernel
theorem dX12_isName_62 : decode cX12_isName 62 = .ok (.aload_n 0, 1) := by decide +kernel
theorem dX12_isName_63 : decode cX12_isName 63 = .ok (.aload_n 0, 1) := by decide +kernel
theorem dX12_isName_64 : decode cX12_isName 64 = .ok (.getfield 155, 3) := by decide +kernel
theorem dX12_isName_67 : decode cX12_isName 67 = .ok (.iconst 1, 1) := by decide +kernel
theorem dX12_isName_68 : decode cX12_isName 68 = .ok (.isub, 1) := by decide +kernel
theorem dX12_isName_69 : decode cX12_isName 69 = .ok (.invokevirtual 161, 3) := by decide +kernel
theorem dX12_isName_72 : decode cX12_isName 72 = .ok (.iload 5, 2) := by decide +kernel
theorem dX12_isName_74 : decode cX12_isName 74 = .ok (.if_icmp .ne 7, 3) := by decide +kernel
theorem dX12_isName_77 : decode cX12_isName 77 = .ok (.iconst 1, 1) := by decide +kernel
theorem dX12_isName_78 : decode cX12_isName 78 = .ok (.goto 4, 3) := by decide +kernel
theorem dX12_isName_81 : decode cX12_isName 81 = .ok (.iconst 0, 1) := by decide +kernel
theorem dX12_isName_82 : decode cX12_isName 82 = .ok (.ireturn, 1) := by decide +kernel
theorem dX12_isSame_0 : decode cX12_isSame 0 = .ok (.aload_n 0, 1) := by decide +kernel
theorem dX12_isSame_1 : decode cX12_isSame 1 = .ok (.aload_n 0, 1) := by decide +kernel
theorem dX12_isSame_2 : decode cX12_isSame 2 = .ok (.getfield 158, 3) := by decide +kernel
theorem dX12_isSame_5 : decode cX12_isSame 5 = .ok (.iload_n 1, 1) := by decide +kernel
theorem dX12_isSame_6 : decode cX12_isSame 6 = .ok (.iadd, 1) := by decide +kernel
theorem dX12_isSame_7 : decode cX12_isSame 7 = .ok (.invokevirtual 161, 3) := by decide +kernel
theorem dX12_isSame_10 : decode cX12_isSame 10 = .ok (.iload_n 2, 1) := by decide +kernel
theorem dX12_isSame_11 : decode cX12_isSame 11 = .ok (.if_icmp .ne 40, 3) := by decide +kernel
theorem dX12_isSame_14 : decode cX12_isSame 14 = .ok (.aload_n 0, 1) := by decide +kernel
theorem dX12_isSame_15 : decode cX12_isSame 15 = .ok (.aload_n 0, 1) := by decide +kernel
theorem dX12_isSame_16 : decode cX12_isSame 16 = .ok (.getfield 158, 3) := by decide +kernel
theorem dX12_isSame_19 : decode cX12_isSame 19 = .ok (.iload_n 1, 1) := by decide +kernel
theorem dX12_isSame_20 : decode cX12_isSame 20 = .ok (.iadd, 1) := by decide +kernel
theorem dX12_isSame_21 : decode cX12_isSame 21 = .ok (.iconst 1, 1) := by decide +kernel
theorem dX12_isSame_22 : decode cX12_isSame 22 = .ok (.iadd, 1) := by decide +kernel
theorem dX12_isSame_23 : decode cX12_isSame 23 = .ok (.invokevirtual 161, 3) := by decide +kernel
theorem dX12_isSame_26 : decode cX12_isSame 26 = .ok (.iload_n 3, 1) := by decide +kernel
theorem dX12_isSame_27 : decode cX12_isSame 27 = .ok (.if_icmp .ne 24, 3) := by decide +kernel
theorem dX12_isSame_30 : decode cX12_isSame 30 = .ok (.aload_n 0, 1) := by decide +kernel
theorem dX12_isSame_31 : decode cX12_isSame 31 = .ok (.aload_n 0, 1) := by decide +kernel
theorem dX12_isSame_32 : decode cX12_isSame 32 = .ok (.getfield 158, 3) := by decide +kernel
theorem dX12_isSame_35 : decode cX12_isSame 35 = .ok (.iload_n 1, 1) := by decide +kernel
theorem dX12_isSame_36 : decode cX12_isSame 36 = .ok (.iadd, 1) := by decide +kernel
theorem dX12_isSame_37 : decode cX12_isSame 37 = .ok (.iconst 2, 1) := by decide +kernel
theorem dX12_isSame_38 : decode cX12_isSame 38 = .ok (.iadd, 1) := by decide +kernel
theorem dX12_isSame_39 : decode cX12_isSame 39 = .ok (.invokevirtual 161, 3) := by decide +kernel
theorem dX12_isSame_42 : decode cX12_isSame 42 = .ok (.iload 4, 2) := by decide +kernel
theorem dX12_isSame_44 : decode cX12_isSame 44 = .ok (.if_icmp .ne 7, 3) := by decide +kernel
theorem dX12_isSame_47 : decode cX12_isSame 47 = .ok (.iconst 1, 1) := by decide +kernel
theorem dX12_isSame_48 : decode cX12_isSame 48 = .ok (.goto 4, 3) := by decide +kernel
theorem dX12_isSame_51 : decode cX12_isSame 51 = .ok (.iconst 0, 1) := by decide +kernel
theorem dX12_isSame_52 : decode cX12_isSame 52 = .ok (.ireturn, 1) := by decide +kernel
theorem dX12_kindHere_0 : decode cX12_kindHere 0 = .ok (.aload_n 0, 1) := by decide +kernel
theorem dX12_kindHere_1 : decode cX12_kindHere 1 = .ok (.iconst 5, 1) := by decide +kernel
theorem dX12_kindHere_2 : decode cX12_kindHere 2 = .ok (.bipush 103, 2) := by decide +kernel
theorem dX12_kindHere_4 : decode cX12_kindHere 4 = .ok (.bipush 117, 2) := by decide +kernel
theorem dX12_kindHere_6 : decode cX12_kindHere 6 = .ok (.bipush 105, 2) := by decide +kernel
theorem dX12_kindHere_8 : decode cX12_kindHere 8 = .ok (.bipush 100, 2) := by decide +kernel
theorem dX12_kindHere_10 : decode cX12_kindHere 10 = .ok (.invokevirtual 183, 3) := by decide +kernel
theorem dX12_kindHere_13 : decode cX12_kindHere 13 = .ok (.ifCond .eq 20, 3) := by decide +kernel
theorem dX12_kindHere_16 : decode cX12_kindHere 16 = .ok (.aload_n 0, 1) := by decide +kernel
theorem dX12_kindHere_17 : decode cX12_kindHere 17 = .ok (.aload_n 0, 1) := by decide +kernel
theorem dX12_kindHere_18 : decode cX12_kindHere 18 = .ok (.getfield 158, 3) := by decide +kernel
theorem dX12_kindHere_21 : decode cX12_kindHere 21 = .ok (.iconst 3, 1) := by decide +kernel
theorem dX12_kindHere_22 : decode cX12_kindHere 22 = .ok (.iadd, 1) := by decide +kernel
theorem dX12_kindHere_23 : decode cX12_kindHere 23 = .ok (.invokevirtual 161, 3) := by decide +kernel
theorem dX12_kindHere_26 : decode cX12_kindHere 26 = .ok (.bipush 108, 2) := by decide +kernel
theorem dX12_kindHere_28 : decode cX12_kindHere 28 = .ok (.if_icmp .ne 5, 3) := by decide +kernel
theorem dX12_kindHere_31 : decode cX12_kindHere 31 = .ok (.iconst 0, 1) := by decide +kernel
theorem dX12_kindHere_32 : decode cX12_kindHere 32 = .ok (.ireturn, 1) := by decide +kernel
theorem dX12_kindHere_33 : decode cX12_kindHere 33 = .ok (.aload_n 0, 1) := by decide +kernel
theorem dX12_kindHere_34 : decode cX12_kindHere 34 = .ok (.iconst 5, 1) := by decide +kernel
theorem dX12_kindHere_35 : decode cX12_kindHere 35 = .ok (.bipush 98, 2) := by decide +kernel
theorem dX12_kindHere_37 : decode cX12_kindHere 37 = .ok (.bipush 97, 2) := by decide +kernel
theorem dX12_kindHere_39 : decode cX12_kindHere 39 = .ok (.bipush 107, 2) := by decide +kernel
theorem dX12_kindHere_41 : decode cX12_kindHere 41 = .ok (.bipush 114, 2) := by decide +kernel
theorem dX12_kindHere_43 : decode cX12_kindHere 43 = .ok (.invokevirtual 183, 3) := by decide +kernel
theorem dX12_kindHere_46 : decode cX12_kindHere 46 = .ok (.ifCond .eq 20, 3) := by decide +kernel
theorem dX12_kindHere_49 : decode cX12_kindHere 49 = .ok (.aload_n 0, 1) := by decide +kernel
theorem dX12_kindHere_50 : decode cX12_kindHere 50 = .ok (.aload_n 0, 1) := by decide +kernel
theorem dX12_kindHere_51 : decode cX12_kindHere 51 = .ok (.getfield 158, 3) := by decide +kernel
theorem dX12_kindHere_54 : decode cX12_kindHere 54 = .ok (.iconst 3, 1) := by decide +kernel
theorem dX12_kindHere_55 : decode cX12_kindHere 55 = .ok (.iadd, 1) := by decide +kernel
theorem dX12_kindHere_56 : decode cX12_kindHere 56 = .ok (.invokevirtual 161, 3) := by decide +kernel
theorem dX12_kindHere_59 : decode cX12_kindHere 59 = .ok (.bipush 101, 2) := by decide +kernel
theorem dX12_kindHere_61 : decode cX12_kindHere 61 = .ok (.if_icmp .ne 5, 3) := by decide +kernel
theorem dX12_kindHere_64 : decode cX12_kindHere 64 = .ok (.iconst 1, 1) := by decide +kernel
theorem dX12_kindHere_65 : decode cX12_kindHere 65 = .ok (.ireturn, 1) := by decide +kernel
theorem dX12_kindHere_66 : decode cX12_kindHere 66 = .ok (.aload_n 0, 1) := by decide +kernel
theorem dX12_kindHere_67 : decode cX12_kindHere 67 = .ok (.bipush 6, 2) := by decide +kernel
theorem dX12_kindHere_69 : decode cX12_kindHere 69 = .ok (.bipush 108, 2) := by decide +kernel
theorem dX12_kindHere_71 : decode cX12_kindHere 71 = .ok (.bipush 97, 2) := by decide +kernel
theorem dX12_kindHere_73 : decode cX12_kindHere 73 = .ok (.bipush 119, 2) := by decide +kernel
theorem dX12_kindHere_75 : decode cX12_kindHere 75 = .ok (.bipush 114, 2) := by decide +kernel
theorem dX12_kindHere_77 : decode cX12_kindHere 77 = .ok (.invokevirtual 183, 3) := by decide +kernel
theorem dX12_kindHere_80 : decode cX12_kindHere 80 = .ok (.ifCond .eq 19, 3) := by decide +kernel
theorem dX12_kindHere_83 : decode cX12_kindHere 83 = .ok (.aload_n 0, 1) := by decide +kernel
theorem dX12_kindHere_84 : decode cX12_kindHere 84 = .ok (.iconst 2, 1) := by decide +kernel
theorem dX12_kindHere_85 : decode cX12_kindHere 85 = .ok (.bipush 119, 2) := by decide +kernel
theorem dX12_kindHere_87 : decode cX12_kindHere 87 = .ok (.bipush 121, 2) := by decide +kernel
theorem dX12_kindHere_89 : decode cX12_kindHere 89 = .ok (.bipush 101, 2) := by decide +kernel
theorem dX12_kindHere_91 : decode cX12_kindHere 91 = .ok (.invokevirtual 187, 3) := by decide +kernel
theorem dX12_kindHere_94 : decode cX12_kindHere 94 = .ok (.ifCond .eq 5, 3) := by decide +kernel
theorem dX12_kindHere_97 : decode cX12_kindHere 97 = .ok (.iconst 2, 1) := by decide +kernel
theorem dX12_kindHere_98 : decode cX12_kindHere 98 = .ok (.ireturn, 1) := by decide +kernel
theorem dX12_kindHere_99 : decode cX12_kindHere 99 = .ok (.aload_n 0, 1) := by decide +kernel
theorem dX12_kindHere_100 : decode cX12_kindHere 100 = .ok (.bipush 6, 2) := by decide +kernel
theorem dX12_kindHere_102 : decode cX12_kindHere 102 = .ok (.bipush 100, 2) := by decide +kernel
theorem dX12_kindHere_104 : decode cX12_kindHere 104 = .ok (.bipush 111, 2) := by decide +kernel
theorem dX12_kindHere_106 : decode cX12_kindHere 106 = .ok (.bipush 99, 2) := by decide +kernel
theorem dX12_kindHere_108 : decode cX12_kindHere 108 = .ok (.bipush 114, 2) := by decide +kernel
theorem dX12_kindHere_110 : decode cX12_kindHere 110 = .ok (.invokevirtual 183, 3) := by decide +kernel
theorem dX12_kindHere_113 : decode cX12_kindHere 113 = .ok (.ifCond .eq 19, 3) := by decide +kernel
theorem dX12_kindHere_116 : decode cX12_kindHere 116 = .ok (.aload_n 0, 1) := by decide +kernel
theorem dX12_kindHere_117 : decode cX12_kindHere 117 = .ok (.iconst 2, 1) := by decide +kernel
theorem dX12_kindHere_118 : decode cX12_kindHere 118 = .ok (.bipush 99, 2) := by decide +kernel
theorem dX12_kindHere_120 : decode cX12_kindHere 120 = .ok (.bipush 116, 2) := by decide +kernel
theorem dX12_kindHere_122 : decode cX12_kindHere 122 = .ok (.bipush 111, 2) := by decide +kernel
theorem dX12_kindHere_124 : decode cX12_kindHere 124 = .ok (.invokevirtual 187, 3) := by decide +kernel
theorem dX12_kindHere_127 : decode cX12_kindHere 127 = .ok (.ifCond .eq 5, 3) := by decide +kernel
theorem dX12_kindHere_130 : decode cX12_kindHere 130 = .ok (.iconst 3, 1) := by decide +kernel
theorem dX12_kindHere_131 : decode cX12_kindHere 131 = .ok (.ireturn, 1) := by decide +kernel
theorem dX12_kindHere_132 : decode cX12_kindHere 132 = .ok (.aload_n 0, 1) := by decide +kernel
theorem dX12_kindHere_133 : decode cX12_kindHere 133 = .ok (.iconst 4, 1) := by decide +kernel
theorem dX12_kindHere_134 : decode cX12_kindHere 134 = .ok (.bipush 98, 2) := by decide +kernel
theorem dX12_kindHere_136 : decode cX12_kindHere 136 = .ok (.bipush 111, 2) := by decide +kernel
theorem dX12_kindHere_138 : decode cX12_kindHere 138 = .ok (.bipush 111, 2) := by decide +kernel
theorem dX12_kindHere_140 : decode cX12_kindHere 140 = .ok (.bipush 107, 2) := by decide +kernel
theorem dX12_kindHere_142 : decode cX12_kindHere 142 = .ok (.invokevirtual 183, 3) := by decide +kernel
theorem dX12_kindHere_145 : decode cX12_kindHere 145 = .ok (.ifCond .eq 5, 3) := by decide +kernel
theorem dX12_kindHere_148 : decode cX12_kindHere 148 = .ok (.iconst 4, 1) := by decide +kernel
theorem dX12_kindHere_149 : decode cX12_kindHere 149 = .ok (.ireturn, 1) := by decide +kernel
theorem dX12_kindHere_150 : decode cX12_kindHere 150 = .ok (.aload_n 0, 1) := by decide +kernel
theorem dX12_kindHere_151 : decode cX12_kindHere 151 = .ok (.bipush 6, 2) := by decide +kernel
theorem dX12_kindHere_153 : decode cX12_kindHere 153 = .ok (.bipush 99, 2) := by decide +kernel
theorem dX12_kindHere_155 : decode cX12_kindHere 155 = .ok (.bipush 97, 2) := by decide +kernel
theorem dX12_kindHere_157 : decode cX12_kindHere 157 = .ok (.bipush 110, 2) := by decide +kernel
theorem dX12_kindHere_159 : decode cX12_kindHere 159 = .ok (.bipush 101, 2) := by decide +kernel
theorem dX12_kindHere_161 : decode cX12_kindHere 161 = .ok (.invokevirtual 183, 3) := by decide +kernel
theorem dX12_kindHere_164 : decode cX12_kindHere 164 = .ok (.ifCond .eq 21, 3) := by decide +kernel
theorem dX12_kindHere_167 : decode cX12_kindHere 167 = .ok (.aload_n 0, 1) := by decide +kernel
theorem dX12_kindHere_168 : decode cX12_kindHere 168 = .ok (.iconst 2, 1) := by decide +kernel
theorem dX12_kindHere_169 : decode cX12_kindHere 169 = .ok (.bipush 110, 2) := by decide +kernel
theorem dX12_kindHere_171 : decode cX12_kindHere 171 = .ok (.bipush 100, 2) := by decide +kernel
theorem dX12_kindHere_173 : decode cX12_kindHere 173 = .ok (.bipush 108, 2) := by decide +kernel
theorem dX12_kindHere_175 : decode cX12_kindHere 175 = .ok (.invokevirtual 187, 3) := by decide +kernel
theorem dX12_kindHere_178 : decode cX12_kindHere 178 = .ok (.ifCond .eq 7, 3) := by decide +kernel
theorem dX12_kindHere_181 : decode cX12_kindHere 181 = .ok (.iconst 5, 1) := by decide +kernel
theorem dX12_kindHere_182 : decode cX12_kindHere 182 = .ok (.goto 4, 3) := by decide +kernel
theorem dX12_kindHere_185 : decode cX12_kindHere 185 = .ok (.iconst (-1), 1) := by decide +kernel
theorem dX12_kindHere_186 : decode cX12_kindHere 186 = .ok (.ireturn, 1) := by decide +kernel
theorem dX12_doHere_0 : decode cX12_doHere 0 = .ok (.aload_n 0, 1) := by decide +kernel
theorem dX12_doHere_1 : decode cX12_doHere 1 = .ok (.iconst 4, 1) := by decide +kernel
theorem dX12_doHere_2 : decode cX12_doHere 2 = .ok (.bipush 99, 2) := by decide +kernel
theorem dX12_doHere_4 : decode cX12_doHere 4 = .ok (.bipush 111, 2) := by decide +kernel
theorem dX12_doHere_6 : decode cX12_doHere 6 = .ok (.bipush 109, 2) := by decide +kernel
theorem dX12_doHere_8 : decode cX12_doHere 8 = .ok (.bipush 101, 2) := by decide +kernel
theorem dX12_doHere_10 : decode cX12_doHere 10 = .ok (.invokevirtual 183, 3) := by decide +kernel
theorem dX12_doHere_13 : decode cX12_doHere 13 = .ok (.ifCond .eq 5, 3) := by decide +kernel
theorem dX12_doHere_16 : decode cX12_doHere 16 = .ok (.iconst 0, 1) := by decide +kernel
theorem dX12_doHere_17 : decode cX12_doHere 17 = .ok (.ireturn, 1) := by decide +kernel
theorem dX12_doHere_18 : decode cX12_doHere 18 = .ok (.aload_n 0, 1) := by decide +kernel
theorem dX12_doHere_19 : decode cX12_doHere 19 = .ok (.iconst 4, 1) := by decide +kernel
theorem dX12_doHere_20 : decode cX12_doHere 20 = .ok (.bipush 119, 2) := by decide +kernel
theorem dX12_doHere_22 : decode cX12_doHere 22 = .ok (.bipush 97, 2) := by decide +kernel
theorem dX12_doHere_24 : decode cX12_doHere 24 = .ok (.bipush 105, 2) := by decide +kernel
theorem dX12_doHere_26 : decode cX12_doHere 26 = .ok (.bipush 116, 2) := by decide +kernel
theorem dX12_doHere_28 : decode cX12_doHere 28 = .ok (.invokevirtual 183, 3) := by decide +kernel
theorem dX12_doHere_31 : decode cX12_doHere 31 = .ok (.ifCond .eq 5, 3) := by decide +kernel
theorem dX12_doHere_34 : decode cX12_doHere 34 = .ok (.iconst 1, 1) := by decide +kernel
theorem dX12_doHere_35 : decode cX12_doHere 35 = .ok (.ireturn, 1) := by decide +kernel
theorem dX12_doHere_36 : decode cX12_doHere 36 = .ok (.aload_n 0, 1) := by decide +kernel
theorem dX12_doHere_37 : decode cX12_doHere 37 = .ok (.iconst 5, 1) := by decide +kernel
theorem dX12_doHere_38 : decode cX12_doHere 38 = .ok (.bipush 108, 2) := by decide +kernel
theorem dX12_doHere_40 : decode cX12_doHere 40 = .ok (.bipush 101, 2) := by decide +kernel
theorem dX12_doHere_42 : decode cX12_doHere 42 = .ok (.bipush 97, 2) := by decide +kernel
theorem dX12_doHere_44 : decode cX12_doHere 44 = .ok (.bipush 101, 2) := by decide +kernel
theorem dX12_doHere_46 : decode cX12_doHere 46 = .ok (.invokevirtual 183, 3) := by decide +kernel
theorem dX12_doHere_49 : decode cX12_doHere 49 = .ok (.ifCond .eq 22, 3) := by decide +kernel
theorem dX12_doHere_52 : decode cX12_doHere 52 = .ok (.aload_n 0, 1) := by decide +kernel
theorem dX12_doHere_53 : decode cX12_doHere 53 = .ok (.aload_n 0, 1) := by decide +kernel
theorem dX12_doHere_54 : decode cX12_doHere 54 = .ok (.getfield 158, 3) := by decide +kernel
theorem dX12_doHere_57 : decode cX12_doHere 57 = .ok (.iconst 3, 1) := by decide +kernel
theorem dX12_doHere_58 : decode cX12_doHere 58 = .ok (.iadd, 1) := by decide +kernel
theorem dX12_doHere_59 : decode cX12_doHere 59 = .ok (.invokevirtual 161, 3) := by decide +kernel
theorem dX12_doHere_62 : decode cX12_doHere 62 = .ok (.bipush 118, 2) := by decide +kernel
theorem dX12_doHere_64 : decode cX12_doHere 64 = .ok (.if_icmp .ne 7, 3) := by decide +kernel
theorem dX12_doHere_67 : decode cX12_doHere 67 = .ok (.iconst 2, 1) := by decide +kernel
theorem dX12_doHere_68 : decode cX12_doHere 68 = .ok (.goto 4, 3) := by decide +kernel
theorem dX12_doHere_71 : decode cX12_doHere 71 = .ok (.iconst (-1), 1) := by decide +kernel
theorem dX12_doHere_72 : decode cX12_doHere 72 = .ok (.ireturn, 1) := by decide +kernel
theorem dX12_factHere_0 : decode cX12_factHere 0 = .ok (.aload_n 0, 1) := by decide +kernel
theorem dX12_factHere_1 : decode cX12_factHere 1 = .ok (.iconst 4, 1) := by decide +kernel
theorem dX12_factHere_2 : decode cX12_factHere 2 = .ok (.bipush 104, 2) := by decide +kernel
theorem dX12_factHere_4 : decode cX12_factHere 4 = .ok (.bipush 111, 2) := by decide +kernel
theorem dX12_factHere_6 : decode cX12_factHere 6 = .ok (.bipush 117, 2) := by decide +kernel
theorem dX12_factHere_8 : decode cX12_factHere 8 = .ok (.bipush 114, 2) := by decide +kernel
theorem dX12_factHere_10 : decode cX12_factHere 10 = .ok (.invokevirtual 183, 3) := by decide +kernel
theorem dX12_factHere_13 : decode cX12_factHere 13 = .ok (.ifCond .eq 5, 3) := by decide +kernel
theorem dX12_factHere_16 : decode cX12_factHere 16 = .ok (.iconst 0, 1) := by decide +kernel
theorem dX12_factHere_17 : decode cX12_factHere 17 = .ok (.ireturn, 1) := by decide +kernel
theorem dX12_factHere_18 : decode cX12_factHere 18 = .ok (.aload_n 0, 1) := by decide +kernel
theorem dX12_factHere_19 : decode cX12_factHere 19 = .ok (.iconst 4, 1) := by decide +kernel
theorem dX12_factHere_20 : decode cX12_factHere 20 = .ok (.bipush 103, 2) := by decide +kernel
theorem dX12_factHere_22 : decode cX12_factHere 22 = .ok (.bipush 105, 2) := by decide +kernel
theorem dX12_factHere_24 : decode cX12_factHere 24 = .ok (.bipush 102, 2) := by decide +kernel
theorem dX12_factHere_26 : decode cX12_factHere 26 = .ok (.bipush 116, 2) := by decide +kernel
theorem dX12_factHere_28 : decode cX12_factHere 28 = .ok (.invokevirtual 183, 3) := by decide +kernel
theorem dX12_factHere_31 : decode cX12_factHere 31 = .ok (.ifCond .eq 5, 3) := by decide +kernel
theorem dX12_factHere_34 : decode cX12_factHere 34 = .ok (.iconst 1, 1) := by decide +kernel
theorem dX12_factHere_35 : decode cX12_factHere 35 = .ok (.ireturn, 1) := by decide +kernel
theorem dX12_factHere_36 : decode cX12_factHere 36 = .ok (.aload_n 0, 1) := by decide +kernel
theorem dX12_factHere_37 : decode cX12_factHere 37 = .ok (.iconst 4, 1) := by decide +kernel
theorem dX12_factHere_38 : decode cX12_factHere 38 = .ok (.bipush 108, 2) := by decide +kernel
theorem dX12_factHere_40 : decode cX12_factHere 40 = .ok (.bipush 97, 2) := by decide +kernel
theorem dX12_factHere_42 : decode cX12_factHere 42 = .ok (.bipush 116, 2) := by decide +kernel
theorem dX12_factHere_44 : decode cX12_factHere 44 = .ok (.bipush 101, 2) := by decide +kernel
theorem dX12_factHere_46 : decode cX12_factHere 46 = .ok (.invokevirtual 183, 3) := by decide +kernel
theorem dX12_factHere_49 : decode cX12_factHere 49 = .ok (.ifCond .eq 5, 3) := by decide +kernel
theorem dX12_factHere_52 : decode cX12_factHere 52 = .ok (.iconst 2, 1) := by decide +kernel
theorem dX12_factHere_53 : decode cX12_factHere 53 = .ok (.ireturn, 1) := by decide +kernel
theorem dX12_factHere_54 : decode cX12_factHere 54 = .ok (.aload_n 0, 1) := by decide +kernel
theorem dX12_factHere_55 : decode cX12_factHere 55 = .ok (.iconst 4, 1) := by decide +kernel
theorem dX12_factHere_56 : decode cX12_factHere 56 = .ok (.bipush 109, 2) := by decide +kernel
theorem dX12_factHere_58 : decode cX12_factHere 58 = .ok (.bipush 111, 2) := by decide +kernel
theorem dX12_factHere_60 : decode cX12_factHere 60 = .ok (.bipush 111, 2) := by decide +kernel
theorem dX12_factHere_62 : decode cX12_factHere 62 = .ok (.bipush 100, 2) := by decide +kernel
theorem dX12_factHere_64 : decode cX12_factHere 64 = .ok (.invokevirtual 183, 3) := by decide +kernel
theorem dX12_factHere_67 : decode cX12_factHere 67 = .ok (.ifCond .eq 5, 3) := by decide +kernel
theorem dX12_factHere_70 : decode cX12_factHere 70 = .ok (.iconst 3, 1) := by decide +kernel
theorem dX12_factHere_71 : decode cX12_factHere 71 = .ok (.ireturn, 1) := by decide +kernel
theorem dX12_factHere_72 : decode cX12_factHere 72 = .ok (.aload_n 0, 1) := by decide +kernel
theorem dX12_factHere_73 : decode cX12_factHere 73 = .ok (.bipush 6, 2) := by decide +kernel
theorem dX12_factHere_75 : decode cX12_factHere 75 = .ok (.bipush 110, 2) := by decide +kernel
theorem dX12_factHere_77 : decode cX12_factHere 77 = .ok (.bipush 117, 2) := by decide +kernel
theorem dX12_factHere_79 : decode cX12_factHere 79 = .ok (.bipush 109, 2) := by decide +kernel
theorem dX12_factHere_81 : decode cX12_factHere 81 = .ok (.bipush 114, 2) := by decide +kernel
theorem dX12_factHere_83 : decode cX12_factHere 83 = .ok (.invokevirtual 183, 3) := by decide +kernel
theorem dX12_factHere_86 : decode cX12_factHere 86 = .ok (.ifCond .eq 21, 3) := by decide +kernel
theorem dX12_factHere_89 : decode cX12_factHere 89 = .ok (.aload_n 0, 1) := by decide +kernel
theorem dX12_factHere_90 : decode cX12_factHere 90 = .ok (.iconst 2, 1) := by decide +kernel
theorem dX12_factHere_91 : decode cX12_factHere 91 = .ok (.bipush 109, 2) := by decide +kernel
theorem dX12_factHere_93 : decode cX12_factHere 93 = .ok (.bipush 98, 2) := by decide +kernel
theorem dX12_factHere_95 : decode cX12_factHere 95 = .ok (.bipush 101, 2) := by decide +kernel
theorem dX12_factHere_97 : decode cX12_factHere 97 = .ok (.invokevirtual 187, 3) := by decide +kernel
theorem dX12_factHere_100 : decode cX12_factHere 100 = .ok (.ifCond .eq 7, 3) := by decide +kernel
theorem dX12_factHere_103 : decode cX12_factHere 103 = .ok (.iconst 4, 1) := by decide +kernel
