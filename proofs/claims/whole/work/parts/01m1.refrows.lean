theorem dX11_leastByUnits_73 : decode cX11_leastByUnits 73 = .ok (.iload_n 1, 1) := by decide +kernel
theorem dX11_leastByUnits_74 : decode cX11_leastByUnits 74 = .ok (.ireturn, 1) := by decide +kernel
theorem dX11_isAbove_0 : decode cX11_isAbove 0 = .ok (.iconst 0, 1) := by decide +kernel
theorem dX11_isAbove_1 : decode cX11_isAbove 1 = .ok (.istore_n 2, 1) := by decide +kernel
theorem dX11_isAbove_2 : decode cX11_isAbove 2 = .ok (.iload_n 2, 1) := by decide +kernel
theorem dX11_isAbove_3 : decode cX11_isAbove 3 = .ok (.aload_n 0, 1) := by decide +kernel
theorem dX11_isAbove_4 : decode cX11_isAbove 4 = .ok (.getfield 137, 3) := by decide +kernel
theorem dX11_isAbove_7 : decode cX11_isAbove 7 = .ok (.if_icmp .ge 35, 3) := by decide +kernel
theorem dX11_isAbove_10 : decode cX11_isAbove 10 = .ok (.iconst 0, 1) := by decide +kernel
theorem dX11_isAbove_11 : decode cX11_isAbove 11 = .ok (.istore_n 3, 1) := by decide +kernel
theorem dX11_isAbove_12 : decode cX11_isAbove 12 = .ok (.iload_n 3, 1) := by decide +kernel
theorem dX11_isAbove_13 : decode cX11_isAbove 13 = .ok (.aload_n 0, 1) := by decide +kernel
theorem dX11_isAbove_14 : decode cX11_isAbove 14 = .ok (.getfield 137, 3) := by decide +kernel
theorem dX11_isAbove_17 : decode cX11_isAbove 17 = .ok (.if_icmp .ge 19, 3) := by decide +kernel
theorem dX11_isAbove_20 : decode cX11_isAbove 20 = .ok (.aload_n 0, 1) := by decide +kernel
theorem dX11_isAbove_21 : decode cX11_isAbove 21 = .ok (.getfield 178, 3) := by decide +kernel
theorem dX11_isAbove_24 : decode cX11_isAbove 24 = .ok (.iload_n 2, 1) := by decide +kernel
theorem dX11_isAbove_25 : decode cX11_isAbove 25 = .ok (.aaload, 1) := by decide +kernel
theorem dX11_isAbove_26 : decode cX11_isAbove 26 = .ok (.iload_n 3, 1) := by decide +kernel
theorem dX11_isAbove_27 : decode cX11_isAbove 27 = .ok (.ldc 182, 2) := by decide +kernel
theorem dX11_isAbove_29 : decode cX11_isAbove 29 = .ok (.iastore, 1) := by decide +kernel
theorem dX11_isAbove_30 : decode cX11_isAbove 30 = .ok (.iinc 3 1, 3) := by decide +kernel
theorem dX11_isAbove_33 : decode cX11_isAbove 33 = .ok (.goto (-21), 3) := by decide +kernel
theorem dX11_isAbove_36 : decode cX11_isAbove 36 = .ok (.iinc 2 1, 3) := by decide +kernel
theorem dX11_isAbove_39 : decode cX11_isAbove 39 = .ok (.goto (-37), 3) := by decide +kernel
theorem dX11_isAbove_42 : decode cX11_isAbove 42 = .ok (.iconst 0, 1) := by decide +kernel
theorem dX11_isAbove_43 : decode cX11_isAbove 43 = .ok (.istore_n 2, 1) := by decide +kernel
theorem dX11_isAbove_44 : decode cX11_isAbove 44 = .ok (.iload_n 2, 1) := by decide +kernel
theorem dX11_isAbove_45 : decode cX11_isAbove 45 = .ok (.aload_n 0, 1) := by decide +kernel
theorem dX11_isAbove_46 : decode cX11_isAbove 46 = .ok (.getfield 119, 3) := by decide +kernel
theorem dX11_isAbove_49 : decode cX11_isAbove 49 = .ok (.if_icmp .ge 65, 3) := by decide +kernel
theorem dX11_isAbove_52 : decode cX11_isAbove 52 = .ok (.aload_n 0, 1) := by decide +kernel
theorem dX11_isAbove_53 : decode cX11_isAbove 53 = .ok (.getfield 131, 3) := by decide +kernel
theorem dX11_isAbove_56 : decode cX11_isAbove 56 = .ok (.iload_n 2, 1) := by decide +kernel
theorem dX11_isAbove_57 : decode cX11_isAbove 57 = .ok (.iaload, 1) := by decide +kernel
theorem dX11_isAbove_58 : decode cX11_isAbove 58 = .ok (.aload_n 0, 1) := by decide +kernel
theorem dX11_isAbove_59 : decode cX11_isAbove 59 = .ok (.getfield 128, 3) := by decide +kernel
theorem dX11_isAbove_62 : decode cX11_isAbove 62 = .ok (.iload_n 2, 1) := by decide +kernel
theorem dX11_isAbove_63 : decode cX11_isAbove 63 = .ok (.iaload, 1) := by decide +kernel
theorem dX11_isAbove_64 : decode cX11_isAbove 64 = .ok (.iload_n 1, 1) := by decide +kernel
theorem dX11_isAbove_65 : decode cX11_isAbove 65 = .ok (.imul, 1) := by decide +kernel
theorem dX11_isAbove_66 : decode cX11_isAbove 66 = .ok (.isub, 1) := by decide +kernel
theorem dX11_isAbove_67 : decode cX11_isAbove 67 = .ok (.istore_n 3, 1) := by decide +kernel
theorem dX11_isAbove_68 : decode cX11_isAbove 68 = .ok (.aload_n 0, 1) := by decide +kernel
theorem dX11_isAbove_69 : decode cX11_isAbove 69 = .ok (.getfield 178, 3) := by decide +kernel
theorem dX11_isAbove_72 : decode cX11_isAbove 72 = .ok (.aload_n 0, 1) := by decide +kernel
theorem dX11_isAbove_73 : decode cX11_isAbove 73 = .ok (.getfield 122, 3) := by decide +kernel
theorem dX11_isAbove_76 : decode cX11_isAbove 76 = .ok (.iload_n 2, 1) := by decide +kernel
theorem dX11_isAbove_77 : decode cX11_isAbove 77 = .ok (.iaload, 1) := by decide +kernel
theorem dX11_isAbove_78 : decode cX11_isAbove 78 = .ok (.aaload, 1) := by decide +kernel
theorem dX11_isAbove_79 : decode cX11_isAbove 79 = .ok (.aload_n 0, 1) := by decide +kernel
theorem dX11_isAbove_80 : decode cX11_isAbove 80 = .ok (.getfield 125, 3) := by decide +kernel
theorem dX11_isAbove_83 : decode cX11_isAbove 83 = .ok (.iload_n 2, 1) := by decide +kernel
theorem dX11_isAbove_84 : decode cX11_isAbove 84 = .ok (.iaload, 1) := by decide +kernel
theorem dX11_isAbove_85 : decode cX11_isAbove 85 = .ok (.aload_n 0, 1) := by decide +kernel
theorem dX11_isAbove_86 : decode cX11_isAbove 86 = .ok (.getfield 178, 3) := by decide +kernel
theorem dX11_isAbove_89 : decode cX11_isAbove 89 = .ok (.aload_n 0, 1) := by decide +kernel
theorem dX11_isAbove_90 : decode cX11_isAbove 90 = .ok (.getfield 122, 3) := by decide +kernel
theorem dX11_isAbove_93 : decode cX11_isAbove 93 = .ok (.iload_n 2, 1) := by decide +kernel
theorem dX11_isAbove_94 : decode cX11_isAbove 94 = .ok (.iaload, 1) := by decide +kernel
theorem dX11_isAbove_95 : decode cX11_isAbove 95 = .ok (.aaload, 1) := by decide +kernel
theorem dX11_isAbove_96 : decode cX11_isAbove 96 = .ok (.aload_n 0, 1) := by decide +kernel
theorem dX11_isAbove_97 : decode cX11_isAbove 97 = .ok (.getfield 125, 3) := by decide +kernel
theorem dX11_isAbove_100 : decode cX11_isAbove 100 = .ok (.iload_n 2, 1) := by decide +kernel
theorem dX11_isAbove_101 : decode cX11_isAbove 101 = .ok (.iaload, 1) := by decide +kernel
theorem dX11_isAbove_102 : decode cX11_isAbove 102 = .ok (.iaload, 1) := by decide +kernel
theorem dX11_isAbove_103 : decode cX11_isAbove 103 = .ok (.iload_n 3, 1) := by decide +kernel
theorem dX11_isAbove_104 : decode cX11_isAbove 104 = .ok (.invokestatic 134, 3) := by decide +kernel
theorem dX11_isAbove_107 : decode cX11_isAbove 107 = .ok (.iastore, 1) := by decide +kernel
theorem dX11_isAbove_108 : decode cX11_isAbove 108 = .ok (.iinc 2 1, 3) := by decide +kernel
theorem dX11_isAbove_111 : decode cX11_isAbove 111 = .ok (.goto (-67), 3) := by decide +kernel
theorem dX11_isAbove_114 : decode cX11_isAbove 114 = .ok (.iconst 0, 1) := by decide +kernel
theorem dX11_isAbove_115 : decode cX11_isAbove 115 = .ok (.istore_n 2, 1) := by decide +kernel
theorem dX11_isAbove_116 : decode cX11_isAbove 116 = .ok (.iload_n 2, 1) := by decide +kernel
theorem dX11_isAbove_117 : decode cX11_isAbove 117 = .ok (.aload_n 0, 1) := by decide +kernel
theorem dX11_isAbove_118 : decode cX11_isAbove 118 = .ok (.getfield 137, 3) := by decide +kernel
theorem dX11_isAbove_121 : decode cX11_isAbove 121 = .ok (.if_icmp .ge 125, 3) := by decide +kernel
theorem dX11_isAbove_124 : decode cX11_isAbove 124 = .ok (.iconst 0, 1) := by decide +kernel
theorem dX11_isAbove_125 : decode cX11_isAbove 125 = .ok (.istore_n 3, 1) := by decide +kernel
theorem dX11_isAbove_126 : decode cX11_isAbove 126 = .ok (.iload_n 3, 1) := by decide +kernel
theorem dX11_isAbove_127 : decode cX11_isAbove 127 = .ok (.aload_n 0, 1) := by decide +kernel
theorem dX11_isAbove_128 : decode cX11_isAbove 128 = .ok (.getfield 137, 3) := by decide +kernel
theorem dX11_isAbove_131 : decode cX11_isAbove 131 = .ok (.if_icmp .ge 109, 3) := by decide +kernel
theorem dX11_isAbove_134 : decode cX11_isAbove 134 = .ok (.aload_n 0, 1) := by decide +kernel
theorem dX11_isAbove_135 : decode cX11_isAbove 135 = .ok (.getfield 178, 3) := by decide +kernel
theorem dX11_isAbove_138 : decode cX11_isAbove 138 = .ok (.iload_n 3, 1) := by decide +kernel
theorem dX11_isAbove_139 : decode cX11_isAbove 139 = .ok (.aaload, 1) := by decide +kernel
theorem dX11_isAbove_140 : decode cX11_isAbove 140 = .ok (.iload_n 2, 1) := by decide +kernel
theorem dX11_isAbove_141 : decode cX11_isAbove 141 = .ok (.iaload, 1) := by decide +kernel
theorem dX11_isAbove_142 : decode cX11_isAbove 142 = .ok (.ldc 182, 2) := by decide +kernel
theorem dX11_isAbove_144 : decode cX11_isAbove 144 = .ok (.if_icmp .ne 6, 3) := by decide +kernel
theorem dX11_isAbove_147 : decode cX11_isAbove 147 = .ok (.goto 87, 3) := by decide +kernel
theorem dX11_isAbove_150 : decode cX11_isAbove 150 = .ok (.iconst 0, 1) := by decide +kernel
theorem dX11_isAbove_151 : decode cX11_isAbove 151 = .ok (.istore 4, 2) := by decide +kernel
theorem dX11_isAbove_153 : decode cX11_isAbove 153 = .ok (.iload 4, 2) := by decide +kernel
theorem dX11_isAbove_155 : decode cX11_isAbove 155 = .ok (.aload_n 0, 1) := by decide +kernel
theorem dX11_isAbove_156 : decode cX11_isAbove 156 = .ok (.getfield 137, 3) := by decide +kernel
theorem dX11_isAbove_159 : decode cX11_isAbove 159 = .ok (.if_icmp .ge 62, 3) := by decide +kernel
theorem dX11_isAbove_162 : decode cX11_isAbove 162 = .ok (.aload_n 0, 1) := by decide +kernel
theorem dX11_isAbove_163 : decode cX11_isAbove 163 = .ok (.getfield 178, 3) := by decide +kernel
theorem dX11_isAbove_166 : decode cX11_isAbove 166 = .ok (.iload_n 2, 1) := by decide +kernel
theorem dX11_isAbove_167 : decode cX11_isAbove 167 = .ok (.aaload, 1) := by decide +kernel
theorem dX11_isAbove_168 : decode cX11_isAbove 168 = .ok (.iload 4, 2) := by decide +kernel
theorem dX11_isAbove_170 : decode cX11_isAbove 170 = .ok (.iaload, 1) := by decide +kernel
theorem dX11_isAbove_171 : decode cX11_isAbove 171 = .ok (.ldc 182, 2) := by decide +kernel
theorem dX11_isAbove_173 : decode cX11_isAbove 173 = .ok (.if_icmp .le 42, 3) := by decide +kernel
theorem dX11_isAbove_176 : decode cX11_isAbove 176 = .ok (.aload_n 0, 1) := by decide +kernel
theorem dX11_isAbove_177 : decode cX11_isAbove 177 = .ok (.getfield 178, 3) := by decide +kernel
theorem dX11_isAbove_180 : decode cX11_isAbove 180 = .ok (.iload_n 3, 1) := by decide +kernel
theorem dX11_isAbove_181 : decode cX11_isAbove 181 = .ok (.aaload, 1) := by decide +kernel
theorem dX11_isAbove_182 : decode cX11_isAbove 182 = .ok (.iload 4, 2) := by decide +kernel
theorem dX11_isAbove_184 : decode cX11_isAbove 184 = .ok (.aload_n 0, 1) := by decide +kernel
theorem dX11_isAbove_185 : decode cX11_isAbove 185 = .ok (.getfield 178, 3) := by decide +kernel
theorem dX11_isAbove_188 : decode cX11_isAbove 188 = .ok (.iload_n 3, 1) := by decide +kernel
theorem dX11_isAbove_189 : decode cX11_isAbove 189 = .ok (.aaload, 1) := by decide +kernel
theorem dX11_isAbove_190 : decode cX11_isAbove 190 = .ok (.iload 4, 2) := by decide +kernel
theorem dX11_isAbove_192 : decode cX11_isAbove 192 = .ok (.iaload, 1) := by decide +kernel
theorem dX11_isAbove_193 : decode cX11_isAbove 193 = .ok (.aload_n 0, 1) := by decide +kernel
theorem dX11_isAbove_194 : decode cX11_isAbove 194 = .ok (.getfield 178, 3) := by decide +kernel
theorem dX11_isAbove_197 : decode cX11_isAbove 197 = .ok (.iload_n 3, 1) := by decide +kernel
theorem dX11_isAbove_198 : decode cX11_isAbove 198 = .ok (.aaload, 1) := by decide +kernel
theorem dX11_isAbove_199 : decode cX11_isAbove 199 = .ok (.iload_n 2, 1) := by decide +kernel
theorem dX11_isAbove_200 : decode cX11_isAbove 200 = .ok (.iaload, 1) := by decide +kernel
theorem dX11_isAbove_201 : decode cX11_isAbove 201 = .ok (.aload_n 0, 1) := by decide +kernel
theorem dX11_isAbove_202 : decode cX11_isAbove 202 = .ok (.getfield 178, 3) := by decide +kernel
theorem dX11_isAbove_205 : decode cX11_isAbove 205 = .ok (.iload_n 2, 1) := by decide +kernel
theorem dX11_isAbove_206 : decode cX11_isAbove 206 = .ok (.aaload, 1) := by decide +kernel
theorem dX11_isAbove_207 : decode cX11_isAbove 207 = .ok (.iload 4, 2) := by decide +kernel
theorem dX11_isAbove_209 : decode cX11_isAbove 209 = .ok (.iaload, 1) := by decide +kernel
theorem dX11_isAbove_210 : decode cX11_isAbove 210 = .ok (.iadd, 1) := by decide +kernel
theorem dX11_isAbove_211 : decode cX11_isAbove 211 = .ok (.invokestatic 134, 3) := by decide +kernel
theorem dX11_isAbove_214 : decode cX11_isAbove 214 = .ok (.iastore, 1) := by decide +kernel
theorem dX11_isAbove_215 : decode cX11_isAbove 215 = .ok (.iinc 4 1, 3) := by decide +kernel
theorem dX11_isAbove_218 : decode cX11_isAbove 218 = .ok (.goto (-65), 3) := by decide +kernel
theorem dX11_isAbove_221 : decode cX11_isAbove 221 = .ok (.aload_n 0, 1) := by decide +kernel
theorem dX11_isAbove_222 : decode cX11_isAbove 222 = .ok (.getfield 178, 3) := by decide +kernel
theorem dX11_isAbove_225 : decode cX11_isAbove 225 = .ok (.iload_n 3, 1) := by decide +kernel
theorem dX11_isAbove_226 : decode cX11_isAbove 226 = .ok (.aaload, 1) := by decide +kernel
theorem dX11_isAbove_227 : decode cX11_isAbove 227 = .ok (.iload_n 3, 1) := by decide +kernel
theorem dX11_isAbove_228 : decode cX11_isAbove 228 = .ok (.iaload, 1) := by decide +kernel
theorem dX11_isAbove_229 : decode cX11_isAbove 229 = .ok (.ifCond .le 5, 3) := by decide +kernel
theorem dX11_isAbove_232 : decode cX11_isAbove 232 = .ok (.iconst 1, 1) := by decide +kernel
theorem dX11_isAbove_233 : decode cX11_isAbove 233 = .ok (.ireturn, 1) := by decide +kernel
theorem dX11_isAbove_234 : decode cX11_isAbove 234 = .ok (.iinc 3 1, 3) := by decide +kernel
theorem dX11_isAbove_237 : decode cX11_isAbove 237 = .ok (.goto (-111), 3) := by decide +kernel
theorem dX11_isAbove_240 : decode cX11_isAbove 240 = .ok (.iinc 2 1, 3) := by decide +kernel
theorem dX11_isAbove_243 : decode cX11_isAbove 243 = .ok (.goto (-127), 3) := by decide +kernel
theorem dX11_isAbove_246 : decode cX11_isAbove 246 = .ok (.iconst 0, 1) := by decide +kernel
theorem dX11_isAbove_247 : decode cX11_isAbove 247 = .ok (.ireturn, 1) := by decide +kernel
set_option maxRecDepth 20000 in
theorem ggX11_leastByCircles_X11_isAbove : GoodIn wsX11_leastByCircles wsX11_isAbove := goodIn_r _ [5, 6, 7, 8, 9, 10, 11, 12, 13, 14, 15, 16, 17, 18, 19, 20, 21, 22, 23, 24, 25, 26, 27, 28, 29, 30, 31, 32, 33, 34, 35, 36, 37, 38, 39, 40, 41, 42, 43, 44, 45, 46, 47, 48, 49, 50, 51, 52, 53, 54, 55, 56, 57, 58, 59, 60, 61, 62, 63, 64, 65, 66, 67, 68] rfl (by decide +kernel)
set_option maxRecDepth 20000 in
theorem gX11_leastByCircles_X11_isAbove : GoodIn wsX11_leastByCircles (wsV RX11 183 RX11 yX11_isAbove wsX11_isAbove) := goodIn_app (goodIn_of _ (by decide +kernel)) ggX11_leastByCircles_X11_isAbove
theorem dX11_leastByCircles_0 : decode cX11_leastByCircles 0 = .ok (.iconst 1, 1) := by decide +kernel
theorem dX11_leastByCircles_1 : decode cX11_leastByCircles 1 = .ok (.istore_n 1, 1) := by decide +kernel
theorem dX11_leastByCircles_2 : decode cX11_leastByCircles 2 = .ok (.sipush 1000, 3) := by decide +kernel
theorem dX11_leastByCircles_5 : decode cX11_leastByCircles 5 = .ok (.istore_n 2, 1) := by decide +kernel
theorem dX11_leastByCircles_6 : decode cX11_leastByCircles 6 = .ok (.iload_n 1, 1) := by decide +kernel
theorem dX11_leastByCircles_7 : decode cX11_leastByCircles 7 = .ok (.iload_n 2, 1) := by decide +kernel
theorem dX11_leastByCircles_8 : decode cX11_leastByCircles 8 = .ok (.if_icmp .ge 29, 3) := by decide +kernel
theorem dX11_leastByCircles_11 : decode cX11_leastByCircles 11 = .ok (.iload_n 1, 1) := by decide +kernel
theorem dX11_leastByCircles_12 : decode cX11_leastByCircles 12 = .ok (.iload_n 2, 1) := by decide +kernel
theorem dX11_leastByCircles_13 : decode cX11_leastByCircles 13 = .ok (.iadd, 1) := by decide +kernel
theorem dX11_leastByCircles_14 : decode cX11_leastByCircles 14 = .ok (.iconst 2, 1) := by decide +kernel
theorem dX11_leastByCircles_15 : decode cX11_leastByCircles 15 = .ok (.idiv, 1) := by decide +kernel
theorem dX11_leastByCircles_16 : decode cX11_leastByCircles 16 = .ok (.istore_n 3, 1) := by decide +kernel
theorem dX11_leastByCircles_17 : decode cX11_leastByCircles 17 = .ok (.aload_n 0, 1) := by decide +kernel
theorem dX11_leastByCircles_18 : decode cX11_leastByCircles 18 = .ok (.iload_n 3, 1) := by decide +kernel
theorem dX11_leastByCircles_19 : decode cX11_leastByCircles 19 = .ok (.invokevirtual 183, 3) := by decide +kernel
theorem dX11_leastByCircles_22 : decode cX11_leastByCircles 22 = .ok (.ifCond .eq 10, 3) := by decide +kernel
theorem dX11_leastByCircles_25 : decode cX11_leastByCircles 25 = .ok (.iload_n 3, 1) := by decide +kernel
theorem dX11_leastByCircles_26 : decode cX11_leastByCircles 26 = .ok (.iconst 1, 1) := by decide +kernel
theorem dX11_leastByCircles_27 : decode cX11_leastByCircles 27 = .ok (.iadd, 1) := by decide +kernel
theorem dX11_leastByCircles_28 : decode cX11_leastByCircles 28 = .ok (.istore_n 1, 1) := by decide +kernel
theorem dX11_leastByCircles_29 : decode cX11_leastByCircles 29 = .ok (.goto 5, 3) := by decide +kernel
theorem dX11_leastByCircles_32 : decode cX11_leastByCircles 32 = .ok (.iload_n 3, 1) := by decide +kernel
theorem dX11_leastByCircles_33 : decode cX11_leastByCircles 33 = .ok (.istore_n 2, 1) := by decide +kernel
theorem dX11_leastByCircles_34 : decode cX11_leastByCircles 34 = .ok (.goto (-28), 3) := by decide +kernel
theorem dX11_leastByCircles_37 : decode cX11_leastByCircles 37 = .ok (.iload_n 1, 1) := by decide +kernel
theorem dX11_leastByCircles_38 : decode cX11_leastByCircles 38 = .ok (.ireturn, 1) := by decide +kernel
theorem dX11_heights_0 : decode cX11_heights 0 = .ok (.iconst 0, 1) := by decide +kernel
theorem dX11_heights_1 : decode cX11_heights 1 = .ok (.istore_n 2, 1) := by decide +kernel
theorem dX11_heights_2 : decode cX11_heights 2 = .ok (.iload_n 2, 1) := by decide +kernel
theorem dX11_heights_3 : decode cX11_heights 3 = .ok (.aload_n 0, 1) := by decide +kernel
theorem dX11_heights_4 : decode cX11_heights 4 = .ok (.getfield 137, 3) := by decide +kernel
theorem dX11_heights_7 : decode cX11_heights 7 = .ok (.if_icmp .ge 16, 3) := by decide +kernel
theorem dX11_heights_10 : decode cX11_heights 10 = .ok (.aload_n 0, 1) := by decide +kernel
theorem dX11_heights_11 : decode cX11_heights 11 = .ok (.getfield 186, 3) := by decide +kernel
theorem dX11_heights_14 : decode cX11_heights 14 = .ok (.iload_n 2, 1) := by decide +kernel
theorem dX11_heights_15 : decode cX11_heights 15 = .ok (.iconst 0, 1) := by decide +kernel
theorem dX11_heights_16 : decode cX11_heights 16 = .ok (.iastore, 1) := by decide +kernel
theorem dX11_heights_17 : decode cX11_heights 17 = .ok (.iinc 2 1, 3) := by decide +kernel
theorem dX11_heights_20 : decode cX11_heights 20 = .ok (.goto (-18), 3) := by decide +kernel
theorem dX11_heights_23 : decode cX11_heights 23 = .ok (.iconst 1, 1) := by decide +kernel
theorem dX11_heights_24 : decode cX11_heights 24 = .ok (.istore_n 2, 1) := by decide +kernel
theorem dX11_heights_25 : decode cX11_heights 25 = .ok (.iload_n 2, 1) := by decide +kernel
theorem dX11_heights_26 : decode cX11_heights 26 = .ok (.ifCond .eq 102, 3) := by decide +kernel
theorem dX11_heights_29 : decode cX11_heights 29 = .ok (.iconst 0, 1) := by decide +kernel
theorem dX11_heights_30 : decode cX11_heights 30 = .ok (.istore_n 2, 1) := by decide +kernel
theorem dX11_heights_31 : decode cX11_heights 31 = .ok (.iconst 0, 1) := by decide +kernel
theorem dX11_heights_32 : decode cX11_heights 32 = .ok (.istore_n 3, 1) := by decide +kernel
theorem dX11_heights_33 : decode cX11_heights 33 = .ok (.iload_n 3, 1) := by decide +kernel
theorem dX11_heights_34 : decode cX11_heights 34 = .ok (.aload_n 0, 1) := by decide +kernel
theorem dX11_heights_35 : decode cX11_heights 35 = .ok (.getfield 119, 3) := by decide +kernel
theorem dX11_heights_38 : decode cX11_heights 38 = .ok (.if_icmp .ge 87, 3) := by decide +kernel
theorem dX11_heights_41 : decode cX11_heights 41 = .ok (.aload_n 0, 1) := by decide +kernel
theorem dX11_heights_42 : decode cX11_heights 42 = .ok (.getfield 131, 3) := by decide +kernel
theorem dX11_heights_45 : decode cX11_heights 45 = .ok (.iload_n 3, 1) := by decide +kernel
theorem dX11_heights_46 : decode cX11_heights 46 = .ok (.iaload, 1) := by decide +kernel
theorem dX11_heights_47 : decode cX11_heights 47 = .ok (.aload_n 0, 1) := by decide +kernel
theorem dX11_heights_48 : decode cX11_heights 48 = .ok (.getfield 128, 3) := by decide +kernel
theorem dX11_heights_51 : decode cX11_heights 51 = .ok (.iload_n 3, 1) := by decide +kernel
theorem dX11_heights_52 : decode cX11_heights 52 = .ok (.iaload, 1) := by decide +kernel
theorem dX11_heights_53 : decode cX11_heights 53 = .ok (.iload_n 1, 1) := by decide +kernel
theorem dX11_heights_54 : decode cX11_heights 54 = .ok (.imul, 1) := by decide +kernel
theorem dX11_heights_55 : decode cX11_heights 55 = .ok (.isub, 1) := by decide +kernel
theorem dX11_heights_56 : decode cX11_heights 56 = .ok (.aload_n 0, 1) := by decide +kernel
theorem dX11_heights_57 : decode cX11_heights 57 = .ok (.getfield 186, 3) := by decide +kernel
theorem dX11_heights_60 : decode cX11_heights 60 = .ok (.aload_n 0, 1) := by decide +kernel
theorem dX11_heights_61 : decode cX11_heights 61 = .ok (.getfield 125, 3) := by decide +kernel
theorem dX11_heights_64 : decode cX11_heights 64 = .ok (.iload_n 3, 1) := by decide +kernel
theorem dX11_heights_65 : decode cX11_heights 65 = .ok (.iaload, 1) := by decide +kernel
theorem dX11_heights_66 : decode cX11_heights 66 = .ok (.iaload, 1) := by decide +kernel
theorem dX11_heights_67 : decode cX11_heights 67 = .ok (.iadd, 1) := by decide +kernel
theorem dX11_heights_68 : decode cX11_heights 68 = .ok (.istore 4, 2) := by decide +kernel
theorem dX11_heights_70 : decode cX11_heights 70 = .ok (.aload_n 0, 1) := by decide +kernel
theorem dX11_heights_71 : decode cX11_heights 71 = .ok (.getfield 122, 3) := by decide +kernel
theorem dX11_heights_74 : decode cX11_heights 74 = .ok (.iload_n 3, 1) := by decide +kernel
theorem dX11_heights_75 : decode cX11_heights 75 = .ok (.iaload, 1) := by decide +kernel
theorem dX11_heights_76 : decode cX11_heights 76 = .ok (.aload_n 0, 1) := by decide +kernel
theorem dX11_heights_77 : decode cX11_heights 77 = .ok (.getfield 125, 3) := by decide +kernel
theorem dX11_heights_80 : decode cX11_heights 80 = .ok (.iload_n 3, 1) := by decide +kernel
theorem dX11_heights_81 : decode cX11_heights 81 = .ok (.iaload, 1) := by decide +kernel
theorem dX11_heights_82 : decode cX11_heights 82 = .ok (.if_icmp .eq 37, 3) := by decide +kernel
theorem dX11_heights_85 : decode cX11_heights 85 = .ok (.iload 4, 2) := by decide +kernel
theorem dX11_heights_87 : decode cX11_heights 87 = .ok (.aload_n 0, 1) := by decide +kernel
theorem dX11_heights_88 : decode cX11_heights 88 = .ok (.getfield 186, 3) := by decide +kernel
theorem dX11_heights_91 : decode cX11_heights 91 = .ok (.aload_n 0, 1) := by decide +kernel
theorem dX11_heights_92 : decode cX11_heights 92 = .ok (.getfield 122, 3) := by decide +kernel
theorem dX11_heights_95 : decode cX11_heights 95 = .ok (.iload_n 3, 1) := by decide +kernel
theorem dX11_heights_96 : decode cX11_heights 96 = .ok (.iaload, 1) := by decide +kernel
theorem dX11_heights_97 : decode cX11_heights 97 = .ok (.iaload, 1) := by decide +kernel
theorem dX11_heights_98 : decode cX11_heights 98 = .ok (.if_icmp .gt 6, 3) := by decide +kernel
theorem dX11_heights_101 : decode cX11_heights 101 = .ok (.goto 18, 3) := by decide +kernel
theorem dX11_heights_104 : decode cX11_heights 104 = .ok (.aload_n 0, 1) := by decide +kernel
theorem dX11_heights_105 : decode cX11_heights 105 = .ok (.getfield 186, 3) := by decide +kernel
theorem dX11_heights_108 : decode cX11_heights 108 = .ok (.aload_n 0, 1) := by decide +kernel
theorem dX11_heights_109 : decode cX11_heights 109 = .ok (.getfield 122, 3) := by decide +kernel
theorem dX11_heights_112 : decode cX11_heights 112 = .ok (.iload_n 3, 1) := by decide +kernel
theorem dX11_heights_113 : decode cX11_heights 113 = .ok (.iaload, 1) := by decide +kernel
theorem dX11_heights_114 : decode cX11_heights 114 = .ok (.iload 4, 2) := by decide +kernel
theorem dX11_heights_116 : decode cX11_heights 116 = .ok (.iastore, 1) := by decide +kernel
theorem dX11_heights_117 : decode cX11_heights 117 = .ok (.iconst 1, 1) := by decide +kernel
theorem dX11_heights_118 : decode cX11_heights 118 = .ok (.istore_n 2, 1) := by decide +kernel
theorem dX11_heights_119 : decode cX11_heights 119 = .ok (.iinc 3 1, 3) := by decide +kernel
theorem dX11_heights_122 : decode cX11_heights 122 = .ok (.goto (-89), 3) := by decide +kernel
theorem dX11_heights_125 : decode cX11_heights 125 = .ok (.goto (-100), 3) := by decide +kernel
theorem dX11_heights_128 : decode cX11_heights 128 = .ok (.return_, 1) := by decide +kernel
set_option maxRecDepth 20000 in
theorem ggX11_used_X11_isIn : GoodIn wsX11_used wsX11_isIn := goodIn_r _ [7, 8, 9, 10, 6, 11, 12, 13, 14, 15, 16, 17, 18, 19, 20, 21, 22, 23, 24, 25, 26, 27, 28, 29, 30, 31, 32, 33, 34, 35, 36, 37, 38, 39, 40, 41, 42, 43, 44, 45, 46, 47, 48, 49, 50, 51, 52, 53, 54, 55, 56, 57, 58, 59, 60, 61, 62, 63] rfl (by decide +kernel)
set_option maxRecDepth 20000 in
theorem gX11_used_X11_isIn : GoodIn wsX11_used (wsV RX11 172 RX11 yX11_isIn wsX11_isIn) := goodIn_app (goodIn_of _ (by decide +kernel)) ggX11_used_X11_isIn
theorem dX11_used_0 : decode cX11_used 0 = .ok (.iconst 0, 1) := by decide +kernel
theorem dX11_used_1 : decode cX11_used 1 = .ok (.istore 5, 2) := by decide +kernel
theorem dX11_used_3 : decode cX11_used 3 = .ok (.iconst 0, 1) := by decide +kernel
theorem dX11_used_4 : decode cX11_used 4 = .ok (.istore 6, 2) := by decide +kernel
theorem dX11_used_6 : decode cX11_used 6 = .ok (.iload 6, 2) := by decide +kernel
theorem dX11_used_8 : decode cX11_used 8 = .ok (.aload_n 0, 1) := by decide +kernel
theorem dX11_used_9 : decode cX11_used 9 = .ok (.getfield 137, 3) := by decide +kernel
theorem dX11_used_12 : decode cX11_used 12 = .ok (.if_icmp .ge 62, 3) := by decide +kernel
theorem dX11_used_15 : decode cX11_used 15 = .ok (.iload 5, 2) := by decide +kernel
theorem dX11_used_17 : decode cX11_used 17 = .ok (.iload 6, 2) := by decide +kernel
theorem dX11_used_19 : decode cX11_used 19 = .ok (.iload_n 1, 1) := by decide +kernel
theorem dX11_used_20 : decode cX11_used 20 = .ok (.if_icmp .eq 44, 3) := by decide +kernel
theorem dX11_used_23 : decode cX11_used 23 = .ok (.aload_n 0, 1) := by decide +kernel
theorem dX11_used_24 : decode cX11_used 24 = .ok (.getfield 189, 3) := by decide +kernel
theorem dX11_used_27 : decode cX11_used 27 = .ok (.iload 6, 2) := by decide +kernel
theorem dX11_used_29 : decode cX11_used 29 = .ok (.iaload, 1) := by decide +kernel
theorem dX11_used_30 : decode cX11_used 30 = .ok (.ifCond .lt 34, 3) := by decide +kernel
theorem dX11_used_33 : decode cX11_used 33 = .ok (.aload_n 0, 1) := by decide +kernel
theorem dX11_used_34 : decode cX11_used 34 = .ok (.getfield 189, 3) := by decide +kernel
theorem dX11_used_37 : decode cX11_used 37 = .ok (.iload 6, 2) := by decide +kernel
theorem dX11_used_39 : decode cX11_used 39 = .ok (.iaload, 1) := by decide +kernel
theorem dX11_used_40 : decode cX11_used 40 = .ok (.iload 4, 2) := by decide +kernel
theorem dX11_used_42 : decode cX11_used 42 = .ok (.irem, 1) := by decide +kernel
theorem dX11_used_43 : decode cX11_used 43 = .ok (.iload_n 2, 1) := by decide +kernel
theorem dX11_used_44 : decode cX11_used 44 = .ok (.iload 4, 2) := by decide +kernel
theorem dX11_used_46 : decode cX11_used 46 = .ok (.irem, 1) := by decide +kernel
theorem dX11_used_47 : decode cX11_used 47 = .ok (.if_icmp .ne 17, 3) := by decide +kernel
theorem dX11_used_50 : decode cX11_used 50 = .ok (.aload_n 0, 1) := by decide +kernel
theorem dX11_used_51 : decode cX11_used 51 = .ok (.iload 6, 2) := by decide +kernel
theorem dX11_used_53 : decode cX11_used 53 = .ok (.iload_n 3, 1) := by decide +kernel
theorem dX11_used_54 : decode cX11_used 54 = .ok (.invokevirtual 172, 3) := by decide +kernel
theorem dX11_used_57 : decode cX11_used 57 = .ok (.ifCond .eq 7, 3) := by decide +kernel
theorem dX11_used_60 : decode cX11_used 60 = .ok (.iconst 1, 1) := by decide +kernel
theorem dX11_used_61 : decode cX11_used 61 = .ok (.goto 4, 3) := by decide +kernel
theorem dX11_used_64 : decode cX11_used 64 = .ok (.iconst 0, 1) := by decide +kernel
theorem dX11_used_65 : decode cX11_used 65 = .ok (.iadd, 1) := by decide +kernel
theorem dX11_used_66 : decode cX11_used 66 = .ok (.istore 5, 2) := by decide +kernel
theorem dX11_used_68 : decode cX11_used 68 = .ok (.iinc 6 1, 3) := by decide +kernel
theorem dX11_used_71 : decode cX11_used 71 = .ok (.goto (-65), 3) := by decide +kernel
theorem dX11_used_74 : decode cX11_used 74 = .ok (.iload 5, 2) := by decide +kernel
theorem dX11_used_76 : decode cX11_used 76 = .ok (.ireturn, 1) := by decide +kernel
set_option maxRecDepth 20000 in
theorem ggX11_full_X11_isIn : GoodIn wsX11_full wsX11_isIn := goodIn_r _ [5, 6, 7, 8, 4, 9, 10, 25, 26, 27, 28, 29, 30, 31, 32, 33, 34, 35, 36, 37, 38, 39, 40, 41, 42, 43, 44, 45, 46, 47, 48, 49, 50, 51, 52, 53, 54, 55, 56, 57, 58, 59, 60, 61, 62, 63, 64, 65, 66, 67, 68, 69, 70, 71, 72, 73, 74, 75] rfl (by decide +kernel)
set_option maxRecDepth 20000 in
theorem gX11_full_X11_isIn : GoodIn wsX11_full (wsV RX11 172 RX11 yX11_isIn wsX11_isIn) := goodIn_app (goodIn_of _ (by decide +kernel)) ggX11_full_X11_isIn
set_option maxRecDepth 20000 in
theorem ggX11_full_X11_used : GoodIn wsX11_full wsX11_used := goodIn_r _ [14, 15, 16, 1, 2, 3, 4, 5, 6, 7, 8, 9, 10, 25, 26, 27, 28, 29, 30, 31, 32, 33, 34, 35, 36, 37, 38, 39, 40, 41, 42, 43, 44, 45, 46, 47, 48, 49, 50, 51, 52, 53, 54, 55, 56, 57, 58, 59, 60, 61, 62, 63, 64, 65, 66, 67, 68, 69, 70, 71, 72, 73, 74, 75] rfl (by decide +kernel)
set_option maxRecDepth 20000 in
theorem gX11_full_X11_used : GoodIn wsX11_full (wsV RX11 192 RX11 yX11_used wsX11_used) := goodIn_app (goodIn_of _ (by decide +kernel)) ggX11_full_X11_used
set_option maxRecDepth 20000 in
theorem ggX11_full_X11_room : GoodIn wsX11_full wsX11_room := goodIn_r _ [20, 21, 22, 23, 24, 25, 26, 27, 28, 29, 30, 31, 32, 33, 34, 35, 36, 37, 38, 39, 40, 41, 42, 43, 44, 45, 46, 47, 48, 49, 50, 51, 52, 53, 54, 55, 56, 57, 58, 59, 60, 61, 62, 63, 64, 65, 66, 67, 68, 69, 70, 71, 72, 73, 74, 75] rfl (by decide +kernel)
set_option maxRecDepth 20000 in
theorem gX11_full_X11_room : GoodIn wsX11_full (wsV RX11 175 RX11 yX11_room wsX11_room) := goodIn_app (goodIn_of _ (by decide +kernel)) ggX11_full_X11_room
theorem dX11_full_0 : decode cX11_full 0 = .ok (.iconst 0, 1) := by decide +kernel
theorem dX11_full_1 : decode cX11_full 1 = .ok (.istore 4, 2) := by decide +kernel
theorem dX11_full_3 : decode cX11_full 3 = .ok (.iload 4, 2) := by decide +kernel
theorem dX11_full_5 : decode cX11_full 5 = .ok (.iconst 4, 1) := by decide +kernel
theorem dX11_full_6 : decode cX11_full 6 = .ok (.if_icmp .ge 40, 3) := by decide +kernel
theorem dX11_full_9 : decode cX11_full 9 = .ok (.aload_n 0, 1) := by decide +kernel
theorem dX11_full_10 : decode cX11_full 10 = .ok (.iload_n 1, 1) := by decide +kernel
theorem dX11_full_11 : decode cX11_full 11 = .ok (.iload 4, 2) := by decide +kernel
theorem dX11_full_13 : decode cX11_full 13 = .ok (.invokevirtual 172, 3) := by decide +kernel
theorem dX11_full_16 : decode cX11_full 16 = .ok (.ifCond .eq 24, 3) := by decide +kernel
theorem dX11_full_19 : decode cX11_full 19 = .ok (.aload_n 0, 1) := by decide +kernel
theorem dX11_full_20 : decode cX11_full 20 = .ok (.iload_n 1, 1) := by decide +kernel
theorem dX11_full_21 : decode cX11_full 21 = .ok (.iload_n 2, 1) := by decide +kernel
theorem dX11_full_22 : decode cX11_full 22 = .ok (.iload 4, 2) := by decide +kernel
theorem dX11_full_24 : decode cX11_full 24 = .ok (.iload_n 3, 1) := by decide +kernel
theorem dX11_full_25 : decode cX11_full 25 = .ok (.invokevirtual 192, 3) := by decide +kernel
theorem dX11_full_28 : decode cX11_full 28 = .ok (.aload_n 0, 1) := by decide +kernel
theorem dX11_full_29 : decode cX11_full 29 = .ok (.iload 4, 2) := by decide +kernel
theorem dX11_full_31 : decode cX11_full 31 = .ok (.invokevirtual 175, 3) := by decide +kernel
theorem dX11_full_34 : decode cX11_full 34 = .ok (.if_icmp .lt 6, 3) := by decide +kernel
theorem dX11_full_37 : decode cX11_full 37 = .ok (.iload 4, 2) := by decide +kernel
theorem dX11_full_39 : decode cX11_full 39 = .ok (.ireturn, 1) := by decide +kernel
theorem dX11_full_40 : decode cX11_full 40 = .ok (.iinc 4 1, 3) := by decide +kernel
theorem dX11_full_43 : decode cX11_full 43 = .ok (.goto (-40), 3) := by decide +kernel
theorem dX11_full_46 : decode cX11_full 46 = .ok (.iconst (-1), 1) := by decide +kernel
theorem dX11_full_47 : decode cX11_full 47 = .ok (.ireturn, 1) := by decide +kernel
set_option maxRecDepth 20000 in
theorem ggX11_tryAt_X11_heights : GoodIn wsX11_tryAt wsX11_heights := goodIn_r _ [10, 1, 5, 11, 12, 13, 14, 15, 49, 50, 51, 52, 53, 54, 55, 56, 57, 58, 59, 60, 61, 62, 63, 64, 65, 66, 67, 68, 69, 70, 71, 72, 73, 74, 75, 76, 77, 78, 79, 80, 81, 82, 83, 84, 85, 86, 87, 88, 89, 90, 91, 92, 93, 94, 95, 96, 97, 98, 99] rfl (by decide +kernel)
set_option maxRecDepth 20000 in
theorem gX11_tryAt_X11_heights : GoodIn wsX11_tryAt (wsV RX11 196 RX11 yX11_heights wsX11_heights) := goodIn_app (goodIn_of _ (by decide +kernel)) ggX11_tryAt_X11_heights
set_option maxRecDepth 20000 in
theorem ggX11_tryAt_X11_put : GoodIn wsX11_tryAt wsX11_put := goodIn_r _ [19, 11, 14, 15, 2, 12, 13, 20, 21, 22, 23, 3, 1, 24, 25, 26, 9, 27, 28, 29, 30, 31, 32, 33, 34, 35, 36, 37, 38, 39, 40, 41, 42, 43, 44, 45, 46, 47, 48, 49, 50, 51, 52, 53, 54, 55, 56, 57, 58, 59, 60, 61, 62, 63, 64, 65, 66, 67, 68, 69, 70, 71, 72, 73, 74, 75, 76, 77, 78, 79, 80, 81, 82, 83, 84, 85, 86, 87, 88, 89, 90, 91, 92, 93, 94, 95, 96, 97, 98, 99] rfl (by decide +kernel)
set_option maxRecDepth 20000 in
theorem gX11_tryAt_X11_put : GoodIn wsX11_tryAt (wsV RX11 205 RX11 yX11_put wsX11_put) := goodIn_app (goodIn_of _ (by decide +kernel)) ggX11_tryAt_X11_put
theorem dX11_tryAt_0 : decode cX11_tryAt 0 = .ok (.aload_n 0, 1) := by decide +kernel
theorem dX11_tryAt_1 : decode cX11_tryAt 1 = .ok (.iload_n 1, 1) := by decide +kernel
theorem dX11_tryAt_2 : decode cX11_tryAt 2 = .ok (.invokevirtual 196, 3) := by decide +kernel
theorem dX11_tryAt_5 : decode cX11_tryAt 5 = .ok (.iconst 0, 1) := by decide +kernel
theorem dX11_tryAt_6 : decode cX11_tryAt 6 = .ok (.istore_n 2, 1) := by decide +kernel
theorem dX11_tryAt_7 : decode cX11_tryAt 7 = .ok (.iload_n 2, 1) := by decide +kernel
theorem dX11_tryAt_8 : decode cX11_tryAt 8 = .ok (.aload_n 0, 1) := by decide +kernel
theorem dX11_tryAt_9 : decode cX11_tryAt 9 = .ok (.getfield 137, 3) := by decide +kernel
theorem dX11_tryAt_12 : decode cX11_tryAt 12 = .ok (.if_icmp .ge 23, 3) := by decide +kernel
theorem dX11_tryAt_15 : decode cX11_tryAt 15 = .ok (.aload_n 0, 1) := by decide +kernel
theorem dX11_tryAt_16 : decode cX11_tryAt 16 = .ok (.getfield 189, 3) := by decide +kernel
theorem dX11_tryAt_19 : decode cX11_tryAt 19 = .ok (.iload_n 2, 1) := by decide +kernel
theorem dX11_tryAt_20 : decode cX11_tryAt 20 = .ok (.iconst (-1), 1) := by decide +kernel
theorem dX11_tryAt_21 : decode cX11_tryAt 21 = .ok (.iastore, 1) := by decide +kernel
theorem dX11_tryAt_22 : decode cX11_tryAt 22 = .ok (.aload_n 0, 1) := by decide +kernel
theorem dX11_tryAt_23 : decode cX11_tryAt 23 = .ok (.getfield 199, 3) := by decide +kernel
theorem dX11_tryAt_26 : decode cX11_tryAt 26 = .ok (.iload_n 2, 1) := by decide +kernel
theorem dX11_tryAt_27 : decode cX11_tryAt 27 = .ok (.iconst (-1), 1) := by decide +kernel
theorem dX11_tryAt_28 : decode cX11_tryAt 28 = .ok (.iastore, 1) := by decide +kernel
theorem dX11_tryAt_29 : decode cX11_tryAt 29 = .ok (.iinc 2 1, 3) := by decide +kernel
theorem dX11_tryAt_32 : decode cX11_tryAt 32 = .ok (.goto (-25), 3) := by decide +kernel
theorem dX11_tryAt_35 : decode cX11_tryAt 35 = .ok (.aload_n 0, 1) := by decide +kernel
theorem dX11_tryAt_36 : decode cX11_tryAt 36 = .ok (.iconst 0, 1) := by decide +kernel
theorem dX11_tryAt_37 : decode cX11_tryAt 37 = .ok (.putfield 202, 3) := by decide +kernel
theorem dX11_tryAt_40 : decode cX11_tryAt 40 = .ok (.iconst (-1), 1) := by decide +kernel
theorem dX11_tryAt_41 : decode cX11_tryAt 41 = .ok (.istore_n 2, 1) := by decide +kernel
theorem dX11_tryAt_42 : decode cX11_tryAt 42 = .ok (.iconst 0, 1) := by decide +kernel
theorem dX11_tryAt_43 : decode cX11_tryAt 43 = .ok (.istore_n 3, 1) := by decide +kernel
theorem dX11_tryAt_44 : decode cX11_tryAt 44 = .ok (.iload_n 3, 1) := by decide +kernel
theorem dX11_tryAt_45 : decode cX11_tryAt 45 = .ok (.aload_n 0, 1) := by decide +kernel
theorem dX11_tryAt_46 : decode cX11_tryAt 46 = .ok (.getfield 137, 3) := by decide +kernel
theorem dX11_tryAt_49 : decode cX11_tryAt 49 = .ok (.if_icmp .ge 39, 3) := by decide +kernel
theorem dX11_tryAt_52 : decode cX11_tryAt 52 = .ok (.aload_n 0, 1) := by decide +kernel
theorem dX11_tryAt_53 : decode cX11_tryAt 53 = .ok (.getfield 189, 3) := by decide +kernel
theorem dX11_tryAt_56 : decode cX11_tryAt 56 = .ok (.iload_n 3, 1) := by decide +kernel
theorem dX11_tryAt_57 : decode cX11_tryAt 57 = .ok (.iaload, 1) := by decide +kernel
theorem dX11_tryAt_58 : decode cX11_tryAt 58 = .ok (.ifCond .ge 24, 3) := by decide +kernel
theorem dX11_tryAt_61 : decode cX11_tryAt 61 = .ok (.iload_n 2, 1) := by decide +kernel
theorem dX11_tryAt_62 : decode cX11_tryAt 62 = .ok (.ifCond .lt 18, 3) := by decide +kernel
theorem dX11_tryAt_65 : decode cX11_tryAt 65 = .ok (.aload_n 0, 1) := by decide +kernel
theorem dX11_tryAt_66 : decode cX11_tryAt 66 = .ok (.getfield 186, 3) := by decide +kernel
theorem dX11_tryAt_69 : decode cX11_tryAt 69 = .ok (.iload_n 3, 1) := by decide +kernel
theorem dX11_tryAt_70 : decode cX11_tryAt 70 = .ok (.iaload, 1) := by decide +kernel
theorem dX11_tryAt_71 : decode cX11_tryAt 71 = .ok (.aload_n 0, 1) := by decide +kernel
theorem dX11_tryAt_72 : decode cX11_tryAt 72 = .ok (.getfield 186, 3) := by decide +kernel
theorem dX11_tryAt_75 : decode cX11_tryAt 75 = .ok (.iload_n 2, 1) := by decide +kernel
theorem dX11_tryAt_76 : decode cX11_tryAt 76 = .ok (.iaload, 1) := by decide +kernel
theorem dX11_tryAt_77 : decode cX11_tryAt 77 = .ok (.if_icmp .le 5, 3) := by decide +kernel
theorem dX11_tryAt_80 : decode cX11_tryAt 80 = .ok (.iload_n 3, 1) := by decide +kernel
theorem dX11_tryAt_81 : decode cX11_tryAt 81 = .ok (.istore_n 2, 1) := by decide +kernel
theorem dX11_tryAt_82 : decode cX11_tryAt 82 = .ok (.iinc 3 1, 3) := by decide +kernel
theorem dX11_tryAt_85 : decode cX11_tryAt 85 = .ok (.goto (-41), 3) := by decide +kernel
theorem dX11_tryAt_88 : decode cX11_tryAt 88 = .ok (.iload_n 2, 1) := by decide +kernel
theorem dX11_tryAt_89 : decode cX11_tryAt 89 = .ok (.ifCond .ge 5, 3) := by decide +kernel
theorem dX11_tryAt_92 : decode cX11_tryAt 92 = .ok (.iconst 1, 1) := by decide +kernel
theorem dX11_tryAt_93 : decode cX11_tryAt 93 = .ok (.ireturn, 1) := by decide +kernel
theorem dX11_tryAt_94 : decode cX11_tryAt 94 = .ok (.aload_n 0, 1) := by decide +kernel
theorem dX11_tryAt_95 : decode cX11_tryAt 95 = .ok (.getfield 202, 3) := by decide +kernel
theorem dX11_tryAt_98 : decode cX11_tryAt 98 = .ok (.bipush 8, 2) := by decide +kernel
theorem dX11_tryAt_100 : decode cX11_tryAt 100 = .ok (.aload_n 0, 1) := by decide +kernel
theorem dX11_tryAt_101 : decode cX11_tryAt 101 = .ok (.getfield 137, 3) := by decide +kernel
theorem dX11_tryAt_104 : decode cX11_tryAt 104 = .ok (.imul, 1) := by decide +kernel
theorem dX11_tryAt_105 : decode cX11_tryAt 105 = .ok (.if_icmp .ne 5, 3) := by decide +kernel
theorem dX11_tryAt_108 : decode cX11_tryAt 108 = .ok (.iconst 0, 1) := by decide +kernel
theorem dX11_tryAt_109 : decode cX11_tryAt 109 = .ok (.ireturn, 1) := by decide +kernel
theorem dX11_tryAt_110 : decode cX11_tryAt 110 = .ok (.aload_n 0, 1) := by decide +kernel
theorem dX11_tryAt_111 : decode cX11_tryAt 111 = .ok (.dup, 1) := by decide +kernel
theorem dX11_tryAt_112 : decode cX11_tryAt 112 = .ok (.getfield 202, 3) := by decide +kernel
theorem dX11_tryAt_115 : decode cX11_tryAt 115 = .ok (.iconst 1, 1) := by decide +kernel
theorem dX11_tryAt_116 : decode cX11_tryAt 116 = .ok (.iadd, 1) := by decide +kernel
theorem dX11_tryAt_117 : decode cX11_tryAt 117 = .ok (.putfield 202, 3) := by decide +kernel
theorem dX11_tryAt_120 : decode cX11_tryAt 120 = .ok (.aload_n 0, 1) := by decide +kernel
theorem dX11_tryAt_121 : decode cX11_tryAt 121 = .ok (.iload_n 2, 1) := by decide +kernel
theorem dX11_tryAt_122 : decode cX11_tryAt 122 = .ok (.iload_n 1, 1) := by decide +kernel
theorem dX11_tryAt_123 : decode cX11_tryAt 123 = .ok (.invokevirtual 205, 3) := by decide +kernel
theorem dX11_tryAt_126 : decode cX11_tryAt 126 = .ok (.goto (-86), 3) := by decide +kernel
set_option maxRecDepth 20000 in
theorem ggX11_put_X11_full : GoodIn wsX11_put wsX11_full := goodIn_r _ [17, 18, 19, 20, 16, 21, 22, 23, 24, 25, 26, 27, 28, 29, 30, 12, 4, 31, 32, 33, 34, 35, 36, 37, 38, 39, 40, 41, 42, 43, 44, 45, 46, 47, 48, 49, 50, 51, 52, 53, 54, 55, 56, 57, 58, 59, 60, 61, 62, 63, 64, 65, 66, 67, 68, 69, 70, 71, 72, 73, 74, 75, 76, 77, 78, 79, 80, 81, 82, 83, 84, 85, 86, 87, 88, 89] rfl (by decide +kernel)
set_option maxRecDepth 20000 in
theorem gX11_put_X11_full : GoodIn wsX11_put (wsV RX11 209 RX11 yX11_full wsX11_full) := goodIn_app (goodIn_of _ (by decide +kernel)) ggX11_put_X11_full
set_option maxRecDepth 20000 in
theorem ggX11_put_X11_isIn : GoodIn wsX11_put wsX11_isIn := goodIn_r _ [21, 22, 23, 24, 16, 25, 26, 39, 40, 41, 42, 43, 44, 45, 46, 47, 48, 49, 50, 51, 52, 53, 54, 55, 56, 57, 58, 59, 60, 61, 62, 63, 64, 65, 66, 67, 68, 69, 70, 71, 72, 73, 74, 75, 76, 77, 78, 79, 80, 81, 82, 83, 84, 85, 86, 87, 88, 89] rfl (by decide +kernel)
set_option maxRecDepth 20000 in
theorem gX11_put_X11_isIn : GoodIn wsX11_put (wsV RX11 172 RX11 yX11_isIn wsX11_isIn) := goodIn_app (goodIn_of _ (by decide +kernel)) ggX11_put_X11_isIn
theorem dX11_put_0 : decode cX11_put 0 = .ok (.iconst 0, 1) := by decide +kernel
theorem dX11_put_1 : decode cX11_put 1 = .ok (.istore_n 3, 1) := by decide +kernel
theorem dX11_put_2 : decode cX11_put 2 = .ok (.iconst 0, 1) := by decide +kernel
theorem dX11_put_3 : decode cX11_put 3 = .ok (.istore 4, 2) := by decide +kernel
theorem dX11_put_5 : decode cX11_put 5 = .ok (.iload 4, 2) := by decide +kernel
theorem dX11_put_7 : decode cX11_put 7 = .ok (.aload_n 0, 1) := by decide +kernel
theorem dX11_put_8 : decode cX11_put 8 = .ok (.getfield 119, 3) := by decide +kernel
theorem dX11_put_11 : decode cX11_put 11 = .ok (.if_icmp .ge 84, 3) := by decide +kernel
theorem dX11_put_14 : decode cX11_put 14 = .ok (.aload_n 0, 1) := by decide +kernel
theorem dX11_put_15 : decode cX11_put 15 = .ok (.getfield 125, 3) := by decide +kernel
theorem dX11_put_18 : decode cX11_put 18 = .ok (.iload 4, 2) := by decide +kernel
theorem dX11_put_20 : decode cX11_put 20 = .ok (.iaload, 1) := by decide +kernel
theorem dX11_put_21 : decode cX11_put 21 = .ok (.iload_n 1, 1) := by decide +kernel
theorem dX11_put_22 : decode cX11_put 22 = .ok (.if_icmp .ne 67, 3) := by decide +kernel
theorem dX11_put_25 : decode cX11_put 25 = .ok (.aload_n 0, 1) := by decide +kernel
theorem dX11_put_26 : decode cX11_put 26 = .ok (.getfield 122, 3) := by decide +kernel
theorem dX11_put_29 : decode cX11_put 29 = .ok (.iload 4, 2) := by decide +kernel
theorem dX11_put_31 : decode cX11_put 31 = .ok (.iaload, 1) := by decide +kernel
theorem dX11_put_32 : decode cX11_put 32 = .ok (.iload_n 1, 1) := by decide +kernel
theorem dX11_put_33 : decode cX11_put 33 = .ok (.if_icmp .eq 56, 3) := by decide +kernel
theorem dX11_put_36 : decode cX11_put 36 = .ok (.aload_n 0, 1) := by decide +kernel
theorem dX11_put_37 : decode cX11_put 37 = .ok (.getfield 189, 3) := by decide +kernel
theorem dX11_put_40 : decode cX11_put 40 = .ok (.aload_n 0, 1) := by decide +kernel
theorem dX11_put_41 : decode cX11_put 41 = .ok (.getfield 122, 3) := by decide +kernel
theorem dX11_put_44 : decode cX11_put 44 = .ok (.iload 4, 2) := by decide +kernel
theorem dX11_put_46 : decode cX11_put 46 = .ok (.iaload, 1) := by decide +kernel
theorem dX11_put_47 : decode cX11_put 47 = .ok (.iaload, 1) := by decide +kernel
theorem dX11_put_48 : decode cX11_put 48 = .ok (.ifCond .ge 6, 3) := by decide +kernel
theorem dX11_put_51 : decode cX11_put 51 = .ok (.goto 38, 3) := by decide +kernel
theorem dX11_put_54 : decode cX11_put 54 = .ok (.iload_n 3, 1) := by decide +kernel
theorem dX11_put_55 : decode cX11_put 55 = .ok (.aload_n 0, 1) := by decide +kernel
theorem dX11_put_56 : decode cX11_put 56 = .ok (.getfield 189, 3) := by decide +kernel
theorem dX11_put_59 : decode cX11_put 59 = .ok (.aload_n 0, 1) := by decide +kernel
theorem dX11_put_60 : decode cX11_put 60 = .ok (.getfield 122, 3) := by decide +kernel
theorem dX11_put_63 : decode cX11_put 63 = .ok (.iload 4, 2) := by decide +kernel
theorem dX11_put_65 : decode cX11_put 65 = .ok (.iaload, 1) := by decide +kernel
theorem dX11_put_66 : decode cX11_put 66 = .ok (.iaload, 1) := by decide +kernel
theorem dX11_put_67 : decode cX11_put 67 = .ok (.aload_n 0, 1) := by decide +kernel
theorem dX11_put_68 : decode cX11_put 68 = .ok (.getfield 131, 3) := by decide +kernel
theorem dX11_put_71 : decode cX11_put 71 = .ok (.iload 4, 2) := by decide +kernel
theorem dX11_put_73 : decode cX11_put 73 = .ok (.iaload, 1) := by decide +kernel
theorem dX11_put_74 : decode cX11_put 74 = .ok (.iadd, 1) := by decide +kernel
theorem dX11_put_75 : decode cX11_put 75 = .ok (.aload_n 0, 1) := by decide +kernel
theorem dX11_put_76 : decode cX11_put 76 = .ok (.getfield 128, 3) := by decide +kernel
theorem dX11_put_79 : decode cX11_put 79 = .ok (.iload 4, 2) := by decide +kernel
theorem dX11_put_81 : decode cX11_put 81 = .ok (.iaload, 1) := by decide +kernel
theorem dX11_put_82 : decode cX11_put 82 = .ok (.iload_n 2, 1) := by decide +kernel
theorem dX11_put_83 : decode cX11_put 83 = .ok (.imul, 1) := by decide +kernel
theorem dX11_put_84 : decode cX11_put 84 = .ok (.isub, 1) := by decide +kernel
theorem dX11_put_85 : decode cX11_put 85 = .ok (.invokestatic 134, 3) := by decide +kernel
theorem dX11_put_88 : decode cX11_put 88 = .ok (.istore_n 3, 1) := by decide +kernel
theorem dX11_put_89 : decode cX11_put 89 = .ok (.iinc 4 1, 3) := by decide +kernel
theorem dX11_put_92 : decode cX11_put 92 = .ok (.goto (-87), 3) := by decide +kernel
theorem dX11_put_95 : decode cX11_put 95 = .ok (.iconst (-1), 1) := by decide +kernel
theorem dX11_put_96 : decode cX11_put 96 = .ok (.istore 4, 2) := by decide +kernel
theorem dX11_put_98 : decode cX11_put 98 = .ok (.iconst 0, 1) := by decide +kernel
theorem dX11_put_99 : decode cX11_put 99 = .ok (.istore 5, 2) := by decide +kernel
theorem dX11_put_101 : decode cX11_put 101 = .ok (.iload 5, 2) := by decide +kernel
theorem dX11_put_103 : decode cX11_put 103 = .ok (.iload_n 2, 1) := by decide +kernel
theorem dX11_put_104 : decode cX11_put 104 = .ok (.if_icmp .ge 33, 3) := by decide +kernel
theorem dX11_put_107 : decode cX11_put 107 = .ok (.iload 4, 2) := by decide +kernel
theorem dX11_put_109 : decode cX11_put 109 = .ok (.ifCond .ge 28, 3) := by decide +kernel
theorem dX11_put_112 : decode cX11_put 112 = .ok (.aload_n 0, 1) := by decide +kernel
theorem dX11_put_113 : decode cX11_put 113 = .ok (.iload_n 1, 1) := by decide +kernel
theorem dX11_put_114 : decode cX11_put 114 = .ok (.iload_n 3, 1) := by decide +kernel
theorem dX11_put_115 : decode cX11_put 115 = .ok (.iload 5, 2) := by decide +kernel
theorem dX11_put_117 : decode cX11_put 117 = .ok (.iadd, 1) := by decide +kernel
theorem dX11_put_118 : decode cX11_put 118 = .ok (.iload_n 2, 1) := by decide +kernel
theorem dX11_put_119 : decode cX11_put 119 = .ok (.invokevirtual 209, 3) := by decide +kernel
theorem dX11_put_122 : decode cX11_put 122 = .ok (.ifCond .ge 9, 3) := by decide +kernel
theorem dX11_put_125 : decode cX11_put 125 = .ok (.iload_n 3, 1) := by decide +kernel
theorem dX11_put_126 : decode cX11_put 126 = .ok (.iload 5, 2) := by decide +kernel
theorem dX11_put_128 : decode cX11_put 128 = .ok (.iadd, 1) := by decide +kernel
theorem dX11_put_129 : decode cX11_put 129 = .ok (.istore 4, 2) := by decide +kernel
theorem dX11_put_131 : decode cX11_put 131 = .ok (.iinc 5 1, 3) := by decide +kernel
theorem dX11_put_134 : decode cX11_put 134 = .ok (.goto (-33), 3) := by decide +kernel
theorem dX11_put_137 : decode cX11_put 137 = .ok (.iload 4, 2) := by decide +kernel
theorem dX11_put_139 : decode cX11_put 139 = .ok (.ifCond .ge 36, 3) := by decide +kernel
theorem dX11_put_142 : decode cX11_put 142 = .ok (.aload_n 0, 1) := by decide +kernel
theorem dX11_put_143 : decode cX11_put 143 = .ok (.getfield 199, 3) := by decide +kernel
theorem dX11_put_146 : decode cX11_put 146 = .ok (.iload_n 1, 1) := by decide +kernel
theorem dX11_put_147 : decode cX11_put 147 = .ok (.iaload, 1) := by decide +kernel
theorem dX11_put_148 : decode cX11_put 148 = .ok (.ifCond .lt 24, 3) := by decide +kernel
theorem dX11_put_151 : decode cX11_put 151 = .ok (.iload_n 3, 1) := by decide +kernel
theorem dX11_put_152 : decode cX11_put 152 = .ok (.aload_n 0, 1) := by decide +kernel
theorem dX11_put_153 : decode cX11_put 153 = .ok (.getfield 199, 3) := by decide +kernel
theorem dX11_put_156 : decode cX11_put 156 = .ok (.iload_n 1, 1) := by decide +kernel
theorem dX11_put_157 : decode cX11_put 157 = .ok (.iaload, 1) := by decide +kernel
theorem dX11_put_158 : decode cX11_put 158 = .ok (.if_icmp .gt 14, 3) := by decide +kernel
theorem dX11_put_161 : decode cX11_put 161 = .ok (.aload_n 0, 1) := by decide +kernel
theorem dX11_put_162 : decode cX11_put 162 = .ok (.getfield 199, 3) := by decide +kernel
theorem dX11_put_165 : decode cX11_put 165 = .ok (.iload_n 1, 1) := by decide +kernel
theorem dX11_put_166 : decode cX11_put 166 = .ok (.iaload, 1) := by decide +kernel
theorem dX11_put_167 : decode cX11_put 167 = .ok (.iconst 1, 1) := by decide +kernel
theorem dX11_put_168 : decode cX11_put 168 = .ok (.iadd, 1) := by decide +kernel
theorem dX11_put_169 : decode cX11_put 169 = .ok (.goto 4, 3) := by decide +kernel
theorem dX11_put_172 : decode cX11_put 172 = .ok (.iload_n 3, 1) := by decide +kernel
theorem dX11_put_173 : decode cX11_put 173 = .ok (.istore 4, 2) := by decide +kernel
theorem dX11_put_175 : decode cX11_put 175 = .ok (.aload_n 0, 1) := by decide +kernel
theorem dX11_put_176 : decode cX11_put 176 = .ok (.getfield 189, 3) := by decide +kernel
theorem dX11_put_179 : decode cX11_put 179 = .ok (.iload_n 1, 1) := by decide +kernel
theorem dX11_put_180 : decode cX11_put 180 = .ok (.iload 4, 2) := by decide +kernel
theorem dX11_put_182 : decode cX11_put 182 = .ok (.iastore, 1) := by decide +kernel
theorem dX11_put_183 : decode cX11_put 183 = .ok (.aload_n 0, 1) := by decide +kernel
theorem dX11_put_184 : decode cX11_put 184 = .ok (.getfield 199, 3) := by decide +kernel
theorem dX11_put_187 : decode cX11_put 187 = .ok (.iload_n 1, 1) := by decide +kernel
theorem dX11_put_188 : decode cX11_put 188 = .ok (.iload 4, 2) := by decide +kernel
theorem dX11_put_190 : decode cX11_put 190 = .ok (.iastore, 1) := by decide +kernel
theorem dX11_put_191 : decode cX11_put 191 = .ok (.aload_n 0, 1) := by decide +kernel
theorem dX11_put_192 : decode cX11_put 192 = .ok (.iload_n 1, 1) := by decide +kernel
theorem dX11_put_193 : decode cX11_put 193 = .ok (.iload 4, 2) := by decide +kernel
theorem dX11_put_195 : decode cX11_put 195 = .ok (.iload_n 2, 1) := by decide +kernel
theorem dX11_put_196 : decode cX11_put 196 = .ok (.invokevirtual 209, 3) := by decide +kernel
theorem dX11_put_199 : decode cX11_put 199 = .ok (.istore 5, 2) := by decide +kernel
theorem dX11_put_201 : decode cX11_put 201 = .ok (.iload 5, 2) := by decide +kernel
theorem dX11_put_203 : decode cX11_put 203 = .ok (.ifCond .lt 81, 3) := by decide +kernel
theorem dX11_put_206 : decode cX11_put 206 = .ok (.aload_n 0, 1) := by decide +kernel
theorem dX11_put_207 : decode cX11_put 207 = .ok (.getfield 137, 3) := by decide +kernel
theorem dX11_put_210 : decode cX11_put 210 = .ok (.iconst 1, 1) := by decide +kernel
theorem dX11_put_211 : decode cX11_put 211 = .ok (.isub, 1) := by decide +kernel
theorem dX11_put_212 : decode cX11_put 212 = .ok (.istore 6, 2) := by decide +kernel
theorem dX11_put_214 : decode cX11_put 214 = .ok (.iload 6, 2) := by decide +kernel
theorem dX11_put_216 : decode cX11_put 216 = .ok (.iload_n 1, 1) := by decide +kernel
theorem dX11_put_217 : decode cX11_put 217 = .ok (.if_icmp .eq 40, 3) := by decide +kernel
theorem dX11_put_220 : decode cX11_put 220 = .ok (.aload_n 0, 1) := by decide +kernel
theorem dX11_put_221 : decode cX11_put 221 = .ok (.getfield 189, 3) := by decide +kernel
theorem dX11_put_224 : decode cX11_put 224 = .ok (.iload 6, 2) := by decide +kernel
theorem dX11_put_226 : decode cX11_put 226 = .ok (.iaload, 1) := by decide +kernel
theorem dX11_put_227 : decode cX11_put 227 = .ok (.ifCond .lt 30, 3) := by decide +kernel
theorem dX11_put_230 : decode cX11_put 230 = .ok (.aload_n 0, 1) := by decide +kernel
theorem dX11_put_231 : decode cX11_put 231 = .ok (.getfield 189, 3) := by decide +kernel
theorem dX11_put_234 : decode cX11_put 234 = .ok (.iload 6, 2) := by decide +kernel
theorem dX11_put_236 : decode cX11_put 236 = .ok (.iaload, 1) := by decide +kernel
theorem dX11_put_237 : decode cX11_put 237 = .ok (.iload_n 2, 1) := by decide +kernel
theorem dX11_put_238 : decode cX11_put 238 = .ok (.irem, 1) := by decide +kernel
theorem dX11_put_239 : decode cX11_put 239 = .ok (.iload 4, 2) := by decide +kernel
theorem dX11_put_241 : decode cX11_put 241 = .ok (.iload_n 2, 1) := by decide +kernel
theorem dX11_put_242 : decode cX11_put 242 = .ok (.irem, 1) := by decide +kernel
theorem dX11_put_243 : decode cX11_put 243 = .ok (.if_icmp .ne 14, 3) := by decide +kernel
theorem dX11_put_246 : decode cX11_put 246 = .ok (.aload_n 0, 1) := by decide +kernel
theorem dX11_put_247 : decode cX11_put 247 = .ok (.iload 6, 2) := by decide +kernel
theorem dX11_put_249 : decode cX11_put 249 = .ok (.iload 5, 2) := by decide +kernel
theorem dX11_put_251 : decode cX11_put 251 = .ok (.invokevirtual 172, 3) := by decide +kernel
theorem dX11_put_254 : decode cX11_put 254 = .ok (.ifCond .ne 9, 3) := by decide +kernel
theorem dX11_put_257 : decode cX11_put 257 = .ok (.iinc 6 (-1), 3) := by decide +kernel
theorem dX11_put_260 : decode cX11_put 260 = .ok (.goto (-46), 3) := by decide +kernel
theorem dX11_put_263 : decode cX11_put 263 = .ok (.aload_n 0, 1) := by decide +kernel
theorem dX11_put_264 : decode cX11_put 264 = .ok (.getfield 189, 3) := by decide +kernel
theorem dX11_put_267 : decode cX11_put 267 = .ok (.iload 6, 2) := by decide +kernel
theorem dX11_put_269 : decode cX11_put 269 = .ok (.iconst (-1), 1) := by decide +kernel
theorem dX11_put_270 : decode cX11_put 270 = .ok (.iastore, 1) := by decide +kernel
theorem dX11_put_271 : decode cX11_put 271 = .ok (.aload_n 0, 1) := by decide +kernel
theorem dX11_put_272 : decode cX11_put 272 = .ok (.iload_n 1, 1) := by decide +kernel
theorem dX11_put_273 : decode cX11_put 273 = .ok (.iload 4, 2) := by decide +kernel
theorem dX11_put_275 : decode cX11_put 275 = .ok (.iload_n 2, 1) := by decide +kernel
theorem dX11_put_276 : decode cX11_put 276 = .ok (.invokevirtual 209, 3) := by decide +kernel
theorem dX11_put_279 : decode cX11_put 279 = .ok (.istore 5, 2) := by decide +kernel
theorem dX11_put_281 : decode cX11_put 281 = .ok (.goto (-80), 3) := by decide +kernel
theorem dX11_put_284 : decode cX11_put 284 = .ok (.iconst 0, 1) := by decide +kernel
theorem dX11_put_285 : decode cX11_put 285 = .ok (.istore 5, 2) := by decide +kernel
theorem dX11_put_287 : decode cX11_put 287 = .ok (.iload 5, 2) := by decide +kernel
theorem dX11_put_289 : decode cX11_put 289 = .ok (.aload_n 0, 1) := by decide +kernel
theorem dX11_put_290 : decode cX11_put 290 = .ok (.getfield 119, 3) := by decide +kernel
theorem dX11_put_293 : decode cX11_put 293 = .ok (.if_icmp .ge 123, 3) := by decide +kernel
theorem dX11_put_296 : decode cX11_put 296 = .ok (.aload_n 0, 1) := by decide +kernel
theorem dX11_put_297 : decode cX11_put 297 = .ok (.getfield 122, 3) := by decide +kernel
theorem dX11_put_300 : decode cX11_put 300 = .ok (.iload 5, 2) := by decide +kernel
theorem dX11_put_302 : decode cX11_put 302 = .ok (.iaload, 1) := by decide +kernel
theorem dX11_put_303 : decode cX11_put 303 = .ok (.istore 6, 2) := by decide +kernel
theorem dX11_put_305 : decode cX11_put 305 = .ok (.aload_n 0, 1) := by decide +kernel
theorem dX11_put_306 : decode cX11_put 306 = .ok (.getfield 125, 3) := by decide +kernel
theorem dX11_put_309 : decode cX11_put 309 = .ok (.iload 5, 2) := by decide +kernel
theorem dX11_put_311 : decode cX11_put 311 = .ok (.iaload, 1) := by decide +kernel
theorem dX11_put_312 : decode cX11_put 312 = .ok (.istore 7, 2) := by decide +kernel
theorem dX11_put_314 : decode cX11_put 314 = .ok (.iload 6, 2) := by decide +kernel
theorem dX11_put_316 : decode cX11_put 316 = .ok (.iload 7, 2) := by decide +kernel
theorem dX11_put_318 : decode cX11_put 318 = .ok (.if_icmp .eq 92, 3) := by decide +kernel
theorem dX11_put_321 : decode cX11_put 321 = .ok (.iload 6, 2) := by decide +kernel
theorem dX11_put_323 : decode cX11_put 323 = .ok (.iload_n 1, 1) := by decide +kernel
theorem dX11_put_324 : decode cX11_put 324 = .ok (.if_icmp .eq 9, 3) := by decide +kernel
theorem dX11_put_327 : decode cX11_put 327 = .ok (.iload 7, 2) := by decide +kernel
theorem dX11_put_329 : decode cX11_put 329 = .ok (.iload_n 1, 1) := by decide +kernel
theorem dX11_put_330 : decode cX11_put 330 = .ok (.if_icmp .ne 80, 3) := by decide +kernel
theorem dX11_put_333 : decode cX11_put 333 = .ok (.aload_n 0, 1) := by decide +kernel
theorem dX11_put_334 : decode cX11_put 334 = .ok (.getfield 189, 3) := by decide +kernel
theorem dX11_put_337 : decode cX11_put 337 = .ok (.iload 6, 2) := by decide +kernel
theorem dX11_put_339 : decode cX11_put 339 = .ok (.iaload, 1) := by decide +kernel
theorem dX11_put_340 : decode cX11_put 340 = .ok (.ifCond .lt 70, 3) := by decide +kernel
theorem dX11_put_343 : decode cX11_put 343 = .ok (.aload_n 0, 1) := by decide +kernel
theorem dX11_put_344 : decode cX11_put 344 = .ok (.getfield 189, 3) := by decide +kernel
theorem dX11_put_347 : decode cX11_put 347 = .ok (.iload 7, 2) := by decide +kernel
theorem dX11_put_349 : decode cX11_put 349 = .ok (.iaload, 1) := by decide +kernel
theorem dX11_put_350 : decode cX11_put 350 = .ok (.ifCond .ge 6, 3) := by decide +kernel
theorem dX11_put_353 : decode cX11_put 353 = .ok (.goto 57, 3) := by decide +kernel
theorem dX11_put_356 : decode cX11_put 356 = .ok (.aload_n 0, 1) := by decide +kernel
theorem dX11_put_357 : decode cX11_put 357 = .ok (.getfield 189, 3) := by decide +kernel
theorem dX11_put_360 : decode cX11_put 360 = .ok (.iload 7, 2) := by decide +kernel
theorem dX11_put_362 : decode cX11_put 362 = .ok (.iaload, 1) := by decide +kernel
theorem dX11_put_363 : decode cX11_put 363 = .ok (.aload_n 0, 1) := by decide +kernel
theorem dX11_put_364 : decode cX11_put 364 = .ok (.getfield 128, 3) := by decide +kernel
theorem dX11_put_367 : decode cX11_put 367 = .ok (.iload 5, 2) := by decide +kernel
theorem dX11_put_369 : decode cX11_put 369 = .ok (.iaload, 1) := by decide +kernel
theorem dX11_put_370 : decode cX11_put 370 = .ok (.iload_n 2, 1) := by decide +kernel
theorem dX11_put_371 : decode cX11_put 371 = .ok (.imul, 1) := by decide +kernel
theorem dX11_put_372 : decode cX11_put 372 = .ok (.iadd, 1) := by decide +kernel
theorem dX11_put_373 : decode cX11_put 373 = .ok (.aload_n 0, 1) := by decide +kernel
theorem dX11_put_374 : decode cX11_put 374 = .ok (.getfield 189, 3) := by decide +kernel
theorem dX11_put_377 : decode cX11_put 377 = .ok (.iload 6, 2) := by decide +kernel
theorem dX11_put_379 : decode cX11_put 379 = .ok (.iaload, 1) := by decide +kernel
theorem dX11_put_380 : decode cX11_put 380 = .ok (.aload_n 0, 1) := by decide +kernel
theorem dX11_put_381 : decode cX11_put 381 = .ok (.getfield 131, 3) := by decide +kernel
theorem dX11_put_384 : decode cX11_put 384 = .ok (.iload 5, 2) := by decide +kernel
theorem dX11_put_386 : decode cX11_put 386 = .ok (.iaload, 1) := by decide +kernel
theorem dX11_put_387 : decode cX11_put 387 = .ok (.iadd, 1) := by decide +kernel
theorem dX11_put_388 : decode cX11_put 388 = .ok (.if_icmp .ge 22, 3) := by decide +kernel
theorem dX11_put_391 : decode cX11_put 391 = .ok (.aload_n 0, 1) := by decide +kernel
theorem dX11_put_392 : decode cX11_put 392 = .ok (.getfield 189, 3) := by decide +kernel
theorem dX11_put_395 : decode cX11_put 395 = .ok (.iload 6, 2) := by decide +kernel
theorem dX11_put_397 : decode cX11_put 397 = .ok (.iload_n 1, 1) := by decide +kernel
theorem dX11_put_398 : decode cX11_put 398 = .ok (.if_icmp .ne 8, 3) := by decide +kernel
theorem dX11_put_401 : decode cX11_put 401 = .ok (.iload 7, 2) := by decide +kernel
theorem dX11_put_403 : decode cX11_put 403 = .ok (.goto 5, 3) := by decide +kernel
theorem dX11_put_406 : decode cX11_put 406 = .ok (.iload 6, 2) := by decide +kernel
theorem dX11_put_408 : decode cX11_put 408 = .ok (.iconst (-1), 1) := by decide +kernel
theorem dX11_put_409 : decode cX11_put 409 = .ok (.iastore, 1) := by decide +kernel
theorem dX11_put_410 : decode cX11_put 410 = .ok (.iinc 5 1, 3) := by decide +kernel
theorem dX11_put_413 : decode cX11_put 413 = .ok (.goto (-126), 3) := by decide +kernel
theorem dX11_put_416 : decode cX11_put 416 = .ok (.return_, 1) := by decide +kernel
set_option maxRecDepth 20000 in
theorem ggX11_layAll_X11_findWaits : GoodIn wsX11_layAll wsX11_findWaits := goodIn_r _ [16, 17, 7, 18, 19, 20, 21, 22, 23, 15, 24, 25, 26, 27, 28, 29, 30, 31, 32, 33, 34, 35, 36, 37, 38, 39, 40, 41, 42, 43, 44, 45, 46, 47, 48, 49, 2, 3, 4, 5, 50, 51, 52, 53, 54, 55, 56, 131, 132, 133, 134, 135, 136, 137, 138, 139, 140, 141, 142, 143, 144, 145, 146, 147, 148, 149, 150, 151, 152, 153, 154, 155, 156, 157, 158, 159, 160, 161, 162, 163, 164, 165, 166, 167, 168, 169, 170, 171, 172, 173, 174, 175, 176, 177, 178, 179, 180, 181] rfl (by decide +kernel)
set_option maxRecDepth 20000 in
theorem gX11_layAll_X11_findWaits : GoodIn wsX11_layAll (wsV RX11 213 RX11 yX11_findWaits wsX11_findWaits) := goodIn_app (goodIn_of _ (by decide +kernel)) ggX11_layAll_X11_findWaits
set_option maxRecDepth 20000 in
theorem ggX11_layAll_X11_leastByUnits : GoodIn wsX11_layAll wsX11_leastByUnits := goodIn_r _ [60, 7, 2, 3, 4, 5, 61, 62, 63, 15, 64, 38, 39, 40, 41, 20, 65, 66, 67, 68, 69, 70, 71, 72, 131, 132, 133, 134, 135, 136, 137, 138, 139, 140, 141, 142, 143, 144, 145, 146, 147, 148, 149, 150, 151, 152, 153, 154, 155, 156, 157, 158, 159, 160, 161, 162, 163, 164, 165, 166, 167, 168, 169, 170, 171, 172, 173, 174, 175, 176, 177, 178, 179, 180, 181] rfl (by decide +kernel)
set_option maxRecDepth 20000 in
theorem gX11_layAll_X11_leastByUnits : GoodIn wsX11_layAll (wsV RX11 219 RX11 yX11_leastByUnits wsX11_leastByUnits) := goodIn_app (goodIn_of _ (by decide +kernel)) ggX11_layAll_X11_leastByUnits
set_option maxRecDepth 20000 in
theorem ggX11_layAll_X11_leastByCircles : GoodIn wsX11_layAll wsX11_leastByCircles := goodIn_r _ [76, 77, 78, 79, 15, 80, 7, 81, 82, 17, 49, 48, 46, 47, 2, 3, 4, 5, 131, 132, 133, 134, 135, 136, 137, 138, 139, 140, 141, 142, 143, 144, 145, 146, 147, 148, 149, 150, 151, 152, 153, 154, 155, 156, 157, 158, 159, 160, 161, 162, 163, 164, 165, 166, 167, 168, 169, 170, 171, 172, 173, 174, 175, 176, 177, 178, 179, 180, 181] rfl (by decide +kernel)
set_option maxRecDepth 20000 in
theorem gX11_layAll_X11_leastByCircles : GoodIn wsX11_layAll (wsV RX11 222 RX11 yX11_leastByCircles wsX11_leastByCircles) := goodIn_app (goodIn_of _ (by decide +kernel)) ggX11_layAll_X11_leastByCircles
set_option maxRecDepth 20000 in
theorem ggX11_layAll_X11_tryAt : GoodIn wsX11_layAll wsX11_tryAt := goodIn_r _ [86, 7, 6, 87, 88, 89, 90, 91, 92, 15, 93, 17, 49, 48, 47, 46, 94, 95, 96, 97, 2, 3, 4, 5, 98, 99, 100, 101, 61, 62, 63, 64, 38, 39, 40, 41, 20, 102, 103, 104, 105, 65, 66, 67, 68, 69, 70, 71, 72, 131, 132, 133, 134, 135, 136, 137, 138, 139, 140, 141, 142, 143, 144, 145, 146, 147, 148, 149, 150, 151, 152, 153, 154, 155, 156, 157, 158, 159, 160, 161, 162, 163, 164, 165, 166, 167, 168, 169, 170, 171, 172, 173, 174, 175, 176, 177, 178, 179, 180, 181] rfl (by decide +kernel)
set_option maxRecDepth 20000 in
theorem gX11_layAll_X11_tryAt : GoodIn wsX11_layAll (wsV RX11 225 RX11 yX11_tryAt wsX11_tryAt) := goodIn_app (goodIn_of _ (by decide +kernel)) ggX11_layAll_X11_tryAt
set_option maxRecDepth 20000 in
theorem ggX11_layAll_X11_spans : GoodIn wsX11_layAll wsX11_spans := goodIn_r _ [109, 7, 110, 111, 112, 18, 6, 1, 2, 3, 4, 5, 113, 114, 115, 21, 22, 23, 15, 24, 25, 26, 27, 28, 29, 30, 31, 32, 33, 34, 35, 36, 37, 38, 39, 40, 41, 20, 116, 117, 118, 119, 120, 121, 122, 123, 124, 125, 126, 127, 128, 129, 130, 131, 132, 133, 134, 135, 136, 137, 138, 139, 140, 141, 142, 143, 144, 145, 146, 147, 148, 149, 150, 151, 152, 153, 154, 155, 156, 157, 158, 159, 160, 161, 162, 163, 164, 165, 166, 167, 168, 169, 170, 171, 172, 173, 174, 175, 176, 177, 178, 179, 180, 181] rfl (by decide +kernel)
set_option maxRecDepth 20000 in
theorem gX11_layAll_X11_spans : GoodIn wsX11_layAll (wsV RX11 231 RX11 yX11_spans wsX11_spans) := goodIn_app (goodIn_of _ (by decide +kernel)) ggX11_layAll_X11_spans
theorem dX11_layAll_0 : decode cX11_layAll 0 = .ok (.aload_n 0, 1) := by decide +kernel
theorem dX11_layAll_1 : decode cX11_layAll 1 = .ok (.invokevirtual 213, 3) := by decide +kernel
theorem dX11_layAll_4 : decode cX11_layAll 4 = .ok (.aload_n 0, 1) := by decide +kernel
theorem dX11_layAll_5 : decode cX11_layAll 5 = .ok (.iconst 0, 1) := by decide +kernel
theorem dX11_layAll_6 : decode cX11_layAll 6 = .ok (.putfield 216, 3) := by decide +kernel
theorem dX11_layAll_9 : decode cX11_layAll 9 = .ok (.aload_n 0, 1) := by decide +kernel
theorem dX11_layAll_10 : decode cX11_layAll 10 = .ok (.invokevirtual 219, 3) := by decide +kernel
theorem dX11_layAll_13 : decode cX11_layAll 13 = .ok (.aload_n 0, 1) := by decide +kernel
theorem dX11_layAll_14 : decode cX11_layAll 14 = .ok (.invokevirtual 222, 3) := by decide +kernel
theorem dX11_layAll_17 : decode cX11_layAll 17 = .ok (.invokestatic 134, 3) := by decide +kernel
theorem dX11_layAll_20 : decode cX11_layAll 20 = .ok (.istore_n 1, 1) := by decide +kernel
theorem dX11_layAll_21 : decode cX11_layAll 21 = .ok (.iload_n 1, 1) := by decide +kernel
theorem dX11_layAll_22 : decode cX11_layAll 22 = .ok (.sipush 200, 3) := by decide +kernel
theorem dX11_layAll_25 : decode cX11_layAll 25 = .ok (.if_icmp .gt 128, 3) := by decide +kernel
theorem dX11_layAll_28 : decode cX11_layAll 28 = .ok (.aload_n 0, 1) := by decide +kernel
theorem dX11_layAll_29 : decode cX11_layAll 29 = .ok (.iload_n 1, 1) := by decide +kernel
theorem dX11_layAll_30 : decode cX11_layAll 30 = .ok (.invokevirtual 225, 3) := by decide +kernel
theorem dX11_layAll_33 : decode cX11_layAll 33 = .ok (.ifCond .ne 6, 3) := by decide +kernel
theorem dX11_layAll_36 : decode cX11_layAll 36 = .ok (.goto 111, 3) := by decide +kernel
theorem dX11_layAll_39 : decode cX11_layAll 39 = .ok (.aload_n 0, 1) := by decide +kernel
theorem dX11_layAll_40 : decode cX11_layAll 40 = .ok (.iload_n 1, 1) := by decide +kernel
theorem dX11_layAll_41 : decode cX11_layAll 41 = .ok (.putfield 216, 3) := by decide +kernel
theorem dX11_layAll_44 : decode cX11_layAll 44 = .ok (.aload_n 0, 1) := by decide +kernel
theorem dX11_layAll_45 : decode cX11_layAll 45 = .ok (.getfield 189, 3) := by decide +kernel
theorem dX11_layAll_48 : decode cX11_layAll 48 = .ok (.iconst 0, 1) := by decide +kernel
theorem dX11_layAll_49 : decode cX11_layAll 49 = .ok (.iaload, 1) := by decide +kernel
theorem dX11_layAll_50 : decode cX11_layAll 50 = .ok (.istore_n 2, 1) := by decide +kernel
theorem dX11_layAll_51 : decode cX11_layAll 51 = .ok (.iconst 0, 1) := by decide +kernel
theorem dX11_layAll_52 : decode cX11_layAll 52 = .ok (.istore_n 3, 1) := by decide +kernel
theorem dX11_layAll_53 : decode cX11_layAll 53 = .ok (.iconst 0, 1) := by decide +kernel
theorem dX11_layAll_54 : decode cX11_layAll 54 = .ok (.istore 4, 2) := by decide +kernel
theorem dX11_layAll_56 : decode cX11_layAll 56 = .ok (.iload 4, 2) := by decide +kernel
theorem dX11_layAll_58 : decode cX11_layAll 58 = .ok (.aload_n 0, 1) := by decide +kernel
theorem dX11_layAll_59 : decode cX11_layAll 59 = .ok (.getfield 137, 3) := by decide +kernel
theorem dX11_layAll_62 : decode cX11_layAll 62 = .ok (.if_icmp .ge 21, 3) := by decide +kernel
theorem dX11_layAll_65 : decode cX11_layAll 65 = .ok (.iload_n 2, 1) := by decide +kernel
theorem dX11_layAll_66 : decode cX11_layAll 66 = .ok (.aload_n 0, 1) := by decide +kernel
theorem dX11_layAll_67 : decode cX11_layAll 67 = .ok (.getfield 189, 3) := by decide +kernel
theorem dX11_layAll_70 : decode cX11_layAll 70 = .ok (.iload 4, 2) := by decide +kernel
theorem dX11_layAll_72 : decode cX11_layAll 72 = .ok (.iaload, 1) := by decide +kernel
theorem dX11_layAll_73 : decode cX11_layAll 73 = .ok (.invokestatic 50, 3) := by decide +kernel
theorem dX11_layAll_76 : decode cX11_layAll 76 = .ok (.istore_n 2, 1) := by decide +kernel
theorem dX11_layAll_77 : decode cX11_layAll 77 = .ok (.iinc 4 1, 3) := by decide +kernel
theorem dX11_layAll_80 : decode cX11_layAll 80 = .ok (.goto (-24), 3) := by decide +kernel
theorem dX11_layAll_83 : decode cX11_layAll 83 = .ok (.iconst 0, 1) := by decide +kernel
theorem dX11_layAll_84 : decode cX11_layAll 84 = .ok (.istore 4, 2) := by decide +kernel
theorem dX11_layAll_86 : decode cX11_layAll 86 = .ok (.iload 4, 2) := by decide +kernel
theorem dX11_layAll_88 : decode cX11_layAll 88 = .ok (.aload_n 0, 1) := by decide +kernel
theorem dX11_layAll_89 : decode cX11_layAll 89 = .ok (.getfield 137, 3) := by decide +kernel
theorem dX11_layAll_92 : decode cX11_layAll 92 = .ok (.if_icmp .ge 32, 3) := by decide +kernel
theorem dX11_layAll_95 : decode cX11_layAll 95 = .ok (.aload_n 0, 1) := by decide +kernel
theorem dX11_layAll_96 : decode cX11_layAll 96 = .ok (.getfield 189, 3) := by decide +kernel
theorem dX11_layAll_99 : decode cX11_layAll 99 = .ok (.iload 4, 2) := by decide +kernel
theorem dX11_layAll_101 : decode cX11_layAll 101 = .ok (.dup2, 1) := by decide +kernel
theorem dX11_layAll_102 : decode cX11_layAll 102 = .ok (.iaload, 1) := by decide +kernel
theorem dX11_layAll_103 : decode cX11_layAll 103 = .ok (.iload_n 2, 1) := by decide +kernel
theorem dX11_layAll_104 : decode cX11_layAll 104 = .ok (.isub, 1) := by decide +kernel
theorem dX11_layAll_105 : decode cX11_layAll 105 = .ok (.iastore, 1) := by decide +kernel
theorem dX11_layAll_106 : decode cX11_layAll 106 = .ok (.iload_n 3, 1) := by decide +kernel
theorem dX11_layAll_107 : decode cX11_layAll 107 = .ok (.aload_n 0, 1) := by decide +kernel
theorem dX11_layAll_108 : decode cX11_layAll 108 = .ok (.getfield 189, 3) := by decide +kernel
theorem dX11_layAll_111 : decode cX11_layAll 111 = .ok (.iload 4, 2) := by decide +kernel
theorem dX11_layAll_113 : decode cX11_layAll 113 = .ok (.iaload, 1) := by decide +kernel
theorem dX11_layAll_114 : decode cX11_layAll 114 = .ok (.invokestatic 134, 3) := by decide +kernel
theorem dX11_layAll_117 : decode cX11_layAll 117 = .ok (.istore_n 3, 1) := by decide +kernel
theorem dX11_layAll_118 : decode cX11_layAll 118 = .ok (.iinc 4 1, 3) := by decide +kernel
theorem dX11_layAll_121 : decode cX11_layAll 121 = .ok (.goto (-35), 3) := by decide +kernel
theorem dX11_layAll_124 : decode cX11_layAll 124 = .ok (.aload_n 0, 1) := by decide +kernel
theorem dX11_layAll_125 : decode cX11_layAll 125 = .ok (.iload_n 3, 1) := by decide +kernel
theorem dX11_layAll_126 : decode cX11_layAll 126 = .ok (.iload_n 1, 1) := by decide +kernel
theorem dX11_layAll_127 : decode cX11_layAll 127 = .ok (.idiv, 1) := by decide +kernel
theorem dX11_layAll_128 : decode cX11_layAll 128 = .ok (.iconst 1, 1) := by decide +kernel
theorem dX11_layAll_129 : decode cX11_layAll 129 = .ok (.iadd, 1) := by decide +kernel
theorem dX11_layAll_130 : decode cX11_layAll 130 = .ok (.putfield 228, 3) := by decide +kernel
theorem dX11_layAll_133 : decode cX11_layAll 133 = .ok (.aload_n 0, 1) := by decide +kernel
theorem dX11_layAll_134 : decode cX11_layAll 134 = .ok (.invokevirtual 231, 3) := by decide +kernel
theorem dX11_layAll_137 : decode cX11_layAll 137 = .ok (.ifCond .eq 5, 3) := by decide +kernel
theorem dX11_layAll_140 : decode cX11_layAll 140 = .ok (.iconst 1, 1) := by decide +kernel
theorem dX11_layAll_141 : decode cX11_layAll 141 = .ok (.ireturn, 1) := by decide +kernel
theorem dX11_layAll_142 : decode cX11_layAll 142 = .ok (.aload_n 0, 1) := by decide +kernel
theorem dX11_layAll_143 : decode cX11_layAll 143 = .ok (.iconst 0, 1) := by decide +kernel
theorem dX11_layAll_144 : decode cX11_layAll 144 = .ok (.putfield 216, 3) := by decide +kernel
theorem dX11_layAll_147 : decode cX11_layAll 147 = .ok (.iinc 1 1, 3) := by decide +kernel
theorem dX11_layAll_150 : decode cX11_layAll 150 = .ok (.goto (-129), 3) := by decide +kernel
theorem dX11_layAll_153 : decode cX11_layAll 153 = .ok (.iconst 0, 1) := by decide +kernel
theorem dX11_layAll_154 : decode cX11_layAll 154 = .ok (.ireturn, 1) := by decide +kernel
theorem dX11_floor_0 : decode cX11_floor 0 = .ok (.iload_n 0, 1) := by decide +kernel
theorem dX11_floor_1 : decode cX11_floor 1 = .ok (.ifCond .lt 9, 3) := by decide +kernel
theorem dX11_floor_4 : decode cX11_floor 4 = .ok (.iload_n 0, 1) := by decide +kernel
theorem dX11_floor_5 : decode cX11_floor 5 = .ok (.iload_n 1, 1) := by decide +kernel
theorem dX11_floor_6 : decode cX11_floor 6 = .ok (.idiv, 1) := by decide +kernel
theorem dX11_floor_7 : decode cX11_floor 7 = .ok (.goto 12, 3) := by decide +kernel
theorem dX11_floor_10 : decode cX11_floor 10 = .ok (.iload_n 0, 1) := by decide +kernel
theorem dX11_floor_11 : decode cX11_floor 11 = .ok (.ineg, 1) := by decide +kernel
theorem dX11_floor_12 : decode cX11_floor 12 = .ok (.iload_n 1, 1) := by decide +kernel
theorem dX11_floor_13 : decode cX11_floor 13 = .ok (.iadd, 1) := by decide +kernel
theorem dX11_floor_14 : decode cX11_floor 14 = .ok (.iconst 1, 1) := by decide +kernel
theorem dX11_floor_15 : decode cX11_floor 15 = .ok (.isub, 1) := by decide +kernel
theorem dX11_floor_16 : decode cX11_floor 16 = .ok (.iload_n 1, 1) := by decide +kernel
theorem dX11_floor_17 : decode cX11_floor 17 = .ok (.idiv, 1) := by decide +kernel
theorem dX11_floor_18 : decode cX11_floor 18 = .ok (.ineg, 1) := by decide +kernel
theorem dX11_floor_19 : decode cX11_floor 19 = .ok (.ireturn, 1) := by decide +kernel
set_option maxRecDepth 20000 in
theorem ggX11_alive_X11_floor : GoodIn wsX11_alive wsX11_floor := goodIn_r _ [7] rfl (by decide +kernel)
set_option maxRecDepth 20000 in
theorem gX11_alive_X11_floor : GoodIn wsX11_alive (va_wsS RX11 237 yX11_floor wsX11_floor) := goodIn_app (goodIn_of _ (by decide +kernel)) ggX11_alive_X11_floor
theorem dX11_alive_0 : decode cX11_alive 0 = .ok (.iload_n 2, 1) := by decide +kernel
theorem dX11_alive_1 : decode cX11_alive 1 = .ok (.aload_n 0, 1) := by decide +kernel
theorem dX11_alive_2 : decode cX11_alive 2 = .ok (.getfield 234, 3) := by decide +kernel
theorem dX11_alive_5 : decode cX11_alive 5 = .ok (.iload_n 1, 1) := by decide +kernel
theorem dX11_alive_6 : decode cX11_alive 6 = .ok (.iaload, 1) := by decide +kernel
theorem dX11_alive_7 : decode cX11_alive 7 = .ok (.isub, 1) := by decide +kernel
theorem dX11_alive_8 : decode cX11_alive 8 = .ok (.aload_n 0, 1) := by decide +kernel
theorem dX11_alive_9 : decode cX11_alive 9 = .ok (.getfield 216, 3) := by decide +kernel
theorem dX11_alive_12 : decode cX11_alive 12 = .ok (.invokestatic 237, 3) := by decide +kernel
theorem dX11_alive_15 : decode cX11_alive 15 = .ok (.iload_n 2, 1) := by decide +kernel
theorem dX11_alive_16 : decode cX11_alive 16 = .ok (.aload_n 0, 1) := by decide +kernel
theorem dX11_alive_17 : decode cX11_alive 17 = .ok (.getfield 240, 3) := by decide +kernel
theorem dX11_alive_20 : decode cX11_alive 20 = .ok (.iload_n 1, 1) := by decide +kernel
theorem dX11_alive_21 : decode cX11_alive 21 = .ok (.iaload, 1) := by decide +kernel
theorem dX11_alive_22 : decode cX11_alive 22 = .ok (.isub, 1) := by decide +kernel
theorem dX11_alive_23 : decode cX11_alive 23 = .ok (.iconst 1, 1) := by decide +kernel
theorem dX11_alive_24 : decode cX11_alive 24 = .ok (.isub, 1) := by decide +kernel
theorem dX11_alive_25 : decode cX11_alive 25 = .ok (.aload_n 0, 1) := by decide +kernel
theorem dX11_alive_26 : decode cX11_alive 26 = .ok (.getfield 216, 3) := by decide +kernel
theorem dX11_alive_29 : decode cX11_alive 29 = .ok (.invokestatic 237, 3) := by decide +kernel
theorem dX11_alive_32 : decode cX11_alive 32 = .ok (.isub, 1) := by decide +kernel
theorem dX11_alive_33 : decode cX11_alive 33 = .ok (.ireturn, 1) := by decide +kernel
set_option maxRecDepth 20000 in
theorem ggX11_spans_X11_uses : GoodIn wsX11_spans wsX11_uses := goodIn_r _ [19, 20, 21, 22, 23, 53, 54, 55, 56, 57, 58, 59, 60, 61, 62, 63, 64, 65, 66, 67, 68, 69, 70, 71, 72, 73, 74, 75, 76, 77, 78, 79, 80, 81, 82, 83, 84, 85, 86, 87, 88, 89, 90, 91, 92, 93, 94, 95, 96, 97, 98, 99, 100, 101, 102, 103] rfl (by decide +kernel)
set_option maxRecDepth 20000 in
theorem gX11_spans_X11_uses : GoodIn wsX11_spans (wsV RX11 140 RX11 yX11_uses wsX11_uses) := goodIn_app (goodIn_of _ (by decide +kernel)) ggX11_spans_X11_uses
set_option maxRecDepth 20000 in
theorem ggX11_spans_X11_useOver : GoodIn wsX11_spans wsX11_useOver := goodIn_r _ [27] rfl (by decide +kernel)
set_option maxRecDepth 20000 in
theorem gX11_spans_X11_useOver : GoodIn wsX11_spans (wsV RX11 144 RX11 yX11_useOver wsX11_useOver) := goodIn_app (goodIn_of _ (by decide +kernel)) ggX11_spans_X11_useOver
set_option maxRecDepth 20000 in
theorem ggX11_spans_X11_time : GoodIn wsX11_spans wsX11_time := goodIn_r _ [31, 32, 33, 34, 35, 18, 36, 37, 53, 54, 55, 56, 57, 58, 59, 60, 61, 62, 63, 64, 65, 66, 67, 68, 69, 70, 71, 72, 73, 74, 75, 76, 77, 78, 79, 80, 81, 82, 83, 84, 85, 86, 87, 88, 89, 90, 91, 92, 93, 94, 95, 96, 97, 98, 99, 100, 101, 102, 103] rfl (by decide +kernel)
set_option maxRecDepth 20000 in
theorem gX11_spans_X11_time : GoodIn wsX11_spans (wsV RX11 147 RX11 yX11_time wsX11_time) := goodIn_app (goodIn_of _ (by decide +kernel)) ggX11_spans_X11_time
set_option maxRecDepth 20000 in
theorem ggX11_spans_X11_alive : GoodIn wsX11_spans wsX11_alive := goodIn_r _ [41, 2, 7, 3, 42, 43, 18, 44, 53, 54, 55, 56, 57, 58, 59, 60, 61, 62, 63, 64, 65, 66, 67, 68, 69, 70, 71, 72, 73, 74, 75, 76, 77, 78, 79, 80, 81, 82, 83, 84, 85, 86, 87, 88, 89, 90, 91, 92, 93, 94, 95, 96, 97, 98, 99, 100, 101, 102, 103] rfl (by decide +kernel)
set_option maxRecDepth 20000 in
theorem gX11_spans_X11_alive : GoodIn wsX11_spans (wsV RX11 252 RX11 yX11_alive wsX11_alive) := goodIn_app (goodIn_of _ (by decide +kernel)) ggX11_spans_X11_alive
set_option maxRecDepth 20000 in
theorem ggX11_spans_X11_rotated : GoodIn wsX11_spans wsX11_rotated := goodIn_r _ [48, 12, 4, 3, 2, 14, 7, 49, 50, 51, 18, 52, 42, 43, 44, 53, 54, 55, 56, 57, 58, 59, 60, 61, 62, 63, 64, 65, 66, 67, 68, 69, 70, 71, 72, 73, 74, 75, 76, 77, 78, 79, 80, 81, 82, 83, 84, 85, 86, 87, 88, 89, 90, 91, 92, 93, 94, 95, 96, 97, 98, 99, 100, 101, 102, 103] rfl (by decide +kernel)
set_option maxRecDepth 20000 in
theorem gX11_spans_X11_rotated : GoodIn wsX11_spans (wsV RX11 258 RX11 yX11_rotated wsX11_rotated) := goodIn_app (goodIn_of _ (by decide +kernel)) ggX11_spans_X11_rotated
theorem dX11_spans_0 : decode cX11_spans 0 = .ok (.iconst 0, 1) := by decide +kernel
theorem dX11_spans_1 : decode cX11_spans 1 = .ok (.istore_n 1, 1) := by decide +kernel
theorem dX11_spans_2 : decode cX11_spans 2 = .ok (.iconst 0, 1) := by decide +kernel
theorem dX11_spans_3 : decode cX11_spans 3 = .ok (.istore_n 2, 1) := by decide +kernel
theorem dX11_spans_4 : decode cX11_spans 4 = .ok (.iload_n 2, 1) := by decide +kernel
theorem dX11_spans_5 : decode cX11_spans 5 = .ok (.aload_n 0, 1) := by decide +kernel
theorem dX11_spans_6 : decode cX11_spans 6 = .ok (.getfield 137, 3) := by decide +kernel
theorem dX11_spans_9 : decode cX11_spans 9 = .ok (.if_icmp .ge 190, 3) := by decide +kernel
theorem dX11_spans_12 : decode cX11_spans 12 = .ok (.aload_n 0, 1) := by decide +kernel
theorem dX11_spans_13 : decode cX11_spans 13 = .ok (.getfield 234, 3) := by decide +kernel
theorem dX11_spans_16 : decode cX11_spans 16 = .ok (.iload_n 2, 1) := by decide +kernel
theorem dX11_spans_17 : decode cX11_spans 17 = .ok (.iconst (-1), 1) := by decide +kernel
theorem dX11_spans_18 : decode cX11_spans 18 = .ok (.iastore, 1) := by decide +kernel
theorem dX11_spans_19 : decode cX11_spans 19 = .ok (.aload_n 0, 1) := by decide +kernel
theorem dX11_spans_20 : decode cX11_spans 20 = .ok (.getfield 240, 3) := by decide +kernel
theorem dX11_spans_23 : decode cX11_spans 23 = .ok (.iload_n 2, 1) := by decide +kernel
theorem dX11_spans_24 : decode cX11_spans 24 = .ok (.iconst (-1), 1) := by decide +kernel
theorem dX11_spans_25 : decode cX11_spans 25 = .ok (.iastore, 1) := by decide +kernel
theorem dX11_spans_26 : decode cX11_spans 26 = .ok (.aload_n 0, 1) := by decide +kernel
theorem dX11_spans_27 : decode cX11_spans 27 = .ok (.getfield 243, 3) := by decide +kernel
theorem dX11_spans_30 : decode cX11_spans 30 = .ok (.iload_n 2, 1) := by decide +kernel
theorem dX11_spans_31 : decode cX11_spans 31 = .ok (.iconst (-1), 1) := by decide +kernel
theorem dX11_spans_32 : decode cX11_spans 32 = .ok (.iastore, 1) := by decide +kernel
theorem dX11_spans_33 : decode cX11_spans 33 = .ok (.iconst 0, 1) := by decide +kernel
theorem dX11_spans_34 : decode cX11_spans 34 = .ok (.istore_n 3, 1) := by decide +kernel
theorem dX11_spans_35 : decode cX11_spans 35 = .ok (.aload_n 0, 1) := by decide +kernel
theorem dX11_spans_36 : decode cX11_spans 36 = .ok (.getfield 91, 3) := by decide +kernel
theorem dX11_spans_39 : decode cX11_spans 39 = .ok (.iload_n 2, 1) := by decide +kernel
theorem dX11_spans_40 : decode cX11_spans 40 = .ok (.iaload, 1) := by decide +kernel
theorem dX11_spans_41 : decode cX11_spans 41 = .ok (.ifCond .lt 64, 3) := by decide +kernel
theorem dX11_spans_44 : decode cX11_spans 44 = .ok (.iload_n 3, 1) := by decide +kernel
theorem dX11_spans_45 : decode cX11_spans 45 = .ok (.aload_n 0, 1) := by decide +kernel
theorem dX11_spans_46 : decode cX11_spans 46 = .ok (.getfield 137, 3) := by decide +kernel
theorem dX11_spans_49 : decode cX11_spans 49 = .ok (.if_icmp .ge 56, 3) := by decide +kernel
theorem dX11_spans_52 : decode cX11_spans 52 = .ok (.aload_n 0, 1) := by decide +kernel
theorem dX11_spans_53 : decode cX11_spans 53 = .ok (.iload_n 3, 1) := by decide +kernel
theorem dX11_spans_54 : decode cX11_spans 54 = .ok (.aload_n 0, 1) := by decide +kernel
theorem dX11_spans_55 : decode cX11_spans 55 = .ok (.getfield 91, 3) := by decide +kernel
theorem dX11_spans_58 : decode cX11_spans 58 = .ok (.iload_n 2, 1) := by decide +kernel
theorem dX11_spans_59 : decode cX11_spans 59 = .ok (.iaload, 1) := by decide +kernel
theorem dX11_spans_60 : decode cX11_spans 60 = .ok (.invokevirtual 140, 3) := by decide +kernel
theorem dX11_spans_63 : decode cX11_spans 63 = .ok (.ifCond .eq 36, 3) := by decide +kernel
theorem dX11_spans_66 : decode cX11_spans 66 = .ok (.aload_n 0, 1) := by decide +kernel
theorem dX11_spans_67 : decode cX11_spans 67 = .ok (.getfield 240, 3) := by decide +kernel
theorem dX11_spans_70 : decode cX11_spans 70 = .ok (.iload_n 2, 1) := by decide +kernel
theorem dX11_spans_71 : decode cX11_spans 71 = .ok (.aload_n 0, 1) := by decide +kernel
theorem dX11_spans_72 : decode cX11_spans 72 = .ok (.getfield 240, 3) := by decide +kernel
theorem dX11_spans_75 : decode cX11_spans 75 = .ok (.iload_n 2, 1) := by decide +kernel
theorem dX11_spans_76 : decode cX11_spans 76 = .ok (.iaload, 1) := by decide +kernel
theorem dX11_spans_77 : decode cX11_spans 77 = .ok (.aload_n 0, 1) := by decide +kernel
theorem dX11_spans_78 : decode cX11_spans 78 = .ok (.getfield 189, 3) := by decide +kernel
theorem dX11_spans_81 : decode cX11_spans 81 = .ok (.iload_n 3, 1) := by decide +kernel
theorem dX11_spans_82 : decode cX11_spans 82 = .ok (.iaload, 1) := by decide +kernel
theorem dX11_spans_83 : decode cX11_spans 83 = .ok (.aload_n 0, 1) := by decide +kernel
theorem dX11_spans_84 : decode cX11_spans 84 = .ok (.iload_n 2, 1) := by decide +kernel
theorem dX11_spans_85 : decode cX11_spans 85 = .ok (.iload_n 3, 1) := by decide +kernel
theorem dX11_spans_86 : decode cX11_spans 86 = .ok (.invokevirtual 144, 3) := by decide +kernel
theorem dX11_spans_89 : decode cX11_spans 89 = .ok (.aload_n 0, 1) := by decide +kernel
theorem dX11_spans_90 : decode cX11_spans 90 = .ok (.getfield 216, 3) := by decide +kernel
theorem dX11_spans_93 : decode cX11_spans 93 = .ok (.imul, 1) := by decide +kernel
theorem dX11_spans_94 : decode cX11_spans 94 = .ok (.iadd, 1) := by decide +kernel
theorem dX11_spans_95 : decode cX11_spans 95 = .ok (.invokestatic 134, 3) := by decide +kernel
theorem dX11_spans_98 : decode cX11_spans 98 = .ok (.iastore, 1) := by decide +kernel
theorem dX11_spans_99 : decode cX11_spans 99 = .ok (.iinc 3 1, 3) := by decide +kernel
theorem dX11_spans_102 : decode cX11_spans 102 = .ok (.goto (-67), 3) := by decide +kernel
theorem dX11_spans_105 : decode cX11_spans 105 = .ok (.aload_n 0, 1) := by decide +kernel
theorem dX11_spans_106 : decode cX11_spans 106 = .ok (.getfield 240, 3) := by decide +kernel
theorem dX11_spans_109 : decode cX11_spans 109 = .ok (.iload_n 2, 1) := by decide +kernel
theorem dX11_spans_110 : decode cX11_spans 110 = .ok (.iaload, 1) := by decide +kernel
theorem dX11_spans_111 : decode cX11_spans 111 = .ok (.ifCond .ge 6, 3) := by decide +kernel
theorem dX11_spans_114 : decode cX11_spans 114 = .ok (.goto 79, 3) := by decide +kernel
theorem dX11_spans_117 : decode cX11_spans 117 = .ok (.aload_n 0, 1) := by decide +kernel
theorem dX11_spans_118 : decode cX11_spans 118 = .ok (.getfield 234, 3) := by decide +kernel
theorem dX11_spans_121 : decode cX11_spans 121 = .ok (.iload_n 2, 1) := by decide +kernel
theorem dX11_spans_122 : decode cX11_spans 122 = .ok (.aload_n 0, 1) := by decide +kernel
theorem dX11_spans_123 : decode cX11_spans 123 = .ok (.getfield 189, 3) := by decide +kernel
theorem dX11_spans_126 : decode cX11_spans 126 = .ok (.iload_n 2, 1) := by decide +kernel
theorem dX11_spans_127 : decode cX11_spans 127 = .ok (.iaload, 1) := by decide +kernel
theorem dX11_spans_128 : decode cX11_spans 128 = .ok (.aload_n 0, 1) := by decide +kernel
theorem dX11_spans_129 : decode cX11_spans 129 = .ok (.iload_n 2, 1) := by decide +kernel
theorem dX11_spans_130 : decode cX11_spans 130 = .ok (.invokevirtual 147, 3) := by decide +kernel
theorem dX11_spans_133 : decode cX11_spans 133 = .ok (.iadd, 1) := by decide +kernel
theorem dX11_spans_134 : decode cX11_spans 134 = .ok (.iastore, 1) := by decide +kernel
theorem dX11_spans_135 : decode cX11_spans 135 = .ok (.iload_n 1, 1) := by decide +kernel
theorem dX11_spans_136 : decode cX11_spans 136 = .ok (.istore_n 3, 1) := by decide +kernel
theorem dX11_spans_137 : decode cX11_spans 137 = .ok (.iload_n 3, 1) := by decide +kernel
theorem dX11_spans_138 : decode cX11_spans 138 = .ok (.ifCond .le 45, 3) := by decide +kernel
theorem dX11_spans_141 : decode cX11_spans 141 = .ok (.aload_n 0, 1) := by decide +kernel
theorem dX11_spans_142 : decode cX11_spans 142 = .ok (.getfield 234, 3) := by decide +kernel
theorem dX11_spans_145 : decode cX11_spans 145 = .ok (.aload_n 0, 1) := by decide +kernel
theorem dX11_spans_146 : decode cX11_spans 146 = .ok (.getfield 246, 3) := by decide +kernel
theorem dX11_spans_149 : decode cX11_spans 149 = .ok (.iload_n 3, 1) := by decide +kernel
theorem dX11_spans_150 : decode cX11_spans 150 = .ok (.iconst 1, 1) := by decide +kernel
theorem dX11_spans_151 : decode cX11_spans 151 = .ok (.isub, 1) := by decide +kernel
theorem dX11_spans_152 : decode cX11_spans 152 = .ok (.iaload, 1) := by decide +kernel
theorem dX11_spans_153 : decode cX11_spans 153 = .ok (.iaload, 1) := by decide +kernel
theorem dX11_spans_154 : decode cX11_spans 154 = .ok (.aload_n 0, 1) := by decide +kernel
theorem dX11_spans_155 : decode cX11_spans 155 = .ok (.getfield 234, 3) := by decide +kernel
theorem dX11_spans_158 : decode cX11_spans 158 = .ok (.iload_n 2, 1) := by decide +kernel
theorem dX11_spans_159 : decode cX11_spans 159 = .ok (.iaload, 1) := by decide +kernel
theorem dX11_spans_160 : decode cX11_spans 160 = .ok (.if_icmp .le 23, 3) := by decide +kernel
theorem dX11_spans_163 : decode cX11_spans 163 = .ok (.aload_n 0, 1) := by decide +kernel
theorem dX11_spans_164 : decode cX11_spans 164 = .ok (.getfield 246, 3) := by decide +kernel
theorem dX11_spans_167 : decode cX11_spans 167 = .ok (.iload_n 3, 1) := by decide +kernel
theorem dX11_spans_168 : decode cX11_spans 168 = .ok (.aload_n 0, 1) := by decide +kernel
theorem dX11_spans_169 : decode cX11_spans 169 = .ok (.getfield 246, 3) := by decide +kernel
theorem dX11_spans_172 : decode cX11_spans 172 = .ok (.iload_n 3, 1) := by decide +kernel
theorem dX11_spans_173 : decode cX11_spans 173 = .ok (.iconst 1, 1) := by decide +kernel
theorem dX11_spans_174 : decode cX11_spans 174 = .ok (.isub, 1) := by decide +kernel
theorem dX11_spans_175 : decode cX11_spans 175 = .ok (.iaload, 1) := by decide +kernel
theorem dX11_spans_176 : decode cX11_spans 176 = .ok (.iastore, 1) := by decide +kernel
theorem dX11_spans_177 : decode cX11_spans 177 = .ok (.iinc 3 (-1), 3) := by decide +kernel
theorem dX11_spans_180 : decode cX11_spans 180 = .ok (.goto (-43), 3) := by decide +kernel
theorem dX11_spans_183 : decode cX11_spans 183 = .ok (.aload_n 0, 1) := by decide +kernel
theorem dX11_spans_184 : decode cX11_spans 184 = .ok (.getfield 246, 3) := by decide +kernel
theorem dX11_spans_187 : decode cX11_spans 187 = .ok (.iload_n 3, 1) := by decide +kernel
theorem dX11_spans_188 : decode cX11_spans 188 = .ok (.iload_n 2, 1) := by decide +kernel
theorem dX11_spans_189 : decode cX11_spans 189 = .ok (.iastore, 1) := by decide +kernel
theorem dX11_spans_190 : decode cX11_spans 190 = .ok (.iinc 1 1, 3) := by decide +kernel
theorem dX11_spans_193 : decode cX11_spans 193 = .ok (.iinc 2 1, 3) := by decide +kernel
theorem dX11_spans_196 : decode cX11_spans 196 = .ok (.goto (-192), 3) := by decide +kernel
theorem dX11_spans_199 : decode cX11_spans 199 = .ok (.aload_n 0, 1) := by decide +kernel
theorem dX11_spans_200 : decode cX11_spans 200 = .ok (.iconst 0, 1) := by decide +kernel
theorem dX11_spans_201 : decode cX11_spans 201 = .ok (.putfield 249, 3) := by decide +kernel
theorem dX11_spans_204 : decode cX11_spans 204 = .ok (.iconst 0, 1) := by decide +kernel
theorem dX11_spans_205 : decode cX11_spans 205 = .ok (.istore_n 2, 1) := by decide +kernel
theorem dX11_spans_206 : decode cX11_spans 206 = .ok (.iload_n 2, 1) := by decide +kernel
theorem dX11_spans_207 : decode cX11_spans 207 = .ok (.aload_n 0, 1) := by decide +kernel
theorem dX11_spans_208 : decode cX11_spans 208 = .ok (.getfield 216, 3) := by decide +kernel
theorem dX11_spans_211 : decode cX11_spans 211 = .ok (.if_icmp .ge 53, 3) := by decide +kernel
theorem dX11_spans_214 : decode cX11_spans 214 = .ok (.iconst 0, 1) := by decide +kernel
theorem dX11_spans_215 : decode cX11_spans 215 = .ok (.istore_n 3, 1) := by decide +kernel
theorem dX11_spans_216 : decode cX11_spans 216 = .ok (.iconst 0, 1) := by decide +kernel
theorem dX11_spans_217 : decode cX11_spans 217 = .ok (.istore 4, 2) := by decide +kernel
theorem dX11_spans_219 : decode cX11_spans 219 = .ok (.iload 4, 2) := by decide +kernel
theorem dX11_spans_221 : decode cX11_spans 221 = .ok (.iload_n 1, 1) := by decide +kernel
theorem dX11_spans_222 : decode cX11_spans 222 = .ok (.if_icmp .ge 24, 3) := by decide +kernel
theorem dX11_spans_225 : decode cX11_spans 225 = .ok (.iload_n 3, 1) := by decide +kernel
theorem dX11_spans_226 : decode cX11_spans 226 = .ok (.aload_n 0, 1) := by decide +kernel
theorem dX11_spans_227 : decode cX11_spans 227 = .ok (.aload_n 0, 1) := by decide +kernel
theorem dX11_spans_228 : decode cX11_spans 228 = .ok (.getfield 246, 3) := by decide +kernel
theorem dX11_spans_231 : decode cX11_spans 231 = .ok (.iload 4, 2) := by decide +kernel
theorem dX11_spans_233 : decode cX11_spans 233 = .ok (.iaload, 1) := by decide +kernel
theorem dX11_spans_234 : decode cX11_spans 234 = .ok (.iload_n 2, 1) := by decide +kernel
theorem dX11_spans_235 : decode cX11_spans 235 = .ok (.invokevirtual 252, 3) := by decide +kernel
theorem dX11_spans_238 : decode cX11_spans 238 = .ok (.iadd, 1) := by decide +kernel
theorem dX11_spans_239 : decode cX11_spans 239 = .ok (.istore_n 3, 1) := by decide +kernel
theorem dX11_spans_240 : decode cX11_spans 240 = .ok (.iinc 4 1, 3) := by decide +kernel
theorem dX11_spans_243 : decode cX11_spans 243 = .ok (.goto (-24), 3) := by decide +kernel
theorem dX11_spans_246 : decode cX11_spans 246 = .ok (.aload_n 0, 1) := by decide +kernel
theorem dX11_spans_247 : decode cX11_spans 247 = .ok (.aload_n 0, 1) := by decide +kernel
theorem dX11_spans_248 : decode cX11_spans 248 = .ok (.getfield 249, 3) := by decide +kernel
theorem dX11_spans_251 : decode cX11_spans 251 = .ok (.iload_n 3, 1) := by decide +kernel
theorem dX11_spans_252 : decode cX11_spans 252 = .ok (.invokestatic 134, 3) := by decide +kernel
theorem dX11_spans_255 : decode cX11_spans 255 = .ok (.putfield 249, 3) := by decide +kernel
theorem dX11_spans_258 : decode cX11_spans 258 = .ok (.iinc 2 1, 3) := by decide +kernel
theorem dX11_spans_261 : decode cX11_spans 261 = .ok (.goto (-55), 3) := by decide +kernel
theorem dX11_spans_264 : decode cX11_spans 264 = .ok (.aload_n 0, 1) := by decide +kernel
theorem dX11_spans_265 : decode cX11_spans 265 = .ok (.getfield 249, 3) := by decide +kernel
theorem dX11_spans_268 : decode cX11_spans 268 = .ok (.bipush 96, 2) := by decide +kernel
theorem dX11_spans_270 : decode cX11_spans 270 = .ok (.if_icmp .le 5, 3) := by decide +kernel
theorem dX11_spans_273 : decode cX11_spans 273 = .ok (.iconst 0, 1) := by decide +kernel
theorem dX11_spans_274 : decode cX11_spans 274 = .ok (.ireturn, 1) := by decide +kernel
theorem dX11_spans_275 : decode cX11_spans 275 = .ok (.aload_n 0, 1) := by decide +kernel
theorem dX11_spans_276 : decode cX11_spans 276 = .ok (.aload_n 0, 1) := by decide +kernel
theorem dX11_spans_277 : decode cX11_spans 277 = .ok (.getfield 249, 3) := by decide +kernel
theorem dX11_spans_280 : decode cX11_spans 280 = .ok (.iconst 1, 1) := by decide +kernel
theorem dX11_spans_281 : decode cX11_spans 281 = .ok (.invokestatic 134, 3) := by decide +kernel
theorem dX11_spans_284 : decode cX11_spans 284 = .ok (.putfield 255, 3) := by decide +kernel
theorem dX11_spans_287 : decode cX11_spans 287 = .ok (.aload_n 0, 1) := by decide +kernel
theorem dX11_spans_288 : decode cX11_spans 288 = .ok (.getfield 255, 3) := by decide +kernel
theorem dX11_spans_291 : decode cX11_spans 291 = .ok (.sipush 128, 3) := by decide +kernel
theorem dX11_spans_294 : decode cX11_spans 294 = .ok (.if_icmp .gt 26, 3) := by decide +kernel
theorem dX11_spans_297 : decode cX11_spans 297 = .ok (.aload_n 0, 1) := by decide +kernel
theorem dX11_spans_298 : decode cX11_spans 298 = .ok (.iload_n 1, 1) := by decide +kernel
theorem dX11_spans_299 : decode cX11_spans 299 = .ok (.invokevirtual 258, 3) := by decide +kernel
theorem dX11_spans_302 : decode cX11_spans 302 = .ok (.ifCond .eq 5, 3) := by decide +kernel
theorem dX11_spans_305 : decode cX11_spans 305 = .ok (.iconst 1, 1) := by decide +kernel
theorem dX11_spans_306 : decode cX11_spans 306 = .ok (.ireturn, 1) := by decide +kernel
theorem dX11_spans_307 : decode cX11_spans 307 = .ok (.aload_n 0, 1) := by decide +kernel
theorem dX11_spans_308 : decode cX11_spans 308 = .ok (.dup, 1) := by decide +kernel
theorem dX11_spans_309 : decode cX11_spans 309 = .ok (.getfield 255, 3) := by decide +kernel
theorem dX11_spans_312 : decode cX11_spans 312 = .ok (.iconst 1, 1) := by decide +kernel
theorem dX11_spans_313 : decode cX11_spans 313 = .ok (.iadd, 1) := by decide +kernel
theorem dX11_spans_314 : decode cX11_spans 314 = .ok (.putfield 255, 3) := by decide +kernel
theorem dX11_spans_317 : decode cX11_spans 317 = .ok (.goto (-30), 3) := by decide +kernel
theorem dX11_spans_320 : decode cX11_spans 320 = .ok (.iconst 0, 1) := by decide +kernel
theorem dX11_spans_321 : decode cX11_spans 321 = .ok (.ireturn, 1) := by decide +kernel
set_option maxRecDepth 20000 in
theorem ggX11_rotated_X11_meet : GoodIn wsX11_rotated wsX11_meet := goodIn_r _ [11, 5, 6, 2, 4, 3, 12, 13, 10, 14, 15, 16, 17, 18, 19, 20, 21, 22, 23, 24, 25, 26, 27, 28, 29, 30, 31, 32, 33, 34, 35, 36, 37, 38, 39, 40, 41, 42, 43, 44, 45, 46, 47, 48, 49, 50, 51, 52, 53, 54, 55, 56, 57, 58, 59, 60, 61, 62, 63, 64, 65] rfl (by decide +kernel)
set_option maxRecDepth 20000 in
theorem gX11_rotated_X11_meet : GoodIn wsX11_rotated (wsV RX11 261 RX11 yX11_meet wsX11_meet) := goodIn_app (goodIn_of _ (by decide +kernel)) ggX11_rotated_X11_meet
theorem dX11_rotated_0 : decode cX11_rotated 0 = .ok (.iconst 0, 1) := by decide +kernel
theorem dX11_rotated_1 : decode cX11_rotated 1 = .ok (.istore_n 2, 1) := by decide +kernel
theorem dX11_rotated_2 : decode cX11_rotated 2 = .ok (.iload_n 2, 1) := by decide +kernel
theorem dX11_rotated_3 : decode cX11_rotated 3 = .ok (.iload_n 1, 1) := by decide +kernel
theorem dX11_rotated_4 : decode cX11_rotated 4 = .ok (.if_icmp .ge 148, 3) := by decide +kernel
theorem dX11_rotated_7 : decode cX11_rotated 7 = .ok (.aload_n 0, 1) := by decide +kernel
theorem dX11_rotated_8 : decode cX11_rotated 8 = .ok (.getfield 246, 3) := by decide +kernel
theorem dX11_rotated_11 : decode cX11_rotated 11 = .ok (.iload_n 2, 1) := by decide +kernel
theorem dX11_rotated_12 : decode cX11_rotated 12 = .ok (.iaload, 1) := by decide +kernel
theorem dX11_rotated_13 : decode cX11_rotated 13 = .ok (.istore_n 3, 1) := by decide +kernel
theorem dX11_rotated_14 : decode cX11_rotated 14 = .ok (.aload_n 0, 1) := by decide +kernel
theorem dX11_rotated_15 : decode cX11_rotated 15 = .ok (.getfield 243, 3) := by decide +kernel
theorem dX11_rotated_18 : decode cX11_rotated 18 = .ok (.iload_n 3, 1) := by decide +kernel
theorem dX11_rotated_19 : decode cX11_rotated 19 = .ok (.iconst (-1), 1) := by decide +kernel
theorem dX11_rotated_20 : decode cX11_rotated 20 = .ok (.iastore, 1) := by decide +kernel
theorem dX11_rotated_21 : decode cX11_rotated 21 = .ok (.aload_n 0, 1) := by decide +kernel
theorem dX11_rotated_22 : decode cX11_rotated 22 = .ok (.getfield 240, 3) := by decide +kernel
theorem dX11_rotated_25 : decode cX11_rotated 25 = .ok (.iload_n 3, 1) := by decide +kernel
theorem dX11_rotated_26 : decode cX11_rotated 26 = .ok (.iaload, 1) := by decide +kernel
theorem dX11_rotated_27 : decode cX11_rotated 27 = .ok (.aload_n 0, 1) := by decide +kernel
theorem dX11_rotated_28 : decode cX11_rotated 28 = .ok (.getfield 234, 3) := by decide +kernel
theorem dX11_rotated_31 : decode cX11_rotated 31 = .ok (.iload_n 3, 1) := by decide +kernel
theorem dX11_rotated_32 : decode cX11_rotated 32 = .ok (.iaload, 1) := by decide +kernel
theorem dX11_rotated_33 : decode cX11_rotated 33 = .ok (.isub, 1) := by decide +kernel
theorem dX11_rotated_34 : decode cX11_rotated 34 = .ok (.aload_n 0, 1) := by decide +kernel
theorem dX11_rotated_35 : decode cX11_rotated 35 = .ok (.getfield 255, 3) := by decide +kernel
theorem dX11_rotated_38 : decode cX11_rotated 38 = .ok (.aload_n 0, 1) := by decide +kernel
theorem dX11_rotated_39 : decode cX11_rotated 39 = .ok (.getfield 216, 3) := by decide +kernel
theorem dX11_rotated_42 : decode cX11_rotated 42 = .ok (.imul, 1) := by decide +kernel
theorem dX11_rotated_43 : decode cX11_rotated 43 = .ok (.if_icmp .lt 5, 3) := by decide +kernel
theorem dX11_rotated_46 : decode cX11_rotated 46 = .ok (.iconst 0, 1) := by decide +kernel
theorem dX11_rotated_47 : decode cX11_rotated 47 = .ok (.ireturn, 1) := by decide +kernel
theorem dX11_rotated_48 : decode cX11_rotated 48 = .ok (.iconst 0, 1) := by decide +kernel
theorem dX11_rotated_49 : decode cX11_rotated 49 = .ok (.istore 4, 2) := by decide +kernel
theorem dX11_rotated_51 : decode cX11_rotated 51 = .ok (.iload 4, 2) := by decide +kernel
theorem dX11_rotated_53 : decode cX11_rotated 53 = .ok (.aload_n 0, 1) := by decide +kernel
theorem dX11_rotated_54 : decode cX11_rotated 54 = .ok (.getfield 255, 3) := by decide +kernel
theorem dX11_rotated_57 : decode cX11_rotated 57 = .ok (.if_icmp .ge 78, 3) := by decide +kernel
theorem dX11_rotated_60 : decode cX11_rotated 60 = .ok (.aload_n 0, 1) := by decide +kernel
theorem dX11_rotated_61 : decode cX11_rotated 61 = .ok (.getfield 243, 3) := by decide +kernel
theorem dX11_rotated_64 : decode cX11_rotated 64 = .ok (.iload_n 3, 1) := by decide +kernel
theorem dX11_rotated_65 : decode cX11_rotated 65 = .ok (.iaload, 1) := by decide +kernel
theorem dX11_rotated_66 : decode cX11_rotated 66 = .ok (.ifCond .ge 69, 3) := by decide +kernel
theorem dX11_rotated_69 : decode cX11_rotated 69 = .ok (.iconst 1, 1) := by decide +kernel
theorem dX11_rotated_70 : decode cX11_rotated 70 = .ok (.istore 5, 2) := by decide +kernel
theorem dX11_rotated_72 : decode cX11_rotated 72 = .ok (.iconst 0, 1) := by decide +kernel
theorem dX11_rotated_73 : decode cX11_rotated 73 = .ok (.istore 6, 2) := by decide +kernel
theorem dX11_rotated_75 : decode cX11_rotated 75 = .ok (.iload 6, 2) := by decide +kernel
theorem dX11_rotated_77 : decode cX11_rotated 77 = .ok (.iload_n 2, 1) := by decide +kernel
theorem dX11_rotated_78 : decode cX11_rotated 78 = .ok (.if_icmp .ge 38, 3) := by decide +kernel
theorem dX11_rotated_81 : decode cX11_rotated 81 = .ok (.iload 5, 2) := by decide +kernel
theorem dX11_rotated_83 : decode cX11_rotated 83 = .ok (.ifCond .eq 33, 3) := by decide +kernel
theorem dX11_rotated_86 : decode cX11_rotated 86 = .ok (.aload_n 0, 1) := by decide +kernel
theorem dX11_rotated_87 : decode cX11_rotated 87 = .ok (.iload_n 3, 1) := by decide +kernel
theorem dX11_rotated_88 : decode cX11_rotated 88 = .ok (.iload 4, 2) := by decide +kernel
theorem dX11_rotated_90 : decode cX11_rotated 90 = .ok (.aload_n 0, 1) := by decide +kernel
theorem dX11_rotated_91 : decode cX11_rotated 91 = .ok (.getfield 246, 3) := by decide +kernel
theorem dX11_rotated_94 : decode cX11_rotated 94 = .ok (.iload 6, 2) := by decide +kernel
theorem dX11_rotated_96 : decode cX11_rotated 96 = .ok (.iaload, 1) := by decide +kernel
theorem dX11_rotated_97 : decode cX11_rotated 97 = .ok (.invokevirtual 261, 3) := by decide +kernel
theorem dX11_rotated_100 : decode cX11_rotated 100 = .ok (.ifCond .ne 7, 3) := by decide +kernel
theorem dX11_rotated_103 : decode cX11_rotated 103 = .ok (.iconst 1, 1) := by decide +kernel
theorem dX11_rotated_104 : decode cX11_rotated 104 = .ok (.goto 4, 3) := by decide +kernel
theorem dX11_rotated_107 : decode cX11_rotated 107 = .ok (.iconst 0, 1) := by decide +kernel
theorem dX11_rotated_108 : decode cX11_rotated 108 = .ok (.istore 5, 2) := by decide +kernel
theorem dX11_rotated_110 : decode cX11_rotated 110 = .ok (.iinc 6 1, 3) := by decide +kernel
theorem dX11_rotated_113 : decode cX11_rotated 113 = .ok (.goto (-38), 3) := by decide +kernel
theorem dX11_rotated_116 : decode cX11_rotated 116 = .ok (.iload 5, 2) := by decide +kernel
theorem dX11_rotated_118 : decode cX11_rotated 118 = .ok (.ifCond .eq 11, 3) := by decide +kernel
theorem dX11_rotated_121 : decode cX11_rotated 121 = .ok (.aload_n 0, 1) := by decide +kernel
theorem dX11_rotated_122 : decode cX11_rotated 122 = .ok (.getfield 243, 3) := by decide +kernel
theorem dX11_rotated_125 : decode cX11_rotated 125 = .ok (.iload_n 3, 1) := by decide +kernel
theorem dX11_rotated_126 : decode cX11_rotated 126 = .ok (.iload 4, 2) := by decide +kernel
theorem dX11_rotated_128 : decode cX11_rotated 128 = .ok (.iastore, 1) := by decide +kernel
theorem dX11_rotated_129 : decode cX11_rotated 129 = .ok (.iinc 4 1, 3) := by decide +kernel
theorem dX11_rotated_132 : decode cX11_rotated 132 = .ok (.goto (-81), 3) := by decide +kernel
theorem dX11_rotated_135 : decode cX11_rotated 135 = .ok (.aload_n 0, 1) := by decide +kernel
theorem dX11_rotated_136 : decode cX11_rotated 136 = .ok (.getfield 243, 3) := by decide +kernel
theorem dX11_rotated_139 : decode cX11_rotated 139 = .ok (.iload_n 3, 1) := by decide +kernel
theorem dX11_rotated_140 : decode cX11_rotated 140 = .ok (.iaload, 1) := by decide +kernel
theorem dX11_rotated_141 : decode cX11_rotated 141 = .ok (.ifCond .ge 5, 3) := by decide +kernel
theorem dX11_rotated_144 : decode cX11_rotated 144 = .ok (.iconst 0, 1) := by decide +kernel
theorem dX11_rotated_145 : decode cX11_rotated 145 = .ok (.ireturn, 1) := by decide +kernel
theorem dX11_rotated_146 : decode cX11_rotated 146 = .ok (.iinc 2 1, 3) := by decide +kernel
theorem dX11_rotated_149 : decode cX11_rotated 149 = .ok (.goto (-147), 3) := by decide +kernel
theorem dX11_rotated_152 : decode cX11_rotated 152 = .ok (.iconst 1, 1) := by decide +kernel
theorem dX11_rotated_153 : decode cX11_rotated 153 = .ok (.ireturn, 1) := by decide +kernel
set_option maxRecDepth 20000 in
theorem ggX11_meet_X11_floor : GoodIn wsX11_meet wsX11_floor := goodIn_r _ [9] rfl (by decide +kernel)
set_option maxRecDepth 20000 in
theorem gX11_meet_X11_floor : GoodIn wsX11_meet (va_wsS RX11 237 yX11_floor wsX11_floor) := goodIn_app (goodIn_of _ (by decide +kernel)) ggX11_meet_X11_floor
theorem dX11_meet_0 : decode cX11_meet 0 = .ok (.aload_n 0, 1) := by decide +kernel
theorem dX11_meet_1 : decode cX11_meet 1 = .ok (.getfield 255, 3) := by decide +kernel
theorem dX11_meet_4 : decode cX11_meet 4 = .ok (.aload_n 0, 1) := by decide +kernel
theorem dX11_meet_5 : decode cX11_meet 5 = .ok (.getfield 216, 3) := by decide +kernel
theorem dX11_meet_8 : decode cX11_meet 8 = .ok (.imul, 1) := by decide +kernel
theorem dX11_meet_9 : decode cX11_meet 9 = .ok (.istore 4, 2) := by decide +kernel
theorem dX11_meet_11 : decode cX11_meet 11 = .ok (.aload_n 0, 1) := by decide +kernel
theorem dX11_meet_12 : decode cX11_meet 12 = .ok (.getfield 243, 3) := by decide +kernel
theorem dX11_meet_15 : decode cX11_meet 15 = .ok (.iload_n 3, 1) := by decide +kernel
theorem dX11_meet_16 : decode cX11_meet 16 = .ok (.iaload, 1) := by decide +kernel
theorem dX11_meet_17 : decode cX11_meet 17 = .ok (.iload_n 2, 1) := by decide +kernel
theorem dX11_meet_18 : decode cX11_meet 18 = .ok (.isub, 1) := by decide +kernel
theorem dX11_meet_19 : decode cX11_meet 19 = .ok (.aload_n 0, 1) := by decide +kernel
theorem dX11_meet_20 : decode cX11_meet 20 = .ok (.getfield 216, 3) := by decide +kernel
theorem dX11_meet_23 : decode cX11_meet 23 = .ok (.imul, 1) := by decide +kernel
theorem dX11_meet_24 : decode cX11_meet 24 = .ok (.istore 5, 2) := by decide +kernel
theorem dX11_meet_26 : decode cX11_meet 26 = .ok (.aload_n 0, 1) := by decide +kernel
theorem dX11_meet_27 : decode cX11_meet 27 = .ok (.getfield 234, 3) := by decide +kernel
theorem dX11_meet_30 : decode cX11_meet 30 = .ok (.iload_n 1, 1) := by decide +kernel
theorem dX11_meet_31 : decode cX11_meet 31 = .ok (.iaload, 1) := by decide +kernel
theorem dX11_meet_32 : decode cX11_meet 32 = .ok (.aload_n 0, 1) := by decide +kernel
theorem dX11_meet_33 : decode cX11_meet 33 = .ok (.getfield 240, 3) := by decide +kernel
theorem dX11_meet_36 : decode cX11_meet 36 = .ok (.iload_n 3, 1) := by decide +kernel
theorem dX11_meet_37 : decode cX11_meet 37 = .ok (.iaload, 1) := by decide +kernel
theorem dX11_meet_38 : decode cX11_meet 38 = .ok (.isub, 1) := by decide +kernel
theorem dX11_meet_39 : decode cX11_meet 39 = .ok (.iload 5, 2) := by decide +kernel
theorem dX11_meet_41 : decode cX11_meet 41 = .ok (.isub, 1) := by decide +kernel
theorem dX11_meet_42 : decode cX11_meet 42 = .ok (.ineg, 1) := by decide +kernel
theorem dX11_meet_43 : decode cX11_meet 43 = .ok (.iload 4, 2) := by decide +kernel
theorem dX11_meet_45 : decode cX11_meet 45 = .ok (.invokestatic 237, 3) := by decide +kernel
theorem dX11_meet_48 : decode cX11_meet 48 = .ok (.ineg, 1) := by decide +kernel
theorem dX11_meet_49 : decode cX11_meet 49 = .ok (.istore 6, 2) := by decide +kernel
theorem dX11_meet_51 : decode cX11_meet 51 = .ok (.aload_n 0, 1) := by decide +kernel
theorem dX11_meet_52 : decode cX11_meet 52 = .ok (.getfield 234, 3) := by decide +kernel
theorem dX11_meet_55 : decode cX11_meet 55 = .ok (.iload_n 3, 1) := by decide +kernel
theorem dX11_meet_56 : decode cX11_meet 56 = .ok (.iaload, 1) := by decide +kernel
theorem dX11_meet_57 : decode cX11_meet 57 = .ok (.iload 5, 2) := by decide +kernel
theorem dX11_meet_59 : decode cX11_meet 59 = .ok (.iadd, 1) := by decide +kernel
theorem dX11_meet_60 : decode cX11_meet 60 = .ok (.iload 6, 2) := by decide +kernel
theorem dX11_meet_62 : decode cX11_meet 62 = .ok (.iload 4, 2) := by decide +kernel
theorem dX11_meet_64 : decode cX11_meet 64 = .ok (.imul, 1) := by decide +kernel
theorem dX11_meet_65 : decode cX11_meet 65 = .ok (.iadd, 1) := by decide +kernel
theorem dX11_meet_66 : decode cX11_meet 66 = .ok (.aload_n 0, 1) := by decide +kernel
theorem dX11_meet_67 : decode cX11_meet 67 = .ok (.getfield 240, 3) := by decide +kernel
theorem dX11_meet_70 : decode cX11_meet 70 = .ok (.iload_n 1, 1) := by decide +kernel
theorem dX11_meet_71 : decode cX11_meet 71 = .ok (.iaload, 1) := by decide +kernel
theorem dX11_meet_72 : decode cX11_meet 72 = .ok (.if_icmp .gt 7, 3) := by decide +kernel
theorem dX11_meet_75 : decode cX11_meet 75 = .ok (.iconst 1, 1) := by decide +kernel
theorem dX11_meet_76 : decode cX11_meet 76 = .ok (.goto 4, 3) := by decide +kernel
theorem dX11_meet_79 : decode cX11_meet 79 = .ok (.iconst 0, 1) := by decide +kernel
theorem dX11_meet_80 : decode cX11_meet 80 = .ok (.ireturn, 1) := by decide +kernel
theorem dX11_result_0 : decode cX11_result 0 = .ok (.iload_n 0, 1) := by decide +kernel
theorem dX11_result_1 : decode cX11_result 1 = .ok (.tableswitch 110 0 9 #[55, 59, 63, 67, 71, 75, 79, 86, 93, 104], 55) := by decide +kernel
theorem dX11_result_56 : decode cX11_result 56 = .ok (.iload_n 1, 1) := by decide +kernel
theorem dX11_result_57 : decode cX11_result 57 = .ok (.iload_n 2, 1) := by decide +kernel
theorem dX11_result_58 : decode cX11_result 58 = .ok (.iadd, 1) := by decide +kernel
theorem dX11_result_59 : decode cX11_result 59 = .ok (.ireturn, 1) := by decide +kernel
theorem dX11_result_60 : decode cX11_result 60 = .ok (.iload_n 1, 1) := by decide +kernel
theorem dX11_result_61 : decode cX11_result 61 = .ok (.iload_n 2, 1) := by decide +kernel
theorem dX11_result_62 : decode cX11_result 62 = .ok (.isub, 1) := by decide +kernel
theorem dX11_result_63 : decode cX11_result 63 = .ok (.ireturn, 1) := by decide +kernel
theorem dX11_result_64 : decode cX11_result 64 = .ok (.iload_n 1, 1) := by decide +kernel
theorem dX11_result_65 : decode cX11_result 65 = .ok (.iload_n 2, 1) := by decide +kernel
theorem dX11_result_66 : decode cX11_result 66 = .ok (.imul, 1) := by decide +kernel
theorem dX11_result_67 : decode cX11_result 67 = .ok (.ireturn, 1) := by decide +kernel
theorem dX11_result_68 : decode cX11_result 68 = .ok (.iload_n 1, 1) := by decide +kernel
theorem dX11_result_69 : decode cX11_result 69 = .ok (.iload_n 2, 1) := by decide +kernel
theorem dX11_result_70 : decode cX11_result 70 = .ok (.iand, 1) := by decide +kernel
theorem dX11_result_71 : decode cX11_result 71 = .ok (.ireturn, 1) := by decide +kernel
theorem dX11_result_72 : decode cX11_result 72 = .ok (.iload_n 1, 1) := by decide +kernel
theorem dX11_result_73 : decode cX11_result 73 = .ok (.iload_n 2, 1) := by decide +kernel
theorem dX11_result_74 : decode cX11_result 74 = .ok (.ior, 1) := by decide +kernel
theorem dX11_result_75 : decode cX11_result 75 = .ok (.ireturn, 1) := by decide +kernel
theorem dX11_result_76 : decode cX11_result 76 = .ok (.iload_n 1, 1) := by decide +kernel
theorem dX11_result_77 : decode cX11_result 77 = .ok (.iload_n 2, 1) := by decide +kernel
theorem dX11_result_78 : decode cX11_result 78 = .ok (.ixor, 1) := by decide +kernel
theorem dX11_result_79 : decode cX11_result 79 = .ok (.ireturn, 1) := by decide +kernel
theorem dX11_result_80 : decode cX11_result 80 = .ok (.iload_n 1, 1) := by decide +kernel
theorem dX11_result_81 : decode cX11_result 81 = .ok (.iload_n 2, 1) := by decide +kernel
theorem dX11_result_82 : decode cX11_result 82 = .ok (.bipush 31, 2) := by decide +kernel
theorem dX11_result_84 : decode cX11_result 84 = .ok (.iand, 1) := by decide +kernel
theorem dX11_result_85 : decode cX11_result 85 = .ok (.ishl, 1) := by decide +kernel
theorem dX11_result_86 : decode cX11_result 86 = .ok (.ireturn, 1) := by decide +kernel
theorem dX11_result_87 : decode cX11_result 87 = .ok (.iload_n 1, 1) := by decide +kernel
theorem dX11_result_88 : decode cX11_result 88 = .ok (.iload_n 2, 1) := by decide +kernel
theorem dX11_result_89 : decode cX11_result 89 = .ok (.bipush 31, 2) := by decide +kernel
theorem dX11_result_91 : decode cX11_result 91 = .ok (.iand, 1) := by decide +kernel
theorem dX11_result_92 : decode cX11_result 92 = .ok (.ishr, 1) := by decide +kernel
theorem dX11_result_93 : decode cX11_result 93 = .ok (.ireturn, 1) := by decide +kernel
theorem dX11_result_94 : decode cX11_result 94 = .ok (.iload_n 1, 1) := by decide +kernel
theorem dX11_result_95 : decode cX11_result 95 = .ok (.iload_n 2, 1) := by decide +kernel
theorem dX11_result_96 : decode cX11_result 96 = .ok (.if_icmp .ge 7, 3) := by decide +kernel
theorem dX11_result_99 : decode cX11_result 99 = .ok (.iconst 1, 1) := by decide +kernel
theorem dX11_result_100 : decode cX11_result 100 = .ok (.goto 4, 3) := by decide +kernel
theorem dX11_result_103 : decode cX11_result 103 = .ok (.iconst 0, 1) := by decide +kernel
theorem dX11_result_104 : decode cX11_result 104 = .ok (.ireturn, 1) := by decide +kernel
theorem dX11_result_105 : decode cX11_result 105 = .ok (.iload_n 1, 1) := by decide +kernel
theorem dX11_result_106 : decode cX11_result 106 = .ok (.iload_n 2, 1) := by decide +kernel
theorem dX11_result_107 : decode cX11_result 107 = .ok (.invokestatic 50, 3) := by decide +kernel
theorem dX11_result_110 : decode cX11_result 110 = .ok (.ireturn, 1) := by decide +kernel
theorem dX11_result_111 : decode cX11_result 111 = .ok (.iload_n 1, 1) := by decide +kernel
theorem dX11_result_112 : decode cX11_result 112 = .ok (.iload_n 2, 1) := by decide +kernel
theorem dX11_result_113 : decode cX11_result 113 = .ok (.invokestatic 134, 3) := by decide +kernel
theorem dX11_result_116 : decode cX11_result 116 = .ok (.ireturn, 1) := by decide +kernel
theorem dX11_setter_0 : decode cX11_setter 0 = .ok (.iconst 0, 1) := by decide +kernel
theorem dX11_setter_1 : decode cX11_setter 1 = .ok (.istore_n 2, 1) := by decide +kernel
theorem dX11_setter_2 : decode cX11_setter 2 = .ok (.iload_n 2, 1) := by decide +kernel
theorem dX11_setter_3 : decode cX11_setter 3 = .ok (.aload_n 0, 1) := by decide +kernel
theorem dX11_setter_4 : decode cX11_setter 4 = .ok (.getfield 137, 3) := by decide +kernel
theorem dX11_setter_7 : decode cX11_setter 7 = .ok (.if_icmp .ge 21, 3) := by decide +kernel
theorem dX11_setter_10 : decode cX11_setter 10 = .ok (.aload_n 0, 1) := by decide +kernel
theorem dX11_setter_11 : decode cX11_setter 11 = .ok (.getfield 91, 3) := by decide +kernel
theorem dX11_setter_14 : decode cX11_setter 14 = .ok (.iload_n 2, 1) := by decide +kernel
theorem dX11_setter_15 : decode cX11_setter 15 = .ok (.iaload, 1) := by decide +kernel
theorem dX11_setter_16 : decode cX11_setter 16 = .ok (.iload_n 1, 1) := by decide +kernel
theorem dX11_setter_17 : decode cX11_setter 17 = .ok (.if_icmp .ne 5, 3) := by decide +kernel
theorem dX11_setter_20 : decode cX11_setter 20 = .ok (.iload_n 2, 1) := by decide +kernel
theorem dX11_setter_21 : decode cX11_setter 21 = .ok (.ireturn, 1) := by decide +kernel
theorem dX11_setter_22 : decode cX11_setter 22 = .ok (.iinc 2 1, 3) := by decide +kernel
theorem dX11_setter_25 : decode cX11_setter 25 = .ok (.goto (-23), 3) := by decide +kernel
theorem dX11_setter_28 : decode cX11_setter 28 = .ok (.iconst (-1), 1) := by decide +kernel
theorem dX11_setter_29 : decode cX11_setter 29 = .ok (.ireturn, 1) := by decide +kernel
theorem dX11_beginRun_0 : decode cX11_beginRun 0 = .ok (.iconst 0, 1) := by decide +kernel
theorem dX11_beginRun_1 : decode cX11_beginRun 1 = .ok (.istore_n 1, 1) := by decide +kernel
theorem dX11_beginRun_2 : decode cX11_beginRun 2 = .ok (.iload_n 1, 1) := by decide +kernel
theorem dX11_beginRun_3 : decode cX11_beginRun 3 = .ok (.sipush 1024, 3) := by decide +kernel
theorem dX11_beginRun_6 : decode cX11_beginRun 6 = .ok (.if_icmp .ge 57, 3) := by decide +kernel
theorem dX11_beginRun_9 : decode cX11_beginRun 9 = .ok (.aload_n 0, 1) := by decide +kernel
theorem dX11_beginRun_10 : decode cX11_beginRun 10 = .ok (.getfield 265, 3) := by decide +kernel
theorem dX11_beginRun_13 : decode cX11_beginRun 13 = .ok (.iconst 0, 1) := by decide +kernel
theorem dX11_beginRun_14 : decode cX11_beginRun 14 = .ok (.aaload, 1) := by decide +kernel
theorem dX11_beginRun_15 : decode cX11_beginRun 15 = .ok (.iload_n 1, 1) := by decide +kernel
