theorem dX11_kind_0 : decode cX11_kind 0 = .ok (.aload_n 0, 1) := by decide +kernel
theorem dX11_kind_1 : decode cX11_kind 1 = .ok (.getfield 1, 3) := by decide +kernel
theorem dX11_kind_4 : decode cX11_kind 4 = .ok (.iload_n 1, 1) := by decide +kernel
theorem dX11_kind_5 : decode cX11_kind 5 = .ok (.iaload, 1) := by decide +kernel
theorem dX11_kind_6 : decode cX11_kind 6 = .ok (.iconst 2, 1) := by decide +kernel
theorem dX11_kind_7 : decode cX11_kind 7 = .ok (.if_icmp .ne 7, 3) := by decide +kernel
theorem dX11_kind_10 : decode cX11_kind 10 = .ok (.iconst 1, 1) := by decide +kernel
theorem dX11_kind_11 : decode cX11_kind 11 = .ok (.goto 34, 3) := by decide +kernel
theorem dX11_kind_14 : decode cX11_kind 14 = .ok (.aload_n 0, 1) := by decide +kernel
theorem dX11_kind_15 : decode cX11_kind 15 = .ok (.getfield 1, 3) := by decide +kernel
theorem dX11_kind_18 : decode cX11_kind 18 = .ok (.iload_n 1, 1) := by decide +kernel
theorem dX11_kind_19 : decode cX11_kind 19 = .ok (.iaload, 1) := by decide +kernel
theorem dX11_kind_20 : decode cX11_kind 20 = .ok (.bipush 11, 2) := by decide +kernel
theorem dX11_kind_22 : decode cX11_kind 22 = .ok (.if_icmp .ne 7, 3) := by decide +kernel
theorem dX11_kind_25 : decode cX11_kind 25 = .ok (.iconst 2, 1) := by decide +kernel
theorem dX11_kind_26 : decode cX11_kind 26 = .ok (.goto 19, 3) := by decide +kernel
theorem dX11_kind_29 : decode cX11_kind 29 = .ok (.aload_n 0, 1) := by decide +kernel
theorem dX11_kind_30 : decode cX11_kind 30 = .ok (.getfield 1, 3) := by decide +kernel
theorem dX11_kind_33 : decode cX11_kind 33 = .ok (.iload_n 1, 1) := by decide +kernel
theorem dX11_kind_34 : decode cX11_kind 34 = .ok (.iaload, 1) := by decide +kernel
theorem dX11_kind_35 : decode cX11_kind 35 = .ok (.bipush 12, 2) := by decide +kernel
theorem dX11_kind_37 : decode cX11_kind 37 = .ok (.if_icmp .ne 7, 3) := by decide +kernel
theorem dX11_kind_40 : decode cX11_kind 40 = .ok (.iconst 3, 1) := by decide +kernel
theorem dX11_kind_41 : decode cX11_kind 41 = .ok (.goto 4, 3) := by decide +kernel
theorem dX11_kind_44 : decode cX11_kind 44 = .ok (.iconst 0, 1) := by decide +kernel
theorem dX11_kind_45 : decode cX11_kind 45 = .ok (.ireturn, 1) := by decide +kernel
theorem dX11_uses_0 : decode cX11_uses 0 = .ok (.aload_n 0, 1) := by decide +kernel
theorem dX11_uses_1 : decode cX11_uses 1 = .ok (.getfield 7, 3) := by decide +kernel
theorem dX11_uses_4 : decode cX11_uses 4 = .ok (.iload_n 1, 1) := by decide +kernel
theorem dX11_uses_5 : decode cX11_uses 5 = .ok (.iaload, 1) := by decide +kernel
theorem dX11_uses_6 : decode cX11_uses 6 = .ok (.iconst 1, 1) := by decide +kernel
theorem dX11_uses_7 : decode cX11_uses 7 = .ok (.if_icmp .ne 13, 3) := by decide +kernel
theorem dX11_uses_10 : decode cX11_uses 10 = .ok (.aload_n 0, 1) := by decide +kernel
theorem dX11_uses_11 : decode cX11_uses 11 = .ok (.getfield 10, 3) := by decide +kernel
theorem dX11_uses_14 : decode cX11_uses 14 = .ok (.iload_n 1, 1) := by decide +kernel
theorem dX11_uses_15 : decode cX11_uses 15 = .ok (.iaload, 1) := by decide +kernel
theorem dX11_uses_16 : decode cX11_uses 16 = .ok (.iload_n 2, 1) := by decide +kernel
theorem dX11_uses_17 : decode cX11_uses 17 = .ok (.if_icmp .eq 23, 3) := by decide +kernel
theorem dX11_uses_20 : decode cX11_uses 20 = .ok (.aload_n 0, 1) := by decide +kernel
theorem dX11_uses_21 : decode cX11_uses 21 = .ok (.getfield 13, 3) := by decide +kernel
theorem dX11_uses_24 : decode cX11_uses 24 = .ok (.iload_n 1, 1) := by decide +kernel
theorem dX11_uses_25 : decode cX11_uses 25 = .ok (.iaload, 1) := by decide +kernel
theorem dX11_uses_26 : decode cX11_uses 26 = .ok (.iconst 1, 1) := by decide +kernel
theorem dX11_uses_27 : decode cX11_uses 27 = .ok (.if_icmp .ne 17, 3) := by decide +kernel
theorem dX11_uses_30 : decode cX11_uses 30 = .ok (.aload_n 0, 1) := by decide +kernel
theorem dX11_uses_31 : decode cX11_uses 31 = .ok (.getfield 16, 3) := by decide +kernel
theorem dX11_uses_34 : decode cX11_uses 34 = .ok (.iload_n 1, 1) := by decide +kernel
theorem dX11_uses_35 : decode cX11_uses 35 = .ok (.iaload, 1) := by decide +kernel
theorem dX11_uses_36 : decode cX11_uses 36 = .ok (.iload_n 2, 1) := by decide +kernel
theorem dX11_uses_37 : decode cX11_uses 37 = .ok (.if_icmp .ne 7, 3) := by decide +kernel
theorem dX11_uses_40 : decode cX11_uses 40 = .ok (.iconst 1, 1) := by decide +kernel
theorem dX11_uses_41 : decode cX11_uses 41 = .ok (.goto 4, 3) := by decide +kernel
theorem dX11_uses_44 : decode cX11_uses 44 = .ok (.iconst 0, 1) := by decide +kernel
theorem dX11_uses_45 : decode cX11_uses 45 = .ok (.ireturn, 1) := by decide +kernel
theorem dX11_isDigit_0 : decode cX11_isDigit 0 = .ok (.iload_n 0, 1) := by decide +kernel
theorem dX11_isDigit_1 : decode cX11_isDigit 1 = .ok (.bipush 48, 2) := by decide +kernel
theorem dX11_isDigit_3 : decode cX11_isDigit 3 = .ok (.if_icmp .lt 13, 3) := by decide +kernel
theorem dX11_isDigit_6 : decode cX11_isDigit 6 = .ok (.iload_n 0, 1) := by decide +kernel
theorem dX11_isDigit_7 : decode cX11_isDigit 7 = .ok (.bipush 57, 2) := by decide +kernel
theorem dX11_isDigit_9 : decode cX11_isDigit 9 = .ok (.if_icmp .gt 7, 3) := by decide +kernel
theorem dX11_isDigit_12 : decode cX11_isDigit 12 = .ok (.iconst 1, 1) := by decide +kernel
theorem dX11_isDigit_13 : decode cX11_isDigit 13 = .ok (.goto 4, 3) := by decide +kernel
theorem dX11_isDigit_16 : decode cX11_isDigit 16 = .ok (.iconst 0, 1) := by decide +kernel
theorem dX11_isDigit_17 : decode cX11_isDigit 17 = .ok (.ireturn, 1) := by decide +kernel
theorem dX11_byteAt_0 : decode cX11_byteAt 0 = .ok (.iload_n 1, 1) := by decide +kernel
theorem dX11_byteAt_1 : decode cX11_byteAt 1 = .ok (.aload_n 0, 1) := by decide +kernel
theorem dX11_byteAt_2 : decode cX11_byteAt 2 = .ok (.getfield 19, 3) := by decide +kernel
theorem dX11_byteAt_5 : decode cX11_byteAt 5 = .ok (.if_icmp .ge 12, 3) := by decide +kernel
theorem dX11_byteAt_8 : decode cX11_byteAt 8 = .ok (.aload_n 0, 1) := by decide +kernel
theorem dX11_byteAt_9 : decode cX11_byteAt 9 = .ok (.getfield 23, 3) := by decide +kernel
theorem dX11_byteAt_12 : decode cX11_byteAt 12 = .ok (.iload_n 1, 1) := by decide +kernel
theorem dX11_byteAt_13 : decode cX11_byteAt 13 = .ok (.baload, 1) := by decide +kernel
theorem dX11_byteAt_14 : decode cX11_byteAt 14 = .ok (.goto 4, 3) := by decide +kernel
theorem dX11_byteAt_17 : decode cX11_byteAt 17 = .ok (.iconst (-1), 1) := by decide +kernel
theorem dX11_byteAt_18 : decode cX11_byteAt 18 = .ok (.ireturn, 1) := by decide +kernel
set_option maxRecDepth 20000 in
theorem ggX11_next_X11_byteAt : GoodIn wsX11_next wsX11_byteAt := goodIn_r _ [16, 2, 3, 110, 111, 112, 113, 114, 115, 116, 117, 118, 119, 120, 121, 122, 123, 124, 125, 126, 127, 128, 129, 130, 131, 132, 133, 134, 135, 136, 137, 138, 139, 140, 141, 142, 143, 144, 145, 146, 147, 148, 149, 150, 151, 152, 153, 154, 155, 156, 157, 158, 159, 160] rfl (by decide +kernel)
set_option maxRecDepth 20000 in
theorem gX11_next_X11_byteAt : GoodIn wsX11_next (wsV RX11 39 RX11 yX11_byteAt wsX11_byteAt) := goodIn_app (goodIn_of _ (by decide +kernel)) ggX11_next_X11_byteAt
set_option maxRecDepth 20000 in
theorem ggX11_next_X11_isDigit : GoodIn wsX11_next wsX11_isDigit := goodIn_r _ [19] rfl (by decide +kernel)
set_option maxRecDepth 20000 in
theorem gX11_next_X11_isDigit : GoodIn wsX11_next (va_wsS RX11 43 yX11_isDigit wsX11_isDigit) := goodIn_app (goodIn_of _ (by decide +kernel)) ggX11_next_X11_isDigit
set_option maxRecDepth 20000 in
theorem gX11_next_X11_word : GoodIn wsX11_next (wsV RX11 56 RX11 yX11_word wsX11_word) := goodIn_app (goodIn_of _ (by decide +kernel)) ggX11_next_X11_word
theorem dX11_next_0 : decode cX11_next 0 = .ok (.aload_n 0, 1) := by decide +kernel
theorem dX11_next_1 : decode cX11_next 1 = .ok (.getfield 27, 3) := by decide +kernel
theorem dX11_next_4 : decode cX11_next 4 = .ok (.aload_n 0, 1) := by decide +kernel
theorem dX11_next_5 : decode cX11_next 5 = .ok (.getfield 19, 3) := by decide +kernel
theorem dX11_next_8 : decode cX11_next 8 = .ok (.if_icmp .ge 94, 3) := by decide +kernel
theorem dX11_next_11 : decode cX11_next 11 = .ok (.aload_n 0, 1) := by decide +kernel
theorem dX11_next_12 : decode cX11_next 12 = .ok (.getfield 23, 3) := by decide +kernel
theorem dX11_next_15 : decode cX11_next 15 = .ok (.aload_n 0, 1) := by decide +kernel
theorem dX11_next_16 : decode cX11_next 16 = .ok (.getfield 27, 3) := by decide +kernel
theorem dX11_next_19 : decode cX11_next 19 = .ok (.baload, 1) := by decide +kernel
theorem dX11_next_20 : decode cX11_next 20 = .ok (.istore_n 1, 1) := by decide +kernel
theorem dX11_next_21 : decode cX11_next 21 = .ok (.iload_n 1, 1) := by decide +kernel
theorem dX11_next_22 : decode cX11_next 22 = .ok (.bipush 59, 2) := by decide +kernel
theorem dX11_next_24 : decode cX11_next 24 = .ok (.if_icmp .ne 41, 3) := by decide +kernel
theorem dX11_next_27 : decode cX11_next 27 = .ok (.aload_n 0, 1) := by decide +kernel
theorem dX11_next_28 : decode cX11_next 28 = .ok (.getfield 27, 3) := by decide +kernel
theorem dX11_next_31 : decode cX11_next 31 = .ok (.aload_n 0, 1) := by decide +kernel
theorem dX11_next_32 : decode cX11_next 32 = .ok (.getfield 19, 3) := by decide +kernel
theorem dX11_next_35 : decode cX11_next 35 = .ok (.if_icmp .ge 64, 3) := by decide +kernel
theorem dX11_next_38 : decode cX11_next 38 = .ok (.aload_n 0, 1) := by decide +kernel
theorem dX11_next_39 : decode cX11_next 39 = .ok (.getfield 23, 3) := by decide +kernel
theorem dX11_next_42 : decode cX11_next 42 = .ok (.aload_n 0, 1) := by decide +kernel
theorem dX11_next_43 : decode cX11_next 43 = .ok (.getfield 27, 3) := by decide +kernel
theorem dX11_next_46 : decode cX11_next 46 = .ok (.baload, 1) := by decide +kernel
theorem dX11_next_47 : decode cX11_next 47 = .ok (.bipush 10, 2) := by decide +kernel
theorem dX11_next_49 : decode cX11_next 49 = .ok (.if_icmp .eq 50, 3) := by decide +kernel
theorem dX11_next_52 : decode cX11_next 52 = .ok (.aload_n 0, 1) := by decide +kernel
theorem dX11_next_53 : decode cX11_next 53 = .ok (.dup, 1) := by decide +kernel
theorem dX11_next_54 : decode cX11_next 54 = .ok (.getfield 27, 3) := by decide +kernel
theorem dX11_next_57 : decode cX11_next 57 = .ok (.iconst 1, 1) := by decide +kernel
theorem dX11_next_58 : decode cX11_next 58 = .ok (.iadd, 1) := by decide +kernel
theorem dX11_next_59 : decode cX11_next 59 = .ok (.putfield 27, 3) := by decide +kernel
theorem dX11_next_62 : decode cX11_next 62 = .ok (.goto (-35), 3) := by decide +kernel
theorem dX11_next_65 : decode cX11_next 65 = .ok (.iload_n 1, 1) := by decide +kernel
theorem dX11_next_66 : decode cX11_next 66 = .ok (.bipush 9, 2) := by decide +kernel
theorem dX11_next_68 : decode cX11_next 68 = .ok (.if_icmp .eq 21, 3) := by decide +kernel
theorem dX11_next_71 : decode cX11_next 71 = .ok (.iload_n 1, 1) := by decide +kernel
theorem dX11_next_72 : decode cX11_next 72 = .ok (.bipush 10, 2) := by decide +kernel
theorem dX11_next_74 : decode cX11_next 74 = .ok (.if_icmp .eq 15, 3) := by decide +kernel
theorem dX11_next_77 : decode cX11_next 77 = .ok (.iload_n 1, 1) := by decide +kernel
theorem dX11_next_78 : decode cX11_next 78 = .ok (.bipush 13, 2) := by decide +kernel
theorem dX11_next_80 : decode cX11_next 80 = .ok (.if_icmp .eq 9, 3) := by decide +kernel
theorem dX11_next_83 : decode cX11_next 83 = .ok (.iload_n 1, 1) := by decide +kernel
theorem dX11_next_84 : decode cX11_next 84 = .ok (.bipush 32, 2) := by decide +kernel
theorem dX11_next_86 : decode cX11_next 86 = .ok (.if_icmp .ne 16, 3) := by decide +kernel
theorem dX11_next_89 : decode cX11_next 89 = .ok (.aload_n 0, 1) := by decide +kernel
theorem dX11_next_90 : decode cX11_next 90 = .ok (.dup, 1) := by decide +kernel
theorem dX11_next_91 : decode cX11_next 91 = .ok (.getfield 27, 3) := by decide +kernel
theorem dX11_next_94 : decode cX11_next 94 = .ok (.iconst 1, 1) := by decide +kernel
theorem dX11_next_95 : decode cX11_next 95 = .ok (.iadd, 1) := by decide +kernel
theorem dX11_next_96 : decode cX11_next 96 = .ok (.putfield 27, 3) := by decide +kernel
theorem dX11_next_99 : decode cX11_next 99 = .ok (.goto (-99), 3) := by decide +kernel
theorem dX11_next_102 : decode cX11_next 102 = .ok (.aload_n 0, 1) := by decide +kernel
theorem dX11_next_103 : decode cX11_next 103 = .ok (.aload_n 0, 1) := by decide +kernel
theorem dX11_next_104 : decode cX11_next 104 = .ok (.getfield 27, 3) := by decide +kernel
theorem dX11_next_107 : decode cX11_next 107 = .ok (.putfield 30, 3) := by decide +kernel
theorem dX11_next_110 : decode cX11_next 110 = .ok (.aload_n 0, 1) := by decide +kernel
theorem dX11_next_111 : decode cX11_next 111 = .ok (.iconst 0, 1) := by decide +kernel
theorem dX11_next_112 : decode cX11_next 112 = .ok (.putfield 33, 3) := by decide +kernel
theorem dX11_next_115 : decode cX11_next 115 = .ok (.aload_n 0, 1) := by decide +kernel
theorem dX11_next_116 : decode cX11_next 116 = .ok (.getfield 27, 3) := by decide +kernel
theorem dX11_next_119 : decode cX11_next 119 = .ok (.aload_n 0, 1) := by decide +kernel
theorem dX11_next_120 : decode cX11_next 120 = .ok (.getfield 19, 3) := by decide +kernel
theorem dX11_next_123 : decode cX11_next 123 = .ok (.if_icmp .ne 9, 3) := by decide +kernel
theorem dX11_next_126 : decode cX11_next 126 = .ok (.aload_n 0, 1) := by decide +kernel
theorem dX11_next_127 : decode cX11_next 127 = .ok (.iconst 0, 1) := by decide +kernel
theorem dX11_next_128 : decode cX11_next 128 = .ok (.putfield 36, 3) := by decide +kernel
theorem dX11_next_131 : decode cX11_next 131 = .ok (.return_, 1) := by decide +kernel
theorem dX11_next_132 : decode cX11_next 132 = .ok (.aload_n 0, 1) := by decide +kernel
theorem dX11_next_133 : decode cX11_next 133 = .ok (.getfield 23, 3) := by decide +kernel
theorem dX11_next_136 : decode cX11_next 136 = .ok (.aload_n 0, 1) := by decide +kernel
theorem dX11_next_137 : decode cX11_next 137 = .ok (.getfield 27, 3) := by decide +kernel
theorem dX11_next_140 : decode cX11_next 140 = .ok (.baload, 1) := by decide +kernel
theorem dX11_next_141 : decode cX11_next 141 = .ok (.istore_n 1, 1) := by decide +kernel
theorem dX11_next_142 : decode cX11_next 142 = .ok (.iload_n 1, 1) := by decide +kernel
theorem dX11_next_143 : decode cX11_next 143 = .ok (.bipush 114, 2) := by decide +kernel
theorem dX11_next_145 : decode cX11_next 145 = .ok (.if_icmp .ne 114, 3) := by decide +kernel
theorem dX11_next_148 : decode cX11_next 148 = .ok (.aload_n 0, 1) := by decide +kernel
theorem dX11_next_149 : decode cX11_next 149 = .ok (.aload_n 0, 1) := by decide +kernel
theorem dX11_next_150 : decode cX11_next 150 = .ok (.getfield 27, 3) := by decide +kernel
theorem dX11_next_153 : decode cX11_next 153 = .ok (.iconst 1, 1) := by decide +kernel
theorem dX11_next_154 : decode cX11_next 154 = .ok (.iadd, 1) := by decide +kernel
theorem dX11_next_155 : decode cX11_next 155 = .ok (.invokevirtual 39, 3) := by decide +kernel
theorem dX11_next_158 : decode cX11_next 158 = .ok (.invokestatic 43, 3) := by decide +kernel
theorem dX11_next_161 : decode cX11_next 161 = .ok (.ifCond .eq 98, 3) := by decide +kernel
theorem dX11_next_164 : decode cX11_next 164 = .ok (.aload_n 0, 1) := by decide +kernel
theorem dX11_next_165 : decode cX11_next 165 = .ok (.aload_n 0, 1) := by decide +kernel
theorem dX11_next_166 : decode cX11_next 166 = .ok (.aload_n 0, 1) := by decide +kernel
theorem dX11_next_167 : decode cX11_next 167 = .ok (.getfield 27, 3) := by decide +kernel
theorem dX11_next_170 : decode cX11_next 170 = .ok (.iconst 1, 1) := by decide +kernel
theorem dX11_next_171 : decode cX11_next 171 = .ok (.iadd, 1) := by decide +kernel
theorem dX11_next_172 : decode cX11_next 172 = .ok (.invokevirtual 39, 3) := by decide +kernel
theorem dX11_next_175 : decode cX11_next 175 = .ok (.bipush 48, 2) := by decide +kernel
theorem dX11_next_177 : decode cX11_next 177 = .ok (.isub, 1) := by decide +kernel
theorem dX11_next_178 : decode cX11_next 178 = .ok (.putfield 47, 3) := by decide +kernel
theorem dX11_next_181 : decode cX11_next 181 = .ok (.aload_n 0, 1) := by decide +kernel
theorem dX11_next_182 : decode cX11_next 182 = .ok (.dup, 1) := by decide +kernel
theorem dX11_next_183 : decode cX11_next 183 = .ok (.getfield 27, 3) := by decide +kernel
theorem dX11_next_186 : decode cX11_next 186 = .ok (.iconst 2, 1) := by decide +kernel
theorem dX11_next_187 : decode cX11_next 187 = .ok (.iadd, 1) := by decide +kernel
theorem dX11_next_188 : decode cX11_next 188 = .ok (.putfield 27, 3) := by decide +kernel
theorem dX11_next_191 : decode cX11_next 191 = .ok (.aload_n 0, 1) := by decide +kernel
theorem dX11_next_192 : decode cX11_next 192 = .ok (.aload_n 0, 1) := by decide +kernel
theorem dX11_next_193 : decode cX11_next 193 = .ok (.getfield 27, 3) := by decide +kernel
theorem dX11_next_196 : decode cX11_next 196 = .ok (.invokevirtual 39, 3) := by decide +kernel
theorem dX11_next_199 : decode cX11_next 199 = .ok (.invokestatic 43, 3) := by decide +kernel
theorem dX11_next_202 : decode cX11_next 202 = .ok (.ifCond .eq 36, 3) := by decide +kernel
theorem dX11_next_205 : decode cX11_next 205 = .ok (.aload_n 0, 1) := by decide +kernel
theorem dX11_next_206 : decode cX11_next 206 = .ok (.bipush 10, 2) := by decide +kernel
theorem dX11_next_208 : decode cX11_next 208 = .ok (.aload_n 0, 1) := by decide +kernel
theorem dX11_next_209 : decode cX11_next 209 = .ok (.getfield 47, 3) := by decide +kernel
theorem dX11_next_212 : decode cX11_next 212 = .ok (.imul, 1) := by decide +kernel
theorem dX11_next_213 : decode cX11_next 213 = .ok (.aload_n 0, 1) := by decide +kernel
theorem dX11_next_214 : decode cX11_next 214 = .ok (.aload_n 0, 1) := by decide +kernel
theorem dX11_next_215 : decode cX11_next 215 = .ok (.getfield 27, 3) := by decide +kernel
theorem dX11_next_218 : decode cX11_next 218 = .ok (.invokevirtual 39, 3) := by decide +kernel
theorem dX11_next_221 : decode cX11_next 221 = .ok (.iadd, 1) := by decide +kernel
theorem dX11_next_222 : decode cX11_next 222 = .ok (.bipush 48, 2) := by decide +kernel
theorem dX11_next_224 : decode cX11_next 224 = .ok (.isub, 1) := by decide +kernel
theorem dX11_next_225 : decode cX11_next 225 = .ok (.putfield 47, 3) := by decide +kernel
theorem dX11_next_228 : decode cX11_next 228 = .ok (.aload_n 0, 1) := by decide +kernel
theorem dX11_next_229 : decode cX11_next 229 = .ok (.dup, 1) := by decide +kernel
theorem dX11_next_230 : decode cX11_next 230 = .ok (.getfield 27, 3) := by decide +kernel
theorem dX11_next_233 : decode cX11_next 233 = .ok (.iconst 1, 1) := by decide +kernel
theorem dX11_next_234 : decode cX11_next 234 = .ok (.iadd, 1) := by decide +kernel
theorem dX11_next_235 : decode cX11_next 235 = .ok (.putfield 27, 3) := by decide +kernel
theorem dX11_next_238 : decode cX11_next 238 = .ok (.aload_n 0, 1) := by decide +kernel
theorem dX11_next_239 : decode cX11_next 239 = .ok (.aload_n 0, 1) := by decide +kernel
theorem dX11_next_240 : decode cX11_next 240 = .ok (.getfield 47, 3) := by decide +kernel
theorem dX11_next_243 : decode cX11_next 243 = .ok (.bipush 31, 2) := by decide +kernel
theorem dX11_next_245 : decode cX11_next 245 = .ok (.if_icmp .gt 7, 3) := by decide +kernel
theorem dX11_next_248 : decode cX11_next 248 = .ok (.iconst 1, 1) := by decide +kernel
theorem dX11_next_249 : decode cX11_next 249 = .ok (.goto 4, 3) := by decide +kernel
theorem dX11_next_252 : decode cX11_next 252 = .ok (.iconst 4, 1) := by decide +kernel
theorem dX11_next_253 : decode cX11_next 253 = .ok (.putfield 36, 3) := by decide +kernel
theorem dX11_next_256 : decode cX11_next 256 = .ok (.goto 99, 3) := by decide +kernel
theorem dX11_next_259 : decode cX11_next 259 = .ok (.iload_n 1, 1) := by decide +kernel
theorem dX11_next_260 : decode cX11_next 260 = .ok (.invokestatic 43, 3) := by decide +kernel
theorem dX11_next_263 : decode cX11_next 263 = .ok (.ifCond .eq 87, 3) := by decide +kernel
theorem dX11_next_266 : decode cX11_next 266 = .ok (.aload_n 0, 1) := by decide +kernel
theorem dX11_next_267 : decode cX11_next 267 = .ok (.iconst 0, 1) := by decide +kernel
theorem dX11_next_268 : decode cX11_next 268 = .ok (.putfield 47, 3) := by decide +kernel
theorem dX11_next_271 : decode cX11_next 271 = .ok (.aload_n 0, 1) := by decide +kernel
theorem dX11_next_272 : decode cX11_next 272 = .ok (.aload_n 0, 1) := by decide +kernel
theorem dX11_next_273 : decode cX11_next 273 = .ok (.getfield 27, 3) := by decide +kernel
theorem dX11_next_276 : decode cX11_next 276 = .ok (.invokevirtual 39, 3) := by decide +kernel
theorem dX11_next_279 : decode cX11_next 279 = .ok (.invokestatic 43, 3) := by decide +kernel
theorem dX11_next_282 : decode cX11_next 282 = .ok (.ifCond .eq 46, 3) := by decide +kernel
theorem dX11_next_285 : decode cX11_next 285 = .ok (.aload_n 0, 1) := by decide +kernel
theorem dX11_next_286 : decode cX11_next 286 = .ok (.bipush 10, 2) := by decide +kernel
theorem dX11_next_288 : decode cX11_next 288 = .ok (.aload_n 0, 1) := by decide +kernel
theorem dX11_next_289 : decode cX11_next 289 = .ok (.getfield 47, 3) := by decide +kernel
theorem dX11_next_292 : decode cX11_next 292 = .ok (.imul, 1) := by decide +kernel
theorem dX11_next_293 : decode cX11_next 293 = .ok (.aload_n 0, 1) := by decide +kernel
theorem dX11_next_294 : decode cX11_next 294 = .ok (.getfield 23, 3) := by decide +kernel
theorem dX11_next_297 : decode cX11_next 297 = .ok (.aload_n 0, 1) := by decide +kernel
theorem dX11_next_298 : decode cX11_next 298 = .ok (.getfield 27, 3) := by decide +kernel
theorem dX11_next_301 : decode cX11_next 301 = .ok (.baload, 1) := by decide +kernel
theorem dX11_next_302 : decode cX11_next 302 = .ok (.iadd, 1) := by decide +kernel
theorem dX11_next_303 : decode cX11_next 303 = .ok (.bipush 48, 2) := by decide +kernel
theorem dX11_next_305 : decode cX11_next 305 = .ok (.isub, 1) := by decide +kernel
theorem dX11_next_306 : decode cX11_next 306 = .ok (.sipush 1001, 3) := by decide +kernel
theorem dX11_next_309 : decode cX11_next 309 = .ok (.invokestatic 50, 3) := by decide +kernel
theorem dX11_next_312 : decode cX11_next 312 = .ok (.putfield 47, 3) := by decide +kernel
theorem dX11_next_315 : decode cX11_next 315 = .ok (.aload_n 0, 1) := by decide +kernel
theorem dX11_next_316 : decode cX11_next 316 = .ok (.dup, 1) := by decide +kernel
theorem dX11_next_317 : decode cX11_next 317 = .ok (.getfield 27, 3) := by decide +kernel
theorem dX11_next_320 : decode cX11_next 320 = .ok (.iconst 1, 1) := by decide +kernel
theorem dX11_next_321 : decode cX11_next 321 = .ok (.iadd, 1) := by decide +kernel
theorem dX11_next_322 : decode cX11_next 322 = .ok (.putfield 27, 3) := by decide +kernel
theorem dX11_next_325 : decode cX11_next 325 = .ok (.goto (-54), 3) := by decide +kernel
theorem dX11_next_328 : decode cX11_next 328 = .ok (.aload_n 0, 1) := by decide +kernel
theorem dX11_next_329 : decode cX11_next 329 = .ok (.aload_n 0, 1) := by decide +kernel
theorem dX11_next_330 : decode cX11_next 330 = .ok (.getfield 47, 3) := by decide +kernel
theorem dX11_next_333 : decode cX11_next 333 = .ok (.sipush 1000, 3) := by decide +kernel
theorem dX11_next_336 : decode cX11_next 336 = .ok (.if_icmp .gt 7, 3) := by decide +kernel
theorem dX11_next_339 : decode cX11_next 339 = .ok (.iconst 2, 1) := by decide +kernel
theorem dX11_next_340 : decode cX11_next 340 = .ok (.goto 4, 3) := by decide +kernel
theorem dX11_next_343 : decode cX11_next 343 = .ok (.iconst 4, 1) := by decide +kernel
theorem dX11_next_344 : decode cX11_next 344 = .ok (.putfield 36, 3) := by decide +kernel
theorem dX11_next_347 : decode cX11_next 347 = .ok (.goto 8, 3) := by decide +kernel
theorem dX11_next_350 : decode cX11_next 350 = .ok (.aload_n 0, 1) := by decide +kernel
theorem dX11_next_351 : decode cX11_next 351 = .ok (.iload_n 1, 1) := by decide +kernel
theorem dX11_next_352 : decode cX11_next 352 = .ok (.invokevirtual 56, 3) := by decide +kernel
theorem dX11_next_355 : decode cX11_next 355 = .ok (.return_, 1) := by decide +kernel
set_option maxRecDepth 20000 in
theorem ggX11_word_X11_byteAt : GoodIn wsX11_word wsX11_byteAt := goodIn_r _ [8, 9, 10, 100, 101, 102, 103, 104, 105, 106, 107, 108, 109, 110, 111, 112, 113, 114, 115, 116, 117, 118, 119, 120, 121, 122, 123, 124, 125, 126, 127, 128, 129, 130, 131, 132, 133, 134, 135, 136, 137, 138, 139, 140, 141, 142, 143, 144, 145, 146, 147, 148, 149, 150] rfl (by decide +kernel)
set_option maxRecDepth 20000 in
theorem gX11_word_X11_byteAt : GoodIn wsX11_word (wsV RX11 39 RX11 yX11_byteAt wsX11_byteAt) := goodIn_app (goodIn_of _ (by decide +kernel)) ggX11_word_X11_byteAt
set_option maxRecDepth 20000 in
theorem ggX11_word_J0_indexOf_0f7a4 : GoodIn wsX11_word wsJ0_indexOf_0f7a4 := goodIn_r _ [15, 16, 17, 18, 14, 19, 20, 21, 22, 23, 24, 25, 26, 27, 28, 29, 30, 31, 32, 33, 34, 35, 36, 37, 38, 39, 40, 41, 42, 43, 44, 45, 46, 47, 48, 49, 50, 51, 52, 53, 54, 55, 56, 57, 58, 59, 60, 61, 62, 63, 64, 65, 66, 67, 68, 69, 70, 71, 72, 73, 74, 75, 76, 77, 78, 79, 80, 81, 82, 83, 84, 85, 86, 87, 88, 89, 90, 91, 92, 93, 94, 95, 96, 97, 98, 99] rfl (by decide +kernel)
set_option maxRecDepth 20000 in
theorem gX11_word_J0_indexOf_0f7a4 : GoodIn wsX11_word (wsV RX11 62 RJ0 yJ0_indexOf_0f7a4 wsJ0_indexOf_0f7a4) := goodIn_app (goodIn_of _ (by decide +kernel)) ggX11_word_J0_indexOf_0f7a4
theorem dX11_word_0 : decode cX11_word 0 = .ok (.aload_n 0, 1) := by decide +kernel
theorem dX11_word_1 : decode cX11_word 1 = .ok (.aload_n 0, 1) := by decide +kernel
theorem dX11_word_2 : decode cX11_word 2 = .ok (.getfield 27, 3) := by decide +kernel
theorem dX11_word_5 : decode cX11_word 5 = .ok (.iconst 1, 1) := by decide +kernel
theorem dX11_word_6 : decode cX11_word 6 = .ok (.iadd, 1) := by decide +kernel
theorem dX11_word_7 : decode cX11_word 7 = .ok (.invokevirtual 39, 3) := by decide +kernel
theorem dX11_word_10 : decode cX11_word 10 = .ok (.istore_n 2, 1) := by decide +kernel
theorem dX11_word_11 : decode cX11_word 11 = .ok (.aload_n 0, 1) := by decide +kernel
theorem dX11_word_12 : decode cX11_word 12 = .ok (.aload_n 0, 1) := by decide +kernel
theorem dX11_word_13 : decode cX11_word 13 = .ok (.getfield 27, 3) := by decide +kernel
theorem dX11_word_16 : decode cX11_word 16 = .ok (.iconst 2, 1) := by decide +kernel
theorem dX11_word_17 : decode cX11_word 17 = .ok (.iadd, 1) := by decide +kernel
theorem dX11_word_18 : decode cX11_word 18 = .ok (.invokevirtual 39, 3) := by decide +kernel
theorem dX11_word_21 : decode cX11_word 21 = .ok (.istore_n 3, 1) := by decide +kernel
theorem dX11_word_22 : decode cX11_word 22 = .ok (.aload_n 0, 1) := by decide +kernel
theorem dX11_word_23 : decode cX11_word 23 = .ok (.iconst 3, 1) := by decide +kernel
theorem dX11_word_24 : decode cX11_word 24 = .ok (.putfield 36, 3) := by decide +kernel
theorem dX11_word_27 : decode cX11_word 27 = .ok (.iload_n 1, 1) := by decide +kernel
theorem dX11_word_28 : decode cX11_word 28 = .ok (.bipush 109, 2) := by decide +kernel
theorem dX11_word_30 : decode cX11_word 30 = .ok (.if_icmp .ne 55, 3) := by decide +kernel
theorem dX11_word_33 : decode cX11_word 33 = .ok (.iload_n 2, 1) := by decide +kernel
theorem dX11_word_34 : decode cX11_word 34 = .ok (.bipush 105, 2) := by decide +kernel
theorem dX11_word_36 : decode cX11_word 36 = .ok (.if_icmp .ne 9, 3) := by decide +kernel
theorem dX11_word_39 : decode cX11_word 39 = .ok (.iload_n 3, 1) := by decide +kernel
theorem dX11_word_40 : decode cX11_word 40 = .ok (.bipush 110, 2) := by decide +kernel
theorem dX11_word_42 : decode cX11_word 42 = .ok (.if_icmp .eq 15, 3) := by decide +kernel
theorem dX11_word_45 : decode cX11_word 45 = .ok (.iload_n 2, 1) := by decide +kernel
theorem dX11_word_46 : decode cX11_word 46 = .ok (.bipush 97, 2) := by decide +kernel
theorem dX11_word_48 : decode cX11_word 48 = .ok (.if_icmp .ne 37, 3) := by decide +kernel
theorem dX11_word_51 : decode cX11_word 51 = .ok (.iload_n 3, 1) := by decide +kernel
theorem dX11_word_52 : decode cX11_word 52 = .ok (.bipush 120, 2) := by decide +kernel
theorem dX11_word_54 : decode cX11_word 54 = .ok (.if_icmp .ne 31, 3) := by decide +kernel
theorem dX11_word_57 : decode cX11_word 57 = .ok (.aload_n 0, 1) := by decide +kernel
theorem dX11_word_58 : decode cX11_word 58 = .ok (.iload_n 1, 1) := by decide +kernel
theorem dX11_word_59 : decode cX11_word 59 = .ok (.bipush 16, 2) := by decide +kernel
theorem dX11_word_61 : decode cX11_word 61 = .ok (.ishl, 1) := by decide +kernel
theorem dX11_word_62 : decode cX11_word 62 = .ok (.iload_n 2, 1) := by decide +kernel
theorem dX11_word_63 : decode cX11_word 63 = .ok (.bipush 8, 2) := by decide +kernel
theorem dX11_word_65 : decode cX11_word 65 = .ok (.ishl, 1) := by decide +kernel
theorem dX11_word_66 : decode cX11_word 66 = .ok (.ior, 1) := by decide +kernel
theorem dX11_word_67 : decode cX11_word 67 = .ok (.iload_n 3, 1) := by decide +kernel
theorem dX11_word_68 : decode cX11_word 68 = .ok (.ior, 1) := by decide +kernel
theorem dX11_word_69 : decode cX11_word 69 = .ok (.putfield 33, 3) := by decide +kernel
theorem dX11_word_72 : decode cX11_word 72 = .ok (.aload_n 0, 1) := by decide +kernel
theorem dX11_word_73 : decode cX11_word 73 = .ok (.dup, 1) := by decide +kernel
theorem dX11_word_74 : decode cX11_word 74 = .ok (.getfield 27, 3) := by decide +kernel
theorem dX11_word_77 : decode cX11_word 77 = .ok (.iconst 3, 1) := by decide +kernel
theorem dX11_word_78 : decode cX11_word 78 = .ok (.iadd, 1) := by decide +kernel
theorem dX11_word_79 : decode cX11_word 79 = .ok (.putfield 27, 3) := by decide +kernel
theorem dX11_word_82 : decode cX11_word 82 = .ok (.goto 98, 3) := by decide +kernel
theorem dX11_word_85 : decode cX11_word 85 = .ok (.iload_n 1, 1) := by decide +kernel
theorem dX11_word_86 : decode cX11_word 86 = .ok (.bipush 60, 2) := by decide +kernel
theorem dX11_word_88 : decode cX11_word 88 = .ok (.if_icmp .eq 9, 3) := by decide +kernel
theorem dX11_word_91 : decode cX11_word 91 = .ok (.iload_n 1, 1) := by decide +kernel
theorem dX11_word_92 : decode cX11_word 92 = .ok (.bipush 62, 2) := by decide +kernel
theorem dX11_word_94 : decode cX11_word 94 = .ok (.if_icmp .ne 31, 3) := by decide +kernel
theorem dX11_word_97 : decode cX11_word 97 = .ok (.iload_n 2, 1) := by decide +kernel
theorem dX11_word_98 : decode cX11_word 98 = .ok (.iload_n 1, 1) := by decide +kernel
theorem dX11_word_99 : decode cX11_word 99 = .ok (.if_icmp .ne 26, 3) := by decide +kernel
theorem dX11_word_102 : decode cX11_word 102 = .ok (.aload_n 0, 1) := by decide +kernel
theorem dX11_word_103 : decode cX11_word 103 = .ok (.iload_n 1, 1) := by decide +kernel
theorem dX11_word_104 : decode cX11_word 104 = .ok (.bipush 8, 2) := by decide +kernel
theorem dX11_word_106 : decode cX11_word 106 = .ok (.ishl, 1) := by decide +kernel
theorem dX11_word_107 : decode cX11_word 107 = .ok (.iload_n 2, 1) := by decide +kernel
theorem dX11_word_108 : decode cX11_word 108 = .ok (.ior, 1) := by decide +kernel
theorem dX11_word_109 : decode cX11_word 109 = .ok (.putfield 33, 3) := by decide +kernel
theorem dX11_word_112 : decode cX11_word 112 = .ok (.aload_n 0, 1) := by decide +kernel
theorem dX11_word_113 : decode cX11_word 113 = .ok (.dup, 1) := by decide +kernel
theorem dX11_word_114 : decode cX11_word 114 = .ok (.getfield 27, 3) := by decide +kernel
theorem dX11_word_117 : decode cX11_word 117 = .ok (.iconst 2, 1) := by decide +kernel
theorem dX11_word_118 : decode cX11_word 118 = .ok (.iadd, 1) := by decide +kernel
theorem dX11_word_119 : decode cX11_word 119 = .ok (.putfield 27, 3) := by decide +kernel
theorem dX11_word_122 : decode cX11_word 122 = .ok (.goto 58, 3) := by decide +kernel
theorem dX11_word_125 : decode cX11_word 125 = .ok (.iload_n 1, 1) := by decide +kernel
theorem dX11_word_126 : decode cX11_word 126 = .ok (.bipush 97, 2) := by decide +kernel
theorem dX11_word_128 : decode cX11_word 128 = .ok (.if_icmp .lt 9, 3) := by decide +kernel
theorem dX11_word_131 : decode cX11_word 131 = .ok (.iload_n 1, 1) := by decide +kernel
theorem dX11_word_132 : decode cX11_word 132 = .ok (.bipush 100, 2) := by decide +kernel
theorem dX11_word_134 : decode cX11_word 134 = .ok (.if_icmp .le 23, 3) := by decide +kernel
theorem dX11_word_137 : decode cX11_word 137 = .ok (.iload_n 1, 1) := by decide +kernel
theorem dX11_word_138 : decode cX11_word 138 = .ok (.bipush 105, 2) := by decide +kernel
theorem dX11_word_140 : decode cX11_word 140 = .ok (.if_icmp .eq 17, 3) := by decide +kernel
theorem dX11_word_143 : decode cX11_word 143 = .ok (.iload_n 1, 1) := by decide +kernel
theorem dX11_word_144 : decode cX11_word 144 = .ok (.ifCond .le 31, 3) := by decide +kernel
theorem dX11_word_147 : decode cX11_word 147 = .ok (.ldc 60, 2) := by decide +kernel
theorem dX11_word_149 : decode cX11_word 149 = .ok (.iload_n 1, 1) := by decide +kernel
theorem dX11_word_150 : decode cX11_word 150 = .ok (.i2c, 1) := by decide +kernel
theorem dX11_word_151 : decode cX11_word 151 = .ok (.invokevirtual 62, 3) := by decide +kernel
theorem dX11_word_154 : decode cX11_word 154 = .ok (.ifCond .lt 21, 3) := by decide +kernel
theorem dX11_word_157 : decode cX11_word 157 = .ok (.aload_n 0, 1) := by decide +kernel
theorem dX11_word_158 : decode cX11_word 158 = .ok (.iload_n 1, 1) := by decide +kernel
theorem dX11_word_159 : decode cX11_word 159 = .ok (.putfield 33, 3) := by decide +kernel
theorem dX11_word_162 : decode cX11_word 162 = .ok (.aload_n 0, 1) := by decide +kernel
theorem dX11_word_163 : decode cX11_word 163 = .ok (.dup, 1) := by decide +kernel
theorem dX11_word_164 : decode cX11_word 164 = .ok (.getfield 27, 3) := by decide +kernel
theorem dX11_word_167 : decode cX11_word 167 = .ok (.iconst 1, 1) := by decide +kernel
theorem dX11_word_168 : decode cX11_word 168 = .ok (.iadd, 1) := by decide +kernel
theorem dX11_word_169 : decode cX11_word 169 = .ok (.putfield 27, 3) := by decide +kernel
theorem dX11_word_172 : decode cX11_word 172 = .ok (.goto 8, 3) := by decide +kernel
theorem dX11_word_175 : decode cX11_word 175 = .ok (.aload_n 0, 1) := by decide +kernel
theorem dX11_word_176 : decode cX11_word 176 = .ok (.iconst 4, 1) := by decide +kernel
theorem dX11_word_177 : decode cX11_word 177 = .ok (.putfield 36, 3) := by decide +kernel
theorem dX11_word_180 : decode cX11_word 180 = .ok (.return_, 1) := by decide +kernel
theorem dX11_is_0 : decode cX11_is 0 = .ok (.aload_n 0, 1) := by decide +kernel
theorem dX11_is_1 : decode cX11_is 1 = .ok (.getfield 36, 3) := by decide +kernel
theorem dX11_is_4 : decode cX11_is 4 = .ok (.iconst 3, 1) := by decide +kernel
theorem dX11_is_5 : decode cX11_is 5 = .ok (.if_icmp .ne 15, 3) := by decide +kernel
theorem dX11_is_8 : decode cX11_is 8 = .ok (.aload_n 0, 1) := by decide +kernel
theorem dX11_is_9 : decode cX11_is 9 = .ok (.getfield 33, 3) := by decide +kernel
theorem dX11_is_12 : decode cX11_is 12 = .ok (.iload_n 1, 1) := by decide +kernel
theorem dX11_is_13 : decode cX11_is 13 = .ok (.if_icmp .ne 7, 3) := by decide +kernel
theorem dX11_is_16 : decode cX11_is 16 = .ok (.iconst 1, 1) := by decide +kernel
theorem dX11_is_17 : decode cX11_is 17 = .ok (.goto 4, 3) := by decide +kernel
theorem dX11_is_20 : decode cX11_is 20 = .ok (.iconst 0, 1) := by decide +kernel
theorem dX11_is_21 : decode cX11_is 21 = .ok (.ireturn, 1) := by decide +kernel
set_option maxRecDepth 20000 in
theorem ggX11_want_X11_is : GoodIn wsX11_want wsX11_is := goodIn_r _ [9, 10, 11, 128, 129, 130, 131, 132, 133, 134, 135, 136, 137, 138, 139, 140, 141, 142, 143, 144, 145, 146, 147, 148, 149, 150, 151, 152, 153, 154, 155, 156, 157, 158, 159, 160, 161, 162, 163, 164, 165, 166, 167, 168, 169, 170, 171, 172, 173, 174, 175, 176, 177, 178] rfl (by decide +kernel)
set_option maxRecDepth 20000 in
theorem gX11_want_X11_is : GoodIn wsX11_want (wsV RX11 67 RX11 yX11_is wsX11_is) := goodIn_app (goodIn_of _ (by decide +kernel)) ggX11_want_X11_is
set_option maxRecDepth 20000 in
theorem gX11_want_X11_next : GoodIn wsX11_want (wsV RX11 75 RX11 yX11_next wsX11_next) := goodIn_app (goodIn_of _ (by decide +kernel)) ggX11_want_X11_next
theorem dX11_want_0 : decode cX11_want 0 = .ok (.aload_n 0, 1) := by decide +kernel
theorem dX11_want_1 : decode cX11_want 1 = .ok (.iload_n 1, 1) := by decide +kernel
theorem dX11_want_2 : decode cX11_want 2 = .ok (.invokevirtual 67, 3) := by decide +kernel
theorem dX11_want_5 : decode cX11_want 5 = .ok (.ifCond .ne 15, 3) := by decide +kernel
theorem dX11_want_8 : decode cX11_want 8 = .ok (.new 70, 3) := by decide +kernel
theorem dX11_want_11 : decode cX11_want 11 = .ok (.dup, 1) := by decide +kernel
theorem dX11_want_12 : decode cX11_want 12 = .ok (.aload_n 0, 1) := by decide +kernel
theorem dX11_want_13 : decode cX11_want 13 = .ok (.getfield 30, 3) := by decide +kernel
theorem dX11_want_16 : decode cX11_want 16 = .ok (.invokespecial 72, 3) := by decide +kernel
theorem dX11_want_19 : decode cX11_want 19 = .ok (.athrow, 1) := by decide +kernel
theorem dX11_want_20 : decode cX11_want 20 = .ok (.aload_n 0, 1) := by decide +kernel
theorem dX11_want_21 : decode cX11_want 21 = .ok (.invokevirtual 75, 3) := by decide +kernel
theorem dX11_want_24 : decode cX11_want 24 = .ok (.return_, 1) := by decide +kernel
theorem dX11_operation_0 : decode cX11_operation 0 = .ok (.aload_n 0, 1) := by decide +kernel
theorem dX11_operation_1 : decode cX11_operation 1 = .ok (.getfield 36, 3) := by decide +kernel
theorem dX11_operation_4 : decode cX11_operation 4 = .ok (.iconst 3, 1) := by decide +kernel
theorem dX11_operation_5 : decode cX11_operation 5 = .ok (.if_icmp .eq 5, 3) := by decide +kernel
theorem dX11_operation_8 : decode cX11_operation 8 = .ok (.iconst (-1), 1) := by decide +kernel
theorem dX11_operation_9 : decode cX11_operation 9 = .ok (.ireturn, 1) := by decide +kernel
theorem dX11_operation_10 : decode cX11_operation 10 = .ok (.aload_n 0, 1) := by decide +kernel
theorem dX11_operation_11 : decode cX11_operation 11 = .ok (.getfield 33, 3) := by decide +kernel
theorem dX11_operation_14 : decode cX11_operation 14 = .ok (.lookupswitch 103 #[(38, 88), (42, 86), (43, 82), (45, 84), (60, 100), (94, 92), (124, 90), (15420, 94), (15934, 97)], 82) := by decide +kernel
theorem dX11_operation_96 : decode cX11_operation 96 = .ok (.iconst 0, 1) := by decide +kernel
theorem dX11_operation_97 : decode cX11_operation 97 = .ok (.ireturn, 1) := by decide +kernel
theorem dX11_operation_98 : decode cX11_operation 98 = .ok (.iconst 1, 1) := by decide +kernel
theorem dX11_operation_99 : decode cX11_operation 99 = .ok (.ireturn, 1) := by decide +kernel
theorem dX11_operation_100 : decode cX11_operation 100 = .ok (.iconst 2, 1) := by decide +kernel
theorem dX11_operation_101 : decode cX11_operation 101 = .ok (.ireturn, 1) := by decide +kernel
theorem dX11_operation_102 : decode cX11_operation 102 = .ok (.iconst 3, 1) := by decide +kernel
theorem dX11_operation_103 : decode cX11_operation 103 = .ok (.ireturn, 1) := by decide +kernel
theorem dX11_operation_104 : decode cX11_operation 104 = .ok (.iconst 4, 1) := by decide +kernel
theorem dX11_operation_105 : decode cX11_operation 105 = .ok (.ireturn, 1) := by decide +kernel
theorem dX11_operation_106 : decode cX11_operation 106 = .ok (.iconst 5, 1) := by decide +kernel
theorem dX11_operation_107 : decode cX11_operation 107 = .ok (.ireturn, 1) := by decide +kernel
theorem dX11_operation_108 : decode cX11_operation 108 = .ok (.bipush 6, 2) := by decide +kernel
theorem dX11_operation_110 : decode cX11_operation 110 = .ok (.ireturn, 1) := by decide +kernel
theorem dX11_operation_111 : decode cX11_operation 111 = .ok (.bipush 7, 2) := by decide +kernel
theorem dX11_operation_113 : decode cX11_operation 113 = .ok (.ireturn, 1) := by decide +kernel
theorem dX11_operation_114 : decode cX11_operation 114 = .ok (.bipush 8, 2) := by decide +kernel
theorem dX11_operation_116 : decode cX11_operation 116 = .ok (.ireturn, 1) := by decide +kernel
theorem dX11_operation_117 : decode cX11_operation 117 = .ok (.iconst (-1), 1) := by decide +kernel
theorem dX11_operation_118 : decode cX11_operation 118 = .ok (.ireturn, 1) := by decide +kernel
set_option maxRecDepth 20000 in
theorem ggX11_operand_X11_is : GoodIn wsX11_operand wsX11_is := goodIn_r _ [15, 1, 16, 125, 126, 127, 128, 129, 130, 131, 132, 133, 134, 135, 136, 137, 138, 139, 140, 141, 142, 143, 144, 145, 146, 147, 148, 149, 150, 151, 152, 153, 154, 155, 156, 157, 158, 159, 160, 161, 162, 163, 164, 165, 166, 167, 168, 169, 170, 171, 172, 173, 174, 175] rfl (by decide +kernel)
set_option maxRecDepth 20000 in
theorem gX11_operand_X11_is : GoodIn wsX11_operand (wsV RX11 67 RX11 yX11_is wsX11_is) := goodIn_app (goodIn_of _ (by decide +kernel)) ggX11_operand_X11_is
set_option maxRecDepth 20000 in
theorem gX11_operand_X11_next : GoodIn wsX11_operand (wsV RX11 75 RX11 yX11_next wsX11_next) := goodIn_app (goodIn_of _ (by decide +kernel)) ggX11_operand_X11_next
theorem dX11_operand_0 : decode cX11_operand 0 = .ok (.iconst 0, 1) := by decide +kernel
theorem dX11_operand_1 : decode cX11_operand 1 = .ok (.istore_n 3, 1) := by decide +kernel
theorem dX11_operand_2 : decode cX11_operand 2 = .ok (.iconst 0, 1) := by decide +kernel
theorem dX11_operand_3 : decode cX11_operand 3 = .ok (.istore 4, 2) := by decide +kernel
theorem dX11_operand_5 : decode cX11_operand 5 = .ok (.aload_n 0, 1) := by decide +kernel
theorem dX11_operand_6 : decode cX11_operand 6 = .ok (.getfield 36, 3) := by decide +kernel
theorem dX11_operand_9 : decode cX11_operand 9 = .ok (.iconst 1, 1) := by decide +kernel
theorem dX11_operand_10 : decode cX11_operand 10 = .ok (.if_icmp .ne 14, 3) := by decide +kernel
theorem dX11_operand_13 : decode cX11_operand 13 = .ok (.iconst 1, 1) := by decide +kernel
theorem dX11_operand_14 : decode cX11_operand 14 = .ok (.istore_n 3, 1) := by decide +kernel
theorem dX11_operand_15 : decode cX11_operand 15 = .ok (.aload_n 0, 1) := by decide +kernel
theorem dX11_operand_16 : decode cX11_operand 16 = .ok (.getfield 47, 3) := by decide +kernel
theorem dX11_operand_19 : decode cX11_operand 19 = .ok (.istore 4, 2) := by decide +kernel
theorem dX11_operand_21 : decode cX11_operand 21 = .ok (.goto 75, 3) := by decide +kernel
theorem dX11_operand_24 : decode cX11_operand 24 = .ok (.aload_n 0, 1) := by decide +kernel
theorem dX11_operand_25 : decode cX11_operand 25 = .ok (.bipush 105, 2) := by decide +kernel
theorem dX11_operand_27 : decode cX11_operand 27 = .ok (.invokevirtual 67, 3) := by decide +kernel
theorem dX11_operand_30 : decode cX11_operand 30 = .ok (.ifCond .eq 8, 3) := by decide +kernel
theorem dX11_operand_33 : decode cX11_operand 33 = .ok (.iconst 2, 1) := by decide +kernel
theorem dX11_operand_34 : decode cX11_operand 34 = .ok (.istore_n 3, 1) := by decide +kernel
theorem dX11_operand_35 : decode cX11_operand 35 = .ok (.goto 61, 3) := by decide +kernel
theorem dX11_operand_38 : decode cX11_operand 38 = .ok (.aload_n 0, 1) := by decide +kernel
theorem dX11_operand_39 : decode cX11_operand 39 = .ok (.bipush 45, 2) := by decide +kernel
theorem dX11_operand_41 : decode cX11_operand 41 = .ok (.invokevirtual 67, 3) := by decide +kernel
theorem dX11_operand_44 : decode cX11_operand 44 = .ok (.istore 5, 2) := by decide +kernel
theorem dX11_operand_46 : decode cX11_operand 46 = .ok (.iload 5, 2) := by decide +kernel
theorem dX11_operand_48 : decode cX11_operand 48 = .ok (.ifCond .eq 7, 3) := by decide +kernel
theorem dX11_operand_51 : decode cX11_operand 51 = .ok (.aload_n 0, 1) := by decide +kernel
theorem dX11_operand_52 : decode cX11_operand 52 = .ok (.invokevirtual 75, 3) := by decide +kernel
theorem dX11_operand_55 : decode cX11_operand 55 = .ok (.aload_n 0, 1) := by decide +kernel
theorem dX11_operand_56 : decode cX11_operand 56 = .ok (.getfield 36, 3) := by decide +kernel
theorem dX11_operand_59 : decode cX11_operand 59 = .ok (.iconst 2, 1) := by decide +kernel
theorem dX11_operand_60 : decode cX11_operand 60 = .ok (.if_icmp .eq 15, 3) := by decide +kernel
theorem dX11_operand_63 : decode cX11_operand 63 = .ok (.new 70, 3) := by decide +kernel
theorem dX11_operand_66 : decode cX11_operand 66 = .ok (.dup, 1) := by decide +kernel
theorem dX11_operand_67 : decode cX11_operand 67 = .ok (.aload_n 0, 1) := by decide +kernel
theorem dX11_operand_68 : decode cX11_operand 68 = .ok (.getfield 30, 3) := by decide +kernel
theorem dX11_operand_71 : decode cX11_operand 71 = .ok (.invokespecial 72, 3) := by decide +kernel
theorem dX11_operand_74 : decode cX11_operand 74 = .ok (.athrow, 1) := by decide +kernel
theorem dX11_operand_75 : decode cX11_operand 75 = .ok (.iconst 3, 1) := by decide +kernel
theorem dX11_operand_76 : decode cX11_operand 76 = .ok (.istore_n 3, 1) := by decide +kernel
theorem dX11_operand_77 : decode cX11_operand 77 = .ok (.iload 5, 2) := by decide +kernel
theorem dX11_operand_79 : decode cX11_operand 79 = .ok (.ifCond .eq 11, 3) := by decide +kernel
theorem dX11_operand_82 : decode cX11_operand 82 = .ok (.aload_n 0, 1) := by decide +kernel
theorem dX11_operand_83 : decode cX11_operand 83 = .ok (.getfield 47, 3) := by decide +kernel
theorem dX11_operand_86 : decode cX11_operand 86 = .ok (.ineg, 1) := by decide +kernel
theorem dX11_operand_87 : decode cX11_operand 87 = .ok (.goto 7, 3) := by decide +kernel
theorem dX11_operand_90 : decode cX11_operand 90 = .ok (.aload_n 0, 1) := by decide +kernel
theorem dX11_operand_91 : decode cX11_operand 91 = .ok (.getfield 47, 3) := by decide +kernel
theorem dX11_operand_94 : decode cX11_operand 94 = .ok (.istore 4, 2) := by decide +kernel
theorem dX11_operand_96 : decode cX11_operand 96 = .ok (.aload_n 0, 1) := by decide +kernel
theorem dX11_operand_97 : decode cX11_operand 97 = .ok (.invokevirtual 75, 3) := by decide +kernel
theorem dX11_operand_100 : decode cX11_operand 100 = .ok (.iload_n 2, 1) := by decide +kernel
theorem dX11_operand_101 : decode cX11_operand 101 = .ok (.ifCond .eq 21, 3) := by decide +kernel
theorem dX11_operand_104 : decode cX11_operand 104 = .ok (.aload_n 0, 1) := by decide +kernel
theorem dX11_operand_105 : decode cX11_operand 105 = .ok (.getfield 13, 3) := by decide +kernel
theorem dX11_operand_108 : decode cX11_operand 108 = .ok (.iload_n 1, 1) := by decide +kernel
theorem dX11_operand_109 : decode cX11_operand 109 = .ok (.iload_n 3, 1) := by decide +kernel
theorem dX11_operand_110 : decode cX11_operand 110 = .ok (.iastore, 1) := by decide +kernel
theorem dX11_operand_111 : decode cX11_operand 111 = .ok (.aload_n 0, 1) := by decide +kernel
theorem dX11_operand_112 : decode cX11_operand 112 = .ok (.getfield 16, 3) := by decide +kernel
theorem dX11_operand_115 : decode cX11_operand 115 = .ok (.iload_n 1, 1) := by decide +kernel
theorem dX11_operand_116 : decode cX11_operand 116 = .ok (.iload 4, 2) := by decide +kernel
theorem dX11_operand_118 : decode cX11_operand 118 = .ok (.iastore, 1) := by decide +kernel
theorem dX11_operand_119 : decode cX11_operand 119 = .ok (.goto 18, 3) := by decide +kernel
theorem dX11_operand_122 : decode cX11_operand 122 = .ok (.aload_n 0, 1) := by decide +kernel
theorem dX11_operand_123 : decode cX11_operand 123 = .ok (.getfield 7, 3) := by decide +kernel
theorem dX11_operand_126 : decode cX11_operand 126 = .ok (.iload_n 1, 1) := by decide +kernel
theorem dX11_operand_127 : decode cX11_operand 127 = .ok (.iload_n 3, 1) := by decide +kernel
theorem dX11_operand_128 : decode cX11_operand 128 = .ok (.iastore, 1) := by decide +kernel
theorem dX11_operand_129 : decode cX11_operand 129 = .ok (.aload_n 0, 1) := by decide +kernel
theorem dX11_operand_130 : decode cX11_operand 130 = .ok (.getfield 10, 3) := by decide +kernel
theorem dX11_operand_133 : decode cX11_operand 133 = .ok (.iload_n 1, 1) := by decide +kernel
theorem dX11_operand_134 : decode cX11_operand 134 = .ok (.iload 4, 2) := by decide +kernel
theorem dX11_operand_136 : decode cX11_operand 136 = .ok (.iastore, 1) := by decide +kernel
theorem dX11_operand_137 : decode cX11_operand 137 = .ok (.return_, 1) := by decide +kernel
theorem dX11_isArray_0 : decode cX11_isArray 0 = .ok (.aload_n 0, 1) := by decide +kernel
theorem dX11_isArray_1 : decode cX11_isArray 1 = .ok (.getfield 36, 3) := by decide +kernel
theorem dX11_isArray_4 : decode cX11_isArray 4 = .ok (.iconst 3, 1) := by decide +kernel
theorem dX11_isArray_5 : decode cX11_isArray 5 = .ok (.if_icmp .ne 25, 3) := by decide +kernel
theorem dX11_isArray_8 : decode cX11_isArray 8 = .ok (.aload_n 0, 1) := by decide +kernel
theorem dX11_isArray_9 : decode cX11_isArray 9 = .ok (.getfield 33, 3) := by decide +kernel
theorem dX11_isArray_12 : decode cX11_isArray 12 = .ok (.bipush 97, 2) := by decide +kernel
theorem dX11_isArray_14 : decode cX11_isArray 14 = .ok (.if_icmp .lt 16, 3) := by decide +kernel
theorem dX11_isArray_17 : decode cX11_isArray 17 = .ok (.aload_n 0, 1) := by decide +kernel
theorem dX11_isArray_18 : decode cX11_isArray 18 = .ok (.getfield 33, 3) := by decide +kernel
theorem dX11_isArray_21 : decode cX11_isArray 21 = .ok (.bipush 100, 2) := by decide +kernel
theorem dX11_isArray_23 : decode cX11_isArray 23 = .ok (.if_icmp .gt 7, 3) := by decide +kernel
theorem dX11_isArray_26 : decode cX11_isArray 26 = .ok (.iconst 1, 1) := by decide +kernel
theorem dX11_isArray_27 : decode cX11_isArray 27 = .ok (.goto 4, 3) := by decide +kernel
theorem dX11_isArray_30 : decode cX11_isArray 30 = .ok (.iconst 0, 1) := by decide +kernel
theorem dX11_isArray_31 : decode cX11_isArray 31 = .ok (.ireturn, 1) := by decide +kernel
set_option maxRecDepth 20000 in
theorem gX11_array_X11_next : GoodIn wsX11_array (wsV RX11 75 RX11 yX11_next wsX11_next) := goodIn_app (goodIn_of _ (by decide +kernel)) ggX11_array_X11_next
set_option maxRecDepth 20000 in
theorem gX11_array_X11_want : GoodIn wsX11_array (wsV RX11 82 RX11 yX11_want wsX11_want) := goodIn_app (goodIn_of _ (by decide +kernel)) ggX11_array_X11_want
set_option maxRecDepth 20000 in
theorem ggX11_array_X11_is : GoodIn wsX11_array wsX11_is := goodIn_r _ [127, 5, 2, 128, 129, 130, 131, 132, 133, 134, 135, 136, 137, 138, 139, 140, 141, 142, 143, 144, 145, 146, 147, 148, 149, 150, 151, 152, 153, 154, 155, 156, 157, 158, 159, 160, 161, 162, 163, 164, 165, 166, 167, 168, 169, 170, 171, 172, 173, 174, 175, 176, 177, 178] rfl (by decide +kernel)
set_option maxRecDepth 20000 in
theorem gX11_array_X11_is : GoodIn wsX11_array (wsV RX11 67 RX11 yX11_is wsX11_is) := goodIn_app (goodIn_of _ (by decide +kernel)) ggX11_array_X11_is
theorem dX11_array_0 : decode cX11_array 0 = .ok (.aload_n 0, 1) := by decide +kernel
theorem dX11_array_1 : decode cX11_array 1 = .ok (.getfield 79, 3) := by decide +kernel
theorem dX11_array_4 : decode cX11_array 4 = .ok (.iload_n 1, 1) := by decide +kernel
theorem dX11_array_5 : decode cX11_array 5 = .ok (.aload_n 0, 1) := by decide +kernel
theorem dX11_array_6 : decode cX11_array 6 = .ok (.getfield 33, 3) := by decide +kernel
theorem dX11_array_9 : decode cX11_array 9 = .ok (.bipush 97, 2) := by decide +kernel
theorem dX11_array_11 : decode cX11_array 11 = .ok (.isub, 1) := by decide +kernel
theorem dX11_array_12 : decode cX11_array 12 = .ok (.iastore, 1) := by decide +kernel
theorem dX11_array_13 : decode cX11_array 13 = .ok (.aload_n 0, 1) := by decide +kernel
theorem dX11_array_14 : decode cX11_array 14 = .ok (.invokevirtual 75, 3) := by decide +kernel
theorem dX11_array_17 : decode cX11_array 17 = .ok (.aload_n 0, 1) := by decide +kernel
theorem dX11_array_18 : decode cX11_array 18 = .ok (.bipush 91, 2) := by decide +kernel
theorem dX11_array_20 : decode cX11_array 20 = .ok (.invokevirtual 82, 3) := by decide +kernel
theorem dX11_array_23 : decode cX11_array 23 = .ok (.aload_n 0, 1) := by decide +kernel
theorem dX11_array_24 : decode cX11_array 24 = .ok (.getfield 85, 3) := by decide +kernel
theorem dX11_array_27 : decode cX11_array 27 = .ok (.iload_n 1, 1) := by decide +kernel
theorem dX11_array_28 : decode cX11_array 28 = .ok (.iconst 0, 1) := by decide +kernel
theorem dX11_array_29 : decode cX11_array 29 = .ok (.iastore, 1) := by decide +kernel
theorem dX11_array_30 : decode cX11_array 30 = .ok (.aload_n 0, 1) := by decide +kernel
theorem dX11_array_31 : decode cX11_array 31 = .ok (.getfield 88, 3) := by decide +kernel
theorem dX11_array_34 : decode cX11_array 34 = .ok (.iload_n 1, 1) := by decide +kernel
theorem dX11_array_35 : decode cX11_array 35 = .ok (.iconst 0, 1) := by decide +kernel
theorem dX11_array_36 : decode cX11_array 36 = .ok (.iastore, 1) := by decide +kernel
theorem dX11_array_37 : decode cX11_array 37 = .ok (.aload_n 0, 1) := by decide +kernel
theorem dX11_array_38 : decode cX11_array 38 = .ok (.bipush 45, 2) := by decide +kernel
theorem dX11_array_40 : decode cX11_array 40 = .ok (.invokevirtual 67, 3) := by decide +kernel
theorem dX11_array_43 : decode cX11_array 43 = .ok (.istore_n 2, 1) := by decide +kernel
theorem dX11_array_44 : decode cX11_array 44 = .ok (.iload_n 2, 1) := by decide +kernel
theorem dX11_array_45 : decode cX11_array 45 = .ok (.ifCond .eq 7, 3) := by decide +kernel
theorem dX11_array_48 : decode cX11_array 48 = .ok (.aload_n 0, 1) := by decide +kernel
theorem dX11_array_49 : decode cX11_array 49 = .ok (.invokevirtual 75, 3) := by decide +kernel
theorem dX11_array_52 : decode cX11_array 52 = .ok (.aload_n 0, 1) := by decide +kernel
theorem dX11_array_53 : decode cX11_array 53 = .ok (.getfield 36, 3) := by decide +kernel
theorem dX11_array_56 : decode cX11_array 56 = .ok (.iconst 2, 1) := by decide +kernel
theorem dX11_array_57 : decode cX11_array 57 = .ok (.if_icmp .ne 21, 3) := by decide +kernel
theorem dX11_array_60 : decode cX11_array 60 = .ok (.aload_n 0, 1) := by decide +kernel
theorem dX11_array_61 : decode cX11_array 61 = .ok (.getfield 47, 3) := by decide +kernel
theorem dX11_array_64 : decode cX11_array 64 = .ok (.iload_n 2, 1) := by decide +kernel
theorem dX11_array_65 : decode cX11_array 65 = .ok (.ifCond .eq 7, 3) := by decide +kernel
theorem dX11_array_68 : decode cX11_array 68 = .ok (.iconst 4, 1) := by decide +kernel
theorem dX11_array_69 : decode cX11_array 69 = .ok (.goto 6, 3) := by decide +kernel
theorem dX11_array_72 : decode cX11_array 72 = .ok (.sipush 250, 3) := by decide +kernel
theorem dX11_array_75 : decode cX11_array 75 = .ok (.if_icmp .le 15, 3) := by decide +kernel
theorem dX11_array_78 : decode cX11_array 78 = .ok (.new 70, 3) := by decide +kernel
theorem dX11_array_81 : decode cX11_array 81 = .ok (.dup, 1) := by decide +kernel
theorem dX11_array_82 : decode cX11_array 82 = .ok (.aload_n 0, 1) := by decide +kernel
theorem dX11_array_83 : decode cX11_array 83 = .ok (.getfield 30, 3) := by decide +kernel
theorem dX11_array_86 : decode cX11_array 86 = .ok (.invokespecial 72, 3) := by decide +kernel
theorem dX11_array_89 : decode cX11_array 89 = .ok (.athrow, 1) := by decide +kernel
theorem dX11_array_90 : decode cX11_array 90 = .ok (.aload_n 0, 1) := by decide +kernel
theorem dX11_array_91 : decode cX11_array 91 = .ok (.getfield 47, 3) := by decide +kernel
theorem dX11_array_94 : decode cX11_array 94 = .ok (.istore_n 3, 1) := by decide +kernel
theorem dX11_array_95 : decode cX11_array 95 = .ok (.aload_n 0, 1) := by decide +kernel
theorem dX11_array_96 : decode cX11_array 96 = .ok (.getfield 30, 3) := by decide +kernel
theorem dX11_array_99 : decode cX11_array 99 = .ok (.istore 4, 2) := by decide +kernel
theorem dX11_array_101 : decode cX11_array 101 = .ok (.aload_n 0, 1) := by decide +kernel
theorem dX11_array_102 : decode cX11_array 102 = .ok (.invokevirtual 75, 3) := by decide +kernel
theorem dX11_array_105 : decode cX11_array 105 = .ok (.aload_n 0, 1) := by decide +kernel
theorem dX11_array_106 : decode cX11_array 106 = .ok (.bipush 42, 2) := by decide +kernel
theorem dX11_array_108 : decode cX11_array 108 = .ok (.invokevirtual 67, 3) := by decide +kernel
theorem dX11_array_111 : decode cX11_array 111 = .ok (.ifCond .eq 18, 3) := by decide +kernel
theorem dX11_array_114 : decode cX11_array 114 = .ok (.iload_n 3, 1) := by decide +kernel
theorem dX11_array_115 : decode cX11_array 115 = .ok (.iconst 4, 1) := by decide +kernel
theorem dX11_array_116 : decode cX11_array 116 = .ok (.if_icmp .le 13, 3) := by decide +kernel
theorem dX11_array_119 : decode cX11_array 119 = .ok (.new 70, 3) := by decide +kernel
theorem dX11_array_122 : decode cX11_array 122 = .ok (.dup, 1) := by decide +kernel
theorem dX11_array_123 : decode cX11_array 123 = .ok (.iload 4, 2) := by decide +kernel
theorem dX11_array_125 : decode cX11_array 125 = .ok (.invokespecial 72, 3) := by decide +kernel
theorem dX11_array_128 : decode cX11_array 128 = .ok (.athrow, 1) := by decide +kernel
theorem dX11_array_129 : decode cX11_array 129 = .ok (.iload_n 2, 1) := by decide +kernel
theorem dX11_array_130 : decode cX11_array 130 = .ok (.ifCond .eq 24, 3) := by decide +kernel
theorem dX11_array_133 : decode cX11_array 133 = .ok (.aload_n 0, 1) := by decide +kernel
theorem dX11_array_134 : decode cX11_array 134 = .ok (.bipush 42, 2) := by decide +kernel
theorem dX11_array_136 : decode cX11_array 136 = .ok (.invokevirtual 67, 3) := by decide +kernel
theorem dX11_array_139 : decode cX11_array 139 = .ok (.ifCond .ne 15, 3) := by decide +kernel
theorem dX11_array_142 : decode cX11_array 142 = .ok (.new 70, 3) := by decide +kernel
theorem dX11_array_145 : decode cX11_array 145 = .ok (.dup, 1) := by decide +kernel
theorem dX11_array_146 : decode cX11_array 146 = .ok (.aload_n 0, 1) := by decide +kernel
theorem dX11_array_147 : decode cX11_array 147 = .ok (.getfield 30, 3) := by decide +kernel
theorem dX11_array_150 : decode cX11_array 150 = .ok (.invokespecial 72, 3) := by decide +kernel
theorem dX11_array_153 : decode cX11_array 153 = .ok (.athrow, 1) := by decide +kernel
theorem dX11_array_154 : decode cX11_array 154 = .ok (.aload_n 0, 1) := by decide +kernel
theorem dX11_array_155 : decode cX11_array 155 = .ok (.bipush 42, 2) := by decide +kernel
theorem dX11_array_157 : decode cX11_array 157 = .ok (.invokevirtual 67, 3) := by decide +kernel
theorem dX11_array_160 : decode cX11_array 160 = .ok (.ifCond .ne 17, 3) := by decide +kernel
theorem dX11_array_163 : decode cX11_array 163 = .ok (.aload_n 0, 1) := by decide +kernel
theorem dX11_array_164 : decode cX11_array 164 = .ok (.getfield 88, 3) := by decide +kernel
theorem dX11_array_167 : decode cX11_array 167 = .ok (.iload_n 1, 1) := by decide +kernel
theorem dX11_array_168 : decode cX11_array 168 = .ok (.iload_n 3, 1) := by decide +kernel
theorem dX11_array_169 : decode cX11_array 169 = .ok (.iastore, 1) := by decide +kernel
theorem dX11_array_170 : decode cX11_array 170 = .ok (.aload_n 0, 1) := by decide +kernel
theorem dX11_array_171 : decode cX11_array 171 = .ok (.bipush 93, 2) := by decide +kernel
theorem dX11_array_173 : decode cX11_array 173 = .ok (.invokevirtual 82, 3) := by decide +kernel
theorem dX11_array_176 : decode cX11_array 176 = .ok (.return_, 1) := by decide +kernel
theorem dX11_array_177 : decode cX11_array 177 = .ok (.aload_n 0, 1) := by decide +kernel
theorem dX11_array_178 : decode cX11_array 178 = .ok (.invokevirtual 75, 3) := by decide +kernel
theorem dX11_array_181 : decode cX11_array 181 = .ok (.aload_n 0, 1) := by decide +kernel
theorem dX11_array_182 : decode cX11_array 182 = .ok (.bipush 105, 2) := by decide +kernel
theorem dX11_array_184 : decode cX11_array 184 = .ok (.invokevirtual 82, 3) := by decide +kernel
theorem dX11_array_187 : decode cX11_array 187 = .ok (.aload_n 0, 1) := by decide +kernel
theorem dX11_array_188 : decode cX11_array 188 = .ok (.getfield 85, 3) := by decide +kernel
theorem dX11_array_191 : decode cX11_array 191 = .ok (.iload_n 1, 1) := by decide +kernel
theorem dX11_array_192 : decode cX11_array 192 = .ok (.iload_n 2, 1) := by decide +kernel
theorem dX11_array_193 : decode cX11_array 193 = .ok (.ifCond .eq 8, 3) := by decide +kernel
theorem dX11_array_196 : decode cX11_array 196 = .ok (.iload_n 3, 1) := by decide +kernel
theorem dX11_array_197 : decode cX11_array 197 = .ok (.ineg, 1) := by decide +kernel
theorem dX11_array_198 : decode cX11_array 198 = .ok (.goto 4, 3) := by decide +kernel
theorem dX11_array_201 : decode cX11_array 201 = .ok (.iload_n 3, 1) := by decide +kernel
theorem dX11_array_202 : decode cX11_array 202 = .ok (.iastore, 1) := by decide +kernel
theorem dX11_array_203 : decode cX11_array 203 = .ok (.aload_n 0, 1) := by decide +kernel
theorem dX11_array_204 : decode cX11_array 204 = .ok (.bipush 43, 2) := by decide +kernel
theorem dX11_array_206 : decode cX11_array 206 = .ok (.invokevirtual 67, 3) := by decide +kernel
theorem dX11_array_209 : decode cX11_array 209 = .ok (.ifCond .ne 12, 3) := by decide +kernel
theorem dX11_array_212 : decode cX11_array 212 = .ok (.aload_n 0, 1) := by decide +kernel
theorem dX11_array_213 : decode cX11_array 213 = .ok (.bipush 45, 2) := by decide +kernel
theorem dX11_array_215 : decode cX11_array 215 = .ok (.invokevirtual 67, 3) := by decide +kernel
theorem dX11_array_218 : decode cX11_array 218 = .ok (.ifCond .eq 72, 3) := by decide +kernel
theorem dX11_array_221 : decode cX11_array 221 = .ok (.aload_n 0, 1) := by decide +kernel
theorem dX11_array_222 : decode cX11_array 222 = .ok (.bipush 45, 2) := by decide +kernel
theorem dX11_array_224 : decode cX11_array 224 = .ok (.invokevirtual 67, 3) := by decide +kernel
theorem dX11_array_227 : decode cX11_array 227 = .ok (.istore 5, 2) := by decide +kernel
theorem dX11_array_229 : decode cX11_array 229 = .ok (.aload_n 0, 1) := by decide +kernel
theorem dX11_array_230 : decode cX11_array 230 = .ok (.invokevirtual 75, 3) := by decide +kernel
theorem dX11_array_233 : decode cX11_array 233 = .ok (.aload_n 0, 1) := by decide +kernel
theorem dX11_array_234 : decode cX11_array 234 = .ok (.getfield 36, 3) := by decide +kernel
theorem dX11_array_237 : decode cX11_array 237 = .ok (.iconst 2, 1) := by decide +kernel
theorem dX11_array_238 : decode cX11_array 238 = .ok (.if_icmp .ne 13, 3) := by decide +kernel
theorem dX11_array_241 : decode cX11_array 241 = .ok (.aload_n 0, 1) := by decide +kernel
theorem dX11_array_242 : decode cX11_array 242 = .ok (.getfield 47, 3) := by decide +kernel
theorem dX11_array_245 : decode cX11_array 245 = .ok (.sipush 250, 3) := by decide +kernel
theorem dX11_array_248 : decode cX11_array 248 = .ok (.if_icmp .le 15, 3) := by decide +kernel
theorem dX11_array_251 : decode cX11_array 251 = .ok (.new 70, 3) := by decide +kernel
theorem dX11_array_254 : decode cX11_array 254 = .ok (.dup, 1) := by decide +kernel
theorem dX11_array_255 : decode cX11_array 255 = .ok (.aload_n 0, 1) := by decide +kernel
theorem dX11_array_256 : decode cX11_array 256 = .ok (.getfield 30, 3) := by decide +kernel
theorem dX11_array_259 : decode cX11_array 259 = .ok (.invokespecial 72, 3) := by decide +kernel
theorem dX11_array_262 : decode cX11_array 262 = .ok (.athrow, 1) := by decide +kernel
theorem dX11_array_263 : decode cX11_array 263 = .ok (.aload_n 0, 1) := by decide +kernel
theorem dX11_array_264 : decode cX11_array 264 = .ok (.getfield 88, 3) := by decide +kernel
theorem dX11_array_267 : decode cX11_array 267 = .ok (.iload_n 1, 1) := by decide +kernel
theorem dX11_array_268 : decode cX11_array 268 = .ok (.iload 5, 2) := by decide +kernel
theorem dX11_array_270 : decode cX11_array 270 = .ok (.ifCond .eq 11, 3) := by decide +kernel
theorem dX11_array_273 : decode cX11_array 273 = .ok (.aload_n 0, 1) := by decide +kernel
theorem dX11_array_274 : decode cX11_array 274 = .ok (.getfield 47, 3) := by decide +kernel
theorem dX11_array_277 : decode cX11_array 277 = .ok (.ineg, 1) := by decide +kernel
theorem dX11_array_278 : decode cX11_array 278 = .ok (.goto 7, 3) := by decide +kernel
theorem dX11_array_281 : decode cX11_array 281 = .ok (.aload_n 0, 1) := by decide +kernel
theorem dX11_array_282 : decode cX11_array 282 = .ok (.getfield 47, 3) := by decide +kernel
theorem dX11_array_285 : decode cX11_array 285 = .ok (.iastore, 1) := by decide +kernel
theorem dX11_array_286 : decode cX11_array 286 = .ok (.aload_n 0, 1) := by decide +kernel
theorem dX11_array_287 : decode cX11_array 287 = .ok (.invokevirtual 75, 3) := by decide +kernel
theorem dX11_array_290 : decode cX11_array 290 = .ok (.aload_n 0, 1) := by decide +kernel
theorem dX11_array_291 : decode cX11_array 291 = .ok (.bipush 93, 2) := by decide +kernel
theorem dX11_array_293 : decode cX11_array 293 = .ok (.invokevirtual 82, 3) := by decide +kernel
theorem dX11_array_296 : decode cX11_array 296 = .ok (.return_, 1) := by decide +kernel
set_option maxRecDepth 20000 in
theorem ggX11_row_X11_isArray : GoodIn wsX11_row wsX11_isArray := goodIn_r _ [19, 6, 20, 153, 154, 155, 156, 157, 158, 159, 160, 161, 162, 163, 164, 165, 166, 167, 168, 169, 170, 171, 172, 173, 174, 175, 176, 177, 178, 179, 180, 181, 182, 183, 184, 185, 186, 187, 188, 189, 190, 191, 192, 193, 194, 195, 196, 197, 198, 199, 200, 201, 202, 203] rfl (by decide +kernel)
set_option maxRecDepth 20000 in
theorem gX11_row_X11_isArray : GoodIn wsX11_row (wsV RX11 94 RX11 yX11_isArray wsX11_isArray) := goodIn_app (goodIn_of _ (by decide +kernel)) ggX11_row_X11_isArray
set_option maxRecDepth 20000 in
theorem gX11_row_X11_array : GoodIn wsX11_row (wsV RX11 98 RX11 yX11_array wsX11_array) := goodIn_app (goodIn_of _ (by decide +kernel)) ggX11_row_X11_array
set_option maxRecDepth 20000 in
theorem gX11_row_X11_want : GoodIn wsX11_row (wsV RX11 82 RX11 yX11_want wsX11_want) := goodIn_app (goodIn_of _ (by decide +kernel)) ggX11_row_X11_want
set_option maxRecDepth 20000 in
theorem gX11_row_X11_operand : GoodIn wsX11_row (wsV RX11 100 RX11 yX11_operand wsX11_operand) := goodIn_app (goodIn_of _ (by decide +kernel)) ggX11_row_X11_operand
set_option maxRecDepth 20000 in
theorem gX11_row_X11_next : GoodIn wsX11_row (wsV RX11 75 RX11 yX11_next wsX11_next) := goodIn_app (goodIn_of _ (by decide +kernel)) ggX11_row_X11_next
set_option maxRecDepth 20000 in
theorem ggX11_row_X11_is : GoodIn wsX11_row wsX11_is := goodIn_r _ [142, 6, 20, 153, 154, 155, 156, 157, 158, 159, 160, 161, 162, 163, 164, 165, 166, 167, 168, 169, 170, 171, 172, 173, 174, 175, 176, 177, 178, 179, 180, 181, 182, 183, 184, 185, 186, 187, 188, 189, 190, 191, 192, 193, 194, 195, 196, 197, 198, 199, 200, 201, 202, 203] rfl (by decide +kernel)
set_option maxRecDepth 20000 in
theorem gX11_row_X11_is : GoodIn wsX11_row (wsV RX11 67 RX11 yX11_is wsX11_is) := goodIn_app (goodIn_of _ (by decide +kernel)) ggX11_row_X11_is
set_option maxRecDepth 20000 in
theorem ggX11_row_X11_operation : GoodIn wsX11_row wsX11_operation := goodIn_r _ [152, 6, 20, 153, 154, 155, 156, 157, 158, 159, 160, 161, 162, 163, 164, 165, 166, 167, 168, 169, 170, 171, 172, 173, 174, 175, 176, 177, 178, 179, 180, 181, 182, 183, 184, 185, 186, 187, 188, 189, 190, 191, 192, 193, 194, 195, 196, 197, 198, 199, 200, 201, 202, 203] rfl (by decide +kernel)
set_option maxRecDepth 20000 in
theorem gX11_row_X11_operation : GoodIn wsX11_row (wsV RX11 109 RX11 yX11_operation wsX11_operation) := goodIn_app (goodIn_of _ (by decide +kernel)) ggX11_row_X11_operation
theorem dX11_row_0 : decode cX11_row 0 = .ok (.aload_n 0, 1) := by decide +kernel
theorem dX11_row_1 : decode cX11_row 1 = .ok (.getfield 7, 3) := by decide +kernel
theorem dX11_row_4 : decode cX11_row 4 = .ok (.iload_n 1, 1) := by decide +kernel
theorem dX11_row_5 : decode cX11_row 5 = .ok (.iconst 0, 1) := by decide +kernel
theorem dX11_row_6 : decode cX11_row 6 = .ok (.iastore, 1) := by decide +kernel
theorem dX11_row_7 : decode cX11_row 7 = .ok (.aload_n 0, 1) := by decide +kernel
theorem dX11_row_8 : decode cX11_row 8 = .ok (.getfield 13, 3) := by decide +kernel
theorem dX11_row_11 : decode cX11_row 11 = .ok (.iload_n 1, 1) := by decide +kernel
theorem dX11_row_12 : decode cX11_row 12 = .ok (.iconst 0, 1) := by decide +kernel
theorem dX11_row_13 : decode cX11_row 13 = .ok (.iastore, 1) := by decide +kernel
theorem dX11_row_14 : decode cX11_row 14 = .ok (.aload_n 0, 1) := by decide +kernel
theorem dX11_row_15 : decode cX11_row 15 = .ok (.getfield 91, 3) := by decide +kernel
theorem dX11_row_18 : decode cX11_row 18 = .ok (.iload_n 1, 1) := by decide +kernel
theorem dX11_row_19 : decode cX11_row 19 = .ok (.iconst (-1), 1) := by decide +kernel
theorem dX11_row_20 : decode cX11_row 20 = .ok (.iastore, 1) := by decide +kernel
theorem dX11_row_21 : decode cX11_row 21 = .ok (.aload_n 0, 1) := by decide +kernel
theorem dX11_row_22 : decode cX11_row 22 = .ok (.getfield 79, 3) := by decide +kernel
theorem dX11_row_25 : decode cX11_row 25 = .ok (.iload_n 1, 1) := by decide +kernel
theorem dX11_row_26 : decode cX11_row 26 = .ok (.iconst (-1), 1) := by decide +kernel
theorem dX11_row_27 : decode cX11_row 27 = .ok (.iastore, 1) := by decide +kernel
theorem dX11_row_28 : decode cX11_row 28 = .ok (.aload_n 0, 1) := by decide +kernel
theorem dX11_row_29 : decode cX11_row 29 = .ok (.invokevirtual 94, 3) := by decide +kernel
theorem dX11_row_32 : decode cX11_row 32 = .ok (.ifCond .eq 29, 3) := by decide +kernel
theorem dX11_row_35 : decode cX11_row 35 = .ok (.aload_n 0, 1) := by decide +kernel
theorem dX11_row_36 : decode cX11_row 36 = .ok (.getfield 1, 3) := by decide +kernel
theorem dX11_row_39 : decode cX11_row 39 = .ok (.iload_n 1, 1) := by decide +kernel
theorem dX11_row_40 : decode cX11_row 40 = .ok (.bipush 12, 2) := by decide +kernel
theorem dX11_row_42 : decode cX11_row 42 = .ok (.iastore, 1) := by decide +kernel
theorem dX11_row_43 : decode cX11_row 43 = .ok (.aload_n 0, 1) := by decide +kernel
theorem dX11_row_44 : decode cX11_row 44 = .ok (.iload_n 1, 1) := by decide +kernel
theorem dX11_row_45 : decode cX11_row 45 = .ok (.invokevirtual 98, 3) := by decide +kernel
theorem dX11_row_48 : decode cX11_row 48 = .ok (.aload_n 0, 1) := by decide +kernel
theorem dX11_row_49 : decode cX11_row 49 = .ok (.bipush 61, 2) := by decide +kernel
theorem dX11_row_51 : decode cX11_row 51 = .ok (.invokevirtual 82, 3) := by decide +kernel
theorem dX11_row_54 : decode cX11_row 54 = .ok (.aload_n 0, 1) := by decide +kernel
theorem dX11_row_55 : decode cX11_row 55 = .ok (.iload_n 1, 1) := by decide +kernel
theorem dX11_row_56 : decode cX11_row 56 = .ok (.iconst 0, 1) := by decide +kernel
theorem dX11_row_57 : decode cX11_row 57 = .ok (.invokevirtual 100, 3) := by decide +kernel
theorem dX11_row_60 : decode cX11_row 60 = .ok (.return_, 1) := by decide +kernel
theorem dX11_row_61 : decode cX11_row 61 = .ok (.aload_n 0, 1) := by decide +kernel
theorem dX11_row_62 : decode cX11_row 62 = .ok (.getfield 36, 3) := by decide +kernel
theorem dX11_row_65 : decode cX11_row 65 = .ok (.iconst 1, 1) := by decide +kernel
theorem dX11_row_66 : decode cX11_row 66 = .ok (.if_icmp .eq 15, 3) := by decide +kernel
theorem dX11_row_69 : decode cX11_row 69 = .ok (.new 70, 3) := by decide +kernel
theorem dX11_row_72 : decode cX11_row 72 = .ok (.dup, 1) := by decide +kernel
theorem dX11_row_73 : decode cX11_row 73 = .ok (.aload_n 0, 1) := by decide +kernel
theorem dX11_row_74 : decode cX11_row 74 = .ok (.getfield 30, 3) := by decide +kernel
theorem dX11_row_77 : decode cX11_row 77 = .ok (.invokespecial 72, 3) := by decide +kernel
theorem dX11_row_80 : decode cX11_row 80 = .ok (.athrow, 1) := by decide +kernel
theorem dX11_row_81 : decode cX11_row 81 = .ok (.iconst 0, 1) := by decide +kernel
theorem dX11_row_82 : decode cX11_row 82 = .ok (.istore_n 2, 1) := by decide +kernel
theorem dX11_row_83 : decode cX11_row 83 = .ok (.iload_n 2, 1) := by decide +kernel
theorem dX11_row_84 : decode cX11_row 84 = .ok (.iload_n 1, 1) := by decide +kernel
theorem dX11_row_85 : decode cX11_row 85 = .ok (.if_icmp .ge 37, 3) := by decide +kernel
theorem dX11_row_88 : decode cX11_row 88 = .ok (.aload_n 0, 1) := by decide +kernel
theorem dX11_row_89 : decode cX11_row 89 = .ok (.getfield 91, 3) := by decide +kernel
theorem dX11_row_92 : decode cX11_row 92 = .ok (.iload_n 2, 1) := by decide +kernel
theorem dX11_row_93 : decode cX11_row 93 = .ok (.iaload, 1) := by decide +kernel
theorem dX11_row_94 : decode cX11_row 94 = .ok (.aload_n 0, 1) := by decide +kernel
theorem dX11_row_95 : decode cX11_row 95 = .ok (.getfield 47, 3) := by decide +kernel
theorem dX11_row_98 : decode cX11_row 98 = .ok (.if_icmp .ne 18, 3) := by decide +kernel
theorem dX11_row_101 : decode cX11_row 101 = .ok (.aload_n 0, 1) := by decide +kernel
theorem dX11_row_102 : decode cX11_row 102 = .ok (.getfield 104, 3) := by decide +kernel
theorem dX11_row_105 : decode cX11_row 105 = .ok (.ifCond .ge 11, 3) := by decide +kernel
theorem dX11_row_108 : decode cX11_row 108 = .ok (.aload_n 0, 1) := by decide +kernel
theorem dX11_row_109 : decode cX11_row 109 = .ok (.aload_n 0, 1) := by decide +kernel
theorem dX11_row_110 : decode cX11_row 110 = .ok (.getfield 30, 3) := by decide +kernel
theorem dX11_row_113 : decode cX11_row 113 = .ok (.putfield 104, 3) := by decide +kernel
theorem dX11_row_116 : decode cX11_row 116 = .ok (.iinc 2 1, 3) := by decide +kernel
theorem dX11_row_119 : decode cX11_row 119 = .ok (.goto (-36), 3) := by decide +kernel
theorem dX11_row_122 : decode cX11_row 122 = .ok (.aload_n 0, 1) := by decide +kernel
theorem dX11_row_123 : decode cX11_row 123 = .ok (.getfield 91, 3) := by decide +kernel
theorem dX11_row_126 : decode cX11_row 126 = .ok (.iload_n 1, 1) := by decide +kernel
theorem dX11_row_127 : decode cX11_row 127 = .ok (.aload_n 0, 1) := by decide +kernel
theorem dX11_row_128 : decode cX11_row 128 = .ok (.getfield 47, 3) := by decide +kernel
theorem dX11_row_131 : decode cX11_row 131 = .ok (.iastore, 1) := by decide +kernel
theorem dX11_row_132 : decode cX11_row 132 = .ok (.aload_n 0, 1) := by decide +kernel
theorem dX11_row_133 : decode cX11_row 133 = .ok (.invokevirtual 75, 3) := by decide +kernel
theorem dX11_row_136 : decode cX11_row 136 = .ok (.aload_n 0, 1) := by decide +kernel
theorem dX11_row_137 : decode cX11_row 137 = .ok (.bipush 61, 2) := by decide +kernel
theorem dX11_row_139 : decode cX11_row 139 = .ok (.invokevirtual 82, 3) := by decide +kernel
theorem dX11_row_142 : decode cX11_row 142 = .ok (.aload_n 0, 1) := by decide +kernel
theorem dX11_row_143 : decode cX11_row 143 = .ok (.ldc 107, 2) := by decide +kernel
theorem dX11_row_145 : decode cX11_row 145 = .ok (.invokevirtual 67, 3) := by decide +kernel
theorem dX11_row_148 : decode cX11_row 148 = .ok (.ifCond .ne 12, 3) := by decide +kernel
theorem dX11_row_151 : decode cX11_row 151 = .ok (.aload_n 0, 1) := by decide +kernel
theorem dX11_row_152 : decode cX11_row 152 = .ok (.ldc 108, 2) := by decide +kernel
theorem dX11_row_154 : decode cX11_row 154 = .ok (.invokevirtual 67, 3) := by decide +kernel
theorem dX11_row_157 : decode cX11_row 157 = .ok (.ifCond .eq 56, 3) := by decide +kernel
theorem dX11_row_160 : decode cX11_row 160 = .ok (.aload_n 0, 1) := by decide +kernel
theorem dX11_row_161 : decode cX11_row 161 = .ok (.getfield 1, 3) := by decide +kernel
theorem dX11_row_164 : decode cX11_row 164 = .ok (.iload_n 1, 1) := by decide +kernel
theorem dX11_row_165 : decode cX11_row 165 = .ok (.aload_n 0, 1) := by decide +kernel
theorem dX11_row_166 : decode cX11_row 166 = .ok (.ldc 107, 2) := by decide +kernel
theorem dX11_row_168 : decode cX11_row 168 = .ok (.invokevirtual 67, 3) := by decide +kernel
theorem dX11_row_171 : decode cX11_row 171 = .ok (.ifCond .eq 8, 3) := by decide +kernel
theorem dX11_row_174 : decode cX11_row 174 = .ok (.bipush 9, 2) := by decide +kernel
theorem dX11_row_176 : decode cX11_row 176 = .ok (.goto 5, 3) := by decide +kernel
theorem dX11_row_179 : decode cX11_row 179 = .ok (.bipush 10, 2) := by decide +kernel
theorem dX11_row_181 : decode cX11_row 181 = .ok (.iastore, 1) := by decide +kernel
theorem dX11_row_182 : decode cX11_row 182 = .ok (.aload_n 0, 1) := by decide +kernel
theorem dX11_row_183 : decode cX11_row 183 = .ok (.invokevirtual 75, 3) := by decide +kernel
theorem dX11_row_186 : decode cX11_row 186 = .ok (.aload_n 0, 1) := by decide +kernel
theorem dX11_row_187 : decode cX11_row 187 = .ok (.bipush 40, 2) := by decide +kernel
theorem dX11_row_189 : decode cX11_row 189 = .ok (.invokevirtual 82, 3) := by decide +kernel
theorem dX11_row_192 : decode cX11_row 192 = .ok (.aload_n 0, 1) := by decide +kernel
theorem dX11_row_193 : decode cX11_row 193 = .ok (.iload_n 1, 1) := by decide +kernel
theorem dX11_row_194 : decode cX11_row 194 = .ok (.iconst 0, 1) := by decide +kernel
theorem dX11_row_195 : decode cX11_row 195 = .ok (.invokevirtual 100, 3) := by decide +kernel
theorem dX11_row_198 : decode cX11_row 198 = .ok (.aload_n 0, 1) := by decide +kernel
theorem dX11_row_199 : decode cX11_row 199 = .ok (.iload_n 1, 1) := by decide +kernel
theorem dX11_row_200 : decode cX11_row 200 = .ok (.iconst 1, 1) := by decide +kernel
theorem dX11_row_201 : decode cX11_row 201 = .ok (.invokevirtual 100, 3) := by decide +kernel
theorem dX11_row_204 : decode cX11_row 204 = .ok (.aload_n 0, 1) := by decide +kernel
theorem dX11_row_205 : decode cX11_row 205 = .ok (.bipush 41, 2) := by decide +kernel
theorem dX11_row_207 : decode cX11_row 207 = .ok (.invokevirtual 82, 3) := by decide +kernel
theorem dX11_row_210 : decode cX11_row 210 = .ok (.goto 73, 3) := by decide +kernel
theorem dX11_row_213 : decode cX11_row 213 = .ok (.aload_n 0, 1) := by decide +kernel
theorem dX11_row_214 : decode cX11_row 214 = .ok (.invokevirtual 94, 3) := by decide +kernel
theorem dX11_row_217 : decode cX11_row 217 = .ok (.ifCond .eq 19, 3) := by decide +kernel
theorem dX11_row_220 : decode cX11_row 220 = .ok (.aload_n 0, 1) := by decide +kernel
theorem dX11_row_221 : decode cX11_row 221 = .ok (.getfield 1, 3) := by decide +kernel
theorem dX11_row_224 : decode cX11_row 224 = .ok (.iload_n 1, 1) := by decide +kernel
theorem dX11_row_225 : decode cX11_row 225 = .ok (.bipush 11, 2) := by decide +kernel
theorem dX11_row_227 : decode cX11_row 227 = .ok (.iastore, 1) := by decide +kernel
theorem dX11_row_228 : decode cX11_row 228 = .ok (.aload_n 0, 1) := by decide +kernel
theorem dX11_row_229 : decode cX11_row 229 = .ok (.iload_n 1, 1) := by decide +kernel
theorem dX11_row_230 : decode cX11_row 230 = .ok (.invokevirtual 98, 3) := by decide +kernel
theorem dX11_row_233 : decode cX11_row 233 = .ok (.goto 50, 3) := by decide +kernel
theorem dX11_row_236 : decode cX11_row 236 = .ok (.aload_n 0, 1) := by decide +kernel
theorem dX11_row_237 : decode cX11_row 237 = .ok (.iload_n 1, 1) := by decide +kernel
theorem dX11_row_238 : decode cX11_row 238 = .ok (.iconst 0, 1) := by decide +kernel
theorem dX11_row_239 : decode cX11_row 239 = .ok (.invokevirtual 100, 3) := by decide +kernel
theorem dX11_row_242 : decode cX11_row 242 = .ok (.aload_n 0, 1) := by decide +kernel
theorem dX11_row_243 : decode cX11_row 243 = .ok (.getfield 1, 3) := by decide +kernel
theorem dX11_row_246 : decode cX11_row 246 = .ok (.iload_n 1, 1) := by decide +kernel
theorem dX11_row_247 : decode cX11_row 247 = .ok (.aload_n 0, 1) := by decide +kernel
theorem dX11_row_248 : decode cX11_row 248 = .ok (.invokevirtual 109, 3) := by decide +kernel
theorem dX11_row_251 : decode cX11_row 251 = .ok (.iastore, 1) := by decide +kernel
theorem dX11_row_252 : decode cX11_row 252 = .ok (.aload_n 0, 1) := by decide +kernel
theorem dX11_row_253 : decode cX11_row 253 = .ok (.getfield 1, 3) := by decide +kernel
theorem dX11_row_256 : decode cX11_row 256 = .ok (.iload_n 1, 1) := by decide +kernel
theorem dX11_row_257 : decode cX11_row 257 = .ok (.iaload, 1) := by decide +kernel
theorem dX11_row_258 : decode cX11_row 258 = .ok (.ifCond .ge 15, 3) := by decide +kernel
theorem dX11_row_261 : decode cX11_row 261 = .ok (.new 70, 3) := by decide +kernel
theorem dX11_row_264 : decode cX11_row 264 = .ok (.dup, 1) := by decide +kernel
theorem dX11_row_265 : decode cX11_row 265 = .ok (.aload_n 0, 1) := by decide +kernel
theorem dX11_row_266 : decode cX11_row 266 = .ok (.getfield 30, 3) := by decide +kernel
theorem dX11_row_269 : decode cX11_row 269 = .ok (.invokespecial 72, 3) := by decide +kernel
theorem dX11_row_272 : decode cX11_row 272 = .ok (.athrow, 1) := by decide +kernel
theorem dX11_row_273 : decode cX11_row 273 = .ok (.aload_n 0, 1) := by decide +kernel
theorem dX11_row_274 : decode cX11_row 274 = .ok (.invokevirtual 75, 3) := by decide +kernel
theorem dX11_row_277 : decode cX11_row 277 = .ok (.aload_n 0, 1) := by decide +kernel
theorem dX11_row_278 : decode cX11_row 278 = .ok (.iload_n 1, 1) := by decide +kernel
theorem dX11_row_279 : decode cX11_row 279 = .ok (.iconst 1, 1) := by decide +kernel
theorem dX11_row_280 : decode cX11_row 280 = .ok (.invokevirtual 100, 3) := by decide +kernel
theorem dX11_row_283 : decode cX11_row 283 = .ok (.return_, 1) := by decide +kernel
set_option maxRecDepth 20000 in
theorem ggX11_time_X11_kind : GoodIn wsX11_time wsX11_kind := goodIn_r _ [6, 7, 8, 9, 10, 11, 12, 13, 14, 15, 16, 17, 18, 19, 20, 21, 22, 23, 24, 25, 26, 27, 28, 29, 30, 31, 32, 33, 34, 35, 36, 37, 38, 39, 40, 41, 42, 43, 44, 45, 46, 47, 48, 49, 50, 51, 52, 53, 54, 55, 56, 57, 58] rfl (by decide +kernel)
set_option maxRecDepth 20000 in
theorem gX11_time_X11_kind : GoodIn wsX11_time (wsV RX11 116 RX11 yX11_kind wsX11_kind) := goodIn_app (goodIn_of _ (by decide +kernel)) ggX11_time_X11_kind
theorem dX11_time_0 : decode cX11_time 0 = .ok (.aload_n 0, 1) := by decide +kernel
theorem dX11_time_1 : decode cX11_time 1 = .ok (.getfield 113, 3) := by decide +kernel
theorem dX11_time_4 : decode cX11_time 4 = .ok (.aload_n 0, 1) := by decide +kernel
theorem dX11_time_5 : decode cX11_time 5 = .ok (.iload_n 1, 1) := by decide +kernel
theorem dX11_time_6 : decode cX11_time 6 = .ok (.invokevirtual 116, 3) := by decide +kernel
theorem dX11_time_9 : decode cX11_time 9 = .ok (.iaload, 1) := by decide +kernel
theorem dX11_time_10 : decode cX11_time 10 = .ok (.ireturn, 1) := by decide +kernel
theorem dX11_wait_0 : decode cX11_wait 0 = .ok (.aload_n 0, 1) := by decide +kernel
theorem dX11_wait_1 : decode cX11_wait 1 = .ok (.getfield 119, 3) := by decide +kernel
theorem dX11_wait_4 : decode cX11_wait 4 = .ok (.iconst 1, 1) := by decide +kernel
theorem dX11_wait_5 : decode cX11_wait 5 = .ok (.isub, 1) := by decide +kernel
theorem dX11_wait_6 : decode cX11_wait 6 = .ok (.istore 5, 2) := by decide +kernel
theorem dX11_wait_8 : decode cX11_wait 8 = .ok (.iload 5, 2) := by decide +kernel
theorem dX11_wait_10 : decode cX11_wait 10 = .ok (.ifCond .lt 65, 3) := by decide +kernel
theorem dX11_wait_13 : decode cX11_wait 13 = .ok (.aload_n 0, 1) := by decide +kernel
theorem dX11_wait_14 : decode cX11_wait 14 = .ok (.getfield 122, 3) := by decide +kernel
theorem dX11_wait_17 : decode cX11_wait 17 = .ok (.iload 5, 2) := by decide +kernel
theorem dX11_wait_19 : decode cX11_wait 19 = .ok (.iaload, 1) := by decide +kernel
theorem dX11_wait_20 : decode cX11_wait 20 = .ok (.iload_n 1, 1) := by decide +kernel
theorem dX11_wait_21 : decode cX11_wait 21 = .ok (.if_icmp .ne 54, 3) := by decide +kernel
theorem dX11_wait_24 : decode cX11_wait 24 = .ok (.aload_n 0, 1) := by decide +kernel
theorem dX11_wait_25 : decode cX11_wait 25 = .ok (.getfield 125, 3) := by decide +kernel
theorem dX11_wait_28 : decode cX11_wait 28 = .ok (.iload 5, 2) := by decide +kernel
theorem dX11_wait_30 : decode cX11_wait 30 = .ok (.iaload, 1) := by decide +kernel
theorem dX11_wait_31 : decode cX11_wait 31 = .ok (.iload_n 2, 1) := by decide +kernel
theorem dX11_wait_32 : decode cX11_wait 32 = .ok (.if_icmp .ne 43, 3) := by decide +kernel
theorem dX11_wait_35 : decode cX11_wait 35 = .ok (.aload_n 0, 1) := by decide +kernel
theorem dX11_wait_36 : decode cX11_wait 36 = .ok (.getfield 128, 3) := by decide +kernel
theorem dX11_wait_39 : decode cX11_wait 39 = .ok (.iload 5, 2) := by decide +kernel
theorem dX11_wait_41 : decode cX11_wait 41 = .ok (.iaload, 1) := by decide +kernel
theorem dX11_wait_42 : decode cX11_wait 42 = .ok (.iload_n 3, 1) := by decide +kernel
theorem dX11_wait_43 : decode cX11_wait 43 = .ok (.if_icmp .eq 6, 3) := by decide +kernel
theorem dX11_wait_46 : decode cX11_wait 46 = .ok (.goto 23, 3) := by decide +kernel
theorem dX11_wait_49 : decode cX11_wait 49 = .ok (.aload_n 0, 1) := by decide +kernel
theorem dX11_wait_50 : decode cX11_wait 50 = .ok (.getfield 131, 3) := by decide +kernel
theorem dX11_wait_53 : decode cX11_wait 53 = .ok (.iload 5, 2) := by decide +kernel
theorem dX11_wait_55 : decode cX11_wait 55 = .ok (.aload_n 0, 1) := by decide +kernel
theorem dX11_wait_56 : decode cX11_wait 56 = .ok (.getfield 131, 3) := by decide +kernel
theorem dX11_wait_59 : decode cX11_wait 59 = .ok (.iload 5, 2) := by decide +kernel
theorem dX11_wait_61 : decode cX11_wait 61 = .ok (.iaload, 1) := by decide +kernel
theorem dX11_wait_62 : decode cX11_wait 62 = .ok (.iload 4, 2) := by decide +kernel
theorem dX11_wait_64 : decode cX11_wait 64 = .ok (.invokestatic 134, 3) := by decide +kernel
theorem dX11_wait_67 : decode cX11_wait 67 = .ok (.iastore, 1) := by decide +kernel
theorem dX11_wait_68 : decode cX11_wait 68 = .ok (.return_, 1) := by decide +kernel
theorem dX11_wait_69 : decode cX11_wait 69 = .ok (.iinc 5 (-1), 3) := by decide +kernel
theorem dX11_wait_72 : decode cX11_wait 72 = .ok (.goto (-64), 3) := by decide +kernel
theorem dX11_wait_75 : decode cX11_wait 75 = .ok (.aload_n 0, 1) := by decide +kernel
theorem dX11_wait_76 : decode cX11_wait 76 = .ok (.getfield 122, 3) := by decide +kernel
theorem dX11_wait_79 : decode cX11_wait 79 = .ok (.aload_n 0, 1) := by decide +kernel
theorem dX11_wait_80 : decode cX11_wait 80 = .ok (.getfield 119, 3) := by decide +kernel
theorem dX11_wait_83 : decode cX11_wait 83 = .ok (.iload_n 1, 1) := by decide +kernel
theorem dX11_wait_84 : decode cX11_wait 84 = .ok (.iastore, 1) := by decide +kernel
theorem dX11_wait_85 : decode cX11_wait 85 = .ok (.aload_n 0, 1) := by decide +kernel
theorem dX11_wait_86 : decode cX11_wait 86 = .ok (.getfield 125, 3) := by decide +kernel
theorem dX11_wait_89 : decode cX11_wait 89 = .ok (.aload_n 0, 1) := by decide +kernel
theorem dX11_wait_90 : decode cX11_wait 90 = .ok (.getfield 119, 3) := by decide +kernel
theorem dX11_wait_93 : decode cX11_wait 93 = .ok (.iload_n 2, 1) := by decide +kernel
theorem dX11_wait_94 : decode cX11_wait 94 = .ok (.iastore, 1) := by decide +kernel
theorem dX11_wait_95 : decode cX11_wait 95 = .ok (.aload_n 0, 1) := by decide +kernel
theorem dX11_wait_96 : decode cX11_wait 96 = .ok (.getfield 128, 3) := by decide +kernel
theorem dX11_wait_99 : decode cX11_wait 99 = .ok (.aload_n 0, 1) := by decide +kernel
theorem dX11_wait_100 : decode cX11_wait 100 = .ok (.getfield 119, 3) := by decide +kernel
theorem dX11_wait_103 : decode cX11_wait 103 = .ok (.iload_n 3, 1) := by decide +kernel
theorem dX11_wait_104 : decode cX11_wait 104 = .ok (.iastore, 1) := by decide +kernel
theorem dX11_wait_105 : decode cX11_wait 105 = .ok (.aload_n 0, 1) := by decide +kernel
theorem dX11_wait_106 : decode cX11_wait 106 = .ok (.getfield 131, 3) := by decide +kernel
theorem dX11_wait_109 : decode cX11_wait 109 = .ok (.aload_n 0, 1) := by decide +kernel
theorem dX11_wait_110 : decode cX11_wait 110 = .ok (.getfield 119, 3) := by decide +kernel
theorem dX11_wait_113 : decode cX11_wait 113 = .ok (.iload 4, 2) := by decide +kernel
theorem dX11_wait_115 : decode cX11_wait 115 = .ok (.iastore, 1) := by decide +kernel
theorem dX11_wait_116 : decode cX11_wait 116 = .ok (.aload_n 0, 1) := by decide +kernel
theorem dX11_wait_117 : decode cX11_wait 117 = .ok (.dup, 1) := by decide +kernel
theorem dX11_wait_118 : decode cX11_wait 118 = .ok (.getfield 119, 3) := by decide +kernel
theorem dX11_wait_121 : decode cX11_wait 121 = .ok (.iconst 1, 1) := by decide +kernel
theorem dX11_wait_122 : decode cX11_wait 122 = .ok (.iadd, 1) := by decide +kernel
theorem dX11_wait_123 : decode cX11_wait 123 = .ok (.putfield 119, 3) := by decide +kernel
theorem dX11_wait_126 : decode cX11_wait 126 = .ok (.return_, 1) := by decide +kernel
theorem dX11_useOver_0 : decode cX11_useOver 0 = .ok (.iload_n 2, 1) := by decide +kernel
theorem dX11_useOver_1 : decode cX11_useOver 1 = .ok (.iload_n 1, 1) := by decide +kernel
theorem dX11_useOver_2 : decode cX11_useOver 2 = .ok (.if_icmp .le 7, 3) := by decide +kernel
theorem dX11_useOver_5 : decode cX11_useOver 5 = .ok (.iconst 0, 1) := by decide +kernel
theorem dX11_useOver_6 : decode cX11_useOver 6 = .ok (.goto 4, 3) := by decide +kernel
theorem dX11_useOver_9 : decode cX11_useOver 9 = .ok (.iconst 1, 1) := by decide +kernel
theorem dX11_useOver_10 : decode cX11_useOver 10 = .ok (.ireturn, 1) := by decide +kernel
set_option maxRecDepth 20000 in
theorem ggX11_findWaits_X11_uses : GoodIn wsX11_findWaits wsX11_uses := goodIn_r _ [10, 11, 12, 13, 14, 47, 48, 49, 50, 51, 52, 53, 54, 55, 56, 57, 58, 59, 60, 61, 62, 63, 64, 65, 66, 67, 68, 69, 70, 71, 72, 73, 74, 75, 76, 77, 78, 79, 80, 81, 82, 83, 84, 85, 86, 87, 88, 89, 90, 91, 92, 93, 94, 95, 96, 97] rfl (by decide +kernel)
set_option maxRecDepth 20000 in
theorem gX11_findWaits_X11_uses : GoodIn wsX11_findWaits (wsV RX11 140 RX11 yX11_uses wsX11_uses) := goodIn_app (goodIn_of _ (by decide +kernel)) ggX11_findWaits_X11_uses
set_option maxRecDepth 20000 in
theorem ggX11_findWaits_X11_useOver : GoodIn wsX11_findWaits wsX11_useOver := goodIn_r _ [18] rfl (by decide +kernel)
set_option maxRecDepth 20000 in
theorem gX11_findWaits_X11_useOver : GoodIn wsX11_findWaits (wsV RX11 144 RX11 yX11_useOver wsX11_useOver) := goodIn_app (goodIn_of _ (by decide +kernel)) ggX11_findWaits_X11_useOver
set_option maxRecDepth 20000 in
theorem ggX11_findWaits_X11_time : GoodIn wsX11_findWaits wsX11_time := goodIn_r _ [22, 23, 24, 25, 26, 9, 27, 5, 47, 48, 49, 50, 51, 52, 53, 54, 55, 56, 57, 58, 59, 60, 61, 62, 63, 64, 65, 66, 67, 68, 69, 70, 71, 72, 73, 74, 75, 76, 77, 78, 79, 80, 81, 82, 83, 84, 85, 86, 87, 88, 89, 90, 91, 92, 93, 94, 95, 96, 97] rfl (by decide +kernel)
set_option maxRecDepth 20000 in
theorem gX11_findWaits_X11_time : GoodIn wsX11_findWaits (wsV RX11 147 RX11 yX11_time wsX11_time) := goodIn_app (goodIn_of _ (by decide +kernel)) ggX11_findWaits_X11_time
set_option maxRecDepth 20000 in
theorem ggX11_findWaits_X11_wait : GoodIn wsX11_findWaits wsX11_wait := goodIn_r _ [31, 1, 32, 33, 34, 35, 36, 37, 38, 39, 47, 48, 49, 50, 51, 52, 53, 54, 55, 56, 57, 58, 59, 60, 61, 62, 63, 64, 65, 66, 67, 68, 69, 70, 71, 72, 73, 74, 75, 76, 77, 78, 79, 80, 81, 82, 83, 84, 85, 86, 87, 88, 89, 90, 91, 92, 93, 94, 95, 96, 97] rfl (by decide +kernel)
set_option maxRecDepth 20000 in
theorem gX11_findWaits_X11_wait : GoodIn wsX11_findWaits (wsV RX11 150 RX11 yX11_wait wsX11_wait) := goodIn_app (goodIn_of _ (by decide +kernel)) ggX11_findWaits_X11_wait
set_option maxRecDepth 20000 in
theorem ggX11_findWaits_X11_sameOver : GoodIn wsX11_findWaits wsX11_sameOver := goodIn_r _ [43, 44, 45, 46, 15, 16, 17, 9, 18, 47, 48, 49, 50, 51, 52, 53, 54, 55, 56, 57, 58, 59, 60, 61, 62, 63, 64, 65, 66, 67, 68, 69, 70, 71, 72, 73, 74, 75, 76, 77, 78, 79, 80, 81, 82, 83, 84, 85, 86, 87, 88, 89, 90, 91, 92, 93, 94, 95, 96, 97] rfl (by decide +kernel)
set_option maxRecDepth 20000 in
theorem gX11_findWaits_X11_sameOver : GoodIn wsX11_findWaits (wsV RX11 154 RX11 yX11_sameOver wsX11_sameOver) := goodIn_app (goodIn_of _ (by decide +kernel)) ggX11_findWaits_X11_sameOver
theorem dX11_findWaits_0 : decode cX11_findWaits 0 = .ok (.aload_n 0, 1) := by decide +kernel
theorem dX11_findWaits_1 : decode cX11_findWaits 1 = .ok (.iconst 0, 1) := by decide +kernel
theorem dX11_findWaits_2 : decode cX11_findWaits 2 = .ok (.putfield 119, 3) := by decide +kernel
theorem dX11_findWaits_5 : decode cX11_findWaits 5 = .ok (.iconst 0, 1) := by decide +kernel
theorem dX11_findWaits_6 : decode cX11_findWaits 6 = .ok (.istore_n 1, 1) := by decide +kernel
theorem dX11_findWaits_7 : decode cX11_findWaits 7 = .ok (.iload_n 1, 1) := by decide +kernel
theorem dX11_findWaits_8 : decode cX11_findWaits 8 = .ok (.aload_n 0, 1) := by decide +kernel
theorem dX11_findWaits_9 : decode cX11_findWaits 9 = .ok (.getfield 137, 3) := by decide +kernel
theorem dX11_findWaits_12 : decode cX11_findWaits 12 = .ok (.if_icmp .ge 167, 3) := by decide +kernel
theorem dX11_findWaits_15 : decode cX11_findWaits 15 = .ok (.iconst 0, 1) := by decide +kernel
theorem dX11_findWaits_16 : decode cX11_findWaits 16 = .ok (.istore_n 2, 1) := by decide +kernel
theorem dX11_findWaits_17 : decode cX11_findWaits 17 = .ok (.iload_n 2, 1) := by decide +kernel
theorem dX11_findWaits_18 : decode cX11_findWaits 18 = .ok (.aload_n 0, 1) := by decide +kernel
theorem dX11_findWaits_19 : decode cX11_findWaits 19 = .ok (.getfield 137, 3) := by decide +kernel
theorem dX11_findWaits_22 : decode cX11_findWaits 22 = .ok (.if_icmp .ge 151, 3) := by decide +kernel
theorem dX11_findWaits_25 : decode cX11_findWaits 25 = .ok (.aload_n 0, 1) := by decide +kernel
theorem dX11_findWaits_26 : decode cX11_findWaits 26 = .ok (.getfield 91, 3) := by decide +kernel
theorem dX11_findWaits_29 : decode cX11_findWaits 29 = .ok (.iload_n 1, 1) := by decide +kernel
theorem dX11_findWaits_30 : decode cX11_findWaits 30 = .ok (.iaload, 1) := by decide +kernel
theorem dX11_findWaits_31 : decode cX11_findWaits 31 = .ok (.ifCond .lt 34, 3) := by decide +kernel
theorem dX11_findWaits_34 : decode cX11_findWaits 34 = .ok (.aload_n 0, 1) := by decide +kernel
theorem dX11_findWaits_35 : decode cX11_findWaits 35 = .ok (.iload_n 2, 1) := by decide +kernel
theorem dX11_findWaits_36 : decode cX11_findWaits 36 = .ok (.aload_n 0, 1) := by decide +kernel
theorem dX11_findWaits_37 : decode cX11_findWaits 37 = .ok (.getfield 91, 3) := by decide +kernel
theorem dX11_findWaits_40 : decode cX11_findWaits 40 = .ok (.iload_n 1, 1) := by decide +kernel
theorem dX11_findWaits_41 : decode cX11_findWaits 41 = .ok (.iaload, 1) := by decide +kernel
theorem dX11_findWaits_42 : decode cX11_findWaits 42 = .ok (.invokevirtual 140, 3) := by decide +kernel
theorem dX11_findWaits_45 : decode cX11_findWaits 45 = .ok (.ifCond .eq 20, 3) := by decide +kernel
theorem dX11_findWaits_48 : decode cX11_findWaits 48 = .ok (.aload_n 0, 1) := by decide +kernel
theorem dX11_findWaits_49 : decode cX11_findWaits 49 = .ok (.iload_n 1, 1) := by decide +kernel
theorem dX11_findWaits_50 : decode cX11_findWaits 50 = .ok (.iload_n 2, 1) := by decide +kernel
theorem dX11_findWaits_51 : decode cX11_findWaits 51 = .ok (.aload_n 0, 1) := by decide +kernel
theorem dX11_findWaits_52 : decode cX11_findWaits 52 = .ok (.iload_n 1, 1) := by decide +kernel
theorem dX11_findWaits_53 : decode cX11_findWaits 53 = .ok (.iload_n 2, 1) := by decide +kernel
theorem dX11_findWaits_54 : decode cX11_findWaits 54 = .ok (.invokevirtual 144, 3) := by decide +kernel
theorem dX11_findWaits_57 : decode cX11_findWaits 57 = .ok (.aload_n 0, 1) := by decide +kernel
theorem dX11_findWaits_58 : decode cX11_findWaits 58 = .ok (.iload_n 1, 1) := by decide +kernel
theorem dX11_findWaits_59 : decode cX11_findWaits 59 = .ok (.invokevirtual 147, 3) := by decide +kernel
theorem dX11_findWaits_62 : decode cX11_findWaits 62 = .ok (.invokevirtual 150, 3) := by decide +kernel
theorem dX11_findWaits_65 : decode cX11_findWaits 65 = .ok (.aload_n 0, 1) := by decide +kernel
theorem dX11_findWaits_66 : decode cX11_findWaits 66 = .ok (.getfield 79, 3) := by decide +kernel
theorem dX11_findWaits_69 : decode cX11_findWaits 69 = .ok (.iload_n 1, 1) := by decide +kernel
theorem dX11_findWaits_70 : decode cX11_findWaits 70 = .ok (.iaload, 1) := by decide +kernel
theorem dX11_findWaits_71 : decode cX11_findWaits 71 = .ok (.ifCond .lt 96, 3) := by decide +kernel
theorem dX11_findWaits_74 : decode cX11_findWaits 74 = .ok (.aload_n 0, 1) := by decide +kernel
theorem dX11_findWaits_75 : decode cX11_findWaits 75 = .ok (.getfield 79, 3) := by decide +kernel
theorem dX11_findWaits_78 : decode cX11_findWaits 78 = .ok (.iload_n 1, 1) := by decide +kernel
theorem dX11_findWaits_79 : decode cX11_findWaits 79 = .ok (.iaload, 1) := by decide +kernel
theorem dX11_findWaits_80 : decode cX11_findWaits 80 = .ok (.aload_n 0, 1) := by decide +kernel
theorem dX11_findWaits_81 : decode cX11_findWaits 81 = .ok (.getfield 79, 3) := by decide +kernel
theorem dX11_findWaits_84 : decode cX11_findWaits 84 = .ok (.iload_n 2, 1) := by decide +kernel
theorem dX11_findWaits_85 : decode cX11_findWaits 85 = .ok (.iaload, 1) := by decide +kernel
theorem dX11_findWaits_86 : decode cX11_findWaits 86 = .ok (.if_icmp .ne 81, 3) := by decide +kernel
theorem dX11_findWaits_89 : decode cX11_findWaits 89 = .ok (.aload_n 0, 1) := by decide +kernel
theorem dX11_findWaits_90 : decode cX11_findWaits 90 = .ok (.getfield 1, 3) := by decide +kernel
theorem dX11_findWaits_93 : decode cX11_findWaits 93 = .ok (.iload_n 1, 1) := by decide +kernel
theorem dX11_findWaits_94 : decode cX11_findWaits 94 = .ok (.iaload, 1) := by decide +kernel
theorem dX11_findWaits_95 : decode cX11_findWaits 95 = .ok (.bipush 11, 2) := by decide +kernel
theorem dX11_findWaits_97 : decode cX11_findWaits 97 = .ok (.if_icmp .ne 17, 3) := by decide +kernel
theorem dX11_findWaits_100 : decode cX11_findWaits 100 = .ok (.aload_n 0, 1) := by decide +kernel
theorem dX11_findWaits_101 : decode cX11_findWaits 101 = .ok (.getfield 1, 3) := by decide +kernel
theorem dX11_findWaits_104 : decode cX11_findWaits 104 = .ok (.iload_n 2, 1) := by decide +kernel
theorem dX11_findWaits_105 : decode cX11_findWaits 105 = .ok (.iaload, 1) := by decide +kernel
theorem dX11_findWaits_106 : decode cX11_findWaits 106 = .ok (.bipush 11, 2) := by decide +kernel
theorem dX11_findWaits_108 : decode cX11_findWaits 108 = .ok (.if_icmp .ne 6, 3) := by decide +kernel
theorem dX11_findWaits_111 : decode cX11_findWaits 111 = .ok (.goto 56, 3) := by decide +kernel
theorem dX11_findWaits_114 : decode cX11_findWaits 114 = .ok (.aload_n 0, 1) := by decide +kernel
theorem dX11_findWaits_115 : decode cX11_findWaits 115 = .ok (.iload_n 1, 1) := by decide +kernel
theorem dX11_findWaits_116 : decode cX11_findWaits 116 = .ok (.iload_n 2, 1) := by decide +kernel
theorem dX11_findWaits_117 : decode cX11_findWaits 117 = .ok (.invokevirtual 154, 3) := by decide +kernel
theorem dX11_findWaits_120 : decode cX11_findWaits 120 = .ok (.istore_n 3, 1) := by decide +kernel
theorem dX11_findWaits_121 : decode cX11_findWaits 121 = .ok (.iload_n 3, 1) := by decide +kernel
theorem dX11_findWaits_122 : decode cX11_findWaits 122 = .ok (.ifCond .lt 45, 3) := by decide +kernel
theorem dX11_findWaits_125 : decode cX11_findWaits 125 = .ok (.aload_n 0, 1) := by decide +kernel
theorem dX11_findWaits_126 : decode cX11_findWaits 126 = .ok (.iload_n 1, 1) := by decide +kernel
theorem dX11_findWaits_127 : decode cX11_findWaits 127 = .ok (.iload_n 2, 1) := by decide +kernel
theorem dX11_findWaits_128 : decode cX11_findWaits 128 = .ok (.iload_n 3, 1) := by decide +kernel
theorem dX11_findWaits_129 : decode cX11_findWaits 129 = .ok (.aload_n 0, 1) := by decide +kernel
theorem dX11_findWaits_130 : decode cX11_findWaits 130 = .ok (.getfield 1, 3) := by decide +kernel
theorem dX11_findWaits_133 : decode cX11_findWaits 133 = .ok (.iload_n 1, 1) := by decide +kernel
theorem dX11_findWaits_134 : decode cX11_findWaits 134 = .ok (.iaload, 1) := by decide +kernel
theorem dX11_findWaits_135 : decode cX11_findWaits 135 = .ok (.bipush 12, 2) := by decide +kernel
theorem dX11_findWaits_137 : decode cX11_findWaits 137 = .ok (.if_icmp .ne 26, 3) := by decide +kernel
theorem dX11_findWaits_140 : decode cX11_findWaits 140 = .ok (.aload_n 0, 1) := by decide +kernel
theorem dX11_findWaits_141 : decode cX11_findWaits 141 = .ok (.getfield 1, 3) := by decide +kernel
theorem dX11_findWaits_144 : decode cX11_findWaits 144 = .ok (.iload_n 2, 1) := by decide +kernel
theorem dX11_findWaits_145 : decode cX11_findWaits 145 = .ok (.iaload, 1) := by decide +kernel
theorem dX11_findWaits_146 : decode cX11_findWaits 146 = .ok (.bipush 12, 2) := by decide +kernel
theorem dX11_findWaits_148 : decode cX11_findWaits 148 = .ok (.if_icmp .ne 7, 3) := by decide +kernel
theorem dX11_findWaits_151 : decode cX11_findWaits 151 = .ok (.iconst 1, 1) := by decide +kernel
theorem dX11_findWaits_152 : decode cX11_findWaits 152 = .ok (.goto 12, 3) := by decide +kernel
theorem dX11_findWaits_155 : decode cX11_findWaits 155 = .ok (.aload_n 0, 1) := by decide +kernel
theorem dX11_findWaits_156 : decode cX11_findWaits 156 = .ok (.iload_n 1, 1) := by decide +kernel
theorem dX11_findWaits_157 : decode cX11_findWaits 157 = .ok (.invokevirtual 147, 3) := by decide +kernel
theorem dX11_findWaits_160 : decode cX11_findWaits 160 = .ok (.goto 4, 3) := by decide +kernel
theorem dX11_findWaits_163 : decode cX11_findWaits 163 = .ok (.iconst 0, 1) := by decide +kernel
theorem dX11_findWaits_164 : decode cX11_findWaits 164 = .ok (.invokevirtual 150, 3) := by decide +kernel
theorem dX11_findWaits_167 : decode cX11_findWaits 167 = .ok (.iinc 2 1, 3) := by decide +kernel
theorem dX11_findWaits_170 : decode cX11_findWaits 170 = .ok (.goto (-153), 3) := by decide +kernel
theorem dX11_findWaits_173 : decode cX11_findWaits 173 = .ok (.iinc 1 1, 3) := by decide +kernel
theorem dX11_findWaits_176 : decode cX11_findWaits 176 = .ok (.goto (-169), 3) := by decide +kernel
theorem dX11_findWaits_179 : decode cX11_findWaits 179 = .ok (.return_, 1) := by decide +kernel
set_option maxRecDepth 20000 in
theorem ggX11_sameOver_X11_useOver : GoodIn wsX11_sameOver wsX11_useOver := goodIn_r _ [8] rfl (by decide +kernel)
set_option maxRecDepth 20000 in
theorem gX11_sameOver_X11_useOver : GoodIn wsX11_sameOver (wsV RX11 144 RX11 yX11_useOver wsX11_useOver) := goodIn_app (goodIn_of _ (by decide +kernel)) ggX11_sameOver_X11_useOver
theorem dX11_sameOver_0 : decode cX11_sameOver 0 = .ok (.aload_n 0, 1) := by decide +kernel
theorem dX11_sameOver_1 : decode cX11_sameOver 1 = .ok (.iload_n 1, 1) := by decide +kernel
theorem dX11_sameOver_2 : decode cX11_sameOver 2 = .ok (.iload_n 2, 1) := by decide +kernel
theorem dX11_sameOver_3 : decode cX11_sameOver 3 = .ok (.invokevirtual 144, 3) := by decide +kernel
theorem dX11_sameOver_6 : decode cX11_sameOver 6 = .ok (.istore_n 3, 1) := by decide +kernel
theorem dX11_sameOver_7 : decode cX11_sameOver 7 = .ok (.iload_n 3, 1) := by decide +kernel
theorem dX11_sameOver_8 : decode cX11_sameOver 8 = .ok (.aload_n 0, 1) := by decide +kernel
theorem dX11_sameOver_9 : decode cX11_sameOver 9 = .ok (.getfield 157, 3) := by decide +kernel
theorem dX11_sameOver_12 : decode cX11_sameOver 12 = .ok (.if_icmp .ge 68, 3) := by decide +kernel
theorem dX11_sameOver_15 : decode cX11_sameOver 15 = .ok (.iconst 0, 1) := by decide +kernel
theorem dX11_sameOver_16 : decode cX11_sameOver 16 = .ok (.istore 4, 2) := by decide +kernel
theorem dX11_sameOver_18 : decode cX11_sameOver 18 = .ok (.iload 4, 2) := by decide +kernel
theorem dX11_sameOver_20 : decode cX11_sameOver 20 = .ok (.iload_n 3, 1) := by decide +kernel
theorem dX11_sameOver_21 : decode cX11_sameOver 21 = .ok (.iadd, 1) := by decide +kernel
theorem dX11_sameOver_22 : decode cX11_sameOver 22 = .ok (.aload_n 0, 1) := by decide +kernel
theorem dX11_sameOver_23 : decode cX11_sameOver 23 = .ok (.getfield 157, 3) := by decide +kernel
theorem dX11_sameOver_26 : decode cX11_sameOver 26 = .ok (.if_icmp .ge 48, 3) := by decide +kernel
theorem dX11_sameOver_29 : decode cX11_sameOver 29 = .ok (.aload_n 0, 1) := by decide +kernel
theorem dX11_sameOver_30 : decode cX11_sameOver 30 = .ok (.getfield 85, 3) := by decide +kernel
theorem dX11_sameOver_33 : decode cX11_sameOver 33 = .ok (.iload_n 1, 1) := by decide +kernel
theorem dX11_sameOver_34 : decode cX11_sameOver 34 = .ok (.iaload, 1) := by decide +kernel
theorem dX11_sameOver_35 : decode cX11_sameOver 35 = .ok (.iload 4, 2) := by decide +kernel
theorem dX11_sameOver_37 : decode cX11_sameOver 37 = .ok (.imul, 1) := by decide +kernel
theorem dX11_sameOver_38 : decode cX11_sameOver 38 = .ok (.aload_n 0, 1) := by decide +kernel
theorem dX11_sameOver_39 : decode cX11_sameOver 39 = .ok (.getfield 88, 3) := by decide +kernel
theorem dX11_sameOver_42 : decode cX11_sameOver 42 = .ok (.iload_n 1, 1) := by decide +kernel
theorem dX11_sameOver_43 : decode cX11_sameOver 43 = .ok (.iaload, 1) := by decide +kernel
theorem dX11_sameOver_44 : decode cX11_sameOver 44 = .ok (.iadd, 1) := by decide +kernel
theorem dX11_sameOver_45 : decode cX11_sameOver 45 = .ok (.aload_n 0, 1) := by decide +kernel
theorem dX11_sameOver_46 : decode cX11_sameOver 46 = .ok (.getfield 85, 3) := by decide +kernel
theorem dX11_sameOver_49 : decode cX11_sameOver 49 = .ok (.iload_n 2, 1) := by decide +kernel
theorem dX11_sameOver_50 : decode cX11_sameOver 50 = .ok (.iaload, 1) := by decide +kernel
theorem dX11_sameOver_51 : decode cX11_sameOver 51 = .ok (.iload 4, 2) := by decide +kernel
theorem dX11_sameOver_53 : decode cX11_sameOver 53 = .ok (.iload_n 3, 1) := by decide +kernel
theorem dX11_sameOver_54 : decode cX11_sameOver 54 = .ok (.iadd, 1) := by decide +kernel
theorem dX11_sameOver_55 : decode cX11_sameOver 55 = .ok (.imul, 1) := by decide +kernel
theorem dX11_sameOver_56 : decode cX11_sameOver 56 = .ok (.aload_n 0, 1) := by decide +kernel
theorem dX11_sameOver_57 : decode cX11_sameOver 57 = .ok (.getfield 88, 3) := by decide +kernel
theorem dX11_sameOver_60 : decode cX11_sameOver 60 = .ok (.iload_n 2, 1) := by decide +kernel
theorem dX11_sameOver_61 : decode cX11_sameOver 61 = .ok (.iaload, 1) := by decide +kernel
theorem dX11_sameOver_62 : decode cX11_sameOver 62 = .ok (.iadd, 1) := by decide +kernel
theorem dX11_sameOver_63 : decode cX11_sameOver 63 = .ok (.if_icmp .ne 5, 3) := by decide +kernel
theorem dX11_sameOver_66 : decode cX11_sameOver 66 = .ok (.iload_n 3, 1) := by decide +kernel
theorem dX11_sameOver_67 : decode cX11_sameOver 67 = .ok (.ireturn, 1) := by decide +kernel
theorem dX11_sameOver_68 : decode cX11_sameOver 68 = .ok (.iinc 4 1, 3) := by decide +kernel
theorem dX11_sameOver_71 : decode cX11_sameOver 71 = .ok (.goto (-53), 3) := by decide +kernel
theorem dX11_sameOver_74 : decode cX11_sameOver 74 = .ok (.iinc 3 1, 3) := by decide +kernel
theorem dX11_sameOver_77 : decode cX11_sameOver 77 = .ok (.goto (-70), 3) := by decide +kernel
theorem dX11_sameOver_80 : decode cX11_sameOver 80 = .ok (.iconst (-1), 1) := by decide +kernel
theorem dX11_sameOver_81 : decode cX11_sameOver 81 = .ok (.ireturn, 1) := by decide +kernel
set_option maxRecDepth 20000 in
theorem ggX11_isIn_X11_kind : GoodIn wsX11_isIn wsX11_kind := goodIn_r _ [5, 6, 7, 8, 9, 10, 11, 12, 13, 14, 15, 16, 17, 18, 19, 20, 21, 22, 23, 24, 25, 26, 27, 28, 29, 30, 31, 32, 33, 34, 35, 36, 37, 38, 39, 40, 41, 42, 43, 44, 45, 46, 47, 48, 49, 50, 51, 52, 53, 54, 55, 56, 57] rfl (by decide +kernel)
set_option maxRecDepth 20000 in
theorem gX11_isIn_X11_kind : GoodIn wsX11_isIn (wsV RX11 116 RX11 yX11_kind wsX11_kind) := goodIn_app (goodIn_of _ (by decide +kernel)) ggX11_isIn_X11_kind
theorem dX11_isIn_0 : decode cX11_isIn 0 = .ok (.iload_n 2, 1) := by decide +kernel
theorem dX11_isIn_1 : decode cX11_isIn 1 = .ok (.ifCond .eq 45, 3) := by decide +kernel
theorem dX11_isIn_4 : decode cX11_isIn 4 = .ok (.iload_n 2, 1) := by decide +kernel
theorem dX11_isIn_5 : decode cX11_isIn 5 = .ok (.iconst 1, 1) := by decide +kernel
theorem dX11_isIn_6 : decode cX11_isIn 6 = .ok (.if_icmp .ne 12, 3) := by decide +kernel
theorem dX11_isIn_9 : decode cX11_isIn 9 = .ok (.aload_n 0, 1) := by decide +kernel
theorem dX11_isIn_10 : decode cX11_isIn 10 = .ok (.iload_n 1, 1) := by decide +kernel
theorem dX11_isIn_11 : decode cX11_isIn 11 = .ok (.invokevirtual 116, 3) := by decide +kernel
theorem dX11_isIn_14 : decode cX11_isIn 14 = .ok (.iconst 2, 1) := by decide +kernel
theorem dX11_isIn_15 : decode cX11_isIn 15 = .ok (.if_icmp .lt 31, 3) := by decide +kernel
theorem dX11_isIn_18 : decode cX11_isIn 18 = .ok (.iload_n 2, 1) := by decide +kernel
theorem dX11_isIn_19 : decode cX11_isIn 19 = .ok (.iconst 2, 1) := by decide +kernel
theorem dX11_isIn_20 : decode cX11_isIn 20 = .ok (.if_icmp .ne 12, 3) := by decide +kernel
theorem dX11_isIn_23 : decode cX11_isIn 23 = .ok (.aload_n 0, 1) := by decide +kernel
theorem dX11_isIn_24 : decode cX11_isIn 24 = .ok (.iload_n 1, 1) := by decide +kernel
theorem dX11_isIn_25 : decode cX11_isIn 25 = .ok (.invokevirtual 116, 3) := by decide +kernel
theorem dX11_isIn_28 : decode cX11_isIn 28 = .ok (.iconst 2, 1) := by decide +kernel
theorem dX11_isIn_29 : decode cX11_isIn 29 = .ok (.if_icmp .ge 17, 3) := by decide +kernel
theorem dX11_isIn_32 : decode cX11_isIn 32 = .ok (.iload_n 2, 1) := by decide +kernel
theorem dX11_isIn_33 : decode cX11_isIn 33 = .ok (.iconst 3, 1) := by decide +kernel
theorem dX11_isIn_34 : decode cX11_isIn 34 = .ok (.if_icmp .ne 16, 3) := by decide +kernel
theorem dX11_isIn_37 : decode cX11_isIn 37 = .ok (.aload_n 0, 1) := by decide +kernel
theorem dX11_isIn_38 : decode cX11_isIn 38 = .ok (.iload_n 1, 1) := by decide +kernel
theorem dX11_isIn_39 : decode cX11_isIn 39 = .ok (.invokevirtual 116, 3) := by decide +kernel
theorem dX11_isIn_42 : decode cX11_isIn 42 = .ok (.iconst 1, 1) := by decide +kernel
theorem dX11_isIn_43 : decode cX11_isIn 43 = .ok (.if_icmp .ne 7, 3) := by decide +kernel
theorem dX11_isIn_46 : decode cX11_isIn 46 = .ok (.iconst 1, 1) := by decide +kernel
theorem dX11_isIn_47 : decode cX11_isIn 47 = .ok (.goto 4, 3) := by decide +kernel
theorem dX11_isIn_50 : decode cX11_isIn 50 = .ok (.iconst 0, 1) := by decide +kernel
theorem dX11_isIn_51 : decode cX11_isIn 51 = .ok (.ireturn, 1) := by decide +kernel
theorem dX11_room_0 : decode cX11_room 0 = .ok (.iload_n 1, 1) := by decide +kernel
theorem dX11_room_1 : decode cX11_room 1 = .ok (.ifCond .ne 10, 3) := by decide +kernel
theorem dX11_room_4 : decode cX11_room 4 = .ok (.aload_n 0, 1) := by decide +kernel
theorem dX11_room_5 : decode cX11_room 5 = .ok (.getfield 160, 3) := by decide +kernel
theorem dX11_room_8 : decode cX11_room 8 = .ok (.goto 31, 3) := by decide +kernel
theorem dX11_room_11 : decode cX11_room 11 = .ok (.iload_n 1, 1) := by decide +kernel
theorem dX11_room_12 : decode cX11_room 12 = .ok (.iconst 1, 1) := by decide +kernel
theorem dX11_room_13 : decode cX11_room 13 = .ok (.if_icmp .ne 10, 3) := by decide +kernel
theorem dX11_room_16 : decode cX11_room 16 = .ok (.aload_n 0, 1) := by decide +kernel
theorem dX11_room_17 : decode cX11_room 17 = .ok (.getfield 163, 3) := by decide +kernel
theorem dX11_room_20 : decode cX11_room 20 = .ok (.goto 19, 3) := by decide +kernel
theorem dX11_room_23 : decode cX11_room 23 = .ok (.iload_n 1, 1) := by decide +kernel
theorem dX11_room_24 : decode cX11_room 24 = .ok (.iconst 2, 1) := by decide +kernel
theorem dX11_room_25 : decode cX11_room 25 = .ok (.if_icmp .ne 10, 3) := by decide +kernel
theorem dX11_room_28 : decode cX11_room 28 = .ok (.aload_n 0, 1) := by decide +kernel
theorem dX11_room_29 : decode cX11_room 29 = .ok (.getfield 166, 3) := by decide +kernel
theorem dX11_room_32 : decode cX11_room 32 = .ok (.goto 7, 3) := by decide +kernel
theorem dX11_room_35 : decode cX11_room 35 = .ok (.aload_n 0, 1) := by decide +kernel
theorem dX11_room_36 : decode cX11_room 36 = .ok (.getfield 169, 3) := by decide +kernel
theorem dX11_room_39 : decode cX11_room 39 = .ok (.ireturn, 1) := by decide +kernel
set_option maxRecDepth 20000 in
theorem ggX11_leastByUnits_X11_isIn : GoodIn wsX11_leastByUnits wsX11_isIn := goodIn_r _ [10, 11, 12, 13, 9, 14, 15, 24, 25, 26, 27, 28, 29, 30, 31, 32, 33, 34, 35, 36, 37, 38, 39, 40, 41, 42, 43, 44, 45, 46, 47, 48, 49, 50, 51, 52, 53, 54, 55, 56, 57, 58, 59, 60, 61, 62, 63, 64, 65, 66, 67, 68, 69, 70, 71, 72, 73, 74] rfl (by decide +kernel)
set_option maxRecDepth 20000 in
theorem gX11_leastByUnits_X11_isIn : GoodIn wsX11_leastByUnits (wsV RX11 172 RX11 yX11_isIn wsX11_isIn) := goodIn_app (goodIn_of _ (by decide +kernel)) ggX11_leastByUnits_X11_isIn
set_option maxRecDepth 20000 in
theorem ggX11_leastByUnits_X11_room : GoodIn wsX11_leastByUnits wsX11_room := goodIn_r _ [19, 20, 21, 22, 23, 24, 25, 26, 27, 28, 29, 30, 31, 32, 33, 34, 35, 36, 37, 38, 39, 40, 41, 42, 43, 44, 45, 46, 47, 48, 49, 50, 51, 52, 53, 54, 55, 56, 57, 58, 59, 60, 61, 62, 63, 64, 65, 66, 67, 68, 69, 70, 71, 72, 73, 74] rfl (by decide +kernel)
set_option maxRecDepth 20000 in
theorem gX11_leastByUnits_X11_room : GoodIn wsX11_leastByUnits (wsV RX11 175 RX11 yX11_room wsX11_room) := goodIn_app (goodIn_of _ (by decide +kernel)) ggX11_leastByUnits_X11_room
theorem dX11_leastByUnits_0 : decode cX11_leastByUnits 0 = .ok (.iconst 1, 1) := by decide +kernel
theorem dX11_leastByUnits_1 : decode cX11_leastByUnits 1 = .ok (.istore_n 1, 1) := by decide +kernel
theorem dX11_leastByUnits_2 : decode cX11_leastByUnits 2 = .ok (.iconst 0, 1) := by decide +kernel
theorem dX11_leastByUnits_3 : decode cX11_leastByUnits 3 = .ok (.istore_n 2, 1) := by decide +kernel
theorem dX11_leastByUnits_4 : decode cX11_leastByUnits 4 = .ok (.iload_n 2, 1) := by decide +kernel
theorem dX11_leastByUnits_5 : decode cX11_leastByUnits 5 = .ok (.iconst 4, 1) := by decide +kernel
theorem dX11_leastByUnits_6 : decode cX11_leastByUnits 6 = .ok (.if_icmp .ge 67, 3) := by decide +kernel
theorem dX11_leastByUnits_9 : decode cX11_leastByUnits 9 = .ok (.iconst 0, 1) := by decide +kernel
theorem dX11_leastByUnits_10 : decode cX11_leastByUnits 10 = .ok (.istore_n 3, 1) := by decide +kernel
theorem dX11_leastByUnits_11 : decode cX11_leastByUnits 11 = .ok (.iconst 0, 1) := by decide +kernel
theorem dX11_leastByUnits_12 : decode cX11_leastByUnits 12 = .ok (.istore 4, 2) := by decide +kernel
theorem dX11_leastByUnits_14 : decode cX11_leastByUnits 14 = .ok (.iload 4, 2) := by decide +kernel
theorem dX11_leastByUnits_16 : decode cX11_leastByUnits 16 = .ok (.aload_n 0, 1) := by decide +kernel
theorem dX11_leastByUnits_17 : decode cX11_leastByUnits 17 = .ok (.getfield 137, 3) := by decide +kernel
theorem dX11_leastByUnits_20 : decode cX11_leastByUnits 20 = .ok (.if_icmp .ge 27, 3) := by decide +kernel
theorem dX11_leastByUnits_23 : decode cX11_leastByUnits 23 = .ok (.iload_n 3, 1) := by decide +kernel
theorem dX11_leastByUnits_24 : decode cX11_leastByUnits 24 = .ok (.aload_n 0, 1) := by decide +kernel
theorem dX11_leastByUnits_25 : decode cX11_leastByUnits 25 = .ok (.iload 4, 2) := by decide +kernel
theorem dX11_leastByUnits_27 : decode cX11_leastByUnits 27 = .ok (.iload_n 2, 1) := by decide +kernel
theorem dX11_leastByUnits_28 : decode cX11_leastByUnits 28 = .ok (.invokevirtual 172, 3) := by decide +kernel
theorem dX11_leastByUnits_31 : decode cX11_leastByUnits 31 = .ok (.ifCond .eq 7, 3) := by decide +kernel
theorem dX11_leastByUnits_34 : decode cX11_leastByUnits 34 = .ok (.iconst 1, 1) := by decide +kernel
theorem dX11_leastByUnits_35 : decode cX11_leastByUnits 35 = .ok (.goto 4, 3) := by decide +kernel
theorem dX11_leastByUnits_38 : decode cX11_leastByUnits 38 = .ok (.iconst 0, 1) := by decide +kernel
theorem dX11_leastByUnits_39 : decode cX11_leastByUnits 39 = .ok (.iadd, 1) := by decide +kernel
theorem dX11_leastByUnits_40 : decode cX11_leastByUnits 40 = .ok (.istore_n 3, 1) := by decide +kernel
theorem dX11_leastByUnits_41 : decode cX11_leastByUnits 41 = .ok (.iinc 4 1, 3) := by decide +kernel
theorem dX11_leastByUnits_44 : decode cX11_leastByUnits 44 = .ok (.goto (-30), 3) := by decide +kernel
theorem dX11_leastByUnits_47 : decode cX11_leastByUnits 47 = .ok (.iload_n 1, 1) := by decide +kernel
theorem dX11_leastByUnits_48 : decode cX11_leastByUnits 48 = .ok (.iload_n 3, 1) := by decide +kernel
theorem dX11_leastByUnits_49 : decode cX11_leastByUnits 49 = .ok (.aload_n 0, 1) := by decide +kernel
theorem dX11_leastByUnits_50 : decode cX11_leastByUnits 50 = .ok (.iload_n 2, 1) := by decide +kernel
theorem dX11_leastByUnits_51 : decode cX11_leastByUnits 51 = .ok (.invokevirtual 175, 3) := by decide +kernel
theorem dX11_leastByUnits_54 : decode cX11_leastByUnits 54 = .ok (.iadd, 1) := by decide +kernel
theorem dX11_leastByUnits_55 : decode cX11_leastByUnits 55 = .ok (.iconst 1, 1) := by decide +kernel
theorem dX11_leastByUnits_56 : decode cX11_leastByUnits 56 = .ok (.isub, 1) := by decide +kernel
theorem dX11_leastByUnits_57 : decode cX11_leastByUnits 57 = .ok (.aload_n 0, 1) := by decide +kernel
theorem dX11_leastByUnits_58 : decode cX11_leastByUnits 58 = .ok (.iload_n 2, 1) := by decide +kernel
theorem dX11_leastByUnits_59 : decode cX11_leastByUnits 59 = .ok (.invokevirtual 175, 3) := by decide +kernel
theorem dX11_leastByUnits_62 : decode cX11_leastByUnits 62 = .ok (.idiv, 1) := by decide +kernel
theorem dX11_leastByUnits_63 : decode cX11_leastByUnits 63 = .ok (.invokestatic 134, 3) := by decide +kernel
theorem dX11_leastByUnits_66 : decode cX11_leastByUnits 66 = .ok (.istore_n 1, 1) := by decide +kernel
theorem dX11_leastByUnits_67 : decode cX11_leastByUnits 67 = .ok (.iinc 2 1, 3) := by decide +kernel
theorem dX11_leastByUnits_70 : decode cX11_leastByUnits 70 = .ok (.goto (-66), 3) := by decide +kernel
