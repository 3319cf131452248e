theorem dX6_ticks_129 : decode cX6_ticks 129 = .ok (.iload_n 3, 1) := by decide +kernel
theorem dX6_ticks_130 : decode cX6_ticks 130 = .ok (.iadd, 1) := by decide +kernel
theorem dX6_ticks_131 : decode cX6_ticks 131 = .ok (.iload_n 2, 1) := by decide +kernel
theorem dX6_ticks_132 : decode cX6_ticks 132 = .ok (.ifCond .eq 7, 3) := by decide +kernel
theorem dX6_ticks_135 : decode cX6_ticks 135 = .ok (.iconst 0, 1) := by decide +kernel
theorem dX6_ticks_136 : decode cX6_ticks 136 = .ok (.goto 12, 3) := by decide +kernel
theorem dX6_ticks_139 : decode cX6_ticks 139 = .ok (.aload_n 0, 1) := by decide +kernel
theorem dX6_ticks_140 : decode cX6_ticks 140 = .ok (.getfield 19, 3) := by decide +kernel
theorem dX6_ticks_143 : decode cX6_ticks 143 = .ok (.bipush 73, 2) := by decide +kernel
theorem dX6_ticks_145 : decode cX6_ticks 145 = .ok (.iload_n 3, 1) := by decide +kernel
theorem dX6_ticks_146 : decode cX6_ticks 146 = .ok (.iadd, 1) := by decide +kernel
theorem dX6_ticks_147 : decode cX6_ticks 147 = .ok (.iaload, 1) := by decide +kernel
theorem dX6_ticks_148 : decode cX6_ticks 148 = .ok (.iastore, 1) := by decide +kernel
theorem dX6_ticks_149 : decode cX6_ticks 149 = .ok (.aload_n 0, 1) := by decide +kernel
theorem dX6_ticks_150 : decode cX6_ticks 150 = .ok (.getfield 19, 3) := by decide +kernel
theorem dX6_ticks_153 : decode cX6_ticks 153 = .ok (.bipush 67, 2) := by decide +kernel
theorem dX6_ticks_155 : decode cX6_ticks 155 = .ok (.iload_n 3, 1) := by decide +kernel
theorem dX6_ticks_156 : decode cX6_ticks 156 = .ok (.iadd, 1) := by decide +kernel
theorem dX6_ticks_157 : decode cX6_ticks 157 = .ok (.iaload, 1) := by decide +kernel
theorem dX6_ticks_158 : decode cX6_ticks 158 = .ok (.ifCond .ne 89, 3) := by decide +kernel
theorem dX6_ticks_161 : decode cX6_ticks 161 = .ok (.aload_n 0, 1) := by decide +kernel
theorem dX6_ticks_162 : decode cX6_ticks 162 = .ok (.getfield 19, 3) := by decide +kernel
theorem dX6_ticks_165 : decode cX6_ticks 165 = .ok (.bipush 61, 2) := by decide +kernel
theorem dX6_ticks_167 : decode cX6_ticks 167 = .ok (.iload_n 3, 1) := by decide +kernel
theorem dX6_ticks_168 : decode cX6_ticks 168 = .ok (.iadd, 1) := by decide +kernel
theorem dX6_ticks_169 : decode cX6_ticks 169 = .ok (.aload_n 0, 1) := by decide +kernel
theorem dX6_ticks_170 : decode cX6_ticks 170 = .ok (.iload_n 3, 1) := by decide +kernel
theorem dX6_ticks_171 : decode cX6_ticks 171 = .ok (.invokevirtual 149, 3) := by decide +kernel
theorem dX6_ticks_174 : decode cX6_ticks 174 = .ok (.ifCond .eq 17, 3) := by decide +kernel
theorem dX6_ticks_177 : decode cX6_ticks 177 = .ok (.aload_n 0, 1) := by decide +kernel
theorem dX6_ticks_178 : decode cX6_ticks 178 = .ok (.getfield 19, 3) := by decide +kernel
theorem dX6_ticks_181 : decode cX6_ticks 181 = .ok (.bipush 61, 2) := by decide +kernel
theorem dX6_ticks_183 : decode cX6_ticks 183 = .ok (.iload_n 3, 1) := by decide +kernel
theorem dX6_ticks_184 : decode cX6_ticks 184 = .ok (.iadd, 1) := by decide +kernel
theorem dX6_ticks_185 : decode cX6_ticks 185 = .ok (.iaload, 1) := by decide +kernel
theorem dX6_ticks_186 : decode cX6_ticks 186 = .ok (.iconst 1, 1) := by decide +kernel
theorem dX6_ticks_187 : decode cX6_ticks 187 = .ok (.iadd, 1) := by decide +kernel
theorem dX6_ticks_188 : decode cX6_ticks 188 = .ok (.goto 4, 3) := by decide +kernel
theorem dX6_ticks_191 : decode cX6_ticks 191 = .ok (.iconst 0, 1) := by decide +kernel
theorem dX6_ticks_192 : decode cX6_ticks 192 = .ok (.iastore, 1) := by decide +kernel
theorem dX6_ticks_193 : decode cX6_ticks 193 = .ok (.aload_n 0, 1) := by decide +kernel
theorem dX6_ticks_194 : decode cX6_ticks 194 = .ok (.getfield 19, 3) := by decide +kernel
theorem dX6_ticks_197 : decode cX6_ticks 197 = .ok (.bipush 67, 2) := by decide +kernel
theorem dX6_ticks_199 : decode cX6_ticks 199 = .ok (.iload_n 3, 1) := by decide +kernel
theorem dX6_ticks_200 : decode cX6_ticks 200 = .ok (.iadd, 1) := by decide +kernel
theorem dX6_ticks_201 : decode cX6_ticks 201 = .ok (.aload_n 0, 1) := by decide +kernel
theorem dX6_ticks_202 : decode cX6_ticks 202 = .ok (.getfield 19, 3) := by decide +kernel
theorem dX6_ticks_205 : decode cX6_ticks 205 = .ok (.bipush 61, 2) := by decide +kernel
theorem dX6_ticks_207 : decode cX6_ticks 207 = .ok (.iload_n 3, 1) := by decide +kernel
theorem dX6_ticks_208 : decode cX6_ticks 208 = .ok (.iadd, 1) := by decide +kernel
theorem dX6_ticks_209 : decode cX6_ticks 209 = .ok (.iaload, 1) := by decide +kernel
theorem dX6_ticks_210 : decode cX6_ticks 210 = .ok (.aload_n 0, 1) := by decide +kernel
theorem dX6_ticks_211 : decode cX6_ticks 211 = .ok (.getfield 19, 3) := by decide +kernel
theorem dX6_ticks_214 : decode cX6_ticks 214 = .ok (.bipush 85, 2) := by decide +kernel
theorem dX6_ticks_216 : decode cX6_ticks 216 = .ok (.iaload, 1) := by decide +kernel
theorem dX6_ticks_217 : decode cX6_ticks 217 = .ok (.iconst 1, 1) := by decide +kernel
theorem dX6_ticks_218 : decode cX6_ticks 218 = .ok (.if_icmp .ne 19, 3) := by decide +kernel
theorem dX6_ticks_221 : decode cX6_ticks 221 = .ok (.aload_n 0, 1) := by decide +kernel
theorem dX6_ticks_222 : decode cX6_ticks 222 = .ok (.getfield 13, 3) := by decide +kernel
theorem dX6_ticks_225 : decode cX6_ticks 225 = .ok (.bipush 36, 2) := by decide +kernel
theorem dX6_ticks_227 : decode cX6_ticks 227 = .ok (.iconst 4, 1) := by decide +kernel
theorem dX6_ticks_228 : decode cX6_ticks 228 = .ok (.iload_n 3, 1) := by decide +kernel
theorem dX6_ticks_229 : decode cX6_ticks 229 = .ok (.imul, 1) := by decide +kernel
theorem dX6_ticks_230 : decode cX6_ticks 230 = .ok (.iadd, 1) := by decide +kernel
theorem dX6_ticks_231 : decode cX6_ticks 231 = .ok (.iconst 2, 1) := by decide +kernel
theorem dX6_ticks_232 : decode cX6_ticks 232 = .ok (.iadd, 1) := by decide +kernel
theorem dX6_ticks_233 : decode cX6_ticks 233 = .ok (.iaload, 1) := by decide +kernel
theorem dX6_ticks_234 : decode cX6_ticks 234 = .ok (.goto 4, 3) := by decide +kernel
theorem dX6_ticks_237 : decode cX6_ticks 237 = .ok (.iconst 0, 1) := by decide +kernel
theorem dX6_ticks_238 : decode cX6_ticks 238 = .ok (.if_icmp .le 7, 3) := by decide +kernel
theorem dX6_ticks_241 : decode cX6_ticks 241 = .ok (.iconst 1, 1) := by decide +kernel
theorem dX6_ticks_242 : decode cX6_ticks 242 = .ok (.goto 4, 3) := by decide +kernel
theorem dX6_ticks_245 : decode cX6_ticks 245 = .ok (.iconst 0, 1) := by decide +kernel
theorem dX6_ticks_246 : decode cX6_ticks 246 = .ok (.iastore, 1) := by decide +kernel
theorem dX6_ticks_247 : decode cX6_ticks 247 = .ok (.iinc 3 1, 3) := by decide +kernel
theorem dX6_ticks_250 : decode cX6_ticks 250 = .ok (.goto (-138), 3) := by decide +kernel
theorem dX6_ticks_253 : decode cX6_ticks 253 = .ok (.iload_n 1, 1) := by decide +kernel
theorem dX6_ticks_254 : decode cX6_ticks 254 = .ok (.ireturn, 1) := by decide +kernel
set_option maxRecDepth 20000 in
theorem ggX6_tick_X6_in : GoodIn wsX6_tick wsX6_in := goodIn_r _ [6] (by decide +kernel) (by decide +kernel)
set_option maxRecDepth 20000 in
theorem gX6_tick_X6_in : GoodIn wsX6_tick (va_wsS RX6 54 yX6_in wsX6_in) := goodIn_app (goodIn_of _ (by decide +kernel)) ggX6_tick_X6_in
set_option maxRecDepth 20000 in
theorem ggX6_tick_X6_note : GoodIn wsX6_tick wsX6_note := goodIn_r _ [10, 11, 12, 2, 64, 65, 66, 67, 68, 69, 70, 71, 72, 73, 74, 75] (by decide +kernel) (by decide +kernel)
set_option maxRecDepth 20000 in
theorem gX6_tick_X6_note : GoodIn wsX6_tick (wsV RX6 84 RX6 yX6_note wsX6_note) := goodIn_app (goodIn_of _ (by decide +kernel)) ggX6_tick_X6_note
set_option maxRecDepth 20000 in
theorem ggX6_tick_X6_ticks : GoodIn wsX6_tick wsX6_ticks := goodIn_r _ [16, 2, 17, 18, 19, 20, 5, 21, 22, 23, 24, 25, 26, 27, 28, 29, 30, 31, 32, 33, 34, 35, 36, 37, 38, 39, 40, 41, 42, 43, 44, 45, 46, 47, 48, 49, 50, 51, 52, 53, 54, 55, 56, 57, 58, 59, 60, 61, 62, 63, 64, 65, 66, 67, 68, 69, 70, 71, 72, 73, 74, 75] (by decide +kernel) (by decide +kernel)
set_option maxRecDepth 20000 in
theorem gX6_tick_X6_ticks : GoodIn wsX6_tick (wsV RX6 154 RX6 yX6_ticks wsX6_ticks) := goodIn_app (goodIn_of _ (by decide +kernel)) ggX6_tick_X6_ticks
theorem dX6_tick_0 : decode cX6_tick 0 = .ok (.iload_n 1, 1) := by decide +kernel
theorem dX6_tick_1 : decode cX6_tick 1 = .ok (.i2l, 1) := by decide +kernel
theorem dX6_tick_2 : decode cX6_tick 2 = .ok (.lconst 1, 1) := by decide +kernel
theorem dX6_tick_3 : decode cX6_tick 3 = .ok (.ldc2_w 152, 3) := by decide +kernel
theorem dX6_tick_6 : decode cX6_tick 6 = .ok (.invokestatic 54, 3) := by decide +kernel
theorem dX6_tick_9 : decode cX6_tick 9 = .ok (.ifCond .ne 5, 3) := by decide +kernel
theorem dX6_tick_12 : decode cX6_tick 12 = .ok (.iconst (-1), 1) := by decide +kernel
theorem dX6_tick_13 : decode cX6_tick 13 = .ok (.ireturn, 1) := by decide +kernel
theorem dX6_tick_14 : decode cX6_tick 14 = .ok (.aload_n 0, 1) := by decide +kernel
theorem dX6_tick_15 : decode cX6_tick 15 = .ok (.getfield 19, 3) := by decide +kernel
theorem dX6_tick_18 : decode cX6_tick 18 = .ok (.bipush 86, 2) := by decide +kernel
theorem dX6_tick_20 : decode cX6_tick 20 = .ok (.iaload, 1) := by decide +kernel
theorem dX6_tick_21 : decode cX6_tick 21 = .ok (.iload_n 1, 1) := by decide +kernel
theorem dX6_tick_22 : decode cX6_tick 22 = .ok (.iadd, 1) := by decide +kernel
theorem dX6_tick_23 : decode cX6_tick 23 = .ok (.sipush 9999, 3) := by decide +kernel
theorem dX6_tick_26 : decode cX6_tick 26 = .ok (.if_icmp .le 6, 3) := by decide +kernel
theorem dX6_tick_29 : decode cX6_tick 29 = .ok (.bipush (-2), 2) := by decide +kernel
theorem dX6_tick_31 : decode cX6_tick 31 = .ok (.ireturn, 1) := by decide +kernel
theorem dX6_tick_32 : decode cX6_tick 32 = .ok (.aload_n 0, 1) := by decide +kernel
theorem dX6_tick_33 : decode cX6_tick 33 = .ok (.invokevirtual 84, 3) := by decide +kernel
theorem dX6_tick_36 : decode cX6_tick 36 = .ok (.iconst 0, 1) := by decide +kernel
theorem dX6_tick_37 : decode cX6_tick 37 = .ok (.istore_n 2, 1) := by decide +kernel
theorem dX6_tick_38 : decode cX6_tick 38 = .ok (.iconst 0, 1) := by decide +kernel
theorem dX6_tick_39 : decode cX6_tick 39 = .ok (.istore_n 3, 1) := by decide +kernel
theorem dX6_tick_40 : decode cX6_tick 40 = .ok (.iload_n 3, 1) := by decide +kernel
theorem dX6_tick_41 : decode cX6_tick 41 = .ok (.iload_n 1, 1) := by decide +kernel
theorem dX6_tick_42 : decode cX6_tick 42 = .ok (.if_icmp .ge 20, 3) := by decide +kernel
theorem dX6_tick_45 : decode cX6_tick 45 = .ok (.aload_n 0, 1) := by decide +kernel
theorem dX6_tick_46 : decode cX6_tick 46 = .ok (.invokevirtual 154, 3) := by decide +kernel
theorem dX6_tick_49 : decode cX6_tick 49 = .ok (.istore 4, 2) := by decide +kernel
theorem dX6_tick_51 : decode cX6_tick 51 = .ok (.iload_n 2, 1) := by decide +kernel
theorem dX6_tick_52 : decode cX6_tick 52 = .ok (.iload 4, 2) := by decide +kernel
theorem dX6_tick_54 : decode cX6_tick 54 = .ok (.iadd, 1) := by decide +kernel
theorem dX6_tick_55 : decode cX6_tick 55 = .ok (.istore_n 2, 1) := by decide +kernel
theorem dX6_tick_56 : decode cX6_tick 56 = .ok (.iinc 3 1, 3) := by decide +kernel
theorem dX6_tick_59 : decode cX6_tick 59 = .ok (.goto (-19), 3) := by decide +kernel
theorem dX6_tick_62 : decode cX6_tick 62 = .ok (.iload_n 2, 1) := by decide +kernel
theorem dX6_tick_63 : decode cX6_tick 63 = .ok (.ireturn, 1) := by decide +kernel
theorem dX6_isSounding_0 : decode cX6_isSounding 0 = .ok (.aload_n 0, 1) := by decide +kernel
theorem dX6_isSounding_1 : decode cX6_isSounding 1 = .ok (.getfield 13, 3) := by decide +kernel
theorem dX6_isSounding_4 : decode cX6_isSounding 4 = .ok (.bipush 36, 2) := by decide +kernel
theorem dX6_isSounding_6 : decode cX6_isSounding 6 = .ok (.iconst 4, 1) := by decide +kernel
theorem dX6_isSounding_7 : decode cX6_isSounding 7 = .ok (.iload_n 1, 1) := by decide +kernel
theorem dX6_isSounding_8 : decode cX6_isSounding 8 = .ok (.imul, 1) := by decide +kernel
theorem dX6_isSounding_9 : decode cX6_isSounding 9 = .ok (.iadd, 1) := by decide +kernel
theorem dX6_isSounding_10 : decode cX6_isSounding 10 = .ok (.iconst 3, 1) := by decide +kernel
theorem dX6_isSounding_11 : decode cX6_isSounding 11 = .ok (.iadd, 1) := by decide +kernel
theorem dX6_isSounding_12 : decode cX6_isSounding 12 = .ok (.iaload, 1) := by decide +kernel
theorem dX6_isSounding_13 : decode cX6_isSounding 13 = .ok (.iconst 1, 1) := by decide +kernel
theorem dX6_isSounding_14 : decode cX6_isSounding 14 = .ok (.if_icmp .ne 32, 3) := by decide +kernel
theorem dX6_isSounding_17 : decode cX6_isSounding 17 = .ok (.aload_n 0, 1) := by decide +kernel
theorem dX6_isSounding_18 : decode cX6_isSounding 18 = .ok (.getfield 19, 3) := by decide +kernel
theorem dX6_isSounding_21 : decode cX6_isSounding 21 = .ok (.bipush 67, 2) := by decide +kernel
theorem dX6_isSounding_23 : decode cX6_isSounding 23 = .ok (.iload_n 1, 1) := by decide +kernel
theorem dX6_isSounding_24 : decode cX6_isSounding 24 = .ok (.iadd, 1) := by decide +kernel
theorem dX6_isSounding_25 : decode cX6_isSounding 25 = .ok (.iaload, 1) := by decide +kernel
theorem dX6_isSounding_26 : decode cX6_isSounding 26 = .ok (.iconst 1, 1) := by decide +kernel
theorem dX6_isSounding_27 : decode cX6_isSounding 27 = .ok (.if_icmp .ne 19, 3) := by decide +kernel
theorem dX6_isSounding_30 : decode cX6_isSounding 30 = .ok (.aload_n 0, 1) := by decide +kernel
theorem dX6_isSounding_31 : decode cX6_isSounding 31 = .ok (.getfield 19, 3) := by decide +kernel
theorem dX6_isSounding_34 : decode cX6_isSounding 34 = .ok (.bipush 73, 2) := by decide +kernel
theorem dX6_isSounding_36 : decode cX6_isSounding 36 = .ok (.iload_n 1, 1) := by decide +kernel
theorem dX6_isSounding_37 : decode cX6_isSounding 37 = .ok (.iadd, 1) := by decide +kernel
theorem dX6_isSounding_38 : decode cX6_isSounding 38 = .ok (.iaload, 1) := by decide +kernel
theorem dX6_isSounding_39 : decode cX6_isSounding 39 = .ok (.ifCond .ne 7, 3) := by decide +kernel
theorem dX6_isSounding_42 : decode cX6_isSounding 42 = .ok (.iconst 1, 1) := by decide +kernel
theorem dX6_isSounding_43 : decode cX6_isSounding 43 = .ok (.goto 4, 3) := by decide +kernel
theorem dX6_isSounding_46 : decode cX6_isSounding 46 = .ok (.iconst 0, 1) := by decide +kernel
theorem dX6_isSounding_47 : decode cX6_isSounding 47 = .ok (.ireturn, 1) := by decide +kernel
set_option maxRecDepth 20000 in
theorem ggX6_sounding_X6_isSounding : GoodIn wsX6_sounding wsX6_isSounding := goodIn_r _ [6, 1, 7, 8, 9, 10, 11, 12, 13, 14, 15, 16, 17, 18, 19] (by decide +kernel) (by decide +kernel)
set_option maxRecDepth 20000 in
theorem gX6_sounding_X6_isSounding : GoodIn wsX6_sounding (wsV RX6 157 RX6 yX6_isSounding wsX6_isSounding) := goodIn_app (goodIn_of _ (by decide +kernel)) ggX6_sounding_X6_isSounding
theorem dX6_sounding_0 : decode cX6_sounding 0 = .ok (.iconst 0, 1) := by decide +kernel
theorem dX6_sounding_1 : decode cX6_sounding 1 = .ok (.istore_n 1, 1) := by decide +kernel
theorem dX6_sounding_2 : decode cX6_sounding 2 = .ok (.iconst 0, 1) := by decide +kernel
theorem dX6_sounding_3 : decode cX6_sounding 3 = .ok (.istore_n 2, 1) := by decide +kernel
theorem dX6_sounding_4 : decode cX6_sounding 4 = .ok (.iload_n 2, 1) := by decide +kernel
theorem dX6_sounding_5 : decode cX6_sounding 5 = .ok (.aload_n 0, 1) := by decide +kernel
theorem dX6_sounding_6 : decode cX6_sounding 6 = .ok (.getfield 13, 3) := by decide +kernel
theorem dX6_sounding_9 : decode cX6_sounding 9 = .ok (.bipush 61, 2) := by decide +kernel
theorem dX6_sounding_11 : decode cX6_sounding 11 = .ok (.iaload, 1) := by decide +kernel
theorem dX6_sounding_12 : decode cX6_sounding 12 = .ok (.if_icmp .ge 25, 3) := by decide +kernel
theorem dX6_sounding_15 : decode cX6_sounding 15 = .ok (.iload_n 1, 1) := by decide +kernel
theorem dX6_sounding_16 : decode cX6_sounding 16 = .ok (.aload_n 0, 1) := by decide +kernel
theorem dX6_sounding_17 : decode cX6_sounding 17 = .ok (.iload_n 2, 1) := by decide +kernel
theorem dX6_sounding_18 : decode cX6_sounding 18 = .ok (.invokevirtual 157, 3) := by decide +kernel
theorem dX6_sounding_21 : decode cX6_sounding 21 = .ok (.ifCond .eq 7, 3) := by decide +kernel
theorem dX6_sounding_24 : decode cX6_sounding 24 = .ok (.iconst 1, 1) := by decide +kernel
theorem dX6_sounding_25 : decode cX6_sounding 25 = .ok (.goto 4, 3) := by decide +kernel
theorem dX6_sounding_28 : decode cX6_sounding 28 = .ok (.iconst 0, 1) := by decide +kernel
theorem dX6_sounding_29 : decode cX6_sounding 29 = .ok (.iadd, 1) := by decide +kernel
theorem dX6_sounding_30 : decode cX6_sounding 30 = .ok (.istore_n 1, 1) := by decide +kernel
theorem dX6_sounding_31 : decode cX6_sounding 31 = .ok (.iinc 2 1, 3) := by decide +kernel
theorem dX6_sounding_34 : decode cX6_sounding 34 = .ok (.goto (-30), 3) := by decide +kernel
theorem dX6_sounding_37 : decode cX6_sounding 37 = .ok (.iload_n 1, 1) := by decide +kernel
theorem dX6_sounding_38 : decode cX6_sounding 38 = .ok (.ireturn, 1) := by decide +kernel
set_option maxRecDepth 20000 in
theorem ggX6_silence_X6_sounding : GoodIn wsX6_silence wsX6_sounding := goodIn_r _ [7, 1, 8, 9, 10, 6, 11, 2, 18, 19, 20, 21, 22, 23, 24, 25, 26, 27, 28, 29] (by decide +kernel) (by decide +kernel)
set_option maxRecDepth 20000 in
theorem gX6_silence_X6_sounding : GoodIn wsX6_silence (wsV RX6 160 RX6 yX6_sounding wsX6_sounding) := goodIn_app (goodIn_of _ (by decide +kernel)) ggX6_silence_X6_sounding
set_option maxRecDepth 20000 in
theorem ggX6_silence_X6_note : GoodIn wsX6_silence wsX6_note := goodIn_r _ [15, 16, 17, 2, 18, 19, 20, 21, 22, 23, 24, 25, 26, 27, 28, 29] (by decide +kernel) (by decide +kernel)
set_option maxRecDepth 20000 in
theorem gX6_silence_X6_note : GoodIn wsX6_silence (wsV RX6 84 RX6 yX6_note wsX6_note) := goodIn_app (goodIn_of _ (by decide +kernel)) ggX6_silence_X6_note
set_option maxRecDepth 20000 in
theorem ggX6_silence_X6_isSounding : GoodIn wsX6_silence wsX6_isSounding := goodIn_r _ [11, 1, 2, 18, 19, 20, 21, 22, 23, 24, 25, 26, 27, 28, 29] (by decide +kernel) (by decide +kernel)
set_option maxRecDepth 20000 in
theorem gX6_silence_X6_isSounding : GoodIn wsX6_silence (wsV RX6 157 RX6 yX6_isSounding wsX6_isSounding) := goodIn_app (goodIn_of _ (by decide +kernel)) ggX6_silence_X6_isSounding
theorem dX6_silence_0 : decode cX6_silence 0 = .ok (.aload_n 0, 1) := by decide +kernel
theorem dX6_silence_1 : decode cX6_silence 1 = .ok (.invokevirtual 160, 3) := by decide +kernel
theorem dX6_silence_4 : decode cX6_silence 4 = .ok (.istore_n 1, 1) := by decide +kernel
theorem dX6_silence_5 : decode cX6_silence 5 = .ok (.iload_n 1, 1) := by decide +kernel
theorem dX6_silence_6 : decode cX6_silence 6 = .ok (.ifCond .ne 6, 3) := by decide +kernel
theorem dX6_silence_9 : decode cX6_silence 9 = .ok (.bipush (-2), 2) := by decide +kernel
theorem dX6_silence_11 : decode cX6_silence 11 = .ok (.ireturn, 1) := by decide +kernel
theorem dX6_silence_12 : decode cX6_silence 12 = .ok (.aload_n 0, 1) := by decide +kernel
theorem dX6_silence_13 : decode cX6_silence 13 = .ok (.invokevirtual 84, 3) := by decide +kernel
theorem dX6_silence_16 : decode cX6_silence 16 = .ok (.iconst 0, 1) := by decide +kernel
theorem dX6_silence_17 : decode cX6_silence 17 = .ok (.istore_n 2, 1) := by decide +kernel
theorem dX6_silence_18 : decode cX6_silence 18 = .ok (.iload_n 2, 1) := by decide +kernel
theorem dX6_silence_19 : decode cX6_silence 19 = .ok (.aload_n 0, 1) := by decide +kernel
theorem dX6_silence_20 : decode cX6_silence 20 = .ok (.getfield 13, 3) := by decide +kernel
theorem dX6_silence_23 : decode cX6_silence 23 = .ok (.bipush 61, 2) := by decide +kernel
theorem dX6_silence_25 : decode cX6_silence 25 = .ok (.iaload, 1) := by decide +kernel
theorem dX6_silence_26 : decode cX6_silence 26 = .ok (.if_icmp .ge 39, 3) := by decide +kernel
theorem dX6_silence_29 : decode cX6_silence 29 = .ok (.aload_n 0, 1) := by decide +kernel
theorem dX6_silence_30 : decode cX6_silence 30 = .ok (.getfield 19, 3) := by decide +kernel
theorem dX6_silence_33 : decode cX6_silence 33 = .ok (.bipush 73, 2) := by decide +kernel
theorem dX6_silence_35 : decode cX6_silence 35 = .ok (.iload_n 2, 1) := by decide +kernel
theorem dX6_silence_36 : decode cX6_silence 36 = .ok (.iadd, 1) := by decide +kernel
theorem dX6_silence_37 : decode cX6_silence 37 = .ok (.aload_n 0, 1) := by decide +kernel
theorem dX6_silence_38 : decode cX6_silence 38 = .ok (.iload_n 2, 1) := by decide +kernel
theorem dX6_silence_39 : decode cX6_silence 39 = .ok (.invokevirtual 157, 3) := by decide +kernel
theorem dX6_silence_42 : decode cX6_silence 42 = .ok (.ifCond .eq 7, 3) := by decide +kernel
theorem dX6_silence_45 : decode cX6_silence 45 = .ok (.iconst 1, 1) := by decide +kernel
theorem dX6_silence_46 : decode cX6_silence 46 = .ok (.goto 12, 3) := by decide +kernel
theorem dX6_silence_49 : decode cX6_silence 49 = .ok (.aload_n 0, 1) := by decide +kernel
theorem dX6_silence_50 : decode cX6_silence 50 = .ok (.getfield 19, 3) := by decide +kernel
theorem dX6_silence_53 : decode cX6_silence 53 = .ok (.bipush 73, 2) := by decide +kernel
theorem dX6_silence_55 : decode cX6_silence 55 = .ok (.iload_n 2, 1) := by decide +kernel
theorem dX6_silence_56 : decode cX6_silence 56 = .ok (.iadd, 1) := by decide +kernel
theorem dX6_silence_57 : decode cX6_silence 57 = .ok (.iaload, 1) := by decide +kernel
theorem dX6_silence_58 : decode cX6_silence 58 = .ok (.iastore, 1) := by decide +kernel
theorem dX6_silence_59 : decode cX6_silence 59 = .ok (.iinc 2 1, 3) := by decide +kernel
theorem dX6_silence_62 : decode cX6_silence 62 = .ok (.goto (-44), 3) := by decide +kernel
theorem dX6_silence_65 : decode cX6_silence 65 = .ok (.iload_n 1, 1) := by decide +kernel
theorem dX6_silence_66 : decode cX6_silence 66 = .ok (.ireturn, 1) := by decide +kernel
set_option maxRecDepth 20000 in
theorem ggX6_reset_X6_sumOf : GoodIn wsX6_reset wsX6_sumOf := goodIn_r _ [6, 1, 13, 14, 15, 16, 17, 18, 19, 20, 21, 22, 23, 24] (by decide +kernel) (by decide +kernel)
set_option maxRecDepth 20000 in
theorem gX6_reset_X6_sumOf : GoodIn wsX6_reset (wsV RX6 101 RX6 yX6_sumOf wsX6_sumOf) := goodIn_app (goodIn_of _ (by decide +kernel)) ggX6_reset_X6_sumOf
set_option maxRecDepth 20000 in
theorem ggX6_reset_X6_note : GoodIn wsX6_reset wsX6_note := goodIn_r _ [10, 11, 12, 1, 13, 14, 15, 16, 17, 18, 19, 20, 21, 22, 23, 24] (by decide +kernel) (by decide +kernel)
set_option maxRecDepth 20000 in
theorem gX6_reset_X6_note : GoodIn wsX6_reset (wsV RX6 84 RX6 yX6_note wsX6_note) := goodIn_app (goodIn_of _ (by decide +kernel)) ggX6_reset_X6_note
theorem dX6_reset_0 : decode cX6_reset 0 = .ok (.aload_n 0, 1) := by decide +kernel
theorem dX6_reset_1 : decode cX6_reset 1 = .ok (.bipush 36, 2) := by decide +kernel
theorem dX6_reset_3 : decode cX6_reset 3 = .ok (.bipush 12, 2) := by decide +kernel
theorem dX6_reset_5 : decode cX6_reset 5 = .ok (.invokevirtual 101, 3) := by decide +kernel
theorem dX6_reset_8 : decode cX6_reset 8 = .ok (.istore_n 1, 1) := by decide +kernel
theorem dX6_reset_9 : decode cX6_reset 9 = .ok (.iload_n 1, 1) := by decide +kernel
theorem dX6_reset_10 : decode cX6_reset 10 = .ok (.ifCond .ne 17, 3) := by decide +kernel
theorem dX6_reset_13 : decode cX6_reset 13 = .ok (.aload_n 0, 1) := by decide +kernel
theorem dX6_reset_14 : decode cX6_reset 14 = .ok (.bipush 67, 2) := by decide +kernel
theorem dX6_reset_16 : decode cX6_reset 16 = .ok (.bipush 6, 2) := by decide +kernel
theorem dX6_reset_18 : decode cX6_reset 18 = .ok (.invokevirtual 101, 3) := by decide +kernel
theorem dX6_reset_21 : decode cX6_reset 21 = .ok (.ifCond .ne 6, 3) := by decide +kernel
theorem dX6_reset_24 : decode cX6_reset 24 = .ok (.bipush (-2), 2) := by decide +kernel
theorem dX6_reset_26 : decode cX6_reset 26 = .ok (.ireturn, 1) := by decide +kernel
theorem dX6_reset_27 : decode cX6_reset 27 = .ok (.aload_n 0, 1) := by decide +kernel
theorem dX6_reset_28 : decode cX6_reset 28 = .ok (.invokevirtual 84, 3) := by decide +kernel
theorem dX6_reset_31 : decode cX6_reset 31 = .ok (.iconst 0, 1) := by decide +kernel
theorem dX6_reset_32 : decode cX6_reset 32 = .ok (.istore_n 2, 1) := by decide +kernel
theorem dX6_reset_33 : decode cX6_reset 33 = .ok (.iload_n 2, 1) := by decide +kernel
theorem dX6_reset_34 : decode cX6_reset 34 = .ok (.bipush 12, 2) := by decide +kernel
theorem dX6_reset_36 : decode cX6_reset 36 = .ok (.if_icmp .ge 29, 3) := by decide +kernel
theorem dX6_reset_39 : decode cX6_reset 39 = .ok (.aload_n 0, 1) := by decide +kernel
theorem dX6_reset_40 : decode cX6_reset 40 = .ok (.getfield 19, 3) := by decide +kernel
theorem dX6_reset_43 : decode cX6_reset 43 = .ok (.bipush 36, 2) := by decide +kernel
theorem dX6_reset_45 : decode cX6_reset 45 = .ok (.iload_n 2, 1) := by decide +kernel
theorem dX6_reset_46 : decode cX6_reset 46 = .ok (.iadd, 1) := by decide +kernel
theorem dX6_reset_47 : decode cX6_reset 47 = .ok (.iconst 0, 1) := by decide +kernel
theorem dX6_reset_48 : decode cX6_reset 48 = .ok (.iastore, 1) := by decide +kernel
theorem dX6_reset_49 : decode cX6_reset 49 = .ok (.aload_n 0, 1) := by decide +kernel
theorem dX6_reset_50 : decode cX6_reset 50 = .ok (.getfield 19, 3) := by decide +kernel
theorem dX6_reset_53 : decode cX6_reset 53 = .ok (.bipush 24, 2) := by decide +kernel
theorem dX6_reset_55 : decode cX6_reset 55 = .ok (.iload_n 2, 1) := by decide +kernel
theorem dX6_reset_56 : decode cX6_reset 56 = .ok (.iadd, 1) := by decide +kernel
theorem dX6_reset_57 : decode cX6_reset 57 = .ok (.iconst 0, 1) := by decide +kernel
theorem dX6_reset_58 : decode cX6_reset 58 = .ok (.iastore, 1) := by decide +kernel
theorem dX6_reset_59 : decode cX6_reset 59 = .ok (.iinc 2 1, 3) := by decide +kernel
theorem dX6_reset_62 : decode cX6_reset 62 = .ok (.goto (-29), 3) := by decide +kernel
theorem dX6_reset_65 : decode cX6_reset 65 = .ok (.iconst 0, 1) := by decide +kernel
theorem dX6_reset_66 : decode cX6_reset 66 = .ok (.istore_n 2, 1) := by decide +kernel
theorem dX6_reset_67 : decode cX6_reset 67 = .ok (.iload_n 2, 1) := by decide +kernel
theorem dX6_reset_68 : decode cX6_reset 68 = .ok (.bipush 6, 2) := by decide +kernel
theorem dX6_reset_70 : decode cX6_reset 70 = .ok (.if_icmp .ge 49, 3) := by decide +kernel
theorem dX6_reset_73 : decode cX6_reset 73 = .ok (.aload_n 0, 1) := by decide +kernel
theorem dX6_reset_74 : decode cX6_reset 74 = .ok (.getfield 19, 3) := by decide +kernel
theorem dX6_reset_77 : decode cX6_reset 77 = .ok (.bipush 61, 2) := by decide +kernel
theorem dX6_reset_79 : decode cX6_reset 79 = .ok (.iload_n 2, 1) := by decide +kernel
theorem dX6_reset_80 : decode cX6_reset 80 = .ok (.iadd, 1) := by decide +kernel
theorem dX6_reset_81 : decode cX6_reset 81 = .ok (.iconst 0, 1) := by decide +kernel
theorem dX6_reset_82 : decode cX6_reset 82 = .ok (.iastore, 1) := by decide +kernel
theorem dX6_reset_83 : decode cX6_reset 83 = .ok (.aload_n 0, 1) := by decide +kernel
theorem dX6_reset_84 : decode cX6_reset 84 = .ok (.getfield 19, 3) := by decide +kernel
theorem dX6_reset_87 : decode cX6_reset 87 = .ok (.bipush 67, 2) := by decide +kernel
theorem dX6_reset_89 : decode cX6_reset 89 = .ok (.iload_n 2, 1) := by decide +kernel
theorem dX6_reset_90 : decode cX6_reset 90 = .ok (.iadd, 1) := by decide +kernel
theorem dX6_reset_91 : decode cX6_reset 91 = .ok (.iconst 0, 1) := by decide +kernel
theorem dX6_reset_92 : decode cX6_reset 92 = .ok (.iastore, 1) := by decide +kernel
theorem dX6_reset_93 : decode cX6_reset 93 = .ok (.aload_n 0, 1) := by decide +kernel
theorem dX6_reset_94 : decode cX6_reset 94 = .ok (.getfield 19, 3) := by decide +kernel
theorem dX6_reset_97 : decode cX6_reset 97 = .ok (.bipush 73, 2) := by decide +kernel
theorem dX6_reset_99 : decode cX6_reset 99 = .ok (.iload_n 2, 1) := by decide +kernel
theorem dX6_reset_100 : decode cX6_reset 100 = .ok (.iadd, 1) := by decide +kernel
theorem dX6_reset_101 : decode cX6_reset 101 = .ok (.iconst 0, 1) := by decide +kernel
theorem dX6_reset_102 : decode cX6_reset 102 = .ok (.iastore, 1) := by decide +kernel
theorem dX6_reset_103 : decode cX6_reset 103 = .ok (.aload_n 0, 1) := by decide +kernel
theorem dX6_reset_104 : decode cX6_reset 104 = .ok (.getfield 19, 3) := by decide +kernel
theorem dX6_reset_107 : decode cX6_reset 107 = .ok (.bipush 79, 2) := by decide +kernel
theorem dX6_reset_109 : decode cX6_reset 109 = .ok (.iload_n 2, 1) := by decide +kernel
theorem dX6_reset_110 : decode cX6_reset 110 = .ok (.iadd, 1) := by decide +kernel
theorem dX6_reset_111 : decode cX6_reset 111 = .ok (.iconst 0, 1) := by decide +kernel
theorem dX6_reset_112 : decode cX6_reset 112 = .ok (.iastore, 1) := by decide +kernel
theorem dX6_reset_113 : decode cX6_reset 113 = .ok (.iinc 2 1, 3) := by decide +kernel
theorem dX6_reset_116 : decode cX6_reset 116 = .ok (.goto (-49), 3) := by decide +kernel
theorem dX6_reset_119 : decode cX6_reset 119 = .ok (.iload_n 1, 1) := by decide +kernel
theorem dX6_reset_120 : decode cX6_reset 120 = .ok (.ireturn, 1) := by decide +kernel
set_option maxRecDepth 20000 in
theorem ggX6_device_X6_isDevice : GoodIn wsX6_device wsX6_isDevice := goodIn_r _ [8, 2, 9, 10, 7, 11, 42, 43, 44, 45, 46, 47, 48, 49, 50, 51, 52, 53] (by decide +kernel) (by decide +kernel)
set_option maxRecDepth 20000 in
theorem gX6_device_X6_isDevice : GoodIn wsX6_device (wsV RX6 87 RX6 yX6_isDevice wsX6_isDevice) := goodIn_app (goodIn_of _ (by decide +kernel)) ggX6_device_X6_isDevice
set_option maxRecDepth 20000 in
theorem ggX6_device_X6_in : GoodIn wsX6_device wsX6_in := goodIn_r _ [11] (by decide +kernel) (by decide +kernel)
set_option maxRecDepth 20000 in
theorem gX6_device_X6_in : GoodIn wsX6_device (va_wsS RX6 54 yX6_in wsX6_in) := goodIn_app (goodIn_of _ (by decide +kernel)) ggX6_device_X6_in
set_option maxRecDepth 20000 in
theorem ggX6_device_X6_value : GoodIn wsX6_device wsX6_value := goodIn_r _ [15, 3, 42, 43, 44, 45, 46, 47, 48, 49, 50, 51, 52, 53] (by decide +kernel) (by decide +kernel)
set_option maxRecDepth 20000 in
theorem gX6_device_X6_value : GoodIn wsX6_device (wsV RX6 140 RX6 yX6_value wsX6_value) := goodIn_app (goodIn_of _ (by decide +kernel)) ggX6_device_X6_value
set_option maxRecDepth 20000 in
theorem ggX6_device_X6_isSensor : GoodIn wsX6_device wsX6_isSensor := goodIn_r _ [19, 2, 42, 43, 44, 45, 46, 47, 48, 49, 50, 51, 52, 53] (by decide +kernel) (by decide +kernel)
set_option maxRecDepth 20000 in
theorem gX6_device_X6_isSensor : GoodIn wsX6_device (wsV RX6 143 RX6 yX6_isSensor wsX6_isSensor) := goodIn_app (goodIn_of _ (by decide +kernel)) ggX6_device_X6_isSensor
set_option maxRecDepth 20000 in
theorem ggX6_device_X6_stops : GoodIn wsX6_device wsX6_stops := goodIn_r _ [23, 2, 24, 25, 26, 7, 27, 28, 29, 30, 31, 32, 3, 33, 34, 35, 36, 37, 38, 39, 40, 41, 42, 43, 44, 45, 46, 47, 48, 49, 50, 51, 52, 53] (by decide +kernel) (by decide +kernel)
set_option maxRecDepth 20000 in
theorem gX6_device_X6_stops : GoodIn wsX6_device (wsV RX6 116 RX6 yX6_stops wsX6_stops) := goodIn_app (goodIn_of _ (by decide +kernel)) ggX6_device_X6_stops
theorem dX6_device_0 : decode cX6_device 0 = .ok (.aload_n 0, 1) := by decide +kernel
theorem dX6_device_1 : decode cX6_device 1 = .ok (.iload_n 1, 1) := by decide +kernel
theorem dX6_device_2 : decode cX6_device 2 = .ok (.invokevirtual 87, 3) := by decide +kernel
theorem dX6_device_5 : decode cX6_device 5 = .ok (.ifCond .eq 15, 3) := by decide +kernel
theorem dX6_device_8 : decode cX6_device 8 = .ok (.iload_n 2, 1) := by decide +kernel
theorem dX6_device_9 : decode cX6_device 9 = .ok (.i2l, 1) := by decide +kernel
theorem dX6_device_10 : decode cX6_device 10 = .ok (.lconst 0, 1) := by decide +kernel
theorem dX6_device_11 : decode cX6_device 11 = .ok (.ldc2_w 163, 3) := by decide +kernel
theorem dX6_device_14 : decode cX6_device 14 = .ok (.invokestatic 54, 3) := by decide +kernel
theorem dX6_device_17 : decode cX6_device 17 = .ok (.ifCond .ne 5, 3) := by decide +kernel
theorem dX6_device_20 : decode cX6_device 20 = .ok (.iconst (-1), 1) := by decide +kernel
theorem dX6_device_21 : decode cX6_device 21 = .ok (.ireturn, 1) := by decide +kernel
theorem dX6_device_22 : decode cX6_device 22 = .ok (.aload_n 0, 1) := by decide +kernel
theorem dX6_device_23 : decode cX6_device 23 = .ok (.iload_n 1, 1) := by decide +kernel
theorem dX6_device_24 : decode cX6_device 24 = .ok (.invokevirtual 140, 3) := by decide +kernel
theorem dX6_device_27 : decode cX6_device 27 = .ok (.istore_n 3, 1) := by decide +kernel
theorem dX6_device_28 : decode cX6_device 28 = .ok (.iload_n 2, 1) := by decide +kernel
theorem dX6_device_29 : decode cX6_device 29 = .ok (.tableswitch 150 0 7 #[47, 47, 47, 58, 67, 77, 79, 89], 47) := by decide +kernel
theorem dX6_device_76 : decode cX6_device 76 = .ok (.aload_n 0, 1) := by decide +kernel
theorem dX6_device_77 : decode cX6_device 77 = .ok (.getfield 13, 3) := by decide +kernel
theorem dX6_device_80 : decode cX6_device 80 = .ok (.iconst 3, 1) := by decide +kernel
theorem dX6_device_81 : decode cX6_device 81 = .ok (.iload_n 1, 1) := by decide +kernel
theorem dX6_device_82 : decode cX6_device 82 = .ok (.imul, 1) := by decide +kernel
theorem dX6_device_83 : decode cX6_device 83 = .ok (.iload_n 2, 1) := by decide +kernel
theorem dX6_device_84 : decode cX6_device 84 = .ok (.iadd, 1) := by decide +kernel
theorem dX6_device_85 : decode cX6_device 85 = .ok (.iaload, 1) := by decide +kernel
theorem dX6_device_86 : decode cX6_device 86 = .ok (.ireturn, 1) := by decide +kernel
theorem dX6_device_87 : decode cX6_device 87 = .ok (.aload_n 0, 1) := by decide +kernel
theorem dX6_device_88 : decode cX6_device 88 = .ok (.getfield 19, 3) := by decide +kernel
theorem dX6_device_91 : decode cX6_device 91 = .ok (.iconst 0, 1) := by decide +kernel
theorem dX6_device_92 : decode cX6_device 92 = .ok (.iload_n 1, 1) := by decide +kernel
theorem dX6_device_93 : decode cX6_device 93 = .ok (.iadd, 1) := by decide +kernel
theorem dX6_device_94 : decode cX6_device 94 = .ok (.iaload, 1) := by decide +kernel
theorem dX6_device_95 : decode cX6_device 95 = .ok (.ireturn, 1) := by decide +kernel
theorem dX6_device_96 : decode cX6_device 96 = .ok (.aload_n 0, 1) := by decide +kernel
theorem dX6_device_97 : decode cX6_device 97 = .ok (.getfield 19, 3) := by decide +kernel
theorem dX6_device_100 : decode cX6_device 100 = .ok (.bipush 12, 2) := by decide +kernel
theorem dX6_device_102 : decode cX6_device 102 = .ok (.iload_n 1, 1) := by decide +kernel
theorem dX6_device_103 : decode cX6_device 103 = .ok (.iadd, 1) := by decide +kernel
theorem dX6_device_104 : decode cX6_device 104 = .ok (.iaload, 1) := by decide +kernel
theorem dX6_device_105 : decode cX6_device 105 = .ok (.ireturn, 1) := by decide +kernel
theorem dX6_device_106 : decode cX6_device 106 = .ok (.iload_n 3, 1) := by decide +kernel
theorem dX6_device_107 : decode cX6_device 107 = .ok (.ireturn, 1) := by decide +kernel
theorem dX6_device_108 : decode cX6_device 108 = .ok (.aload_n 0, 1) := by decide +kernel
theorem dX6_device_109 : decode cX6_device 109 = .ok (.getfield 19, 3) := by decide +kernel
theorem dX6_device_112 : decode cX6_device 112 = .ok (.bipush 24, 2) := by decide +kernel
theorem dX6_device_114 : decode cX6_device 114 = .ok (.iload_n 1, 1) := by decide +kernel
theorem dX6_device_115 : decode cX6_device 115 = .ok (.iadd, 1) := by decide +kernel
theorem dX6_device_116 : decode cX6_device 116 = .ok (.iaload, 1) := by decide +kernel
theorem dX6_device_117 : decode cX6_device 117 = .ok (.ireturn, 1) := by decide +kernel
theorem dX6_device_118 : decode cX6_device 118 = .ok (.aload_n 0, 1) := by decide +kernel
theorem dX6_device_119 : decode cX6_device 119 = .ok (.getfield 19, 3) := by decide +kernel
theorem dX6_device_122 : decode cX6_device 122 = .ok (.bipush 36, 2) := by decide +kernel
theorem dX6_device_124 : decode cX6_device 124 = .ok (.iload_n 1, 1) := by decide +kernel
theorem dX6_device_125 : decode cX6_device 125 = .ok (.iadd, 1) := by decide +kernel
theorem dX6_device_126 : decode cX6_device 126 = .ok (.iaload, 1) := by decide +kernel
theorem dX6_device_127 : decode cX6_device 127 = .ok (.iconst 1, 1) := by decide +kernel
theorem dX6_device_128 : decode cX6_device 128 = .ok (.if_icmp .ne 7, 3) := by decide +kernel
theorem dX6_device_131 : decode cX6_device 131 = .ok (.iconst 3, 1) := by decide +kernel
theorem dX6_device_132 : decode cX6_device 132 = .ok (.goto 46, 3) := by decide +kernel
theorem dX6_device_135 : decode cX6_device 135 = .ok (.aload_n 0, 1) := by decide +kernel
theorem dX6_device_136 : decode cX6_device 136 = .ok (.iload_n 1, 1) := by decide +kernel
theorem dX6_device_137 : decode cX6_device 137 = .ok (.invokevirtual 143, 3) := by decide +kernel
theorem dX6_device_140 : decode cX6_device 140 = .ok (.ifCond .ne 7, 3) := by decide +kernel
theorem dX6_device_143 : decode cX6_device 143 = .ok (.iconst 0, 1) := by decide +kernel
theorem dX6_device_144 : decode cX6_device 144 = .ok (.goto 34, 3) := by decide +kernel
theorem dX6_device_147 : decode cX6_device 147 = .ok (.iload_n 3, 1) := by decide +kernel
theorem dX6_device_148 : decode cX6_device 148 = .ok (.aload_n 0, 1) := by decide +kernel
theorem dX6_device_149 : decode cX6_device 149 = .ok (.getfield 13, 3) := by decide +kernel
theorem dX6_device_152 : decode cX6_device 152 = .ok (.bipush 63, 2) := by decide +kernel
theorem dX6_device_154 : decode cX6_device 154 = .ok (.iaload, 1) := by decide +kernel
theorem dX6_device_155 : decode cX6_device 155 = .ok (.if_icmp .lt 7, 3) := by decide +kernel
theorem dX6_device_158 : decode cX6_device 158 = .ok (.iconst 2, 1) := by decide +kernel
theorem dX6_device_159 : decode cX6_device 159 = .ok (.goto 19, 3) := by decide +kernel
theorem dX6_device_162 : decode cX6_device 162 = .ok (.iload_n 3, 1) := by decide +kernel
theorem dX6_device_163 : decode cX6_device 163 = .ok (.aload_n 0, 1) := by decide +kernel
theorem dX6_device_164 : decode cX6_device 164 = .ok (.getfield 13, 3) := by decide +kernel
theorem dX6_device_167 : decode cX6_device 167 = .ok (.bipush 62, 2) := by decide +kernel
theorem dX6_device_169 : decode cX6_device 169 = .ok (.iaload, 1) := by decide +kernel
theorem dX6_device_170 : decode cX6_device 170 = .ok (.if_icmp .lt 7, 3) := by decide +kernel
theorem dX6_device_173 : decode cX6_device 173 = .ok (.iconst 1, 1) := by decide +kernel
theorem dX6_device_174 : decode cX6_device 174 = .ok (.goto 4, 3) := by decide +kernel
theorem dX6_device_177 : decode cX6_device 177 = .ok (.iconst 0, 1) := by decide +kernel
theorem dX6_device_178 : decode cX6_device 178 = .ok (.ireturn, 1) := by decide +kernel
theorem dX6_device_179 : decode cX6_device 179 = .ok (.aload_n 0, 1) := by decide +kernel
theorem dX6_device_180 : decode cX6_device 180 = .ok (.iload_n 1, 1) := by decide +kernel
theorem dX6_device_181 : decode cX6_device 181 = .ok (.iconst 1, 1) := by decide +kernel
theorem dX6_device_182 : decode cX6_device 182 = .ok (.invokevirtual 116, 3) := by decide +kernel
theorem dX6_device_185 : decode cX6_device 185 = .ok (.bipush (-4), 2) := by decide +kernel
theorem dX6_device_187 : decode cX6_device 187 = .ok (.if_icmp .ne 7, 3) := by decide +kernel
theorem dX6_device_190 : decode cX6_device 190 = .ok (.iconst 1, 1) := by decide +kernel
theorem dX6_device_191 : decode cX6_device 191 = .ok (.goto 4, 3) := by decide +kernel
theorem dX6_device_194 : decode cX6_device 194 = .ok (.iconst 0, 1) := by decide +kernel
theorem dX6_device_195 : decode cX6_device 195 = .ok (.aload_n 0, 1) := by decide +kernel
theorem dX6_device_196 : decode cX6_device 196 = .ok (.iload_n 1, 1) := by decide +kernel
theorem dX6_device_197 : decode cX6_device 197 = .ok (.iconst 2, 1) := by decide +kernel
theorem dX6_device_198 : decode cX6_device 198 = .ok (.invokevirtual 116, 3) := by decide +kernel
theorem dX6_device_201 : decode cX6_device 201 = .ok (.bipush (-4), 2) := by decide +kernel
theorem dX6_device_203 : decode cX6_device 203 = .ok (.if_icmp .ne 7, 3) := by decide +kernel
theorem dX6_device_206 : decode cX6_device 206 = .ok (.iconst 2, 1) := by decide +kernel
theorem dX6_device_207 : decode cX6_device 207 = .ok (.goto 4, 3) := by decide +kernel
theorem dX6_device_210 : decode cX6_device 210 = .ok (.iconst 0, 1) := by decide +kernel
theorem dX6_device_211 : decode cX6_device 211 = .ok (.iadd, 1) := by decide +kernel
theorem dX6_device_212 : decode cX6_device 212 = .ok (.ireturn, 1) := by decide +kernel
set_option maxRecDepth 20000 in
theorem ggX6_since_X6_in : GoodIn wsX6_since wsX6_in := goodIn_r _ [6] (by decide +kernel) (by decide +kernel)
set_option maxRecDepth 20000 in
theorem gX6_since_X6_in : GoodIn wsX6_since (va_wsS RX6 54 yX6_in wsX6_in) := goodIn_app (goodIn_of _ (by decide +kernel)) ggX6_since_X6_in
set_option maxRecDepth 20000 in
theorem ggX6_since_X6_isZone : GoodIn wsX6_since wsX6_isZone := goodIn_r _ [10, 11, 2, 12, 13, 14, 15, 16, 17, 18, 19, 20, 21, 22, 23] (by decide +kernel) (by decide +kernel)
set_option maxRecDepth 20000 in
theorem gX6_since_X6_isZone : GoodIn wsX6_since (wsV RX6 137 RX6 yX6_isZone wsX6_isZone) := goodIn_app (goodIn_of _ (by decide +kernel)) ggX6_since_X6_isZone
theorem dX6_since_0 : decode cX6_since 0 = .ok (.iload_n 1, 1) := by decide +kernel
theorem dX6_since_1 : decode cX6_since 1 = .ok (.i2l, 1) := by decide +kernel
theorem dX6_since_2 : decode cX6_since 2 = .ok (.lconst 0, 1) := by decide +kernel
theorem dX6_since_3 : decode cX6_since 3 = .ok (.ldc2_w 165, 3) := by decide +kernel
theorem dX6_since_6 : decode cX6_since 6 = .ok (.invokestatic 54, 3) := by decide +kernel
theorem dX6_since_9 : decode cX6_since 9 = .ok (.ifCond .eq 31, 3) := by decide +kernel
theorem dX6_since_12 : decode cX6_since 12 = .ok (.aload_n 0, 1) := by decide +kernel
theorem dX6_since_13 : decode cX6_since 13 = .ok (.iload_n 1, 1) := by decide +kernel
theorem dX6_since_14 : decode cX6_since 14 = .ok (.invokevirtual 137, 3) := by decide +kernel
theorem dX6_since_17 : decode cX6_since 17 = .ok (.ifCond .eq 23, 3) := by decide +kernel
theorem dX6_since_20 : decode cX6_since 20 = .ok (.aload_n 0, 1) := by decide +kernel
theorem dX6_since_21 : decode cX6_since 21 = .ok (.getfield 19, 3) := by decide +kernel
theorem dX6_since_24 : decode cX6_since 24 = .ok (.bipush 86, 2) := by decide +kernel
theorem dX6_since_26 : decode cX6_since 26 = .ok (.iaload, 1) := by decide +kernel
theorem dX6_since_27 : decode cX6_since 27 = .ok (.aload_n 0, 1) := by decide +kernel
theorem dX6_since_28 : decode cX6_since 28 = .ok (.getfield 19, 3) := by decide +kernel
theorem dX6_since_31 : decode cX6_since 31 = .ok (.bipush 79, 2) := by decide +kernel
theorem dX6_since_33 : decode cX6_since 33 = .ok (.iload_n 1, 1) := by decide +kernel
theorem dX6_since_34 : decode cX6_since 34 = .ok (.iadd, 1) := by decide +kernel
theorem dX6_since_35 : decode cX6_since 35 = .ok (.iaload, 1) := by decide +kernel
theorem dX6_since_36 : decode cX6_since 36 = .ok (.isub, 1) := by decide +kernel
theorem dX6_since_37 : decode cX6_since 37 = .ok (.goto 4, 3) := by decide +kernel
theorem dX6_since_40 : decode cX6_since 40 = .ok (.iconst (-1), 1) := by decide +kernel
theorem dX6_since_41 : decode cX6_since 41 = .ok (.ireturn, 1) := by decide +kernel
set_option maxRecDepth 20000 in
theorem ggX6_leave_X6_since : GoodIn wsX6_leave wsX6_since := goodIn_r _ [6, 7, 8, 9, 10, 5, 11, 12, 13, 14, 15, 1, 16, 17, 18, 19, 20, 21, 22, 23, 24, 25, 26, 27] (by decide +kernel) (by decide +kernel)
set_option maxRecDepth 20000 in
theorem gX6_leave_X6_since : GoodIn wsX6_leave (wsV RX6 167 RX6 yX6_since wsX6_since) := goodIn_app (goodIn_of _ (by decide +kernel)) ggX6_leave_X6_since
theorem dX6_leave_0 : decode cX6_leave 0 = .ok (.aload_n 0, 1) := by decide +kernel
theorem dX6_leave_1 : decode cX6_leave 1 = .ok (.getfield 13, 3) := by decide +kernel
theorem dX6_leave_4 : decode cX6_leave 4 = .ok (.bipush 66, 2) := by decide +kernel
theorem dX6_leave_6 : decode cX6_leave 6 = .ok (.iaload, 1) := by decide +kernel
theorem dX6_leave_7 : decode cX6_leave 7 = .ok (.istore_n 2, 1) := by decide +kernel
theorem dX6_leave_8 : decode cX6_leave 8 = .ok (.iconst 0, 1) := by decide +kernel
theorem dX6_leave_9 : decode cX6_leave 9 = .ok (.istore_n 3, 1) := by decide +kernel
theorem dX6_leave_10 : decode cX6_leave 10 = .ok (.iconst 0, 1) := by decide +kernel
theorem dX6_leave_11 : decode cX6_leave 11 = .ok (.istore 4, 2) := by decide +kernel
theorem dX6_leave_13 : decode cX6_leave 13 = .ok (.iload 4, 2) := by decide +kernel
theorem dX6_leave_15 : decode cX6_leave 15 = .ok (.bipush 6, 2) := by decide +kernel
theorem dX6_leave_17 : decode cX6_leave 17 = .ok (.if_icmp .ge 31, 3) := by decide +kernel
theorem dX6_leave_20 : decode cX6_leave 20 = .ok (.iload_n 3, 1) := by decide +kernel
theorem dX6_leave_21 : decode cX6_leave 21 = .ok (.ifCond .ne 15, 3) := by decide +kernel
theorem dX6_leave_24 : decode cX6_leave 24 = .ok (.aload_n 0, 1) := by decide +kernel
theorem dX6_leave_25 : decode cX6_leave 25 = .ok (.iload 4, 2) := by decide +kernel
theorem dX6_leave_27 : decode cX6_leave 27 = .ok (.invokevirtual 167, 3) := by decide +kernel
theorem dX6_leave_30 : decode cX6_leave 30 = .ok (.iconst 2, 1) := by decide +kernel
theorem dX6_leave_31 : decode cX6_leave 31 = .ok (.iload_n 2, 1) := by decide +kernel
theorem dX6_leave_32 : decode cX6_leave 32 = .ok (.imul, 1) := by decide +kernel
theorem dX6_leave_33 : decode cX6_leave 33 = .ok (.if_icmp .lt 7, 3) := by decide +kernel
theorem dX6_leave_36 : decode cX6_leave 36 = .ok (.iconst 1, 1) := by decide +kernel
theorem dX6_leave_37 : decode cX6_leave 37 = .ok (.goto 4, 3) := by decide +kernel
theorem dX6_leave_40 : decode cX6_leave 40 = .ok (.iconst 0, 1) := by decide +kernel
theorem dX6_leave_41 : decode cX6_leave 41 = .ok (.istore_n 3, 1) := by decide +kernel
theorem dX6_leave_42 : decode cX6_leave 42 = .ok (.iinc 4 1, 3) := by decide +kernel
theorem dX6_leave_45 : decode cX6_leave 45 = .ok (.goto (-32), 3) := by decide +kernel
theorem dX6_leave_48 : decode cX6_leave 48 = .ok (.aload_n 0, 1) := by decide +kernel
theorem dX6_leave_49 : decode cX6_leave 49 = .ok (.iload_n 1, 1) := by decide +kernel
theorem dX6_leave_50 : decode cX6_leave 50 = .ok (.invokevirtual 167, 3) := by decide +kernel
theorem dX6_leave_53 : decode cX6_leave 53 = .ok (.ifCond .lt 7, 3) := by decide +kernel
theorem dX6_leave_56 : decode cX6_leave 56 = .ok (.iconst 1, 1) := by decide +kernel
theorem dX6_leave_57 : decode cX6_leave 57 = .ok (.goto 38, 3) := by decide +kernel
theorem dX6_leave_60 : decode cX6_leave 60 = .ok (.aload_n 0, 1) := by decide +kernel
theorem dX6_leave_61 : decode cX6_leave 61 = .ok (.iload_n 1, 1) := by decide +kernel
theorem dX6_leave_62 : decode cX6_leave 62 = .ok (.iconst 1, 1) := by decide +kernel
theorem dX6_leave_63 : decode cX6_leave 63 = .ok (.isub, 1) := by decide +kernel
theorem dX6_leave_64 : decode cX6_leave 64 = .ok (.invokevirtual 167, 3) := by decide +kernel
theorem dX6_leave_67 : decode cX6_leave 67 = .ok (.iload_n 2, 1) := by decide +kernel
theorem dX6_leave_68 : decode cX6_leave 68 = .ok (.if_icmp .ge 14, 3) := by decide +kernel
theorem dX6_leave_71 : decode cX6_leave 71 = .ok (.aload_n 0, 1) := by decide +kernel
theorem dX6_leave_72 : decode cX6_leave 72 = .ok (.iload_n 1, 1) := by decide +kernel
theorem dX6_leave_73 : decode cX6_leave 73 = .ok (.iconst 1, 1) := by decide +kernel
theorem dX6_leave_74 : decode cX6_leave 74 = .ok (.iadd, 1) := by decide +kernel
theorem dX6_leave_75 : decode cX6_leave 75 = .ok (.invokevirtual 167, 3) := by decide +kernel
theorem dX6_leave_78 : decode cX6_leave 78 = .ok (.iload_n 2, 1) := by decide +kernel
theorem dX6_leave_79 : decode cX6_leave 79 = .ok (.if_icmp .lt 7, 3) := by decide +kernel
theorem dX6_leave_82 : decode cX6_leave 82 = .ok (.iconst 2, 1) := by decide +kernel
theorem dX6_leave_83 : decode cX6_leave 83 = .ok (.goto 12, 3) := by decide +kernel
theorem dX6_leave_86 : decode cX6_leave 86 = .ok (.iload_n 3, 1) := by decide +kernel
theorem dX6_leave_87 : decode cX6_leave 87 = .ok (.ifCond .eq 7, 3) := by decide +kernel
theorem dX6_leave_90 : decode cX6_leave 90 = .ok (.iconst 3, 1) := by decide +kernel
theorem dX6_leave_91 : decode cX6_leave 91 = .ok (.goto 4, 3) := by decide +kernel
theorem dX6_leave_94 : decode cX6_leave 94 = .ok (.iconst 0, 1) := by decide +kernel
theorem dX6_leave_95 : decode cX6_leave 95 = .ok (.ireturn, 1) := by decide +kernel
set_option maxRecDepth 20000 in
theorem ggX6_inZone_X6_isLost : GoodIn wsX6_inZone wsX6_isLost := goodIn_r _ [7, 8, 9, 10, 6, 11, 1, 12, 13, 14, 15, 16, 17, 18, 19, 20, 2, 21, 22, 23, 24, 25, 26, 27, 28, 29, 30, 31, 32, 33, 34, 35, 36, 37, 38, 39, 40, 41] (by decide +kernel) (by decide +kernel)
set_option maxRecDepth 20000 in
theorem gX6_inZone_X6_isLost : GoodIn wsX6_inZone (wsV RX6 119 RX6 yX6_isLost wsX6_isLost) := goodIn_app (goodIn_of _ (by decide +kernel)) ggX6_inZone_X6_isLost
theorem dX6_inZone_0 : decode cX6_inZone 0 = .ok (.iconst 0, 1) := by decide +kernel
theorem dX6_inZone_1 : decode cX6_inZone 1 = .ok (.istore_n 3, 1) := by decide +kernel
theorem dX6_inZone_2 : decode cX6_inZone 2 = .ok (.iconst 0, 1) := by decide +kernel
theorem dX6_inZone_3 : decode cX6_inZone 3 = .ok (.istore 4, 2) := by decide +kernel
theorem dX6_inZone_5 : decode cX6_inZone 5 = .ok (.iload 4, 2) := by decide +kernel
theorem dX6_inZone_7 : decode cX6_inZone 7 = .ok (.aload_n 0, 1) := by decide +kernel
theorem dX6_inZone_8 : decode cX6_inZone 8 = .ok (.getfield 13, 3) := by decide +kernel
theorem dX6_inZone_11 : decode cX6_inZone 11 = .ok (.bipush 60, 2) := by decide +kernel
theorem dX6_inZone_13 : decode cX6_inZone 13 = .ok (.iaload, 1) := by decide +kernel
theorem dX6_inZone_14 : decode cX6_inZone 14 = .ok (.if_icmp .ge 82, 3) := by decide +kernel
theorem dX6_inZone_17 : decode cX6_inZone 17 = .ok (.aload_n 0, 1) := by decide +kernel
theorem dX6_inZone_18 : decode cX6_inZone 18 = .ok (.getfield 13, 3) := by decide +kernel
theorem dX6_inZone_21 : decode cX6_inZone 21 = .ok (.iconst 3, 1) := by decide +kernel
theorem dX6_inZone_22 : decode cX6_inZone 22 = .ok (.iload 4, 2) := by decide +kernel
theorem dX6_inZone_24 : decode cX6_inZone 24 = .ok (.imul, 1) := by decide +kernel
theorem dX6_inZone_25 : decode cX6_inZone 25 = .ok (.iconst 1, 1) := by decide +kernel
theorem dX6_inZone_26 : decode cX6_inZone 26 = .ok (.iadd, 1) := by decide +kernel
theorem dX6_inZone_27 : decode cX6_inZone 27 = .ok (.iaload, 1) := by decide +kernel
theorem dX6_inZone_28 : decode cX6_inZone 28 = .ok (.iload_n 1, 1) := by decide +kernel
theorem dX6_inZone_29 : decode cX6_inZone 29 = .ok (.if_icmp .ne 7, 3) := by decide +kernel
theorem dX6_inZone_32 : decode cX6_inZone 32 = .ok (.iconst 1, 1) := by decide +kernel
theorem dX6_inZone_33 : decode cX6_inZone 33 = .ok (.goto 4, 3) := by decide +kernel
theorem dX6_inZone_36 : decode cX6_inZone 36 = .ok (.iconst 0, 1) := by decide +kernel
theorem dX6_inZone_37 : decode cX6_inZone 37 = .ok (.istore 5, 2) := by decide +kernel
theorem dX6_inZone_39 : decode cX6_inZone 39 = .ok (.iload_n 3, 1) := by decide +kernel
theorem dX6_inZone_40 : decode cX6_inZone 40 = .ok (.iload 5, 2) := by decide +kernel
theorem dX6_inZone_42 : decode cX6_inZone 42 = .ok (.ifCond .eq 45, 3) := by decide +kernel
theorem dX6_inZone_45 : decode cX6_inZone 45 = .ok (.iload_n 2, 1) := by decide +kernel
theorem dX6_inZone_46 : decode cX6_inZone 46 = .ok (.iconst 3, 1) := by decide +kernel
theorem dX6_inZone_47 : decode cX6_inZone 47 = .ok (.if_icmp .eq 36, 3) := by decide +kernel
theorem dX6_inZone_50 : decode cX6_inZone 50 = .ok (.iload_n 2, 1) := by decide +kernel
theorem dX6_inZone_51 : decode cX6_inZone 51 = .ok (.iconst 4, 1) := by decide +kernel
theorem dX6_inZone_52 : decode cX6_inZone 52 = .ok (.if_icmp .ne 12, 3) := by decide +kernel
theorem dX6_inZone_55 : decode cX6_inZone 55 = .ok (.aload_n 0, 1) := by decide +kernel
theorem dX6_inZone_56 : decode cX6_inZone 56 = .ok (.iload 4, 2) := by decide +kernel
theorem dX6_inZone_58 : decode cX6_inZone 58 = .ok (.invokevirtual 119, 3) := by decide +kernel
theorem dX6_inZone_61 : decode cX6_inZone 61 = .ok (.ifCond .ne 22, 3) := by decide +kernel
theorem dX6_inZone_64 : decode cX6_inZone 64 = .ok (.iload_n 2, 1) := by decide +kernel
theorem dX6_inZone_65 : decode cX6_inZone 65 = .ok (.iconst 5, 1) := by decide +kernel
theorem dX6_inZone_66 : decode cX6_inZone 66 = .ok (.if_icmp .ne 21, 3) := by decide +kernel
theorem dX6_inZone_69 : decode cX6_inZone 69 = .ok (.aload_n 0, 1) := by decide +kernel
theorem dX6_inZone_70 : decode cX6_inZone 70 = .ok (.getfield 19, 3) := by decide +kernel
theorem dX6_inZone_73 : decode cX6_inZone 73 = .ok (.bipush 36, 2) := by decide +kernel
theorem dX6_inZone_75 : decode cX6_inZone 75 = .ok (.iload 4, 2) := by decide +kernel
theorem dX6_inZone_77 : decode cX6_inZone 77 = .ok (.iadd, 1) := by decide +kernel
theorem dX6_inZone_78 : decode cX6_inZone 78 = .ok (.iaload, 1) := by decide +kernel
theorem dX6_inZone_79 : decode cX6_inZone 79 = .ok (.iconst 1, 1) := by decide +kernel
theorem dX6_inZone_80 : decode cX6_inZone 80 = .ok (.if_icmp .ne 7, 3) := by decide +kernel
theorem dX6_inZone_83 : decode cX6_inZone 83 = .ok (.iconst 1, 1) := by decide +kernel
theorem dX6_inZone_84 : decode cX6_inZone 84 = .ok (.goto 4, 3) := by decide +kernel
theorem dX6_inZone_87 : decode cX6_inZone 87 = .ok (.iconst 0, 1) := by decide +kernel
theorem dX6_inZone_88 : decode cX6_inZone 88 = .ok (.iadd, 1) := by decide +kernel
theorem dX6_inZone_89 : decode cX6_inZone 89 = .ok (.istore_n 3, 1) := by decide +kernel
theorem dX6_inZone_90 : decode cX6_inZone 90 = .ok (.iinc 4 1, 3) := by decide +kernel
theorem dX6_inZone_93 : decode cX6_inZone 93 = .ok (.goto (-88), 3) := by decide +kernel
theorem dX6_inZone_96 : decode cX6_inZone 96 = .ok (.iload_n 3, 1) := by decide +kernel
theorem dX6_inZone_97 : decode cX6_inZone 97 = .ok (.ireturn, 1) := by decide +kernel
set_option maxRecDepth 20000 in
theorem ggX6_zone_X6_in : GoodIn wsX6_zone wsX6_in := goodIn_r _ [5] (by decide +kernel) (by decide +kernel)
set_option maxRecDepth 20000 in
theorem gX6_zone_X6_in : GoodIn wsX6_zone (va_wsS RX6 54 yX6_in wsX6_in) := goodIn_app (goodIn_of _ (by decide +kernel)) ggX6_zone_X6_in
set_option maxRecDepth 20000 in
theorem ggX6_zone_X6_isZone : GoodIn wsX6_zone wsX6_isZone := goodIn_r _ [9, 10, 11, 50, 51, 52, 53, 54, 55, 56, 57, 58, 59, 60, 61] (by decide +kernel) (by decide +kernel)
set_option maxRecDepth 20000 in
theorem gX6_zone_X6_isZone : GoodIn wsX6_zone (wsV RX6 137 RX6 yX6_isZone wsX6_isZone) := goodIn_app (goodIn_of _ (by decide +kernel)) ggX6_zone_X6_isZone
set_option maxRecDepth 20000 in
theorem ggX6_zone_X6_since : GoodIn wsX6_zone wsX6_since := goodIn_r _ [15, 1, 11, 2, 3, 4, 5, 6, 7, 8, 9, 10, 50, 51, 52, 53, 54, 55, 56, 57, 58, 59, 60, 61] (by decide +kernel) (by decide +kernel)
set_option maxRecDepth 20000 in
theorem gX6_zone_X6_since : GoodIn wsX6_zone (wsV RX6 167 RX6 yX6_since wsX6_since) := goodIn_app (goodIn_of _ (by decide +kernel)) ggX6_zone_X6_since
set_option maxRecDepth 20000 in
theorem ggX6_zone_X6_leave : GoodIn wsX6_zone wsX6_leave := goodIn_r _ [19, 10, 12, 13, 14, 4, 15, 1, 11, 2, 3, 5, 6, 7, 8, 9, 50, 51, 52, 53, 54, 55, 56, 57, 58, 59, 60, 61] (by decide +kernel) (by decide +kernel)
set_option maxRecDepth 20000 in
theorem gX6_zone_X6_leave : GoodIn wsX6_zone (wsV RX6 170 RX6 yX6_leave wsX6_leave) := goodIn_app (goodIn_of _ (by decide +kernel)) ggX6_zone_X6_leave
set_option maxRecDepth 20000 in
theorem ggX6_zone_X6_inZone : GoodIn wsX6_zone wsX6_inZone := goodIn_r _ [23, 10, 11, 24, 25, 26, 4, 27, 28, 29, 30, 31, 32, 33, 34, 35, 36, 37, 38, 39, 40, 41, 42, 43, 44, 45, 46, 47, 48, 49, 50, 51, 52, 53, 54, 55, 56, 57, 58, 59, 60, 61] (by decide +kernel) (by decide +kernel)
set_option maxRecDepth 20000 in
theorem gX6_zone_X6_inZone : GoodIn wsX6_zone (wsV RX6 173 RX6 yX6_inZone wsX6_inZone) := goodIn_app (goodIn_of _ (by decide +kernel)) ggX6_zone_X6_inZone
theorem dX6_zone_0 : decode cX6_zone 0 = .ok (.iload_n 1, 1) := by decide +kernel
theorem dX6_zone_1 : decode cX6_zone 1 = .ok (.i2l, 1) := by decide +kernel
theorem dX6_zone_2 : decode cX6_zone 2 = .ok (.lconst 0, 1) := by decide +kernel
theorem dX6_zone_3 : decode cX6_zone 3 = .ok (.ldc2_w 165, 3) := by decide +kernel
theorem dX6_zone_6 : decode cX6_zone 6 = .ok (.invokestatic 54, 3) := by decide +kernel
theorem dX6_zone_9 : decode cX6_zone 9 = .ok (.ifCond .eq 15, 3) := by decide +kernel
theorem dX6_zone_12 : decode cX6_zone 12 = .ok (.iload_n 2, 1) := by decide +kernel
theorem dX6_zone_13 : decode cX6_zone 13 = .ok (.i2l, 1) := by decide +kernel
theorem dX6_zone_14 : decode cX6_zone 14 = .ok (.lconst 0, 1) := by decide +kernel
theorem dX6_zone_15 : decode cX6_zone 15 = .ok (.ldc2_w 165, 3) := by decide +kernel
theorem dX6_zone_18 : decode cX6_zone 18 = .ok (.invokestatic 54, 3) := by decide +kernel
theorem dX6_zone_21 : decode cX6_zone 21 = .ok (.ifCond .ne 5, 3) := by decide +kernel
theorem dX6_zone_24 : decode cX6_zone 24 = .ok (.iconst (-1), 1) := by decide +kernel
theorem dX6_zone_25 : decode cX6_zone 25 = .ok (.ireturn, 1) := by decide +kernel
theorem dX6_zone_26 : decode cX6_zone 26 = .ok (.iload_n 2, 1) := by decide +kernel
theorem dX6_zone_27 : decode cX6_zone 27 = .ok (.tableswitch 64 0 2 #[25, 39, 58], 25) := by decide +kernel
theorem dX6_zone_52 : decode cX6_zone 52 = .ok (.aload_n 0, 1) := by decide +kernel
theorem dX6_zone_53 : decode cX6_zone 53 = .ok (.iload_n 1, 1) := by decide +kernel
theorem dX6_zone_54 : decode cX6_zone 54 = .ok (.invokevirtual 137, 3) := by decide +kernel
theorem dX6_zone_57 : decode cX6_zone 57 = .ok (.ifCond .eq 7, 3) := by decide +kernel
theorem dX6_zone_60 : decode cX6_zone 60 = .ok (.iconst 1, 1) := by decide +kernel
theorem dX6_zone_61 : decode cX6_zone 61 = .ok (.goto 4, 3) := by decide +kernel
theorem dX6_zone_64 : decode cX6_zone 64 = .ok (.iconst 0, 1) := by decide +kernel
theorem dX6_zone_65 : decode cX6_zone 65 = .ok (.ireturn, 1) := by decide +kernel
theorem dX6_zone_66 : decode cX6_zone 66 = .ok (.aload_n 0, 1) := by decide +kernel
theorem dX6_zone_67 : decode cX6_zone 67 = .ok (.iload_n 1, 1) := by decide +kernel
theorem dX6_zone_68 : decode cX6_zone 68 = .ok (.invokevirtual 137, 3) := by decide +kernel
theorem dX6_zone_71 : decode cX6_zone 71 = .ok (.ifCond .eq 11, 3) := by decide +kernel
theorem dX6_zone_74 : decode cX6_zone 74 = .ok (.aload_n 0, 1) := by decide +kernel
theorem dX6_zone_75 : decode cX6_zone 75 = .ok (.iload_n 1, 1) := by decide +kernel
theorem dX6_zone_76 : decode cX6_zone 76 = .ok (.invokevirtual 167, 3) := by decide +kernel
theorem dX6_zone_79 : decode cX6_zone 79 = .ok (.goto 5, 3) := by decide +kernel
theorem dX6_zone_82 : decode cX6_zone 82 = .ok (.bipush (-4), 2) := by decide +kernel
theorem dX6_zone_84 : decode cX6_zone 84 = .ok (.ireturn, 1) := by decide +kernel
theorem dX6_zone_85 : decode cX6_zone 85 = .ok (.aload_n 0, 1) := by decide +kernel
theorem dX6_zone_86 : decode cX6_zone 86 = .ok (.iload_n 1, 1) := by decide +kernel
theorem dX6_zone_87 : decode cX6_zone 87 = .ok (.invokevirtual 170, 3) := by decide +kernel
theorem dX6_zone_90 : decode cX6_zone 90 = .ok (.ireturn, 1) := by decide +kernel
theorem dX6_zone_91 : decode cX6_zone 91 = .ok (.aload_n 0, 1) := by decide +kernel
theorem dX6_zone_92 : decode cX6_zone 92 = .ok (.iload_n 1, 1) := by decide +kernel
theorem dX6_zone_93 : decode cX6_zone 93 = .ok (.iload_n 2, 1) := by decide +kernel
theorem dX6_zone_94 : decode cX6_zone 94 = .ok (.invokevirtual 173, 3) := by decide +kernel
theorem dX6_zone_97 : decode cX6_zone 97 = .ok (.ireturn, 1) := by decide +kernel
set_option maxRecDepth 20000 in
theorem ggX6_effect_X6_in : GoodIn wsX6_effect wsX6_in := goodIn_r _ [7] (by decide +kernel) (by decide +kernel)
set_option maxRecDepth 20000 in
theorem gX6_effect_X6_in : GoodIn wsX6_effect (va_wsS RX6 54 yX6_in wsX6_in) := goodIn_app (goodIn_of _ (by decide +kernel)) ggX6_effect_X6_in
set_option maxRecDepth 20000 in
theorem ggX6_effect_X6_isWanted : GoodIn wsX6_effect wsX6_isWanted := goodIn_r _ [11, 1, 12, 13, 14, 6, 15, 3, 16, 17, 18, 19, 20, 21, 22, 23, 24, 25, 26, 27] (by decide +kernel) (by decide +kernel)
set_option maxRecDepth 20000 in
theorem gX6_effect_X6_isWanted : GoodIn wsX6_effect (wsV RX6 149 RX6 yX6_isWanted wsX6_isWanted) := goodIn_app (goodIn_of _ (by decide +kernel)) ggX6_effect_X6_isWanted
theorem dX6_effect_0 : decode cX6_effect 0 = .ok (.iload_n 1, 1) := by decide +kernel
theorem dX6_effect_1 : decode cX6_effect 1 = .ok (.i2l, 1) := by decide +kernel
theorem dX6_effect_2 : decode cX6_effect 2 = .ok (.lconst 0, 1) := by decide +kernel
theorem dX6_effect_3 : decode cX6_effect 3 = .ok (.aload_n 0, 1) := by decide +kernel
theorem dX6_effect_4 : decode cX6_effect 4 = .ok (.getfield 13, 3) := by decide +kernel
theorem dX6_effect_7 : decode cX6_effect 7 = .ok (.bipush 61, 2) := by decide +kernel
theorem dX6_effect_9 : decode cX6_effect 9 = .ok (.iaload, 1) := by decide +kernel
theorem dX6_effect_10 : decode cX6_effect 10 = .ok (.iconst 1, 1) := by decide +kernel
theorem dX6_effect_11 : decode cX6_effect 11 = .ok (.isub, 1) := by decide +kernel
theorem dX6_effect_12 : decode cX6_effect 12 = .ok (.i2l, 1) := by decide +kernel
theorem dX6_effect_13 : decode cX6_effect 13 = .ok (.invokestatic 54, 3) := by decide +kernel
theorem dX6_effect_16 : decode cX6_effect 16 = .ok (.ifCond .eq 15, 3) := by decide +kernel
theorem dX6_effect_19 : decode cX6_effect 19 = .ok (.iload_n 2, 1) := by decide +kernel
theorem dX6_effect_20 : decode cX6_effect 20 = .ok (.i2l, 1) := by decide +kernel
theorem dX6_effect_21 : decode cX6_effect 21 = .ok (.lconst 0, 1) := by decide +kernel
theorem dX6_effect_22 : decode cX6_effect 22 = .ok (.ldc2_w 176, 3) := by decide +kernel
theorem dX6_effect_25 : decode cX6_effect 25 = .ok (.invokestatic 54, 3) := by decide +kernel
theorem dX6_effect_28 : decode cX6_effect 28 = .ok (.ifCond .ne 5, 3) := by decide +kernel
theorem dX6_effect_31 : decode cX6_effect 31 = .ok (.iconst (-1), 1) := by decide +kernel
theorem dX6_effect_32 : decode cX6_effect 32 = .ok (.ireturn, 1) := by decide +kernel
theorem dX6_effect_33 : decode cX6_effect 33 = .ok (.iload_n 2, 1) := by decide +kernel
theorem dX6_effect_34 : decode cX6_effect 34 = .ok (.tableswitch 90 0 6 #[42, 42, 42, 42, 56, 70, 80], 42) := by decide +kernel
theorem dX6_effect_76 : decode cX6_effect 76 = .ok (.aload_n 0, 1) := by decide +kernel
theorem dX6_effect_77 : decode cX6_effect 77 = .ok (.getfield 13, 3) := by decide +kernel
theorem dX6_effect_80 : decode cX6_effect 80 = .ok (.bipush 36, 2) := by decide +kernel
theorem dX6_effect_82 : decode cX6_effect 82 = .ok (.iconst 4, 1) := by decide +kernel
theorem dX6_effect_83 : decode cX6_effect 83 = .ok (.iload_n 1, 1) := by decide +kernel
theorem dX6_effect_84 : decode cX6_effect 84 = .ok (.imul, 1) := by decide +kernel
theorem dX6_effect_85 : decode cX6_effect 85 = .ok (.iadd, 1) := by decide +kernel
theorem dX6_effect_86 : decode cX6_effect 86 = .ok (.iload_n 2, 1) := by decide +kernel
theorem dX6_effect_87 : decode cX6_effect 87 = .ok (.iadd, 1) := by decide +kernel
theorem dX6_effect_88 : decode cX6_effect 88 = .ok (.iaload, 1) := by decide +kernel
theorem dX6_effect_89 : decode cX6_effect 89 = .ok (.ireturn, 1) := by decide +kernel
theorem dX6_effect_90 : decode cX6_effect 90 = .ok (.aload_n 0, 1) := by decide +kernel
theorem dX6_effect_91 : decode cX6_effect 91 = .ok (.iload_n 1, 1) := by decide +kernel
theorem dX6_effect_92 : decode cX6_effect 92 = .ok (.invokevirtual 149, 3) := by decide +kernel
theorem dX6_effect_95 : decode cX6_effect 95 = .ok (.ifCond .eq 7, 3) := by decide +kernel
theorem dX6_effect_98 : decode cX6_effect 98 = .ok (.iconst 1, 1) := by decide +kernel
theorem dX6_effect_99 : decode cX6_effect 99 = .ok (.goto 4, 3) := by decide +kernel
theorem dX6_effect_102 : decode cX6_effect 102 = .ok (.iconst 0, 1) := by decide +kernel
theorem dX6_effect_103 : decode cX6_effect 103 = .ok (.ireturn, 1) := by decide +kernel
theorem dX6_effect_104 : decode cX6_effect 104 = .ok (.aload_n 0, 1) := by decide +kernel
theorem dX6_effect_105 : decode cX6_effect 105 = .ok (.getfield 19, 3) := by decide +kernel
theorem dX6_effect_108 : decode cX6_effect 108 = .ok (.bipush 61, 2) := by decide +kernel
theorem dX6_effect_110 : decode cX6_effect 110 = .ok (.iload_n 1, 1) := by decide +kernel
theorem dX6_effect_111 : decode cX6_effect 111 = .ok (.iadd, 1) := by decide +kernel
theorem dX6_effect_112 : decode cX6_effect 112 = .ok (.iaload, 1) := by decide +kernel
theorem dX6_effect_113 : decode cX6_effect 113 = .ok (.ireturn, 1) := by decide +kernel
theorem dX6_effect_114 : decode cX6_effect 114 = .ok (.aload_n 0, 1) := by decide +kernel
theorem dX6_effect_115 : decode cX6_effect 115 = .ok (.getfield 19, 3) := by decide +kernel
theorem dX6_effect_118 : decode cX6_effect 118 = .ok (.bipush 67, 2) := by decide +kernel
theorem dX6_effect_120 : decode cX6_effect 120 = .ok (.iload_n 1, 1) := by decide +kernel
theorem dX6_effect_121 : decode cX6_effect 121 = .ok (.iadd, 1) := by decide +kernel
theorem dX6_effect_122 : decode cX6_effect 122 = .ok (.iaload, 1) := by decide +kernel
theorem dX6_effect_123 : decode cX6_effect 123 = .ok (.ireturn, 1) := by decide +kernel
theorem dX6_effect_124 : decode cX6_effect 124 = .ok (.aload_n 0, 1) := by decide +kernel
theorem dX6_effect_125 : decode cX6_effect 125 = .ok (.getfield 19, 3) := by decide +kernel
theorem dX6_effect_128 : decode cX6_effect 128 = .ok (.bipush 73, 2) := by decide +kernel
theorem dX6_effect_130 : decode cX6_effect 130 = .ok (.iload_n 1, 1) := by decide +kernel
theorem dX6_effect_131 : decode cX6_effect 131 = .ok (.iadd, 1) := by decide +kernel
theorem dX6_effect_132 : decode cX6_effect 132 = .ok (.iaload, 1) := by decide +kernel
theorem dX6_effect_133 : decode cX6_effect 133 = .ok (.ireturn, 1) := by decide +kernel
set_option maxRecDepth 20000 in
theorem ggX6_count_X6_isZone : GoodIn wsX6_count wsX6_isZone := goodIn_r _ [9, 1, 2, 52, 53, 54, 55, 56, 57, 58, 59, 60, 61, 62, 63] (by decide +kernel) (by decide +kernel)
set_option maxRecDepth 20000 in
theorem gX6_count_X6_isZone : GoodIn wsX6_count (wsV RX6 137 RX6 yX6_isZone wsX6_isZone) := goodIn_app (goodIn_of _ (by decide +kernel)) ggX6_count_X6_isZone
set_option maxRecDepth 20000 in
theorem ggX6_count_X6_lostMany : GoodIn wsX6_count wsX6_lostMany := goodIn_r _ [13, 1, 14, 15, 16, 8, 17, 18, 19, 20, 21, 22, 23, 24, 25, 26, 27, 28, 29, 30, 2, 31, 32, 33, 34, 35, 36, 37, 38, 39, 52, 53, 54, 55, 56, 57, 58, 59, 60, 61, 62, 63] (by decide +kernel) (by decide +kernel)
set_option maxRecDepth 20000 in
theorem gX6_count_X6_lostMany : GoodIn wsX6_count (wsV RX6 122 RX6 yX6_lostMany wsX6_lostMany) := goodIn_app (goodIn_of _ (by decide +kernel)) ggX6_count_X6_lostMany
set_option maxRecDepth 20000 in
theorem ggX6_count_X6_sumOf : GoodIn wsX6_count wsX6_sumOf := goodIn_r _ [43, 2, 52, 53, 54, 55, 56, 57, 58, 59, 60, 61, 62, 63] (by decide +kernel) (by decide +kernel)
set_option maxRecDepth 20000 in
theorem gX6_count_X6_sumOf : GoodIn wsX6_count (wsV RX6 101 RX6 yX6_sumOf wsX6_sumOf) := goodIn_app (goodIn_of _ (by decide +kernel)) ggX6_count_X6_sumOf
set_option maxRecDepth 20000 in
theorem ggX6_count_X6_sounding : GoodIn wsX6_count wsX6_sounding := goodIn_r _ [47, 1, 48, 49, 50, 8, 51, 2, 52, 53, 54, 55, 56, 57, 58, 59, 60, 61, 62, 63] (by decide +kernel) (by decide +kernel)
set_option maxRecDepth 20000 in
theorem gX6_count_X6_sounding : GoodIn wsX6_count (wsV RX6 160 RX6 yX6_sounding wsX6_sounding) := goodIn_app (goodIn_of _ (by decide +kernel)) ggX6_count_X6_sounding
theorem dX6_count_0 : decode cX6_count 0 = .ok (.iconst 0, 1) := by decide +kernel
theorem dX6_count_1 : decode cX6_count 1 = .ok (.istore_n 2, 1) := by decide +kernel
theorem dX6_count_2 : decode cX6_count 2 = .ok (.iconst 0, 1) := by decide +kernel
theorem dX6_count_3 : decode cX6_count 3 = .ok (.istore_n 3, 1) := by decide +kernel
theorem dX6_count_4 : decode cX6_count 4 = .ok (.iload_n 3, 1) := by decide +kernel
theorem dX6_count_5 : decode cX6_count 5 = .ok (.bipush 6, 2) := by decide +kernel
theorem dX6_count_7 : decode cX6_count 7 = .ok (.if_icmp .ge 25, 3) := by decide +kernel
theorem dX6_count_10 : decode cX6_count 10 = .ok (.iload_n 2, 1) := by decide +kernel
theorem dX6_count_11 : decode cX6_count 11 = .ok (.aload_n 0, 1) := by decide +kernel
theorem dX6_count_12 : decode cX6_count 12 = .ok (.iload_n 3, 1) := by decide +kernel
theorem dX6_count_13 : decode cX6_count 13 = .ok (.invokevirtual 137, 3) := by decide +kernel
theorem dX6_count_16 : decode cX6_count 16 = .ok (.ifCond .eq 7, 3) := by decide +kernel
theorem dX6_count_19 : decode cX6_count 19 = .ok (.iconst 1, 1) := by decide +kernel
theorem dX6_count_20 : decode cX6_count 20 = .ok (.goto 4, 3) := by decide +kernel
theorem dX6_count_23 : decode cX6_count 23 = .ok (.iconst 0, 1) := by decide +kernel
theorem dX6_count_24 : decode cX6_count 24 = .ok (.iadd, 1) := by decide +kernel
theorem dX6_count_25 : decode cX6_count 25 = .ok (.istore_n 2, 1) := by decide +kernel
theorem dX6_count_26 : decode cX6_count 26 = .ok (.iinc 3 1, 3) := by decide +kernel
theorem dX6_count_29 : decode cX6_count 29 = .ok (.goto (-25), 3) := by decide +kernel
theorem dX6_count_32 : decode cX6_count 32 = .ok (.iload_n 1, 1) := by decide +kernel
theorem dX6_count_33 : decode cX6_count 33 = .ok (.tableswitch 144 0 11 #[63, 71, 79, 84, 93, 95, 104, 113, 121, 129, 134, 139], 63) := by decide +kernel
theorem dX6_count_96 : decode cX6_count 96 = .ok (.aload_n 0, 1) := by decide +kernel
theorem dX6_count_97 : decode cX6_count 97 = .ok (.getfield 13, 3) := by decide +kernel
theorem dX6_count_100 : decode cX6_count 100 = .ok (.bipush 60, 2) := by decide +kernel
theorem dX6_count_102 : decode cX6_count 102 = .ok (.iaload, 1) := by decide +kernel
theorem dX6_count_103 : decode cX6_count 103 = .ok (.ireturn, 1) := by decide +kernel
theorem dX6_count_104 : decode cX6_count 104 = .ok (.aload_n 0, 1) := by decide +kernel
theorem dX6_count_105 : decode cX6_count 105 = .ok (.getfield 13, 3) := by decide +kernel
theorem dX6_count_108 : decode cX6_count 108 = .ok (.bipush 61, 2) := by decide +kernel
theorem dX6_count_110 : decode cX6_count 110 = .ok (.iaload, 1) := by decide +kernel
theorem dX6_count_111 : decode cX6_count 111 = .ok (.ireturn, 1) := by decide +kernel
theorem dX6_count_112 : decode cX6_count 112 = .ok (.aload_n 0, 1) := by decide +kernel
theorem dX6_count_113 : decode cX6_count 113 = .ok (.invokevirtual 122, 3) := by decide +kernel
theorem dX6_count_116 : decode cX6_count 116 = .ok (.ireturn, 1) := by decide +kernel
theorem dX6_count_117 : decode cX6_count 117 = .ok (.aload_n 0, 1) := by decide +kernel
theorem dX6_count_118 : decode cX6_count 118 = .ok (.bipush 36, 2) := by decide +kernel
theorem dX6_count_120 : decode cX6_count 120 = .ok (.bipush 12, 2) := by decide +kernel
theorem dX6_count_122 : decode cX6_count 122 = .ok (.invokevirtual 101, 3) := by decide +kernel
theorem dX6_count_125 : decode cX6_count 125 = .ok (.ireturn, 1) := by decide +kernel
theorem dX6_count_126 : decode cX6_count 126 = .ok (.iload_n 2, 1) := by decide +kernel
theorem dX6_count_127 : decode cX6_count 127 = .ok (.ireturn, 1) := by decide +kernel
theorem dX6_count_128 : decode cX6_count 128 = .ok (.aload_n 0, 1) := by decide +kernel
theorem dX6_count_129 : decode cX6_count 129 = .ok (.bipush 67, 2) := by decide +kernel
theorem dX6_count_131 : decode cX6_count 131 = .ok (.bipush 6, 2) := by decide +kernel
theorem dX6_count_133 : decode cX6_count 133 = .ok (.invokevirtual 101, 3) := by decide +kernel
theorem dX6_count_136 : decode cX6_count 136 = .ok (.ireturn, 1) := by decide +kernel
theorem dX6_count_137 : decode cX6_count 137 = .ok (.aload_n 0, 1) := by decide +kernel
theorem dX6_count_138 : decode cX6_count 138 = .ok (.bipush 73, 2) := by decide +kernel
theorem dX6_count_140 : decode cX6_count 140 = .ok (.bipush 6, 2) := by decide +kernel
theorem dX6_count_142 : decode cX6_count 142 = .ok (.invokevirtual 101, 3) := by decide +kernel
theorem dX6_count_145 : decode cX6_count 145 = .ok (.ireturn, 1) := by decide +kernel
theorem dX6_count_146 : decode cX6_count 146 = .ok (.aload_n 0, 1) := by decide +kernel
theorem dX6_count_147 : decode cX6_count 147 = .ok (.getfield 19, 3) := by decide +kernel
theorem dX6_count_150 : decode cX6_count 150 = .ok (.bipush 86, 2) := by decide +kernel
theorem dX6_count_152 : decode cX6_count 152 = .ok (.iaload, 1) := by decide +kernel
