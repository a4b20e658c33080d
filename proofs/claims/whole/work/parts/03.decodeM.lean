theorem dX12_init_0 : decode cX12_init 0 = .ok (.aload_n 0, 1) := by decide +kernel
theorem dX12_init_1 : decode cX12_init 1 = .ok (.invokespecial 1, 3) := by decide +kernel
theorem dX12_init_4 : decode cX12_init 4 = .ok (.aload_n 0, 1) := by decide +kernel
theorem dX12_init_5 : decode cX12_init 5 = .ok (.bipush 7, 2) := by decide +kernel
theorem dX12_init_7 : decode cX12_init 7 = .ok (.newarray .int, 2) := by decide +kernel
theorem dX12_init_9 : decode cX12_init 9 = .ok (.putfield 7, 3) := by decide +kernel
theorem dX12_init_12 : decode cX12_init 12 = .ok (.aload_n 0, 1) := by decide +kernel
theorem dX12_init_13 : decode cX12_init 13 = .ok (.bipush 7, 2) := by decide +kernel
theorem dX12_init_15 : decode cX12_init 15 = .ok (.newarray .boolean, 2) := by decide +kernel
theorem dX12_init_17 : decode cX12_init 17 = .ok (.putfield 13, 3) := by decide +kernel
theorem dX12_init_20 : decode cX12_init 20 = .ok (.aload_n 0, 1) := by decide +kernel
theorem dX12_init_21 : decode cX12_init 21 = .ok (.bipush 7, 2) := by decide +kernel
theorem dX12_init_23 : decode cX12_init 23 = .ok (.newarray .int, 2) := by decide +kernel
theorem dX12_init_25 : decode cX12_init 25 = .ok (.putfield 17, 3) := by decide +kernel
theorem dX12_init_28 : decode cX12_init 28 = .ok (.aload_n 0, 1) := by decide +kernel
theorem dX12_init_29 : decode cX12_init 29 = .ok (.bipush 7, 2) := by decide +kernel
theorem dX12_init_31 : decode cX12_init 31 = .ok (.newarray .int, 2) := by decide +kernel
theorem dX12_init_33 : decode cX12_init 33 = .ok (.putfield 20, 3) := by decide +kernel
theorem dX12_init_36 : decode cX12_init 36 = .ok (.aload_n 0, 1) := by decide +kernel
theorem dX12_init_37 : decode cX12_init 37 = .ok (.bipush 7, 2) := by decide +kernel
theorem dX12_init_39 : decode cX12_init 39 = .ok (.newarray .boolean, 2) := by decide +kernel
theorem dX12_init_41 : decode cX12_init 41 = .ok (.putfield 23, 3) := by decide +kernel
theorem dX12_init_44 : decode cX12_init 44 = .ok (.aload_n 0, 1) := by decide +kernel
theorem dX12_init_45 : decode cX12_init 45 = .ok (.iconst 5, 1) := by decide +kernel
theorem dX12_init_46 : decode cX12_init 46 = .ok (.newarray .int, 2) := by decide +kernel
theorem dX12_init_48 : decode cX12_init 48 = .ok (.putfield 26, 3) := by decide +kernel
theorem dX12_init_51 : decode cX12_init 51 = .ok (.aload_n 0, 1) := by decide +kernel
theorem dX12_init_52 : decode cX12_init 52 = .ok (.iconst 5, 1) := by decide +kernel
theorem dX12_init_53 : decode cX12_init 53 = .ok (.newarray .int, 2) := by decide +kernel
theorem dX12_init_55 : decode cX12_init 55 = .ok (.putfield 29, 3) := by decide +kernel
theorem dX12_init_58 : decode cX12_init 58 = .ok (.aload_n 0, 1) := by decide +kernel
theorem dX12_init_59 : decode cX12_init 59 = .ok (.bipush 30, 2) := by decide +kernel
theorem dX12_init_61 : decode cX12_init 61 = .ok (.newarray .int, 2) := by decide +kernel
theorem dX12_init_63 : decode cX12_init 63 = .ok (.putfield 32, 3) := by decide +kernel
theorem dX12_init_66 : decode cX12_init 66 = .ok (.aload_n 0, 1) := by decide +kernel
theorem dX12_init_67 : decode cX12_init 67 = .ok (.bipush 30, 2) := by decide +kernel
theorem dX12_init_69 : decode cX12_init 69 = .ok (.newarray .int, 2) := by decide +kernel
theorem dX12_init_71 : decode cX12_init 71 = .ok (.putfield 35, 3) := by decide +kernel
theorem dX12_init_74 : decode cX12_init 74 = .ok (.aload_n 0, 1) := by decide +kernel
theorem dX12_init_75 : decode cX12_init 75 = .ok (.bipush 30, 2) := by decide +kernel
theorem dX12_init_77 : decode cX12_init 77 = .ok (.newarray .int, 2) := by decide +kernel
theorem dX12_init_79 : decode cX12_init 79 = .ok (.putfield 38, 3) := by decide +kernel
theorem dX12_init_82 : decode cX12_init 82 = .ok (.aload_n 0, 1) := by decide +kernel
theorem dX12_init_83 : decode cX12_init 83 = .ok (.bipush 100, 2) := by decide +kernel
theorem dX12_init_85 : decode cX12_init 85 = .ok (.newarray .int, 2) := by decide +kernel
theorem dX12_init_87 : decode cX12_init 87 = .ok (.putfield 41, 3) := by decide +kernel
theorem dX12_init_90 : decode cX12_init 90 = .ok (.aload_n 0, 1) := by decide +kernel
theorem dX12_init_91 : decode cX12_init 91 = .ok (.bipush 100, 2) := by decide +kernel
theorem dX12_init_93 : decode cX12_init 93 = .ok (.newarray .int, 2) := by decide +kernel
theorem dX12_init_95 : decode cX12_init 95 = .ok (.putfield 44, 3) := by decide +kernel
theorem dX12_init_98 : decode cX12_init 98 = .ok (.aload_n 0, 1) := by decide +kernel
theorem dX12_init_99 : decode cX12_init 99 = .ok (.bipush 100, 2) := by decide +kernel
theorem dX12_init_101 : decode cX12_init 101 = .ok (.newarray .int, 2) := by decide +kernel
theorem dX12_init_103 : decode cX12_init 103 = .ok (.putfield 47, 3) := by decide +kernel
theorem dX12_init_106 : decode cX12_init 106 = .ok (.aload_n 0, 1) := by decide +kernel
theorem dX12_init_107 : decode cX12_init 107 = .ok (.bipush 100, 2) := by decide +kernel
theorem dX12_init_109 : decode cX12_init 109 = .ok (.newarray .int, 2) := by decide +kernel
theorem dX12_init_111 : decode cX12_init 111 = .ok (.putfield 50, 3) := by decide +kernel
theorem dX12_init_114 : decode cX12_init 114 = .ok (.aload_n 0, 1) := by decide +kernel
theorem dX12_init_115 : decode cX12_init 115 = .ok (.bipush 100, 2) := by decide +kernel
theorem dX12_init_117 : decode cX12_init 117 = .ok (.newarray .int, 2) := by decide +kernel
theorem dX12_init_119 : decode cX12_init 119 = .ok (.putfield 53, 3) := by decide +kernel
theorem dX12_init_122 : decode cX12_init 122 = .ok (.aload_n 0, 1) := by decide +kernel
theorem dX12_init_123 : decode cX12_init 123 = .ok (.sipush 500, 3) := by decide +kernel
theorem dX12_init_126 : decode cX12_init 126 = .ok (.newarray .byte, 2) := by decide +kernel
theorem dX12_init_128 : decode cX12_init 128 = .ok (.putfield 56, 3) := by decide +kernel
theorem dX12_init_131 : decode cX12_init 131 = .ok (.aload_n 0, 1) := by decide +kernel
theorem dX12_init_132 : decode cX12_init 132 = .ok (.bipush 20, 2) := by decide +kernel
theorem dX12_init_134 : decode cX12_init 134 = .ok (.newarray .int, 2) := by decide +kernel
theorem dX12_init_136 : decode cX12_init 136 = .ok (.putfield 60, 3) := by decide +kernel
theorem dX12_init_139 : decode cX12_init 139 = .ok (.aload_n 0, 1) := by decide +kernel
theorem dX12_init_140 : decode cX12_init 140 = .ok (.bipush 20, 2) := by decide +kernel
theorem dX12_init_142 : decode cX12_init 142 = .ok (.newarray .int, 2) := by decide +kernel
theorem dX12_init_144 : decode cX12_init 144 = .ok (.putfield 63, 3) := by decide +kernel
theorem dX12_init_147 : decode cX12_init 147 = .ok (.aload_n 0, 1) := by decide +kernel
theorem dX12_init_148 : decode cX12_init 148 = .ok (.bipush 20, 2) := by decide +kernel
theorem dX12_init_150 : decode cX12_init 150 = .ok (.newarray .int, 2) := by decide +kernel
theorem dX12_init_152 : decode cX12_init 152 = .ok (.putfield 66, 3) := by decide +kernel
theorem dX12_init_155 : decode cX12_init 155 = .ok (.aload_n 0, 1) := by decide +kernel
theorem dX12_init_156 : decode cX12_init 156 = .ok (.bipush 120, 2) := by decide +kernel
theorem dX12_init_158 : decode cX12_init 158 = .ok (.newarray .int, 2) := by decide +kernel
theorem dX12_init_160 : decode cX12_init 160 = .ok (.putfield 69, 3) := by decide +kernel
theorem dX12_init_163 : decode cX12_init 163 = .ok (.aload_n 0, 1) := by decide +kernel
theorem dX12_init_164 : decode cX12_init 164 = .ok (.bipush 120, 2) := by decide +kernel
theorem dX12_init_166 : decode cX12_init 166 = .ok (.newarray .int, 2) := by decide +kernel
theorem dX12_init_168 : decode cX12_init 168 = .ok (.putfield 72, 3) := by decide +kernel
theorem dX12_init_171 : decode cX12_init 171 = .ok (.aload_n 0, 1) := by decide +kernel
theorem dX12_init_172 : decode cX12_init 172 = .ok (.bipush 120, 2) := by decide +kernel
theorem dX12_init_174 : decode cX12_init 174 = .ok (.newarray .int, 2) := by decide +kernel
theorem dX12_init_176 : decode cX12_init 176 = .ok (.putfield 75, 3) := by decide +kernel
theorem dX12_init_179 : decode cX12_init 179 = .ok (.aload_n 0, 1) := by decide +kernel
theorem dX12_init_180 : decode cX12_init 180 = .ok (.bipush 120, 2) := by decide +kernel
theorem dX12_init_182 : decode cX12_init 182 = .ok (.newarray .int, 2) := by decide +kernel
theorem dX12_init_184 : decode cX12_init 184 = .ok (.putfield 78, 3) := by decide +kernel
theorem dX12_init_187 : decode cX12_init 187 = .ok (.aload_n 0, 1) := by decide +kernel
theorem dX12_init_188 : decode cX12_init 188 = .ok (.bipush 120, 2) := by decide +kernel
theorem dX12_init_190 : decode cX12_init 190 = .ok (.newarray .int, 2) := by decide +kernel
theorem dX12_init_192 : decode cX12_init 192 = .ok (.putfield 81, 3) := by decide +kernel
theorem dX12_init_195 : decode cX12_init 195 = .ok (.aload_n 0, 1) := by decide +kernel
theorem dX12_init_196 : decode cX12_init 196 = .ok (.bipush 21, 2) := by decide +kernel
theorem dX12_init_198 : decode cX12_init 198 = .ok (.newarray .int, 2) := by decide +kernel
theorem dX12_init_200 : decode cX12_init 200 = .ok (.putfield 84, 3) := by decide +kernel
theorem dX12_init_203 : decode cX12_init 203 = .ok (.aload_n 0, 1) := by decide +kernel
theorem dX12_init_204 : decode cX12_init 204 = .ok (.bipush 21, 2) := by decide +kernel
theorem dX12_init_206 : decode cX12_init 206 = .ok (.newarray .int, 2) := by decide +kernel
theorem dX12_init_208 : decode cX12_init 208 = .ok (.putfield 87, 3) := by decide +kernel
theorem dX12_init_211 : decode cX12_init 211 = .ok (.aload_n 0, 1) := by decide +kernel
theorem dX12_init_212 : decode cX12_init 212 = .ok (.bipush 21, 2) := by decide +kernel
theorem dX12_init_214 : decode cX12_init 214 = .ok (.newarray .int, 2) := by decide +kernel
theorem dX12_init_216 : decode cX12_init 216 = .ok (.putfield 90, 3) := by decide +kernel
theorem dX12_init_219 : decode cX12_init 219 = .ok (.aload_n 0, 1) := by decide +kernel
theorem dX12_init_220 : decode cX12_init 220 = .ok (.bipush 126, 2) := by decide +kernel
theorem dX12_init_222 : decode cX12_init 222 = .ok (.newarray .int, 2) := by decide +kernel
theorem dX12_init_224 : decode cX12_init 224 = .ok (.putfield 93, 3) := by decide +kernel
theorem dX12_init_227 : decode cX12_init 227 = .ok (.aload_n 0, 1) := by decide +kernel
theorem dX12_init_228 : decode cX12_init 228 = .ok (.bipush 126, 2) := by decide +kernel
theorem dX12_init_230 : decode cX12_init 230 = .ok (.newarray .int, 2) := by decide +kernel
theorem dX12_init_232 : decode cX12_init 232 = .ok (.putfield 96, 3) := by decide +kernel
theorem dX12_init_235 : decode cX12_init 235 = .ok (.aload_n 0, 1) := by decide +kernel
theorem dX12_init_236 : decode cX12_init 236 = .ok (.bipush 126, 2) := by decide +kernel
theorem dX12_init_238 : decode cX12_init 238 = .ok (.newarray .int, 2) := by decide +kernel
theorem dX12_init_240 : decode cX12_init 240 = .ok (.putfield 99, 3) := by decide +kernel
theorem dX12_init_243 : decode cX12_init 243 = .ok (.aload_n 0, 1) := by decide +kernel
theorem dX12_init_244 : decode cX12_init 244 = .ok (.bipush 126, 2) := by decide +kernel
theorem dX12_init_246 : decode cX12_init 246 = .ok (.newarray .int, 2) := by decide +kernel
theorem dX12_init_248 : decode cX12_init 248 = .ok (.putfield 102, 3) := by decide +kernel
theorem dX12_init_251 : decode cX12_init 251 = .ok (.aload_n 0, 1) := by decide +kernel
theorem dX12_init_252 : decode cX12_init 252 = .ok (.bipush 126, 2) := by decide +kernel
theorem dX12_init_254 : decode cX12_init 254 = .ok (.newarray .int, 2) := by decide +kernel
theorem dX12_init_256 : decode cX12_init 256 = .ok (.putfield 105, 3) := by decide +kernel
theorem dX12_init_259 : decode cX12_init 259 = .ok (.aload_n 0, 1) := by decide +kernel
theorem dX12_init_260 : decode cX12_init 260 = .ok (.bipush 7, 2) := by decide +kernel
theorem dX12_init_262 : decode cX12_init 262 = .ok (.newarray .int, 2) := by decide +kernel
theorem dX12_init_264 : decode cX12_init 264 = .ok (.putfield 108, 3) := by decide +kernel
theorem dX12_init_267 : decode cX12_init 267 = .ok (.aload_n 0, 1) := by decide +kernel
theorem dX12_init_268 : decode cX12_init 268 = .ok (.bipush 7, 2) := by decide +kernel
theorem dX12_init_270 : decode cX12_init 270 = .ok (.newarray .int, 2) := by decide +kernel
theorem dX12_init_272 : decode cX12_init 272 = .ok (.putfield 111, 3) := by decide +kernel
theorem dX12_init_275 : decode cX12_init 275 = .ok (.aload_n 0, 1) := by decide +kernel
theorem dX12_init_276 : decode cX12_init 276 = .ok (.bipush 7, 2) := by decide +kernel
theorem dX12_init_278 : decode cX12_init 278 = .ok (.newarray .int, 2) := by decide +kernel
theorem dX12_init_280 : decode cX12_init 280 = .ok (.putfield 114, 3) := by decide +kernel
theorem dX12_init_283 : decode cX12_init 283 = .ok (.aload_n 0, 1) := by decide +kernel
theorem dX12_init_284 : decode cX12_init 284 = .ok (.bipush 35, 2) := by decide +kernel
theorem dX12_init_286 : decode cX12_init 286 = .ok (.newarray .boolean, 2) := by decide +kernel
theorem dX12_init_288 : decode cX12_init 288 = .ok (.putfield 117, 3) := by decide +kernel
theorem dX12_init_291 : decode cX12_init 291 = .ok (.aload_n 0, 1) := by decide +kernel
theorem dX12_init_292 : decode cX12_init 292 = .ok (.bipush 35, 2) := by decide +kernel
theorem dX12_init_294 : decode cX12_init 294 = .ok (.newarray .int, 2) := by decide +kernel
theorem dX12_init_296 : decode cX12_init 296 = .ok (.putfield 120, 3) := by decide +kernel
theorem dX12_init_299 : decode cX12_init 299 = .ok (.return_, 1) := by decide +kernel
theorem dX12_in_0 : decode cX12_in 0 = .ok (.iload_n 0, 1) := by decide +kernel
theorem dX12_in_1 : decode cX12_in 1 = .ok (.iload_n 1, 1) := by decide +kernel
theorem dX12_in_2 : decode cX12_in 2 = .ok (.if_icmp .lt 12, 3) := by decide +kernel
theorem dX12_in_5 : decode cX12_in 5 = .ok (.iload_n 0, 1) := by decide +kernel
theorem dX12_in_6 : decode cX12_in 6 = .ok (.iload_n 2, 1) := by decide +kernel
theorem dX12_in_7 : decode cX12_in 7 = .ok (.if_icmp .gt 7, 3) := by decide +kernel
theorem dX12_in_10 : decode cX12_in 10 = .ok (.iconst 1, 1) := by decide +kernel
theorem dX12_in_11 : decode cX12_in 11 = .ok (.goto 4, 3) := by decide +kernel
theorem dX12_in_14 : decode cX12_in 14 = .ok (.iconst 0, 1) := by decide +kernel
theorem dX12_in_15 : decode cX12_in 15 = .ok (.ireturn, 1) := by decide +kernel
theorem dX12_isDay_0 : decode cX12_isDay 0 = .ok (.iload_n 0, 1) := by decide +kernel
theorem dX12_isDay_1 : decode cX12_isDay 1 = .ok (.iconst 0, 1) := by decide +kernel
theorem dX12_isDay_2 : decode cX12_isDay 2 = .ok (.sipush 999, 3) := by decide +kernel
theorem dX12_isDay_5 : decode cX12_isDay 5 = .ok (.invokestatic 123, 3) := by decide +kernel
theorem dX12_isDay_8 : decode cX12_isDay 8 = .ok (.ireturn, 1) := by decide +kernel
theorem dX12_clock_0 : decode cX12_clock 0 = .ok (.iload_n 1, 1) := by decide +kernel
theorem dX12_clock_1 : decode cX12_clock 1 = .ok (.aload_n 0, 1) := by decide +kernel
theorem dX12_clock_2 : decode cX12_clock 2 = .ok (.getfield 127, 3) := by decide +kernel
theorem dX12_clock_5 : decode cX12_clock 5 = .ok (.sipush 999, 3) := by decide +kernel
theorem dX12_clock_8 : decode cX12_clock 8 = .ok (.invokestatic 123, 3) := by decide +kernel
theorem dX12_clock_11 : decode cX12_clock 11 = .ok (.ifCond .ne 5, 3) := by decide +kernel
theorem dX12_clock_14 : decode cX12_clock 14 = .ok (.iconst 0, 1) := by decide +kernel
theorem dX12_clock_15 : decode cX12_clock 15 = .ok (.ireturn, 1) := by decide +kernel
theorem dX12_clock_16 : decode cX12_clock 16 = .ok (.aload_n 0, 1) := by decide +kernel
theorem dX12_clock_17 : decode cX12_clock 17 = .ok (.iload_n 1, 1) := by decide +kernel
theorem dX12_clock_18 : decode cX12_clock 18 = .ok (.putfield 127, 3) := by decide +kernel
theorem dX12_clock_21 : decode cX12_clock 21 = .ok (.iconst 1, 1) := by decide +kernel
theorem dX12_clock_22 : decode cX12_clock 22 = .ok (.ireturn, 1) := by decide +kernel
theorem dX12_child_0 : decode cX12_child 0 = .ok (.aload_n 0, 1) := by decide +kernel
theorem dX12_child_1 : decode cX12_child 1 = .ok (.getfield 131, 3) := by decide +kernel
theorem dX12_child_4 : decode cX12_child 4 = .ok (.bipush 7, 2) := by decide +kernel
theorem dX12_child_6 : decode cX12_child 6 = .ok (.if_icmp .eq 12, 3) := by decide +kernel
theorem dX12_child_9 : decode cX12_child 9 = .ok (.iload_n 1, 1) := by decide +kernel
theorem dX12_child_10 : decode cX12_child 10 = .ok (.iconst 0, 1) := by decide +kernel
theorem dX12_child_11 : decode cX12_child 11 = .ok (.iconst 3, 1) := by decide +kernel
theorem dX12_child_12 : decode cX12_child 12 = .ok (.invokestatic 123, 3) := by decide +kernel
theorem dX12_child_15 : decode cX12_child 15 = .ok (.ifCond .ne 5, 3) := by decide +kernel
theorem dX12_child_18 : decode cX12_child 18 = .ok (.iconst (-1), 1) := by decide +kernel
theorem dX12_child_19 : decode cX12_child 19 = .ok (.ireturn, 1) := by decide +kernel
theorem dX12_child_20 : decode cX12_child 20 = .ok (.aload_n 0, 1) := by decide +kernel
theorem dX12_child_21 : decode cX12_child 21 = .ok (.getfield 7, 3) := by decide +kernel
theorem dX12_child_24 : decode cX12_child 24 = .ok (.aload_n 0, 1) := by decide +kernel
theorem dX12_child_25 : decode cX12_child 25 = .ok (.getfield 131, 3) := by decide +kernel
theorem dX12_child_28 : decode cX12_child 28 = .ok (.iload_n 1, 1) := by decide +kernel
theorem dX12_child_29 : decode cX12_child 29 = .ok (.iastore, 1) := by decide +kernel
theorem dX12_child_30 : decode cX12_child 30 = .ok (.aload_n 0, 1) := by decide +kernel
theorem dX12_child_31 : decode cX12_child 31 = .ok (.getfield 108, 3) := by decide +kernel
theorem dX12_child_34 : decode cX12_child 34 = .ok (.aload_n 0, 1) := by decide +kernel
theorem dX12_child_35 : decode cX12_child 35 = .ok (.getfield 131, 3) := by decide +kernel
theorem dX12_child_38 : decode cX12_child 38 = .ok (.iconst (-1), 1) := by decide +kernel
theorem dX12_child_39 : decode cX12_child 39 = .ok (.iastore, 1) := by decide +kernel
theorem dX12_child_40 : decode cX12_child 40 = .ok (.aload_n 0, 1) := by decide +kernel
theorem dX12_child_41 : decode cX12_child 41 = .ok (.dup, 1) := by decide +kernel
theorem dX12_child_42 : decode cX12_child 42 = .ok (.getfield 131, 3) := by decide +kernel
theorem dX12_child_45 : decode cX12_child 45 = .ok (.iconst 1, 1) := by decide +kernel
theorem dX12_child_46 : decode cX12_child 46 = .ok (.iadd, 1) := by decide +kernel
theorem dX12_child_47 : decode cX12_child 47 = .ok (.putfield 131, 3) := by decide +kernel
theorem dX12_child_50 : decode cX12_child 50 = .ok (.aload_n 0, 1) := by decide +kernel
theorem dX12_child_51 : decode cX12_child 51 = .ok (.getfield 131, 3) := by decide +kernel
theorem dX12_child_54 : decode cX12_child 54 = .ok (.iconst 1, 1) := by decide +kernel
theorem dX12_child_55 : decode cX12_child 55 = .ok (.isub, 1) := by decide +kernel
theorem dX12_child_56 : decode cX12_child 56 = .ok (.ireturn, 1) := by decide +kernel
theorem dX12_home_0 : decode cX12_home 0 = .ok (.aload_n 0, 1) := by decide +kernel
theorem dX12_home_1 : decode cX12_home 1 = .ok (.getfield 134, 3) := by decide +kernel
theorem dX12_home_4 : decode cX12_home 4 = .ok (.iconst 5, 1) := by decide +kernel
theorem dX12_home_5 : decode cX12_home 5 = .ok (.if_icmp .eq 13, 3) := by decide +kernel
theorem dX12_home_8 : decode cX12_home 8 = .ok (.iload_n 1, 1) := by decide +kernel
theorem dX12_home_9 : decode cX12_home 9 = .ok (.iconst 1, 1) := by decide +kernel
theorem dX12_home_10 : decode cX12_home 10 = .ok (.bipush 6, 2) := by decide +kernel
theorem dX12_home_12 : decode cX12_home 12 = .ok (.invokestatic 123, 3) := by decide +kernel
theorem dX12_home_15 : decode cX12_home 15 = .ok (.ifCond .ne 5, 3) := by decide +kernel
theorem dX12_home_18 : decode cX12_home 18 = .ok (.iconst (-1), 1) := by decide +kernel
theorem dX12_home_19 : decode cX12_home 19 = .ok (.ireturn, 1) := by decide +kernel
theorem dX12_home_20 : decode cX12_home 20 = .ok (.aload_n 0, 1) := by decide +kernel
theorem dX12_home_21 : decode cX12_home 21 = .ok (.getfield 26, 3) := by decide +kernel
theorem dX12_home_24 : decode cX12_home 24 = .ok (.aload_n 0, 1) := by decide +kernel
theorem dX12_home_25 : decode cX12_home 25 = .ok (.getfield 134, 3) := by decide +kernel
theorem dX12_home_28 : decode cX12_home 28 = .ok (.iload_n 1, 1) := by decide +kernel
theorem dX12_home_29 : decode cX12_home 29 = .ok (.iastore, 1) := by decide +kernel
theorem dX12_home_30 : decode cX12_home 30 = .ok (.aload_n 0, 1) := by decide +kernel
theorem dX12_home_31 : decode cX12_home 31 = .ok (.getfield 29, 3) := by decide +kernel
theorem dX12_home_34 : decode cX12_home 34 = .ok (.aload_n 0, 1) := by decide +kernel
theorem dX12_home_35 : decode cX12_home 35 = .ok (.getfield 134, 3) := by decide +kernel
theorem dX12_home_38 : decode cX12_home 38 = .ok (.iconst (-1), 1) := by decide +kernel
theorem dX12_home_39 : decode cX12_home 39 = .ok (.iastore, 1) := by decide +kernel
theorem dX12_home_40 : decode cX12_home 40 = .ok (.aload_n 0, 1) := by decide +kernel
theorem dX12_home_41 : decode cX12_home 41 = .ok (.dup, 1) := by decide +kernel
theorem dX12_home_42 : decode cX12_home 42 = .ok (.getfield 134, 3) := by decide +kernel
theorem dX12_home_45 : decode cX12_home 45 = .ok (.iconst 1, 1) := by decide +kernel
theorem dX12_home_46 : decode cX12_home 46 = .ok (.iadd, 1) := by decide +kernel
theorem dX12_home_47 : decode cX12_home 47 = .ok (.putfield 134, 3) := by decide +kernel
theorem dX12_home_50 : decode cX12_home 50 = .ok (.aload_n 0, 1) := by decide +kernel
theorem dX12_home_51 : decode cX12_home 51 = .ok (.getfield 134, 3) := by decide +kernel
theorem dX12_home_54 : decode cX12_home 54 = .ok (.iconst 1, 1) := by decide +kernel
theorem dX12_home_55 : decode cX12_home 55 = .ok (.isub, 1) := by decide +kernel
theorem dX12_home_56 : decode cX12_home 56 = .ok (.ireturn, 1) := by decide +kernel
theorem dX12_isChild_0 : decode cX12_isChild 0 = .ok (.iload_n 1, 1) := by decide +kernel
theorem dX12_isChild_1 : decode cX12_isChild 1 = .ok (.iconst 0, 1) := by decide +kernel
theorem dX12_isChild_2 : decode cX12_isChild 2 = .ok (.aload_n 0, 1) := by decide +kernel
theorem dX12_isChild_3 : decode cX12_isChild 3 = .ok (.getfield 131, 3) := by decide +kernel
theorem dX12_isChild_6 : decode cX12_isChild 6 = .ok (.iconst 1, 1) := by decide +kernel
theorem dX12_isChild_7 : decode cX12_isChild 7 = .ok (.isub, 1) := by decide +kernel
theorem dX12_isChild_8 : decode cX12_isChild 8 = .ok (.invokestatic 123, 3) := by decide +kernel
theorem dX12_isChild_11 : decode cX12_isChild 11 = .ok (.ireturn, 1) := by decide +kernel
theorem dX12_isHome_0 : decode cX12_isHome 0 = .ok (.iload_n 1, 1) := by decide +kernel
theorem dX12_isHome_1 : decode cX12_isHome 1 = .ok (.iconst 0, 1) := by decide +kernel
theorem dX12_isHome_2 : decode cX12_isHome 2 = .ok (.aload_n 0, 1) := by decide +kernel
theorem dX12_isHome_3 : decode cX12_isHome 3 = .ok (.getfield 134, 3) := by decide +kernel
theorem dX12_isHome_6 : decode cX12_isHome 6 = .ok (.iconst 1, 1) := by decide +kernel
theorem dX12_isHome_7 : decode cX12_isHome 7 = .ok (.isub, 1) := by decide +kernel
theorem dX12_isHome_8 : decode cX12_isHome 8 = .ok (.invokestatic 123, 3) := by decide +kernel
theorem dX12_isHome_11 : decode cX12_isHome 11 = .ok (.ireturn, 1) := by decide +kernel
theorem dX12_fact_0 : decode cX12_fact 0 = .ok (.aload_n 0, 1) := by decide +kernel
theorem dX12_fact_1 : decode cX12_fact 1 = .ok (.getfield 137, 3) := by decide +kernel
theorem dX12_fact_4 : decode cX12_fact 4 = .ok (.bipush 100, 2) := by decide +kernel
theorem dX12_fact_6 : decode cX12_fact 6 = .ok (.if_icmp .eq 58, 3) := by decide +kernel
theorem dX12_fact_9 : decode cX12_fact 9 = .ok (.iload_n 1, 1) := by decide +kernel
theorem dX12_fact_10 : decode cX12_fact 10 = .ok (.ifCond .eq 14, 3) := by decide +kernel
theorem dX12_fact_13 : decode cX12_fact 13 = .ok (.aload_n 0, 1) := by decide +kernel
theorem dX12_fact_14 : decode cX12_fact 14 = .ok (.iload_n 2, 1) := by decide +kernel
theorem dX12_fact_15 : decode cX12_fact 15 = .ok (.invokevirtual 140, 3) := by decide +kernel
theorem dX12_fact_18 : decode cX12_fact 18 = .ok (.ifCond .eq 46, 3) := by decide +kernel
theorem dX12_fact_21 : decode cX12_fact 21 = .ok (.goto 11, 3) := by decide +kernel
theorem dX12_fact_24 : decode cX12_fact 24 = .ok (.aload_n 0, 1) := by decide +kernel
theorem dX12_fact_25 : decode cX12_fact 25 = .ok (.iload_n 2, 1) := by decide +kernel
theorem dX12_fact_26 : decode cX12_fact 26 = .ok (.invokevirtual 144, 3) := by decide +kernel
theorem dX12_fact_29 : decode cX12_fact 29 = .ok (.ifCond .eq 35, 3) := by decide +kernel
theorem dX12_fact_32 : decode cX12_fact 32 = .ok (.iload_n 3, 1) := by decide +kernel
theorem dX12_fact_33 : decode cX12_fact 33 = .ok (.iconst 0, 1) := by decide +kernel
theorem dX12_fact_34 : decode cX12_fact 34 = .ok (.bipush 7, 2) := by decide +kernel
theorem dX12_fact_36 : decode cX12_fact 36 = .ok (.invokestatic 123, 3) := by decide +kernel
theorem dX12_fact_39 : decode cX12_fact 39 = .ok (.ifCond .eq 25, 3) := by decide +kernel
theorem dX12_fact_42 : decode cX12_fact 42 = .ok (.iload 4, 2) := by decide +kernel
theorem dX12_fact_44 : decode cX12_fact 44 = .ok (.sipush (-999), 3) := by decide +kernel
theorem dX12_fact_47 : decode cX12_fact 47 = .ok (.sipush 9999, 3) := by decide +kernel
theorem dX12_fact_50 : decode cX12_fact 50 = .ok (.invokestatic 123, 3) := by decide +kernel
theorem dX12_fact_53 : decode cX12_fact 53 = .ok (.ifCond .eq 11, 3) := by decide +kernel
theorem dX12_fact_56 : decode cX12_fact 56 = .ok (.iload 5, 2) := by decide +kernel
theorem dX12_fact_58 : decode cX12_fact 58 = .ok (.invokestatic 147, 3) := by decide +kernel
theorem dX12_fact_61 : decode cX12_fact 61 = .ok (.ifCond .ne 5, 3) := by decide +kernel
theorem dX12_fact_64 : decode cX12_fact 64 = .ok (.iconst (-1), 1) := by decide +kernel
theorem dX12_fact_65 : decode cX12_fact 65 = .ok (.ireturn, 1) := by decide +kernel
theorem dX12_fact_66 : decode cX12_fact 66 = .ok (.aload_n 0, 1) := by decide +kernel
theorem dX12_fact_67 : decode cX12_fact 67 = .ok (.getfield 41, 3) := by decide +kernel
theorem dX12_fact_70 : decode cX12_fact 70 = .ok (.aload_n 0, 1) := by decide +kernel
theorem dX12_fact_71 : decode cX12_fact 71 = .ok (.getfield 137, 3) := by decide +kernel
theorem dX12_fact_74 : decode cX12_fact 74 = .ok (.iload_n 2, 1) := by decide +kernel
theorem dX12_fact_75 : decode cX12_fact 75 = .ok (.iload_n 1, 1) := by decide +kernel
theorem dX12_fact_76 : decode cX12_fact 76 = .ok (.ifCond .eq 8, 3) := by decide +kernel
theorem dX12_fact_79 : decode cX12_fact 79 = .ok (.bipush 100, 2) := by decide +kernel
theorem dX12_fact_81 : decode cX12_fact 81 = .ok (.goto 4, 3) := by decide +kernel
theorem dX12_fact_84 : decode cX12_fact 84 = .ok (.iconst 0, 1) := by decide +kernel
theorem dX12_fact_85 : decode cX12_fact 85 = .ok (.iadd, 1) := by decide +kernel
theorem dX12_fact_86 : decode cX12_fact 86 = .ok (.iastore, 1) := by decide +kernel
theorem dX12_fact_87 : decode cX12_fact 87 = .ok (.aload_n 0, 1) := by decide +kernel
theorem dX12_fact_88 : decode cX12_fact 88 = .ok (.getfield 44, 3) := by decide +kernel
theorem dX12_fact_91 : decode cX12_fact 91 = .ok (.aload_n 0, 1) := by decide +kernel
theorem dX12_fact_92 : decode cX12_fact 92 = .ok (.getfield 137, 3) := by decide +kernel
theorem dX12_fact_95 : decode cX12_fact 95 = .ok (.iload_n 3, 1) := by decide +kernel
theorem dX12_fact_96 : decode cX12_fact 96 = .ok (.iastore, 1) := by decide +kernel
theorem dX12_fact_97 : decode cX12_fact 97 = .ok (.aload_n 0, 1) := by decide +kernel
theorem dX12_fact_98 : decode cX12_fact 98 = .ok (.getfield 47, 3) := by decide +kernel
theorem dX12_fact_101 : decode cX12_fact 101 = .ok (.aload_n 0, 1) := by decide +kernel
theorem dX12_fact_102 : decode cX12_fact 102 = .ok (.getfield 137, 3) := by decide +kernel
theorem dX12_fact_105 : decode cX12_fact 105 = .ok (.iload 4, 2) := by decide +kernel
theorem dX12_fact_107 : decode cX12_fact 107 = .ok (.iastore, 1) := by decide +kernel
theorem dX12_fact_108 : decode cX12_fact 108 = .ok (.aload_n 0, 1) := by decide +kernel
theorem dX12_fact_109 : decode cX12_fact 109 = .ok (.getfield 50, 3) := by decide +kernel
theorem dX12_fact_112 : decode cX12_fact 112 = .ok (.aload_n 0, 1) := by decide +kernel
theorem dX12_fact_113 : decode cX12_fact 113 = .ok (.getfield 137, 3) := by decide +kernel
theorem dX12_fact_116 : decode cX12_fact 116 = .ok (.iload 5, 2) := by decide +kernel
theorem dX12_fact_118 : decode cX12_fact 118 = .ok (.iastore, 1) := by decide +kernel
theorem dX12_fact_119 : decode cX12_fact 119 = .ok (.aload_n 0, 1) := by decide +kernel
theorem dX12_fact_120 : decode cX12_fact 120 = .ok (.getfield 53, 3) := by decide +kernel
theorem dX12_fact_123 : decode cX12_fact 123 = .ok (.aload_n 0, 1) := by decide +kernel
theorem dX12_fact_124 : decode cX12_fact 124 = .ok (.getfield 137, 3) := by decide +kernel
theorem dX12_fact_127 : decode cX12_fact 127 = .ok (.aload_n 0, 1) := by decide +kernel
theorem dX12_fact_128 : decode cX12_fact 128 = .ok (.getfield 127, 3) := by decide +kernel
theorem dX12_fact_131 : decode cX12_fact 131 = .ok (.iastore, 1) := by decide +kernel
theorem dX12_fact_132 : decode cX12_fact 132 = .ok (.aload_n 0, 1) := by decide +kernel
theorem dX12_fact_133 : decode cX12_fact 133 = .ok (.dup, 1) := by decide +kernel
theorem dX12_fact_134 : decode cX12_fact 134 = .ok (.getfield 137, 3) := by decide +kernel
theorem dX12_fact_137 : decode cX12_fact 137 = .ok (.iconst 1, 1) := by decide +kernel
theorem dX12_fact_138 : decode cX12_fact 138 = .ok (.iadd, 1) := by decide +kernel
theorem dX12_fact_139 : decode cX12_fact 139 = .ok (.putfield 137, 3) := by decide +kernel
theorem dX12_fact_142 : decode cX12_fact 142 = .ok (.aload_n 0, 1) := by decide +kernel
theorem dX12_fact_143 : decode cX12_fact 143 = .ok (.getfield 137, 3) := by decide +kernel
theorem dX12_fact_146 : decode cX12_fact 146 = .ok (.ireturn, 1) := by decide +kernel
theorem dX12_valueOf_0 : decode cX12_valueOf 0 = .ok (.iconst (-1), 1) := by decide +kernel
theorem dX12_valueOf_1 : decode cX12_valueOf 1 = .ok (.istore 5, 2) := by decide +kernel
theorem dX12_valueOf_3 : decode cX12_valueOf 3 = .ok (.iconst 0, 1) := by decide +kernel
theorem dX12_valueOf_4 : decode cX12_valueOf 4 = .ok (.istore 6, 2) := by decide +kernel
theorem dX12_valueOf_6 : decode cX12_valueOf 6 = .ok (.iload 6, 2) := by decide +kernel
theorem dX12_valueOf_8 : decode cX12_valueOf 8 = .ok (.aload_n 0, 1) := by decide +kernel
theorem dX12_valueOf_9 : decode cX12_valueOf 9 = .ok (.getfield 137, 3) := by decide +kernel
theorem dX12_valueOf_12 : decode cX12_valueOf 12 = .ok (.if_icmp .ge 83, 3) := by decide +kernel
theorem dX12_valueOf_15 : decode cX12_valueOf 15 = .ok (.aload_n 0, 1) := by decide +kernel
theorem dX12_valueOf_16 : decode cX12_valueOf 16 = .ok (.getfield 41, 3) := by decide +kernel
theorem dX12_valueOf_19 : decode cX12_valueOf 19 = .ok (.iload 6, 2) := by decide +kernel
theorem dX12_valueOf_21 : decode cX12_valueOf 21 = .ok (.iaload, 1) := by decide +kernel
theorem dX12_valueOf_22 : decode cX12_valueOf 22 = .ok (.iload_n 1, 1) := by decide +kernel
theorem dX12_valueOf_23 : decode cX12_valueOf 23 = .ok (.if_icmp .ne 66, 3) := by decide +kernel
theorem dX12_valueOf_26 : decode cX12_valueOf 26 = .ok (.aload_n 0, 1) := by decide +kernel
theorem dX12_valueOf_27 : decode cX12_valueOf 27 = .ok (.getfield 44, 3) := by decide +kernel
theorem dX12_valueOf_30 : decode cX12_valueOf 30 = .ok (.iload 6, 2) := by decide +kernel
theorem dX12_valueOf_32 : decode cX12_valueOf 32 = .ok (.iaload, 1) := by decide +kernel
theorem dX12_valueOf_33 : decode cX12_valueOf 33 = .ok (.iload_n 2, 1) := by decide +kernel
theorem dX12_valueOf_34 : decode cX12_valueOf 34 = .ok (.if_icmp .ne 55, 3) := by decide +kernel
theorem dX12_valueOf_37 : decode cX12_valueOf 37 = .ok (.aload_n 0, 1) := by decide +kernel
theorem dX12_valueOf_38 : decode cX12_valueOf 38 = .ok (.getfield 50, 3) := by decide +kernel
theorem dX12_valueOf_41 : decode cX12_valueOf 41 = .ok (.iload 6, 2) := by decide +kernel
theorem dX12_valueOf_43 : decode cX12_valueOf 43 = .ok (.iaload, 1) := by decide +kernel
theorem dX12_valueOf_44 : decode cX12_valueOf 44 = .ok (.iload_n 3, 1) := by decide +kernel
theorem dX12_valueOf_45 : decode cX12_valueOf 45 = .ok (.if_icmp .gt 44, 3) := by decide +kernel
theorem dX12_valueOf_48 : decode cX12_valueOf 48 = .ok (.aload_n 0, 1) := by decide +kernel
theorem dX12_valueOf_49 : decode cX12_valueOf 49 = .ok (.getfield 53, 3) := by decide +kernel
theorem dX12_valueOf_52 : decode cX12_valueOf 52 = .ok (.iload 6, 2) := by decide +kernel
theorem dX12_valueOf_54 : decode cX12_valueOf 54 = .ok (.iaload, 1) := by decide +kernel
theorem dX12_valueOf_55 : decode cX12_valueOf 55 = .ok (.iload 4, 2) := by decide +kernel
theorem dX12_valueOf_57 : decode cX12_valueOf 57 = .ok (.if_icmp .le 6, 3) := by decide +kernel
theorem dX12_valueOf_60 : decode cX12_valueOf 60 = .ok (.goto 29, 3) := by decide +kernel
theorem dX12_valueOf_63 : decode cX12_valueOf 63 = .ok (.iload 5, 2) := by decide +kernel
theorem dX12_valueOf_65 : decode cX12_valueOf 65 = .ok (.ifCond .lt 20, 3) := by decide +kernel
theorem dX12_valueOf_68 : decode cX12_valueOf 68 = .ok (.aload_n 0, 1) := by decide +kernel
theorem dX12_valueOf_69 : decode cX12_valueOf 69 = .ok (.getfield 50, 3) := by decide +kernel
theorem dX12_valueOf_72 : decode cX12_valueOf 72 = .ok (.iload 6, 2) := by decide +kernel
theorem dX12_valueOf_74 : decode cX12_valueOf 74 = .ok (.iaload, 1) := by decide +kernel
theorem dX12_valueOf_75 : decode cX12_valueOf 75 = .ok (.aload_n 0, 1) := by decide +kernel
theorem dX12_valueOf_76 : decode cX12_valueOf 76 = .ok (.getfield 50, 3) := by decide +kernel
theorem dX12_valueOf_79 : decode cX12_valueOf 79 = .ok (.iload 5, 2) := by decide +kernel
theorem dX12_valueOf_81 : decode cX12_valueOf 81 = .ok (.iaload, 1) := by decide +kernel
theorem dX12_valueOf_82 : decode cX12_valueOf 82 = .ok (.if_icmp .lt 7, 3) := by decide +kernel
theorem dX12_valueOf_85 : decode cX12_valueOf 85 = .ok (.iload 6, 2) := by decide +kernel
theorem dX12_valueOf_87 : decode cX12_valueOf 87 = .ok (.istore 5, 2) := by decide +kernel
theorem dX12_valueOf_89 : decode cX12_valueOf 89 = .ok (.iinc 6 1, 3) := by decide +kernel
theorem dX12_valueOf_92 : decode cX12_valueOf 92 = .ok (.goto (-86), 3) := by decide +kernel
theorem dX12_valueOf_95 : decode cX12_valueOf 95 = .ok (.iload 5, 2) := by decide +kernel
theorem dX12_valueOf_97 : decode cX12_valueOf 97 = .ok (.ifCond .ge 7, 3) := by decide +kernel
theorem dX12_valueOf_100 : decode cX12_valueOf 100 = .ok (.iconst 0, 1) := by decide +kernel
theorem dX12_valueOf_101 : decode cX12_valueOf 101 = .ok (.goto 10, 3) := by decide +kernel
theorem dX12_valueOf_104 : decode cX12_valueOf 104 = .ok (.aload_n 0, 1) := by decide +kernel
theorem dX12_valueOf_105 : decode cX12_valueOf 105 = .ok (.getfield 47, 3) := by decide +kernel
theorem dX12_valueOf_108 : decode cX12_valueOf 108 = .ok (.iload 5, 2) := by decide +kernel
theorem dX12_valueOf_110 : decode cX12_valueOf 110 = .ok (.iaload, 1) := by decide +kernel
theorem dX12_valueOf_111 : decode cX12_valueOf 111 = .ok (.ireturn, 1) := by decide +kernel
theorem dX12_value_0 : decode cX12_value 0 = .ok (.iload_n 1, 1) := by decide +kernel
theorem dX12_value_1 : decode cX12_value 1 = .ok (.ifCond .eq 14, 3) := by decide +kernel
theorem dX12_value_4 : decode cX12_value 4 = .ok (.aload_n 0, 1) := by decide +kernel
theorem dX12_value_5 : decode cX12_value 5 = .ok (.iload_n 2, 1) := by decide +kernel
theorem dX12_value_6 : decode cX12_value 6 = .ok (.invokevirtual 140, 3) := by decide +kernel
theorem dX12_value_9 : decode cX12_value 9 = .ok (.ifCond .eq 40, 3) := by decide +kernel
theorem dX12_value_12 : decode cX12_value 12 = .ok (.goto 11, 3) := by decide +kernel
theorem dX12_value_15 : decode cX12_value 15 = .ok (.aload_n 0, 1) := by decide +kernel
theorem dX12_value_16 : decode cX12_value 16 = .ok (.iload_n 2, 1) := by decide +kernel
theorem dX12_value_17 : decode cX12_value 17 = .ok (.invokevirtual 144, 3) := by decide +kernel
theorem dX12_value_20 : decode cX12_value 20 = .ok (.ifCond .eq 29, 3) := by decide +kernel
theorem dX12_value_23 : decode cX12_value 23 = .ok (.iload_n 3, 1) := by decide +kernel
theorem dX12_value_24 : decode cX12_value 24 = .ok (.iconst 0, 1) := by decide +kernel
theorem dX12_value_25 : decode cX12_value 25 = .ok (.bipush 7, 2) := by decide +kernel
theorem dX12_value_27 : decode cX12_value 27 = .ok (.invokestatic 123, 3) := by decide +kernel
theorem dX12_value_30 : decode cX12_value 30 = .ok (.ifCond .eq 19, 3) := by decide +kernel
theorem dX12_value_33 : decode cX12_value 33 = .ok (.iload 4, 2) := by decide +kernel
theorem dX12_value_35 : decode cX12_value 35 = .ok (.invokestatic 147, 3) := by decide +kernel
theorem dX12_value_38 : decode cX12_value 38 = .ok (.ifCond .eq 11, 3) := by decide +kernel
theorem dX12_value_41 : decode cX12_value 41 = .ok (.iload 5, 2) := by decide +kernel
theorem dX12_value_43 : decode cX12_value 43 = .ok (.invokestatic 147, 3) := by decide +kernel
theorem dX12_value_46 : decode cX12_value 46 = .ok (.ifCond .ne 7, 3) := by decide +kernel
theorem dX12_value_49 : decode cX12_value 49 = .ok (.sipush (-1000), 3) := by decide +kernel
theorem dX12_value_52 : decode cX12_value 52 = .ok (.ireturn, 1) := by decide +kernel
theorem dX12_value_53 : decode cX12_value 53 = .ok (.aload_n 0, 1) := by decide +kernel
theorem dX12_value_54 : decode cX12_value 54 = .ok (.iload_n 2, 1) := by decide +kernel
theorem dX12_value_55 : decode cX12_value 55 = .ok (.iload_n 1, 1) := by decide +kernel
theorem dX12_value_56 : decode cX12_value 56 = .ok (.ifCond .eq 8, 3) := by decide +kernel
theorem dX12_value_59 : decode cX12_value 59 = .ok (.bipush 100, 2) := by decide +kernel
theorem dX12_value_61 : decode cX12_value 61 = .ok (.goto 4, 3) := by decide +kernel
theorem dX12_value_64 : decode cX12_value 64 = .ok (.iconst 0, 1) := by decide +kernel
theorem dX12_value_65 : decode cX12_value 65 = .ok (.iadd, 1) := by decide +kernel
theorem dX12_value_66 : decode cX12_value 66 = .ok (.iload_n 3, 1) := by decide +kernel
theorem dX12_value_67 : decode cX12_value 67 = .ok (.iload 4, 2) := by decide +kernel
theorem dX12_value_69 : decode cX12_value 69 = .ok (.iload 5, 2) := by decide +kernel
theorem dX12_value_71 : decode cX12_value 71 = .ok (.invokevirtual 150, 3) := by decide +kernel
theorem dX12_value_74 : decode cX12_value 74 = .ok (.ireturn, 1) := by decide +kernel
theorem dX12_paper_0 : decode cX12_paper 0 = .ok (.aload_n 0, 1) := by decide +kernel
theorem dX12_paper_1 : decode cX12_paper 1 = .ok (.getfield 154, 3) := by decide +kernel
theorem dX12_paper_4 : decode cX12_paper 4 = .ok (.bipush 30, 2) := by decide +kernel
theorem dX12_paper_6 : decode cX12_paper 6 = .ok (.if_icmp .eq 29, 3) := by decide +kernel
theorem dX12_paper_9 : decode cX12_paper 9 = .ok (.aload_n 0, 1) := by decide +kernel
theorem dX12_paper_10 : decode cX12_paper 10 = .ok (.iload_n 1, 1) := by decide +kernel
theorem dX12_paper_11 : decode cX12_paper 11 = .ok (.invokevirtual 140, 3) := by decide +kernel
theorem dX12_paper_14 : decode cX12_paper 14 = .ok (.ifCond .eq 21, 3) := by decide +kernel
theorem dX12_paper_17 : decode cX12_paper 17 = .ok (.iload_n 2, 1) := by decide +kernel
theorem dX12_paper_18 : decode cX12_paper 18 = .ok (.invokestatic 147, 3) := by decide +kernel
theorem dX12_paper_21 : decode cX12_paper 21 = .ok (.ifCond .eq 14, 3) := by decide +kernel
theorem dX12_paper_24 : decode cX12_paper 24 = .ok (.iload_n 3, 1) := by decide +kernel
theorem dX12_paper_25 : decode cX12_paper 25 = .ok (.iload_n 2, 1) := by decide +kernel
theorem dX12_paper_26 : decode cX12_paper 26 = .ok (.sipush 999, 3) := by decide +kernel
theorem dX12_paper_29 : decode cX12_paper 29 = .ok (.invokestatic 123, 3) := by decide +kernel
theorem dX12_paper_32 : decode cX12_paper 32 = .ok (.ifCond .ne 5, 3) := by decide +kernel
theorem dX12_paper_35 : decode cX12_paper 35 = .ok (.iconst (-1), 1) := by decide +kernel
theorem dX12_paper_36 : decode cX12_paper 36 = .ok (.ireturn, 1) := by decide +kernel
theorem dX12_paper_37 : decode cX12_paper 37 = .ok (.aload_n 0, 1) := by decide +kernel
theorem dX12_paper_38 : decode cX12_paper 38 = .ok (.getfield 32, 3) := by decide +kernel
theorem dX12_paper_41 : decode cX12_paper 41 = .ok (.aload_n 0, 1) := by decide +kernel
theorem dX12_paper_42 : decode cX12_paper 42 = .ok (.getfield 154, 3) := by decide +kernel
theorem dX12_paper_45 : decode cX12_paper 45 = .ok (.iload_n 1, 1) := by decide +kernel
theorem dX12_paper_46 : decode cX12_paper 46 = .ok (.iastore, 1) := by decide +kernel
theorem dX12_paper_47 : decode cX12_paper 47 = .ok (.aload_n 0, 1) := by decide +kernel
theorem dX12_paper_48 : decode cX12_paper 48 = .ok (.getfield 35, 3) := by decide +kernel
theorem dX12_paper_51 : decode cX12_paper 51 = .ok (.aload_n 0, 1) := by decide +kernel
theorem dX12_paper_52 : decode cX12_paper 52 = .ok (.getfield 154, 3) := by decide +kernel
theorem dX12_paper_55 : decode cX12_paper 55 = .ok (.iload_n 2, 1) := by decide +kernel
theorem dX12_paper_56 : decode cX12_paper 56 = .ok (.iastore, 1) := by decide +kernel
theorem dX12_paper_57 : decode cX12_paper 57 = .ok (.aload_n 0, 1) := by decide +kernel
theorem dX12_paper_58 : decode cX12_paper 58 = .ok (.getfield 38, 3) := by decide +kernel
theorem dX12_paper_61 : decode cX12_paper 61 = .ok (.aload_n 0, 1) := by decide +kernel
theorem dX12_paper_62 : decode cX12_paper 62 = .ok (.getfield 154, 3) := by decide +kernel
theorem dX12_paper_65 : decode cX12_paper 65 = .ok (.iload_n 3, 1) := by decide +kernel
theorem dX12_paper_66 : decode cX12_paper 66 = .ok (.iastore, 1) := by decide +kernel
theorem dX12_paper_67 : decode cX12_paper 67 = .ok (.aload_n 0, 1) := by decide +kernel
theorem dX12_paper_68 : decode cX12_paper 68 = .ok (.dup, 1) := by decide +kernel
theorem dX12_paper_69 : decode cX12_paper 69 = .ok (.getfield 154, 3) := by decide +kernel
theorem dX12_paper_72 : decode cX12_paper 72 = .ok (.iconst 1, 1) := by decide +kernel
theorem dX12_paper_73 : decode cX12_paper 73 = .ok (.iadd, 1) := by decide +kernel
theorem dX12_paper_74 : decode cX12_paper 74 = .ok (.putfield 154, 3) := by decide +kernel
theorem dX12_paper_77 : decode cX12_paper 77 = .ok (.aload_n 0, 1) := by decide +kernel
theorem dX12_paper_78 : decode cX12_paper 78 = .ok (.getfield 154, 3) := by decide +kernel
theorem dX12_paper_81 : decode cX12_paper 81 = .ok (.iconst 1, 1) := by decide +kernel
theorem dX12_paper_82 : decode cX12_paper 82 = .ok (.isub, 1) := by decide +kernel
theorem dX12_paper_83 : decode cX12_paper 83 = .ok (.ireturn, 1) := by decide +kernel
theorem dX12_until_0 : decode cX12_until 0 = .ok (.iconst (-1), 1) := by decide +kernel
theorem dX12_until_1 : decode cX12_until 1 = .ok (.istore_n 3, 1) := by decide +kernel
theorem dX12_until_2 : decode cX12_until 2 = .ok (.aload_n 0, 1) := by decide +kernel
theorem dX12_until_3 : decode cX12_until 3 = .ok (.iload_n 1, 1) := by decide +kernel
theorem dX12_until_4 : decode cX12_until 4 = .ok (.invokevirtual 140, 3) := by decide +kernel
theorem dX12_until_7 : decode cX12_until 7 = .ok (.ifCond .eq 10, 3) := by decide +kernel
theorem dX12_until_10 : decode cX12_until 10 = .ok (.iload_n 2, 1) := by decide +kernel
theorem dX12_until_11 : decode cX12_until 11 = .ok (.invokestatic 147, 3) := by decide +kernel
theorem dX12_until_14 : decode cX12_until 14 = .ok (.ifCond .ne 5, 3) := by decide +kernel
theorem dX12_until_17 : decode cX12_until 17 = .ok (.iload_n 3, 1) := by decide +kernel
theorem dX12_until_18 : decode cX12_until 18 = .ok (.ireturn, 1) := by decide +kernel
theorem dX12_until_19 : decode cX12_until 19 = .ok (.iconst 0, 1) := by decide +kernel
theorem dX12_until_20 : decode cX12_until 20 = .ok (.istore 4, 2) := by decide +kernel
theorem dX12_until_22 : decode cX12_until 22 = .ok (.iload 4, 2) := by decide +kernel
theorem dX12_until_24 : decode cX12_until 24 = .ok (.aload_n 0, 1) := by decide +kernel
theorem dX12_until_25 : decode cX12_until 25 = .ok (.getfield 154, 3) := by decide +kernel
theorem dX12_until_28 : decode cX12_until 28 = .ok (.if_icmp .ge 61, 3) := by decide +kernel
theorem dX12_until_31 : decode cX12_until 31 = .ok (.aload_n 0, 1) := by decide +kernel
theorem dX12_until_32 : decode cX12_until 32 = .ok (.getfield 32, 3) := by decide +kernel
theorem dX12_until_35 : decode cX12_until 35 = .ok (.iload 4, 2) := by decide +kernel
theorem dX12_until_37 : decode cX12_until 37 = .ok (.iaload, 1) := by decide +kernel
theorem dX12_until_38 : decode cX12_until 38 = .ok (.iload_n 1, 1) := by decide +kernel
theorem dX12_until_39 : decode cX12_until 39 = .ok (.if_icmp .ne 44, 3) := by decide +kernel
theorem dX12_until_42 : decode cX12_until 42 = .ok (.aload_n 0, 1) := by decide +kernel
theorem dX12_until_43 : decode cX12_until 43 = .ok (.getfield 35, 3) := by decide +kernel
theorem dX12_until_46 : decode cX12_until 46 = .ok (.iload 4, 2) := by decide +kernel
theorem dX12_until_48 : decode cX12_until 48 = .ok (.iaload, 1) := by decide +kernel
theorem dX12_until_49 : decode cX12_until 49 = .ok (.iload_n 2, 1) := by decide +kernel
theorem dX12_until_50 : decode cX12_until 50 = .ok (.if_icmp .gt 33, 3) := by decide +kernel
theorem dX12_until_53 : decode cX12_until 53 = .ok (.aload_n 0, 1) := by decide +kernel
theorem dX12_until_54 : decode cX12_until 54 = .ok (.getfield 38, 3) := by decide +kernel
theorem dX12_until_57 : decode cX12_until 57 = .ok (.iload 4, 2) := by decide +kernel
theorem dX12_until_59 : decode cX12_until 59 = .ok (.iaload, 1) := by decide +kernel
theorem dX12_until_60 : decode cX12_until 60 = .ok (.iload_n 2, 1) := by decide +kernel
theorem dX12_until_61 : decode cX12_until 61 = .ok (.if_icmp .lt 22, 3) := by decide +kernel
theorem dX12_until_64 : decode cX12_until 64 = .ok (.aload_n 0, 1) := by decide +kernel
theorem dX12_until_65 : decode cX12_until 65 = .ok (.getfield 38, 3) := by decide +kernel
theorem dX12_until_68 : decode cX12_until 68 = .ok (.iload 4, 2) := by decide +kernel
theorem dX12_until_70 : decode cX12_until 70 = .ok (.iaload, 1) := by decide +kernel
theorem dX12_until_71 : decode cX12_until 71 = .ok (.iload_n 3, 1) := by decide +kernel
theorem dX12_until_72 : decode cX12_until 72 = .ok (.if_icmp .le 11, 3) := by decide +kernel
theorem dX12_until_75 : decode cX12_until 75 = .ok (.aload_n 0, 1) := by decide +kernel
theorem dX12_until_76 : decode cX12_until 76 = .ok (.getfield 38, 3) := by decide +kernel
theorem dX12_until_79 : decode cX12_until 79 = .ok (.iload 4, 2) := by decide +kernel
theorem dX12_until_81 : decode cX12_until 81 = .ok (.iaload, 1) := by decide +kernel
theorem dX12_until_82 : decode cX12_until 82 = .ok (.istore_n 3, 1) := by decide +kernel
theorem dX12_until_83 : decode cX12_until 83 = .ok (.iinc 4 1, 3) := by decide +kernel
theorem dX12_until_86 : decode cX12_until 86 = .ok (.goto (-64), 3) := by decide +kernel
theorem dX12_until_89 : decode cX12_until 89 = .ok (.iload_n 3, 1) := by decide +kernel
theorem dX12_until_90 : decode cX12_until 90 = .ok (.ireturn, 1) := by decide +kernel
theorem dX12_close_0 : decode cX12_close 0 = .ok (.aload_n 0, 1) := by decide +kernel
theorem dX12_close_1 : decode cX12_close 1 = .ok (.iload_n 1, 1) := by decide +kernel
theorem dX12_close_2 : decode cX12_close 2 = .ok (.invokevirtual 140, 3) := by decide +kernel
theorem dX12_close_5 : decode cX12_close 5 = .ok (.ifCond .eq 15, 3) := by decide +kernel
theorem dX12_close_8 : decode cX12_close 8 = .ok (.iload_n 2, 1) := by decide +kernel
theorem dX12_close_9 : decode cX12_close 9 = .ok (.iconst (-1), 1) := by decide +kernel
theorem dX12_close_10 : decode cX12_close 10 = .ok (.if_icmp .eq 12, 3) := by decide +kernel
theorem dX12_close_13 : decode cX12_close 13 = .ok (.iload_n 2, 1) := by decide +kernel
theorem dX12_close_14 : decode cX12_close 14 = .ok (.invokestatic 147, 3) := by decide +kernel
theorem dX12_close_17 : decode cX12_close 17 = .ok (.ifCond .ne 5, 3) := by decide +kernel
theorem dX12_close_20 : decode cX12_close 20 = .ok (.iconst 0, 1) := by decide +kernel
theorem dX12_close_21 : decode cX12_close 21 = .ok (.ireturn, 1) := by decide +kernel
theorem dX12_close_22 : decode cX12_close 22 = .ok (.aload_n 0, 1) := by decide +kernel
theorem dX12_close_23 : decode cX12_close 23 = .ok (.getfield 29, 3) := by decide +kernel
theorem dX12_close_26 : decode cX12_close 26 = .ok (.iload_n 1, 1) := by decide +kernel
theorem dX12_close_27 : decode cX12_close 27 = .ok (.iload_n 2, 1) := by decide +kernel
theorem dX12_close_28 : decode cX12_close 28 = .ok (.iastore, 1) := by decide +kernel
theorem dX12_close_29 : decode cX12_close 29 = .ok (.iconst 1, 1) := by decide +kernel
theorem dX12_close_30 : decode cX12_close 30 = .ok (.ireturn, 1) := by decide +kernel
theorem dX12_need_0 : decode cX12_need 0 = .ok (.aload_n 0, 1) := by decide +kernel
theorem dX12_need_1 : decode cX12_need 1 = .ok (.iload_n 1, 1) := by decide +kernel
theorem dX12_need_2 : decode cX12_need 2 = .ok (.invokevirtual 144, 3) := by decide +kernel
theorem dX12_need_5 : decode cX12_need 5 = .ok (.ifCond .eq 29, 3) := by decide +kernel
theorem dX12_need_8 : decode cX12_need 8 = .ok (.iload_n 2, 1) := by decide +kernel
theorem dX12_need_9 : decode cX12_need 9 = .ok (.invokestatic 147, 3) := by decide +kernel
theorem dX12_need_12 : decode cX12_need 12 = .ok (.ifCond .eq 22, 3) := by decide +kernel
theorem dX12_need_15 : decode cX12_need 15 = .ok (.iload_n 3, 1) := by decide +kernel
theorem dX12_need_16 : decode cX12_need 16 = .ok (.iload_n 2, 1) := by decide +kernel
theorem dX12_need_17 : decode cX12_need 17 = .ok (.sipush 999, 3) := by decide +kernel
theorem dX12_need_20 : decode cX12_need 20 = .ok (.invokestatic 123, 3) := by decide +kernel
theorem dX12_need_23 : decode cX12_need 23 = .ok (.ifCond .eq 11, 3) := by decide +kernel
theorem dX12_need_26 : decode cX12_need 26 = .ok (.iload_n 3, 1) := by decide +kernel
theorem dX12_need_27 : decode cX12_need 27 = .ok (.iload_n 2, 1) := by decide +kernel
theorem dX12_need_28 : decode cX12_need 28 = .ok (.isub, 1) := by decide +kernel
theorem dX12_need_29 : decode cX12_need 29 = .ok (.bipush 59, 2) := by decide +kernel
theorem dX12_need_31 : decode cX12_need 31 = .ok (.if_icmp .le 5, 3) := by decide +kernel
theorem dX12_need_34 : decode cX12_need 34 = .ok (.iconst 0, 1) := by decide +kernel
theorem dX12_need_35 : decode cX12_need 35 = .ok (.ireturn, 1) := by decide +kernel
theorem dX12_need_36 : decode cX12_need 36 = .ok (.aload_n 0, 1) := by decide +kernel
theorem dX12_need_37 : decode cX12_need 37 = .ok (.getfield 13, 3) := by decide +kernel
theorem dX12_need_40 : decode cX12_need 40 = .ok (.iload_n 1, 1) := by decide +kernel
theorem dX12_need_41 : decode cX12_need 41 = .ok (.iconst 1, 1) := by decide +kernel
theorem dX12_need_42 : decode cX12_need 42 = .ok (.bastore, 1) := by decide +kernel
theorem dX12_need_43 : decode cX12_need 43 = .ok (.aload_n 0, 1) := by decide +kernel
theorem dX12_need_44 : decode cX12_need 44 = .ok (.getfield 17, 3) := by decide +kernel
theorem dX12_need_47 : decode cX12_need 47 = .ok (.iload_n 1, 1) := by decide +kernel
theorem dX12_need_48 : decode cX12_need 48 = .ok (.iload_n 2, 1) := by decide +kernel
theorem dX12_need_49 : decode cX12_need 49 = .ok (.iastore, 1) := by decide +kernel
theorem dX12_need_50 : decode cX12_need 50 = .ok (.aload_n 0, 1) := by decide +kernel
theorem dX12_need_51 : decode cX12_need 51 = .ok (.getfield 20, 3) := by decide +kernel
theorem dX12_need_54 : decode cX12_need 54 = .ok (.iload_n 1, 1) := by decide +kernel
theorem dX12_need_55 : decode cX12_need 55 = .ok (.iload_n 3, 1) := by decide +kernel
theorem dX12_need_56 : decode cX12_need 56 = .ok (.iastore, 1) := by decide +kernel
theorem dX12_need_57 : decode cX12_need 57 = .ok (.aload_n 0, 1) := by decide +kernel
theorem dX12_need_58 : decode cX12_need 58 = .ok (.getfield 23, 3) := by decide +kernel
theorem dX12_need_61 : decode cX12_need 61 = .ok (.iload_n 1, 1) := by decide +kernel
theorem dX12_need_62 : decode cX12_need 62 = .ok (.iload 4, 2) := by decide +kernel
theorem dX12_need_64 : decode cX12_need 64 = .ok (.bastore, 1) := by decide +kernel
theorem dX12_need_65 : decode cX12_need 65 = .ok (.iconst 1, 1) := by decide +kernel
theorem dX12_need_66 : decode cX12_need 66 = .ok (.ireturn, 1) := by decide +kernel
theorem dX12_ends_0 : decode cX12_ends 0 = .ok (.aload_n 0, 1) := by decide +kernel
theorem dX12_ends_1 : decode cX12_ends 1 = .ok (.iload_n 1, 1) := by decide +kernel
theorem dX12_ends_2 : decode cX12_ends 2 = .ok (.invokevirtual 144, 3) := by decide +kernel
theorem dX12_ends_5 : decode cX12_ends 5 = .ok (.ifCond .eq 12, 3) := by decide +kernel
theorem dX12_ends_8 : decode cX12_ends 8 = .ok (.aload_n 0, 1) := by decide +kernel
theorem dX12_ends_9 : decode cX12_ends 9 = .ok (.getfield 13, 3) := by decide +kernel
theorem dX12_ends_12 : decode cX12_ends 12 = .ok (.iload_n 1, 1) := by decide +kernel
theorem dX12_ends_13 : decode cX12_ends 13 = .ok (.baload, 1) := by decide +kernel
theorem dX12_ends_14 : decode cX12_ends 14 = .ok (.ifCond .ne 5, 3) := by decide +kernel
theorem dX12_ends_17 : decode cX12_ends 17 = .ok (.iconst 0, 1) := by decide +kernel
theorem dX12_ends_18 : decode cX12_ends 18 = .ok (.ireturn, 1) := by decide +kernel
theorem dX12_ends_19 : decode cX12_ends 19 = .ok (.aload_n 0, 1) := by decide +kernel
theorem dX12_ends_20 : decode cX12_ends 20 = .ok (.getfield 13, 3) := by decide +kernel
theorem dX12_ends_23 : decode cX12_ends 23 = .ok (.iload_n 1, 1) := by decide +kernel
theorem dX12_ends_24 : decode cX12_ends 24 = .ok (.iconst 0, 1) := by decide +kernel
theorem dX12_ends_25 : decode cX12_ends 25 = .ok (.bastore, 1) := by decide +kernel
theorem dX12_ends_26 : decode cX12_ends 26 = .ok (.iconst 1, 1) := by decide +kernel
theorem dX12_ends_27 : decode cX12_ends 27 = .ok (.ireturn, 1) := by decide +kernel
theorem dX12_four_0 : decode cX12_four 0 = .ok (.bipush 24, 2) := by decide +kernel
theorem dX12_four_2 : decode cX12_four 2 = .ok (.istore_n 2, 1) := by decide +kernel
theorem dX12_four_3 : decode cX12_four 3 = .ok (.iload_n 2, 1) := by decide +kernel
theorem dX12_four_4 : decode cX12_four 4 = .ok (.ifCond .lt 32, 3) := by decide +kernel
theorem dX12_four_7 : decode cX12_four 7 = .ok (.aload_n 0, 1) := by decide +kernel
theorem dX12_four_8 : decode cX12_four 8 = .ok (.getfield 56, 3) := by decide +kernel
theorem dX12_four_11 : decode cX12_four 11 = .ok (.aload_n 0, 1) := by decide +kernel
theorem dX12_four_12 : decode cX12_four 12 = .ok (.getfield 157, 3) := by decide +kernel
theorem dX12_four_15 : decode cX12_four 15 = .ok (.iload_n 1, 1) := by decide +kernel
theorem dX12_four_16 : decode cX12_four 16 = .ok (.iload_n 2, 1) := by decide +kernel
theorem dX12_four_17 : decode cX12_four 17 = .ok (.ishr, 1) := by decide +kernel
theorem dX12_four_18 : decode cX12_four 18 = .ok (.i2b, 1) := by decide +kernel
theorem dX12_four_19 : decode cX12_four 19 = .ok (.bastore, 1) := by decide +kernel
theorem dX12_four_20 : decode cX12_four 20 = .ok (.aload_n 0, 1) := by decide +kernel
theorem dX12_four_21 : decode cX12_four 21 = .ok (.dup, 1) := by decide +kernel
theorem dX12_four_22 : decode cX12_four 22 = .ok (.getfield 157, 3) := by decide +kernel
theorem dX12_four_25 : decode cX12_four 25 = .ok (.iconst 1, 1) := by decide +kernel
theorem dX12_four_26 : decode cX12_four 26 = .ok (.iadd, 1) := by decide +kernel
theorem dX12_four_27 : decode cX12_four 27 = .ok (.putfield 157, 3) := by decide +kernel
theorem dX12_four_30 : decode cX12_four 30 = .ok (.iinc 2 (-8), 3) := by decide +kernel
theorem dX12_four_33 : decode cX12_four 33 = .ok (.goto (-30), 3) := by decide +kernel
theorem dX12_four_36 : decode cX12_four 36 = .ok (.return_, 1) := by decide +kernel
theorem dX12_feed_0 : decode cX12_feed 0 = .ok (.aload_n 0, 1) := by decide +kernel
theorem dX12_feed_1 : decode cX12_feed 1 = .ok (.getfield 157, 3) := by decide +kernel
theorem dX12_feed_4 : decode cX12_feed 4 = .ok (.bipush 20, 2) := by decide +kernel
theorem dX12_feed_6 : decode cX12_feed 6 = .ok (.iadd, 1) := by decide +kernel
theorem dX12_feed_7 : decode cX12_feed 7 = .ok (.sipush 500, 3) := by decide +kernel
theorem dX12_feed_10 : decode cX12_feed 10 = .ok (.if_icmp .le 5, 3) := by decide +kernel
theorem dX12_feed_13 : decode cX12_feed 13 = .ok (.iconst (-1), 1) := by decide +kernel
theorem dX12_feed_14 : decode cX12_feed 14 = .ok (.ireturn, 1) := by decide +kernel
theorem dX12_feed_15 : decode cX12_feed 15 = .ok (.aload_n 0, 1) := by decide +kernel
theorem dX12_feed_16 : decode cX12_feed 16 = .ok (.iload_n 1, 1) := by decide +kernel
theorem dX12_feed_17 : decode cX12_feed 17 = .ok (.invokevirtual 160, 3) := by decide +kernel
theorem dX12_feed_20 : decode cX12_feed 20 = .ok (.aload_n 0, 1) := by decide +kernel
theorem dX12_feed_21 : decode cX12_feed 21 = .ok (.iload_n 2, 1) := by decide +kernel
theorem dX12_feed_22 : decode cX12_feed 22 = .ok (.invokevirtual 160, 3) := by decide +kernel
theorem dX12_feed_25 : decode cX12_feed 25 = .ok (.aload_n 0, 1) := by decide +kernel
theorem dX12_feed_26 : decode cX12_feed 26 = .ok (.iload_n 3, 1) := by decide +kernel
theorem dX12_feed_27 : decode cX12_feed 27 = .ok (.invokevirtual 160, 3) := by decide +kernel
theorem dX12_feed_30 : decode cX12_feed 30 = .ok (.aload_n 0, 1) := by decide +kernel
theorem dX12_feed_31 : decode cX12_feed 31 = .ok (.iload 4, 2) := by decide +kernel
theorem dX12_feed_33 : decode cX12_feed 33 = .ok (.invokevirtual 160, 3) := by decide +kernel
theorem dX12_feed_36 : decode cX12_feed 36 = .ok (.aload_n 0, 1) := by decide +kernel
theorem dX12_feed_37 : decode cX12_feed 37 = .ok (.iload 5, 2) := by decide +kernel
theorem dX12_feed_39 : decode cX12_feed 39 = .ok (.invokevirtual 160, 3) := by decide +kernel
theorem dX12_feed_42 : decode cX12_feed 42 = .ok (.aload_n 0, 1) := by decide +kernel
theorem dX12_feed_43 : decode cX12_feed 43 = .ok (.getfield 157, 3) := by decide +kernel
theorem dX12_feed_46 : decode cX12_feed 46 = .ok (.ireturn, 1) := by decide +kernel
theorem dX12_end_0 : decode cX12_end 0 = .ok (.iload_n 1, 1) := by decide +kernel
theorem dX12_end_1 : decode cX12_end 1 = .ok (.ifCond .lt 11, 3) := by decide +kernel
theorem dX12_end_4 : decode cX12_end 4 = .ok (.iload_n 1, 1) := by decide +kernel
theorem dX12_end_5 : decode cX12_end 5 = .ok (.aload_n 0, 1) := by decide +kernel
theorem dX12_end_6 : decode cX12_end 6 = .ok (.getfield 157, 3) := by decide +kernel
theorem dX12_end_9 : decode cX12_end 9 = .ok (.if_icmp .le 5, 3) := by decide +kernel
theorem dX12_end_12 : decode cX12_end 12 = .ok (.iconst (-1), 1) := by decide +kernel
theorem dX12_end_13 : decode cX12_end 13 = .ok (.ireturn, 1) := by decide +kernel
theorem dX12_end_14 : decode cX12_end 14 = .ok (.aload_n 0, 1) := by decide +kernel
theorem dX12_end_15 : decode cX12_end 15 = .ok (.iload_n 1, 1) := by decide +kernel
theorem dX12_end_16 : decode cX12_end 16 = .ok (.putfield 157, 3) := by decide +kernel
theorem dX12_end_19 : decode cX12_end 19 = .ok (.iload_n 1, 1) := by decide +kernel
theorem dX12_end_20 : decode cX12_end 20 = .ok (.ireturn, 1) := by decide +kernel
theorem dX12_fails_0 : decode cX12_fails 0 = .ok (.aload_n 0, 1) := by decide +kernel
theorem dX12_fails_1 : decode cX12_fails 1 = .ok (.getfield 164, 3) := by decide +kernel
theorem dX12_fails_4 : decode cX12_fails 4 = .ok (.ifCond .ne 15, 3) := by decide +kernel
theorem dX12_fails_7 : decode cX12_fails 7 = .ok (.aload_n 0, 1) := by decide +kernel
theorem dX12_fails_8 : decode cX12_fails 8 = .ok (.iconst 1, 1) := by decide +kernel
theorem dX12_fails_9 : decode cX12_fails 9 = .ok (.bipush 8, 2) := by decide +kernel
theorem dX12_fails_11 : decode cX12_fails 11 = .ok (.iload_n 2, 1) := by decide +kernel
theorem dX12_fails_12 : decode cX12_fails 12 = .ok (.imul, 1) := by decide +kernel
theorem dX12_fails_13 : decode cX12_fails 13 = .ok (.iadd, 1) := by decide +kernel
theorem dX12_fails_14 : decode cX12_fails 14 = .ok (.iload_n 1, 1) := by decide +kernel
theorem dX12_fails_15 : decode cX12_fails 15 = .ok (.iadd, 1) := by decide +kernel
theorem dX12_fails_16 : decode cX12_fails 16 = .ok (.putfield 164, 3) := by decide +kernel
theorem dX12_fails_19 : decode cX12_fails 19 = .ok (.iconst 0, 1) := by decide +kernel
theorem dX12_fails_20 : decode cX12_fails 20 = .ok (.ireturn, 1) := by decide +kernel
theorem dX12_see_0 : decode cX12_see 0 = .ok (.aload_n 0, 1) := by decide +kernel
theorem dX12_see_1 : decode cX12_see 1 = .ok (.getfield 167, 3) := by decide +kernel
theorem dX12_see_4 : decode cX12_see 4 = .ok (.aload_n 0, 1) := by decide +kernel
theorem dX12_see_5 : decode cX12_see 5 = .ok (.getfield 157, 3) := by decide +kernel
theorem dX12_see_8 : decode cX12_see 8 = .ok (.if_icmp .ge 30, 3) := by decide +kernel
theorem dX12_see_11 : decode cX12_see 11 = .ok (.aload_n 0, 1) := by decide +kernel
theorem dX12_see_12 : decode cX12_see 12 = .ok (.getfield 56, 3) := by decide +kernel
theorem dX12_see_15 : decode cX12_see 15 = .ok (.aload_n 0, 1) := by decide +kernel
theorem dX12_see_16 : decode cX12_see 16 = .ok (.getfield 167, 3) := by decide +kernel
theorem dX12_see_19 : decode cX12_see 19 = .ok (.baload, 1) := by decide +kernel
theorem dX12_see_20 : decode cX12_see 20 = .ok (.bipush 32, 2) := by decide +kernel
theorem dX12_see_22 : decode cX12_see 22 = .ok (.if_icmp .ne 16, 3) := by decide +kernel
theorem dX12_see_25 : decode cX12_see 25 = .ok (.aload_n 0, 1) := by decide +kernel
theorem dX12_see_26 : decode cX12_see 26 = .ok (.dup, 1) := by decide +kernel
theorem dX12_see_27 : decode cX12_see 27 = .ok (.getfield 167, 3) := by decide +kernel
theorem dX12_see_30 : decode cX12_see 30 = .ok (.iconst 1, 1) := by decide +kernel
theorem dX12_see_31 : decode cX12_see 31 = .ok (.iadd, 1) := by decide +kernel
theorem dX12_see_32 : decode cX12_see 32 = .ok (.putfield 167, 3) := by decide +kernel
theorem dX12_see_35 : decode cX12_see 35 = .ok (.goto (-35), 3) := by decide +kernel
theorem dX12_see_38 : decode cX12_see 38 = .ok (.aload_n 0, 1) := by decide +kernel
theorem dX12_see_39 : decode cX12_see 39 = .ok (.getfield 167, 3) := by decide +kernel
theorem dX12_see_42 : decode cX12_see 42 = .ok (.aload_n 0, 1) := by decide +kernel
theorem dX12_see_43 : decode cX12_see 43 = .ok (.getfield 157, 3) := by decide +kernel
theorem dX12_see_46 : decode cX12_see 46 = .ok (.if_icmp .ge 19, 3) := by decide +kernel
theorem dX12_see_49 : decode cX12_see 49 = .ok (.aload_n 0, 1) := by decide +kernel
theorem dX12_see_50 : decode cX12_see 50 = .ok (.getfield 56, 3) := by decide +kernel
theorem dX12_see_53 : decode cX12_see 53 = .ok (.aload_n 0, 1) := by decide +kernel
theorem dX12_see_54 : decode cX12_see 54 = .ok (.getfield 167, 3) := by decide +kernel
theorem dX12_see_57 : decode cX12_see 57 = .ok (.baload, 1) := by decide +kernel
theorem dX12_see_58 : decode cX12_see 58 = .ok (.sipush 255, 3) := by decide +kernel
theorem dX12_see_61 : decode cX12_see 61 = .ok (.iand, 1) := by decide +kernel
theorem dX12_see_62 : decode cX12_see 62 = .ok (.goto 4, 3) := by decide +kernel
theorem dX12_see_65 : decode cX12_see 65 = .ok (.iconst (-1), 1) := by decide +kernel
theorem dX12_see_66 : decode cX12_see 66 = .ok (.ireturn, 1) := by decide +kernel
theorem dX12_isDigit_0 : decode cX12_isDigit 0 = .ok (.iload_n 0, 1) := by decide +kernel
theorem dX12_isDigit_1 : decode cX12_isDigit 1 = .ok (.bipush 48, 2) := by decide +kernel
theorem dX12_isDigit_3 : decode cX12_isDigit 3 = .ok (.if_icmp .lt 13, 3) := by decide +kernel
theorem dX12_isDigit_6 : decode cX12_isDigit 6 = .ok (.iload_n 0, 1) := by decide +kernel
theorem dX12_isDigit_7 : decode cX12_isDigit 7 = .ok (.bipush 57, 2) := by decide +kernel
theorem dX12_isDigit_9 : decode cX12_isDigit 9 = .ok (.if_icmp .gt 7, 3) := by decide +kernel
theorem dX12_isDigit_12 : decode cX12_isDigit 12 = .ok (.iconst 1, 1) := by decide +kernel
theorem dX12_isDigit_13 : decode cX12_isDigit 13 = .ok (.goto 4, 3) := by decide +kernel
theorem dX12_isDigit_16 : decode cX12_isDigit 16 = .ok (.iconst 0, 1) := by decide +kernel
theorem dX12_isDigit_17 : decode cX12_isDigit 17 = .ok (.ireturn, 1) := by decide +kernel
theorem dX12_isWordByte_0 : decode cX12_isWordByte 0 = .ok (.iload_n 0, 1) := by decide +kernel
theorem dX12_isWordByte_1 : decode cX12_isWordByte 1 = .ok (.invokestatic 170, 3) := by decide +kernel
theorem dX12_isWordByte_4 : decode cX12_isWordByte 4 = .ok (.ifCond .ne 15, 3) := by decide +kernel
theorem dX12_isWordByte_7 : decode cX12_isWordByte 7 = .ok (.iload_n 0, 1) := by decide +kernel
theorem dX12_isWordByte_8 : decode cX12_isWordByte 8 = .ok (.bipush 97, 2) := by decide +kernel
theorem dX12_isWordByte_10 : decode cX12_isWordByte 10 = .ok (.if_icmp .lt 13, 3) := by decide +kernel
theorem dX12_isWordByte_13 : decode cX12_isWordByte 13 = .ok (.iload_n 0, 1) := by decide +kernel
theorem dX12_isWordByte_14 : decode cX12_isWordByte 14 = .ok (.bipush 122, 2) := by decide +kernel
theorem dX12_isWordByte_16 : decode cX12_isWordByte 16 = .ok (.if_icmp .gt 7, 3) := by decide +kernel
theorem dX12_isWordByte_19 : decode cX12_isWordByte 19 = .ok (.iconst 1, 1) := by decide +kernel
theorem dX12_isWordByte_20 : decode cX12_isWordByte 20 = .ok (.goto 4, 3) := by decide +kernel
theorem dX12_isWordByte_23 : decode cX12_isWordByte 23 = .ok (.iconst 0, 1) := by decide +kernel
theorem dX12_isWordByte_24 : decode cX12_isWordByte 24 = .ok (.ireturn, 1) := by decide +kernel
theorem dX12_looks_0 : decode cX12_looks 0 = .ok (.aload_n 0, 1) := by decide +kernel
theorem dX12_looks_1 : decode cX12_looks 1 = .ok (.invokevirtual 173, 3) := by decide +kernel
theorem dX12_looks_4 : decode cX12_looks 4 = .ok (.istore_n 1, 1) := by decide +kernel
theorem dX12_looks_5 : decode cX12_looks 5 = .ok (.aload_n 0, 1) := by decide +kernel
theorem dX12_looks_6 : decode cX12_looks 6 = .ok (.aload_n 0, 1) := by decide +kernel
theorem dX12_looks_7 : decode cX12_looks 7 = .ok (.getfield 167, 3) := by decide +kernel
theorem dX12_looks_10 : decode cX12_looks 10 = .ok (.putfield 177, 3) := by decide +kernel
theorem dX12_looks_13 : decode cX12_looks 13 = .ok (.aload_n 0, 1) := by decide +kernel
theorem dX12_looks_14 : decode cX12_looks 14 = .ok (.iconst 0, 1) := by decide +kernel
theorem dX12_looks_15 : decode cX12_looks 15 = .ok (.putfield 180, 3) := by decide +kernel
theorem dX12_looks_18 : decode cX12_looks 18 = .ok (.aload_n 0, 1) := by decide +kernel
theorem dX12_looks_19 : decode cX12_looks 19 = .ok (.getfield 177, 3) := by decide +kernel
theorem dX12_looks_22 : decode cX12_looks 22 = .ok (.aload_n 0, 1) := by decide +kernel
theorem dX12_looks_23 : decode cX12_looks 23 = .ok (.getfield 180, 3) := by decide +kernel
theorem dX12_looks_26 : decode cX12_looks 26 = .ok (.iadd, 1) := by decide +kernel
theorem dX12_looks_27 : decode cX12_looks 27 = .ok (.aload_n 0, 1) := by decide +kernel
theorem dX12_looks_28 : decode cX12_looks 28 = .ok (.getfield 157, 3) := by decide +kernel
theorem dX12_looks_31 : decode cX12_looks 31 = .ok (.if_icmp .ge 36, 3) := by decide +kernel
theorem dX12_looks_34 : decode cX12_looks 34 = .ok (.aload_n 0, 1) := by decide +kernel
theorem dX12_looks_35 : decode cX12_looks 35 = .ok (.getfield 56, 3) := by decide +kernel
theorem dX12_looks_38 : decode cX12_looks 38 = .ok (.aload_n 0, 1) := by decide +kernel
theorem dX12_looks_39 : decode cX12_looks 39 = .ok (.getfield 177, 3) := by decide +kernel
theorem dX12_looks_42 : decode cX12_looks 42 = .ok (.aload_n 0, 1) := by decide +kernel
theorem dX12_looks_43 : decode cX12_looks 43 = .ok (.getfield 180, 3) := by decide +kernel
theorem dX12_looks_46 : decode cX12_looks 46 = .ok (.iadd, 1) := by decide +kernel
theorem dX12_looks_47 : decode cX12_looks 47 = .ok (.baload, 1) := by decide +kernel
theorem dX12_looks_48 : decode cX12_looks 48 = .ok (.invokestatic 183, 3) := by decide +kernel
theorem dX12_looks_51 : decode cX12_looks 51 = .ok (.ifCond .eq 16, 3) := by decide +kernel
theorem dX12_looks_54 : decode cX12_looks 54 = .ok (.aload_n 0, 1) := by decide +kernel
theorem dX12_looks_55 : decode cX12_looks 55 = .ok (.dup, 1) := by decide +kernel
theorem dX12_looks_56 : decode cX12_looks 56 = .ok (.getfield 180, 3) := by decide +kernel
theorem dX12_looks_59 : decode cX12_looks 59 = .ok (.iconst 1, 1) := by decide +kernel
theorem dX12_looks_60 : decode cX12_looks 60 = .ok (.iadd, 1) := by decide +kernel
theorem dX12_looks_61 : decode cX12_looks 61 = .ok (.putfield 180, 3) := by decide +kernel
theorem dX12_looks_64 : decode cX12_looks 64 = .ok (.goto (-46), 3) := by decide +kernel
theorem dX12_looks_67 : decode cX12_looks 67 = .ok (.return_, 1) := by decide +kernel
theorem dX12_isLetters_0 : decode cX12_isLetters 0 = .ok (.aload_n 0, 1) := by decide +kernel
theorem dX12_isLetters_1 : decode cX12_isLetters 1 = .ok (.getfield 180, 3) := by decide +kernel
theorem dX12_isLetters_4 : decode cX12_isLetters 4 = .ok (.iconst 4, 1) := by decide +kernel
theorem dX12_isLetters_5 : decode cX12_isLetters 5 = .ok (.if_icmp .ne 66, 3) := by decide +kernel
theorem dX12_isLetters_8 : decode cX12_isLetters 8 = .ok (.aload_n 0, 1) := by decide +kernel
theorem dX12_isLetters_9 : decode cX12_isLetters 9 = .ok (.getfield 56, 3) := by decide +kernel
theorem dX12_isLetters_12 : decode cX12_isLetters 12 = .ok (.aload_n 0, 1) := by decide +kernel
theorem dX12_isLetters_13 : decode cX12_isLetters 13 = .ok (.getfield 177, 3) := by decide +kernel
theorem dX12_isLetters_16 : decode cX12_isLetters 16 = .ok (.baload, 1) := by decide +kernel
theorem dX12_isLetters_17 : decode cX12_isLetters 17 = .ok (.iload_n 1, 1) := by decide +kernel
theorem dX12_isLetters_18 : decode cX12_isLetters 18 = .ok (.if_icmp .ne 53, 3) := by decide +kernel
theorem dX12_isLetters_21 : decode cX12_isLetters 21 = .ok (.aload_n 0, 1) := by decide +kernel
theorem dX12_isLetters_22 : decode cX12_isLetters 22 = .ok (.getfield 56, 3) := by decide +kernel
theorem dX12_isLetters_25 : decode cX12_isLetters 25 = .ok (.aload_n 0, 1) := by decide +kernel
theorem dX12_isLetters_26 : decode cX12_isLetters 26 = .ok (.getfield 177, 3) := by decide +kernel
theorem dX12_isLetters_29 : decode cX12_isLetters 29 = .ok (.iconst 1, 1) := by decide +kernel
theorem dX12_isLetters_30 : decode cX12_isLetters 30 = .ok (.iadd, 1) := by decide +kernel
theorem dX12_isLetters_31 : decode cX12_isLetters 31 = .ok (.baload, 1) := by decide +kernel
theorem dX12_isLetters_32 : decode cX12_isLetters 32 = .ok (.iload_n 2, 1) := by decide +kernel
theorem dX12_isLetters_33 : decode cX12_isLetters 33 = .ok (.if_icmp .ne 38, 3) := by decide +kernel
theorem dX12_isLetters_36 : decode cX12_isLetters 36 = .ok (.aload_n 0, 1) := by decide +kernel
theorem dX12_isLetters_37 : decode cX12_isLetters 37 = .ok (.getfield 56, 3) := by decide +kernel
theorem dX12_isLetters_40 : decode cX12_isLetters 40 = .ok (.aload_n 0, 1) := by decide +kernel
theorem dX12_isLetters_41 : decode cX12_isLetters 41 = .ok (.getfield 177, 3) := by decide +kernel
theorem dX12_isLetters_44 : decode cX12_isLetters 44 = .ok (.iconst 2, 1) := by decide +kernel
theorem dX12_isLetters_45 : decode cX12_isLetters 45 = .ok (.iadd, 1) := by decide +kernel
theorem dX12_isLetters_46 : decode cX12_isLetters 46 = .ok (.baload, 1) := by decide +kernel
theorem dX12_isLetters_47 : decode cX12_isLetters 47 = .ok (.iload_n 3, 1) := by decide +kernel
theorem dX12_isLetters_48 : decode cX12_isLetters 48 = .ok (.if_icmp .ne 23, 3) := by decide +kernel
theorem dX12_isLetters_51 : decode cX12_isLetters 51 = .ok (.aload_n 0, 1) := by decide +kernel
theorem dX12_isLetters_52 : decode cX12_isLetters 52 = .ok (.getfield 56, 3) := by decide +kernel
theorem dX12_isLetters_55 : decode cX12_isLetters 55 = .ok (.aload_n 0, 1) := by decide +kernel
theorem dX12_isLetters_56 : decode cX12_isLetters 56 = .ok (.getfield 177, 3) := by decide +kernel
theorem dX12_isLetters_59 : decode cX12_isLetters 59 = .ok (.iconst 3, 1) := by decide +kernel
theorem dX12_isLetters_60 : decode cX12_isLetters 60 = .ok (.iadd, 1) := by decide +kernel
theorem dX12_isLetters_61 : decode cX12_isLetters 61 = .ok (.baload, 1) := by decide +kernel
theorem dX12_isLetters_62 : decode cX12_isLetters 62 = .ok (.iload 4, 2) := by decide +kernel
theorem dX12_isLetters_64 : decode cX12_isLetters 64 = .ok (.if_icmp .ne 7, 3) := by decide +kernel
theorem dX12_isLetters_67 : decode cX12_isLetters 67 = .ok (.iconst 1, 1) := by decide +kernel
theorem dX12_isLetters_68 : decode cX12_isLetters 68 = .ok (.goto 4, 3) := by decide +kernel
theorem dX12_isLetters_71 : decode cX12_isLetters 71 = .ok (.iconst 0, 1) := by decide +kernel
theorem dX12_isLetters_72 : decode cX12_isLetters 72 = .ok (.ireturn, 1) := by decide +kernel
theorem dX12_isAnd_0 : decode cX12_isAnd 0 = .ok (.aload_n 0, 1) := by decide +kernel
theorem dX12_isAnd_1 : decode cX12_isAnd 1 = .ok (.getfield 180, 3) := by decide +kernel
theorem dX12_isAnd_4 : decode cX12_isAnd 4 = .ok (.iconst 3, 1) := by decide +kernel
theorem dX12_isAnd_5 : decode cX12_isAnd 5 = .ok (.if_icmp .ne 53, 3) := by decide +kernel
theorem dX12_isAnd_8 : decode cX12_isAnd 8 = .ok (.aload_n 0, 1) := by decide +kernel
theorem dX12_isAnd_9 : decode cX12_isAnd 9 = .ok (.getfield 56, 3) := by decide +kernel
theorem dX12_isAnd_12 : decode cX12_isAnd 12 = .ok (.aload_n 0, 1) := by decide +kernel
theorem dX12_isAnd_13 : decode cX12_isAnd 13 = .ok (.getfield 177, 3) := by decide +kernel
theorem dX12_isAnd_16 : decode cX12_isAnd 16 = .ok (.baload, 1) := by decide +kernel
theorem dX12_isAnd_17 : decode cX12_isAnd 17 = .ok (.bipush 97, 2) := by decide +kernel
theorem dX12_isAnd_19 : decode cX12_isAnd 19 = .ok (.if_icmp .ne 39, 3) := by decide +kernel
theorem dX12_isAnd_22 : decode cX12_isAnd 22 = .ok (.aload_n 0, 1) := by decide +kernel
theorem dX12_isAnd_23 : decode cX12_isAnd 23 = .ok (.getfield 56, 3) := by decide +kernel
theorem dX12_isAnd_26 : decode cX12_isAnd 26 = .ok (.aload_n 0, 1) := by decide +kernel
theorem dX12_isAnd_27 : decode cX12_isAnd 27 = .ok (.getfield 177, 3) := by decide +kernel
theorem dX12_isAnd_30 : decode cX12_isAnd 30 = .ok (.iconst 1, 1) := by decide +kernel
theorem dX12_isAnd_31 : decode cX12_isAnd 31 = .ok (.iadd, 1) := by decide +kernel
theorem dX12_isAnd_32 : decode cX12_isAnd 32 = .ok (.baload, 1) := by decide +kernel
theorem dX12_isAnd_33 : decode cX12_isAnd 33 = .ok (.bipush 110, 2) := by decide +kernel
theorem dX12_isAnd_35 : decode cX12_isAnd 35 = .ok (.if_icmp .ne 23, 3) := by decide +kernel
theorem dX12_isAnd_38 : decode cX12_isAnd 38 = .ok (.aload_n 0, 1) := by decide +kernel
theorem dX12_isAnd_39 : decode cX12_isAnd 39 = .ok (.getfield 56, 3) := by decide +kernel
theorem dX12_isAnd_42 : decode cX12_isAnd 42 = .ok (.aload_n 0, 1) := by decide +kernel
theorem dX12_isAnd_43 : decode cX12_isAnd 43 = .ok (.getfield 177, 3) := by decide +kernel
theorem dX12_isAnd_46 : decode cX12_isAnd 46 = .ok (.iconst 2, 1) := by decide +kernel
theorem dX12_isAnd_47 : decode cX12_isAnd 47 = .ok (.iadd, 1) := by decide +kernel
theorem dX12_isAnd_48 : decode cX12_isAnd 48 = .ok (.baload, 1) := by decide +kernel
theorem dX12_isAnd_49 : decode cX12_isAnd 49 = .ok (.bipush 100, 2) := by decide +kernel
theorem dX12_isAnd_51 : decode cX12_isAnd 51 = .ok (.if_icmp .ne 7, 3) := by decide +kernel
theorem dX12_isAnd_54 : decode cX12_isAnd 54 = .ok (.iconst 1, 1) := by decide +kernel
theorem dX12_isAnd_55 : decode cX12_isAnd 55 = .ok (.goto 4, 3) := by decide +kernel
theorem dX12_isAnd_58 : decode cX12_isAnd 58 = .ok (.iconst 0, 1) := by decide +kernel
theorem dX12_isAnd_59 : decode cX12_isAnd 59 = .ok (.ireturn, 1) := by decide +kernel
theorem dX12_isNight_0 : decode cX12_isNight 0 = .ok (.aload_n 0, 1) := by decide +kernel
theorem dX12_isNight_1 : decode cX12_isNight 1 = .ok (.getfield 180, 3) := by decide +kernel
theorem dX12_isNight_4 : decode cX12_isNight 4 = .ok (.iconst 5, 1) := by decide +kernel
theorem dX12_isNight_5 : decode cX12_isNight 5 = .ok (.if_icmp .ne 85, 3) := by decide +kernel
theorem dX12_isNight_8 : decode cX12_isNight 8 = .ok (.aload_n 0, 1) := by decide +kernel
theorem dX12_isNight_9 : decode cX12_isNight 9 = .ok (.getfield 56, 3) := by decide +kernel
theorem dX12_isNight_12 : decode cX12_isNight 12 = .ok (.aload_n 0, 1) := by decide +kernel
theorem dX12_isNight_13 : decode cX12_isNight 13 = .ok (.getfield 177, 3) := by decide +kernel
theorem dX12_isNight_16 : decode cX12_isNight 16 = .ok (.baload, 1) := by decide +kernel
theorem dX12_isNight_17 : decode cX12_isNight 17 = .ok (.bipush 110, 2) := by decide +kernel
theorem dX12_isNight_19 : decode cX12_isNight 19 = .ok (.if_icmp .ne 71, 3) := by decide +kernel
theorem dX12_isNight_22 : decode cX12_isNight 22 = .ok (.aload_n 0, 1) := by decide +kernel
theorem dX12_isNight_23 : decode cX12_isNight 23 = .ok (.getfield 56, 3) := by decide +kernel
theorem dX12_isNight_26 : decode cX12_isNight 26 = .ok (.aload_n 0, 1) := by decide +kernel
theorem dX12_isNight_27 : decode cX12_isNight 27 = .ok (.getfield 177, 3) := by decide +kernel
theorem dX12_isNight_30 : decode cX12_isNight 30 = .ok (.iconst 1, 1) := by decide +kernel
theorem dX12_isNight_31 : decode cX12_isNight 31 = .ok (.iadd, 1) := by decide +kernel
theorem dX12_isNight_32 : decode cX12_isNight 32 = .ok (.baload, 1) := by decide +kernel
theorem dX12_isNight_33 : decode cX12_isNight 33 = .ok (.bipush 105, 2) := by decide +kernel
theorem dX12_isNight_35 : decode cX12_isNight 35 = .ok (.if_icmp .ne 55, 3) := by decide +kernel
theorem dX12_isNight_38 : decode cX12_isNight 38 = .ok (.aload_n 0, 1) := by decide +kernel
theorem dX12_isNight_39 : decode cX12_isNight 39 = .ok (.getfield 56, 3) := by decide +kernel
theorem dX12_isNight_42 : decode cX12_isNight 42 = .ok (.aload_n 0, 1) := by decide +kernel
theorem dX12_isNight_43 : decode cX12_isNight 43 = .ok (.getfield 177, 3) := by decide +kernel
theorem dX12_isNight_46 : decode cX12_isNight 46 = .ok (.iconst 2, 1) := by decide +kernel
theorem dX12_isNight_47 : decode cX12_isNight 47 = .ok (.iadd, 1) := by decide +kernel
theorem dX12_isNight_48 : decode cX12_isNight 48 = .ok (.baload, 1) := by decide +kernel
theorem dX12_isNight_49 : decode cX12_isNight 49 = .ok (.bipush 103, 2) := by decide +kernel
theorem dX12_isNight_51 : decode cX12_isNight 51 = .ok (.if_icmp .ne 39, 3) := by decide +kernel
theorem dX12_isNight_54 : decode cX12_isNight 54 = .ok (.aload_n 0, 1) := by decide +kernel
theorem dX12_isNight_55 : decode cX12_isNight 55 = .ok (.getfield 56, 3) := by decide +kernel
theorem dX12_isNight_58 : decode cX12_isNight 58 = .ok (.aload_n 0, 1) := by decide +kernel
theorem dX12_isNight_59 : decode cX12_isNight 59 = .ok (.getfield 177, 3) := by decide +kernel
theorem dX12_isNight_62 : decode cX12_isNight 62 = .ok (.iconst 3, 1) := by decide +kernel
theorem dX12_isNight_63 : decode cX12_isNight 63 = .ok (.iadd, 1) := by decide +kernel
theorem dX12_isNight_64 : decode cX12_isNight 64 = .ok (.baload, 1) := by decide +kernel
theorem dX12_isNight_65 : decode cX12_isNight 65 = .ok (.bipush 104, 2) := by decide +kernel
theorem dX12_isNight_67 : decode cX12_isNight 67 = .ok (.if_icmp .ne 23, 3) := by decide +kernel
theorem dX12_isNight_70 : decode cX12_isNight 70 = .ok (.aload_n 0, 1) := by decide +kernel
theorem dX12_isNight_71 : decode cX12_isNight 71 = .ok (.getfield 56, 3) := by decide +kernel
theorem dX12_isNight_74 : decode cX12_isNight 74 = .ok (.aload_n 0, 1) := by decide +kernel
theorem dX12_isNight_75 : decode cX12_isNight 75 = .ok (.getfield 177, 3) := by decide +kernel
theorem dX12_isNight_78 : decode cX12_isNight 78 = .ok (.iconst 4, 1) := by decide +kernel
theorem dX12_isNight_79 : decode cX12_isNight 79 = .ok (.iadd, 1) := by decide +kernel
theorem dX12_isNight_80 : decode cX12_isNight 80 = .ok (.baload, 1) := by decide +kernel
theorem dX12_isNight_81 : decode cX12_isNight 81 = .ok (.bipush 116, 2) := by decide +kernel
theorem dX12_isNight_83 : decode cX12_isNight 83 = .ok (.if_icmp .ne 7, 3) := by decide +kernel
theorem dX12_isNight_86 : decode cX12_isNight 86 = .ok (.iconst 1, 1) := by decide +kernel
theorem dX12_isNight_87 : decode cX12_isNight 87 = .ok (.goto 4, 3) := by decide +kernel
theorem dX12_isNight_90 : decode cX12_isNight 90 = .ok (.iconst 0, 1) := by decide +kernel
theorem dX12_isNight_91 : decode cX12_isNight 91 = .ok (.ireturn, 1) := by decide +kernel
theorem dX12_isNumber_0 : decode cX12_isNumber 0 = .ok (.aload_n 0, 1) := by decide +kernel
theorem dX12_isNumber_1 : decode cX12_isNumber 1 = .ok (.getfield 180, 3) := by decide +kernel
theorem dX12_isNumber_4 : decode cX12_isNumber 4 = .ok (.ifCond .le 7, 3) := by decide +kernel
theorem dX12_isNumber_7 : decode cX12_isNumber 7 = .ok (.iconst 1, 1) := by decide +kernel
theorem dX12_isNumber_8 : decode cX12_isNumber 8 = .ok (.goto 4, 3) := by decide +kernel
theorem dX12_isNumber_11 : decode cX12_isNumber 11 = .ok (.iconst 0, 1) := by decide +kernel
theorem dX12_isNumber_12 : decode cX12_isNumber 12 = .ok (.istore_n 1, 1) := by decide +kernel
theorem dX12_isNumber_13 : decode cX12_isNumber 13 = .ok (.iconst 0, 1) := by decide +kernel
theorem dX12_isNumber_14 : decode cX12_isNumber 14 = .ok (.istore_n 2, 1) := by decide +kernel
theorem dX12_isNumber_15 : decode cX12_isNumber 15 = .ok (.iload_n 2, 1) := by decide +kernel
theorem dX12_isNumber_16 : decode cX12_isNumber 16 = .ok (.aload_n 0, 1) := by decide +kernel
theorem dX12_isNumber_17 : decode cX12_isNumber 17 = .ok (.getfield 180, 3) := by decide +kernel
theorem dX12_isNumber_20 : decode cX12_isNumber 20 = .ok (.if_icmp .ge 36, 3) := by decide +kernel
theorem dX12_isNumber_23 : decode cX12_isNumber 23 = .ok (.iload_n 1, 1) := by decide +kernel
theorem dX12_isNumber_24 : decode cX12_isNumber 24 = .ok (.ifCond .eq 24, 3) := by decide +kernel
theorem dX12_isNumber_27 : decode cX12_isNumber 27 = .ok (.aload_n 0, 1) := by decide +kernel
theorem dX12_isNumber_28 : decode cX12_isNumber 28 = .ok (.getfield 56, 3) := by decide +kernel
theorem dX12_isNumber_31 : decode cX12_isNumber 31 = .ok (.aload_n 0, 1) := by decide +kernel
theorem dX12_isNumber_32 : decode cX12_isNumber 32 = .ok (.getfield 177, 3) := by decide +kernel
theorem dX12_isNumber_35 : decode cX12_isNumber 35 = .ok (.iload_n 2, 1) := by decide +kernel
theorem dX12_isNumber_36 : decode cX12_isNumber 36 = .ok (.iadd, 1) := by decide +kernel
theorem dX12_isNumber_37 : decode cX12_isNumber 37 = .ok (.baload, 1) := by decide +kernel
theorem dX12_isNumber_38 : decode cX12_isNumber 38 = .ok (.invokestatic 170, 3) := by decide +kernel
theorem dX12_isNumber_41 : decode cX12_isNumber 41 = .ok (.ifCond .eq 7, 3) := by decide +kernel
theorem dX12_isNumber_44 : decode cX12_isNumber 44 = .ok (.iconst 1, 1) := by decide +kernel
theorem dX12_isNumber_45 : decode cX12_isNumber 45 = .ok (.goto 4, 3) := by decide +kernel
theorem dX12_isNumber_48 : decode cX12_isNumber 48 = .ok (.iconst 0, 1) := by decide +kernel
theorem dX12_isNumber_49 : decode cX12_isNumber 49 = .ok (.istore_n 1, 1) := by decide +kernel
theorem dX12_isNumber_50 : decode cX12_isNumber 50 = .ok (.iinc 2 1, 3) := by decide +kernel
theorem dX12_isNumber_53 : decode cX12_isNumber 53 = .ok (.goto (-38), 3) := by decide +kernel
theorem dX12_isNumber_56 : decode cX12_isNumber 56 = .ok (.iload_n 1, 1) := by decide +kernel
theorem dX12_isNumber_57 : decode cX12_isNumber 57 = .ok (.ireturn, 1) := by decide +kernel
theorem dX12_numberHere_0 : decode cX12_numberHere 0 = .ok (.iconst 0, 1) := by decide +kernel
theorem dX12_numberHere_1 : decode cX12_numberHere 1 = .ok (.istore_n 1, 1) := by decide +kernel
theorem dX12_numberHere_2 : decode cX12_numberHere 2 = .ok (.iconst 0, 1) := by decide +kernel
theorem dX12_numberHere_3 : decode cX12_numberHere 3 = .ok (.istore_n 2, 1) := by decide +kernel
theorem dX12_numberHere_4 : decode cX12_numberHere 4 = .ok (.iload_n 2, 1) := by decide +kernel
theorem dX12_numberHere_5 : decode cX12_numberHere 5 = .ok (.aload_n 0, 1) := by decide +kernel
theorem dX12_numberHere_6 : decode cX12_numberHere 6 = .ok (.getfield 180, 3) := by decide +kernel
theorem dX12_numberHere_9 : decode cX12_numberHere 9 = .ok (.if_icmp .ge 34, 3) := by decide +kernel
theorem dX12_numberHere_12 : decode cX12_numberHere 12 = .ok (.iload_n 2, 1) := by decide +kernel
theorem dX12_numberHere_13 : decode cX12_numberHere 13 = .ok (.iconst 4, 1) := by decide +kernel
theorem dX12_numberHere_14 : decode cX12_numberHere 14 = .ok (.if_icmp .ge 29, 3) := by decide +kernel
theorem dX12_numberHere_17 : decode cX12_numberHere 17 = .ok (.bipush 10, 2) := by decide +kernel
theorem dX12_numberHere_19 : decode cX12_numberHere 19 = .ok (.iload_n 1, 1) := by decide +kernel
theorem dX12_numberHere_20 : decode cX12_numberHere 20 = .ok (.imul, 1) := by decide +kernel
theorem dX12_numberHere_21 : decode cX12_numberHere 21 = .ok (.aload_n 0, 1) := by decide +kernel
theorem dX12_numberHere_22 : decode cX12_numberHere 22 = .ok (.getfield 56, 3) := by decide +kernel
theorem dX12_numberHere_25 : decode cX12_numberHere 25 = .ok (.aload_n 0, 1) := by decide +kernel
theorem dX12_numberHere_26 : decode cX12_numberHere 26 = .ok (.getfield 177, 3) := by decide +kernel
theorem dX12_numberHere_29 : decode cX12_numberHere 29 = .ok (.iload_n 2, 1) := by decide +kernel
theorem dX12_numberHere_30 : decode cX12_numberHere 30 = .ok (.iadd, 1) := by decide +kernel
theorem dX12_numberHere_31 : decode cX12_numberHere 31 = .ok (.baload, 1) := by decide +kernel
theorem dX12_numberHere_32 : decode cX12_numberHere 32 = .ok (.iadd, 1) := by decide +kernel
theorem dX12_numberHere_33 : decode cX12_numberHere 33 = .ok (.bipush 48, 2) := by decide +kernel
theorem dX12_numberHere_35 : decode cX12_numberHere 35 = .ok (.isub, 1) := by decide +kernel
theorem dX12_numberHere_36 : decode cX12_numberHere 36 = .ok (.istore_n 1, 1) := by decide +kernel
theorem dX12_numberHere_37 : decode cX12_numberHere 37 = .ok (.iinc 2 1, 3) := by decide +kernel
theorem dX12_numberHere_40 : decode cX12_numberHere 40 = .ok (.goto (-36), 3) := by decide +kernel
theorem dX12_numberHere_43 : decode cX12_numberHere 43 = .ok (.iload_n 1, 1) := by decide +kernel
theorem dX12_numberHere_44 : decode cX12_numberHere 44 = .ok (.ireturn, 1) := by decide +kernel
theorem dX12_side_0 : decode cX12_side 0 = .ok (.aload_n 0, 1) := by decide +kernel
theorem dX12_side_1 : decode cX12_side 1 = .ok (.invokevirtual 186, 3) := by decide +kernel
theorem dX12_side_4 : decode cX12_side 4 = .ok (.aload_n 0, 1) := by decide +kernel
theorem dX12_side_5 : decode cX12_side 5 = .ok (.getfield 180, 3) := by decide +kernel
theorem dX12_side_8 : decode cX12_side 8 = .ok (.iconst 2, 1) := by decide +kernel
theorem dX12_side_9 : decode cX12_side 9 = .ok (.if_icmp .ne 67, 3) := by decide +kernel
theorem dX12_side_12 : decode cX12_side 12 = .ok (.aload_n 0, 1) := by decide +kernel
theorem dX12_side_13 : decode cX12_side 13 = .ok (.getfield 56, 3) := by decide +kernel
theorem dX12_side_16 : decode cX12_side 16 = .ok (.aload_n 0, 1) := by decide +kernel
theorem dX12_side_17 : decode cX12_side 17 = .ok (.getfield 177, 3) := by decide +kernel
theorem dX12_side_20 : decode cX12_side 20 = .ok (.baload, 1) := by decide +kernel
theorem dX12_side_21 : decode cX12_side 21 = .ok (.bipush 99, 2) := by decide +kernel
theorem dX12_side_23 : decode cX12_side 23 = .ok (.if_icmp .eq 17, 3) := by decide +kernel
theorem dX12_side_26 : decode cX12_side 26 = .ok (.aload_n 0, 1) := by decide +kernel
theorem dX12_side_27 : decode cX12_side 27 = .ok (.getfield 56, 3) := by decide +kernel
theorem dX12_side_30 : decode cX12_side 30 = .ok (.aload_n 0, 1) := by decide +kernel
theorem dX12_side_31 : decode cX12_side 31 = .ok (.getfield 177, 3) := by decide +kernel
theorem dX12_side_34 : decode cX12_side 34 = .ok (.baload, 1) := by decide +kernel
theorem dX12_side_35 : decode cX12_side 35 = .ok (.bipush 104, 2) := by decide +kernel
theorem dX12_side_37 : decode cX12_side 37 = .ok (.if_icmp .ne 39, 3) := by decide +kernel
theorem dX12_side_40 : decode cX12_side 40 = .ok (.aload_n 0, 1) := by decide +kernel
theorem dX12_side_41 : decode cX12_side 41 = .ok (.getfield 56, 3) := by decide +kernel
theorem dX12_side_44 : decode cX12_side 44 = .ok (.aload_n 0, 1) := by decide +kernel
theorem dX12_side_45 : decode cX12_side 45 = .ok (.getfield 177, 3) := by decide +kernel
theorem dX12_side_48 : decode cX12_side 48 = .ok (.iconst 1, 1) := by decide +kernel
theorem dX12_side_49 : decode cX12_side 49 = .ok (.iadd, 1) := by decide +kernel
theorem dX12_side_50 : decode cX12_side 50 = .ok (.baload, 1) := by decide +kernel
theorem dX12_side_51 : decode cX12_side 51 = .ok (.bipush 48, 2) := by decide +kernel
theorem dX12_side_53 : decode cX12_side 53 = .ok (.if_icmp .lt 23, 3) := by decide +kernel
theorem dX12_side_56 : decode cX12_side 56 = .ok (.aload_n 0, 1) := by decide +kernel
theorem dX12_side_57 : decode cX12_side 57 = .ok (.getfield 56, 3) := by decide +kernel
theorem dX12_side_60 : decode cX12_side 60 = .ok (.aload_n 0, 1) := by decide +kernel
theorem dX12_side_61 : decode cX12_side 61 = .ok (.getfield 177, 3) := by decide +kernel
theorem dX12_side_64 : decode cX12_side 64 = .ok (.iconst 1, 1) := by decide +kernel
theorem dX12_side_65 : decode cX12_side 65 = .ok (.iadd, 1) := by decide +kernel
theorem dX12_side_66 : decode cX12_side 66 = .ok (.baload, 1) := by decide +kernel
theorem dX12_side_67 : decode cX12_side 67 = .ok (.bipush 55, 2) := by decide +kernel
theorem dX12_side_69 : decode cX12_side 69 = .ok (.if_icmp .gt 7, 3) := by decide +kernel
theorem dX12_side_72 : decode cX12_side 72 = .ok (.iconst 1, 1) := by decide +kernel
theorem dX12_side_73 : decode cX12_side 73 = .ok (.goto 4, 3) := by decide +kernel
theorem dX12_side_76 : decode cX12_side 76 = .ok (.iconst 0, 1) := by decide +kernel
theorem dX12_side_77 : decode cX12_side 77 = .ok (.istore_n 2, 1) := by decide +kernel
theorem dX12_side_78 : decode cX12_side 78 = .ok (.iload_n 2, 1) := by decide +kernel
theorem dX12_side_79 : decode cX12_side 79 = .ok (.ifCond .ne 20, 3) := by decide +kernel
theorem dX12_side_82 : decode cX12_side 82 = .ok (.aload_n 0, 1) := by decide +kernel
theorem dX12_side_83 : decode cX12_side 83 = .ok (.invokevirtual 189, 3) := by decide +kernel
theorem dX12_side_86 : decode cX12_side 86 = .ok (.ifCond .ne 13, 3) := by decide +kernel
theorem dX12_side_89 : decode cX12_side 89 = .ok (.aload_n 0, 1) := by decide +kernel
theorem dX12_side_90 : decode cX12_side 90 = .ok (.iconst 0, 1) := by decide +kernel
theorem dX12_side_91 : decode cX12_side 91 = .ok (.aload_n 0, 1) := by decide +kernel
theorem dX12_side_92 : decode cX12_side 92 = .ok (.getfield 177, 3) := by decide +kernel
theorem dX12_side_95 : decode cX12_side 95 = .ok (.invokevirtual 193, 3) := by decide +kernel
theorem dX12_side_98 : decode cX12_side 98 = .ok (.ireturn, 1) := by decide +kernel
theorem dX12_side_99 : decode cX12_side 99 = .ok (.iload_n 2, 1) := by decide +kernel
theorem dX12_side_100 : decode cX12_side 100 = .ok (.ifCond .ne 21, 3) := by decide +kernel
theorem dX12_side_103 : decode cX12_side 103 = .ok (.aload_n 0, 1) := by decide +kernel
theorem dX12_side_104 : decode cX12_side 104 = .ok (.getfield 180, 3) := by decide +kernel
theorem dX12_side_107 : decode cX12_side 107 = .ok (.iconst 4, 1) := by decide +kernel
theorem dX12_side_108 : decode cX12_side 108 = .ok (.if_icmp .le 13, 3) := by decide +kernel
theorem dX12_side_111 : decode cX12_side 111 = .ok (.aload_n 0, 1) := by decide +kernel
theorem dX12_side_112 : decode cX12_side 112 = .ok (.iconst 1, 1) := by decide +kernel
theorem dX12_side_113 : decode cX12_side 113 = .ok (.aload_n 0, 1) := by decide +kernel
theorem dX12_side_114 : decode cX12_side 114 = .ok (.getfield 177, 3) := by decide +kernel
theorem dX12_side_117 : decode cX12_side 117 = .ok (.invokevirtual 193, 3) := by decide +kernel
theorem dX12_side_120 : decode cX12_side 120 = .ok (.ireturn, 1) := by decide +kernel
theorem dX12_side_121 : decode cX12_side 121 = .ok (.iload_n 1, 1) := by decide +kernel
theorem dX12_side_122 : decode cX12_side 122 = .ok (.ifCond .eq 13, 3) := by decide +kernel
theorem dX12_side_125 : decode cX12_side 125 = .ok (.aload_n 0, 1) := by decide +kernel
theorem dX12_side_126 : decode cX12_side 126 = .ok (.iconst 2, 1) := by decide +kernel
theorem dX12_side_127 : decode cX12_side 127 = .ok (.aload_n 0, 1) := by decide +kernel
theorem dX12_side_128 : decode cX12_side 128 = .ok (.getfield 177, 3) := by decide +kernel
theorem dX12_side_131 : decode cX12_side 131 = .ok (.invokevirtual 193, 3) := by decide +kernel
theorem dX12_side_134 : decode cX12_side 134 = .ok (.ireturn, 1) := by decide +kernel
theorem dX12_side_135 : decode cX12_side 135 = .ok (.aload_n 0, 1) := by decide +kernel
theorem dX12_side_136 : decode cX12_side 136 = .ok (.iload_n 2, 1) := by decide +kernel
theorem dX12_side_137 : decode cX12_side 137 = .ok (.ifCond .ne 7, 3) := by decide +kernel
theorem dX12_side_140 : decode cX12_side 140 = .ok (.iconst 0, 1) := by decide +kernel
theorem dX12_side_141 : decode cX12_side 141 = .ok (.goto 38, 3) := by decide +kernel
theorem dX12_side_144 : decode cX12_side 144 = .ok (.aload_n 0, 1) := by decide +kernel
theorem dX12_side_145 : decode cX12_side 145 = .ok (.getfield 56, 3) := by decide +kernel
theorem dX12_side_148 : decode cX12_side 148 = .ok (.aload_n 0, 1) := by decide +kernel
theorem dX12_side_149 : decode cX12_side 149 = .ok (.getfield 177, 3) := by decide +kernel
theorem dX12_side_152 : decode cX12_side 152 = .ok (.iconst 1, 1) := by decide +kernel
theorem dX12_side_153 : decode cX12_side 153 = .ok (.iadd, 1) := by decide +kernel
theorem dX12_side_154 : decode cX12_side 154 = .ok (.baload, 1) := by decide +kernel
theorem dX12_side_155 : decode cX12_side 155 = .ok (.bipush 48, 2) := by decide +kernel
theorem dX12_side_157 : decode cX12_side 157 = .ok (.isub, 1) := by decide +kernel
theorem dX12_side_158 : decode cX12_side 158 = .ok (.aload_n 0, 1) := by decide +kernel
theorem dX12_side_159 : decode cX12_side 159 = .ok (.getfield 56, 3) := by decide +kernel
theorem dX12_side_162 : decode cX12_side 162 = .ok (.aload_n 0, 1) := by decide +kernel
theorem dX12_side_163 : decode cX12_side 163 = .ok (.getfield 177, 3) := by decide +kernel
theorem dX12_side_166 : decode cX12_side 166 = .ok (.baload, 1) := by decide +kernel
theorem dX12_side_167 : decode cX12_side 167 = .ok (.bipush 99, 2) := by decide +kernel
theorem dX12_side_169 : decode cX12_side 169 = .ok (.if_icmp .ne 7, 3) := by decide +kernel
theorem dX12_side_172 : decode cX12_side 172 = .ok (.iconst 1, 1) := by decide +kernel
theorem dX12_side_173 : decode cX12_side 173 = .ok (.goto 5, 3) := by decide +kernel
theorem dX12_side_176 : decode cX12_side 176 = .ok (.bipush 9, 2) := by decide +kernel
theorem dX12_side_178 : decode cX12_side 178 = .ok (.iadd, 1) := by decide +kernel
theorem dX12_side_179 : decode cX12_side 179 = .ok (.putfield 197, 3) := by decide +kernel
theorem dX12_side_182 : decode cX12_side 182 = .ok (.aload_n 0, 1) := by decide +kernel
theorem dX12_side_183 : decode cX12_side 183 = .ok (.iload_n 2, 1) := by decide +kernel
theorem dX12_side_184 : decode cX12_side 184 = .ok (.ifCond .eq 7, 3) := by decide +kernel
theorem dX12_side_187 : decode cX12_side 187 = .ok (.iconst 0, 1) := by decide +kernel
theorem dX12_side_188 : decode cX12_side 188 = .ok (.goto 7, 3) := by decide +kernel
theorem dX12_side_191 : decode cX12_side 191 = .ok (.aload_n 0, 1) := by decide +kernel
theorem dX12_side_192 : decode cX12_side 192 = .ok (.invokevirtual 200, 3) := by decide +kernel
theorem dX12_side_195 : decode cX12_side 195 = .ok (.putfield 203, 3) := by decide +kernel
theorem dX12_side_198 : decode cX12_side 198 = .ok (.aload_n 0, 1) := by decide +kernel
theorem dX12_side_199 : decode cX12_side 199 = .ok (.aload_n 0, 1) := by decide +kernel
theorem dX12_side_200 : decode cX12_side 200 = .ok (.getfield 177, 3) := by decide +kernel
theorem dX12_side_203 : decode cX12_side 203 = .ok (.aload_n 0, 1) := by decide +kernel
theorem dX12_side_204 : decode cX12_side 204 = .ok (.getfield 180, 3) := by decide +kernel
theorem dX12_side_207 : decode cX12_side 207 = .ok (.iadd, 1) := by decide +kernel
theorem dX12_side_208 : decode cX12_side 208 = .ok (.putfield 167, 3) := by decide +kernel
theorem dX12_side_211 : decode cX12_side 211 = .ok (.iconst 1, 1) := by decide +kernel
theorem dX12_side_212 : decode cX12_side 212 = .ok (.ireturn, 1) := by decide +kernel
theorem dX12_rule_0 : decode cX12_rule 0 = .ok (.aload_n 0, 1) := by decide +kernel
theorem dX12_rule_1 : decode cX12_rule 1 = .ok (.invokevirtual 186, 3) := by decide +kernel
theorem dX12_rule_4 : decode cX12_rule 4 = .ok (.aload_n 0, 1) := by decide +kernel
theorem dX12_rule_5 : decode cX12_rule 5 = .ok (.getfield 87, 3) := by decide +kernel
theorem dX12_rule_8 : decode cX12_rule 8 = .ok (.iload_n 1, 1) := by decide +kernel
theorem dX12_rule_9 : decode cX12_rule 9 = .ok (.iconst 0, 1) := by decide +kernel
theorem dX12_rule_10 : decode cX12_rule 10 = .ok (.iastore, 1) := by decide +kernel
theorem dX12_rule_11 : decode cX12_rule 11 = .ok (.aload_n 0, 1) := by decide +kernel
theorem dX12_rule_12 : decode cX12_rule 12 = .ok (.getfield 90, 3) := by decide +kernel
theorem dX12_rule_15 : decode cX12_rule 15 = .ok (.iload_n 1, 1) := by decide +kernel
theorem dX12_rule_16 : decode cX12_rule 16 = .ok (.iconst 0, 1) := by decide +kernel
theorem dX12_rule_17 : decode cX12_rule 17 = .ok (.iastore, 1) := by decide +kernel
theorem dX12_rule_18 : decode cX12_rule 18 = .ok (.aload_n 0, 1) := by decide +kernel
theorem dX12_rule_19 : decode cX12_rule 19 = .ok (.bipush 109, 2) := by decide +kernel
theorem dX12_rule_21 : decode cX12_rule 21 = .ok (.bipush 117, 2) := by decide +kernel
theorem dX12_rule_23 : decode cX12_rule 23 = .ok (.bipush 115, 2) := by decide +kernel
theorem dX12_rule_25 : decode cX12_rule 25 = .ok (.bipush 116, 2) := by decide +kernel
theorem dX12_rule_27 : decode cX12_rule 27 = .ok (.invokevirtual 206, 3) := by decide +kernel
theorem dX12_rule_30 : decode cX12_rule 30 = .ok (.ifCond .eq 13, 3) := by decide +kernel
theorem dX12_rule_33 : decode cX12_rule 33 = .ok (.aload_n 0, 1) := by decide +kernel
theorem dX12_rule_34 : decode cX12_rule 34 = .ok (.getfield 84, 3) := by decide +kernel
theorem dX12_rule_37 : decode cX12_rule 37 = .ok (.iload_n 1, 1) := by decide +kernel
theorem dX12_rule_38 : decode cX12_rule 38 = .ok (.iconst 0, 1) := by decide +kernel
theorem dX12_rule_39 : decode cX12_rule 39 = .ok (.iastore, 1) := by decide +kernel
theorem dX12_rule_40 : decode cX12_rule 40 = .ok (.goto 55, 3) := by decide +kernel
theorem dX12_rule_43 : decode cX12_rule 43 = .ok (.aload_n 0, 1) := by decide +kernel
theorem dX12_rule_44 : decode cX12_rule 44 = .ok (.invokevirtual 210, 3) := by decide +kernel
theorem dX12_rule_47 : decode cX12_rule 47 = .ok (.ifCond .eq 13, 3) := by decide +kernel
theorem dX12_rule_50 : decode cX12_rule 50 = .ok (.aload_n 0, 1) := by decide +kernel
theorem dX12_rule_51 : decode cX12_rule 51 = .ok (.getfield 84, 3) := by decide +kernel
theorem dX12_rule_54 : decode cX12_rule 54 = .ok (.iload_n 1, 1) := by decide +kernel
theorem dX12_rule_55 : decode cX12_rule 55 = .ok (.iconst 1, 1) := by decide +kernel
theorem dX12_rule_56 : decode cX12_rule 56 = .ok (.iastore, 1) := by decide +kernel
theorem dX12_rule_57 : decode cX12_rule 57 = .ok (.goto 38, 3) := by decide +kernel
theorem dX12_rule_60 : decode cX12_rule 60 = .ok (.aload_n 0, 1) := by decide +kernel
theorem dX12_rule_61 : decode cX12_rule 61 = .ok (.bipush 119, 2) := by decide +kernel
theorem dX12_rule_63 : decode cX12_rule 63 = .ok (.bipush 105, 2) := by decide +kernel
theorem dX12_rule_65 : decode cX12_rule 65 = .ok (.bipush 115, 2) := by decide +kernel
theorem dX12_rule_67 : decode cX12_rule 67 = .ok (.bipush 104, 2) := by decide +kernel
theorem dX12_rule_69 : decode cX12_rule 69 = .ok (.invokevirtual 206, 3) := by decide +kernel
theorem dX12_rule_72 : decode cX12_rule 72 = .ok (.ifCond .eq 13, 3) := by decide +kernel
theorem dX12_rule_75 : decode cX12_rule 75 = .ok (.aload_n 0, 1) := by decide +kernel
theorem dX12_rule_76 : decode cX12_rule 76 = .ok (.getfield 84, 3) := by decide +kernel
theorem dX12_rule_79 : decode cX12_rule 79 = .ok (.iload_n 1, 1) := by decide +kernel
theorem dX12_rule_80 : decode cX12_rule 80 = .ok (.iconst 2, 1) := by decide +kernel
theorem dX12_rule_81 : decode cX12_rule 81 = .ok (.iastore, 1) := by decide +kernel
theorem dX12_rule_82 : decode cX12_rule 82 = .ok (.goto 13, 3) := by decide +kernel
theorem dX12_rule_85 : decode cX12_rule 85 = .ok (.aload_n 0, 1) := by decide +kernel
theorem dX12_rule_86 : decode cX12_rule 86 = .ok (.iconst 0, 1) := by decide +kernel
theorem dX12_rule_87 : decode cX12_rule 87 = .ok (.aload_n 0, 1) := by decide +kernel
theorem dX12_rule_88 : decode cX12_rule 88 = .ok (.getfield 177, 3) := by decide +kernel
theorem dX12_rule_91 : decode cX12_rule 91 = .ok (.invokevirtual 193, 3) := by decide +kernel
theorem dX12_rule_94 : decode cX12_rule 94 = .ok (.ireturn, 1) := by decide +kernel
theorem dX12_rule_95 : decode cX12_rule 95 = .ok (.iload_n 1, 1) := by decide +kernel
theorem dX12_rule_96 : decode cX12_rule 96 = .ok (.bipush 20, 2) := by decide +kernel
theorem dX12_rule_98 : decode cX12_rule 98 = .ok (.if_icmp .ne 13, 3) := by decide +kernel
theorem dX12_rule_101 : decode cX12_rule 101 = .ok (.aload_n 0, 1) := by decide +kernel
theorem dX12_rule_102 : decode cX12_rule 102 = .ok (.iconst 2, 1) := by decide +kernel
theorem dX12_rule_103 : decode cX12_rule 103 = .ok (.aload_n 0, 1) := by decide +kernel
theorem dX12_rule_104 : decode cX12_rule 104 = .ok (.getfield 177, 3) := by decide +kernel
theorem dX12_rule_107 : decode cX12_rule 107 = .ok (.invokevirtual 193, 3) := by decide +kernel
theorem dX12_rule_110 : decode cX12_rule 110 = .ok (.ireturn, 1) := by decide +kernel
theorem dX12_rule_111 : decode cX12_rule 111 = .ok (.aload_n 0, 1) := by decide +kernel
theorem dX12_rule_112 : decode cX12_rule 112 = .ok (.aload_n 0, 1) := by decide +kernel
theorem dX12_rule_113 : decode cX12_rule 113 = .ok (.getfield 177, 3) := by decide +kernel
theorem dX12_rule_116 : decode cX12_rule 116 = .ok (.aload_n 0, 1) := by decide +kernel
theorem dX12_rule_117 : decode cX12_rule 117 = .ok (.getfield 180, 3) := by decide +kernel
theorem dX12_rule_120 : decode cX12_rule 120 = .ok (.iadd, 1) := by decide +kernel
theorem dX12_rule_121 : decode cX12_rule 121 = .ok (.putfield 167, 3) := by decide +kernel
theorem dX12_rule_124 : decode cX12_rule 124 = .ok (.aload_n 0, 1) := by decide +kernel
theorem dX12_rule_125 : decode cX12_rule 125 = .ok (.getfield 84, 3) := by decide +kernel
theorem dX12_rule_128 : decode cX12_rule 128 = .ok (.iload_n 1, 1) := by decide +kernel
theorem dX12_rule_129 : decode cX12_rule 129 = .ok (.iaload, 1) := by decide +kernel
theorem dX12_rule_130 : decode cX12_rule 130 = .ok (.iconst 2, 1) := by decide +kernel
theorem dX12_rule_131 : decode cX12_rule 131 = .ok (.if_icmp .ne 78, 3) := by decide +kernel
theorem dX12_rule_134 : decode cX12_rule 134 = .ok (.aload_n 0, 1) := by decide +kernel
theorem dX12_rule_135 : decode cX12_rule 135 = .ok (.invokevirtual 186, 3) := by decide +kernel
theorem dX12_rule_138 : decode cX12_rule 138 = .ok (.aload_n 0, 1) := by decide +kernel
theorem dX12_rule_139 : decode cX12_rule 139 = .ok (.invokevirtual 189, 3) := by decide +kernel
theorem dX12_rule_142 : decode cX12_rule 142 = .ok (.ifCond .ne 13, 3) := by decide +kernel
theorem dX12_rule_145 : decode cX12_rule 145 = .ok (.aload_n 0, 1) := by decide +kernel
theorem dX12_rule_146 : decode cX12_rule 146 = .ok (.iconst 0, 1) := by decide +kernel
theorem dX12_rule_147 : decode cX12_rule 147 = .ok (.aload_n 0, 1) := by decide +kernel
theorem dX12_rule_148 : decode cX12_rule 148 = .ok (.getfield 177, 3) := by decide +kernel
theorem dX12_rule_151 : decode cX12_rule 151 = .ok (.invokevirtual 193, 3) := by decide +kernel
theorem dX12_rule_154 : decode cX12_rule 154 = .ok (.ireturn, 1) := by decide +kernel
theorem dX12_rule_155 : decode cX12_rule 155 = .ok (.aload_n 0, 1) := by decide +kernel
theorem dX12_rule_156 : decode cX12_rule 156 = .ok (.getfield 180, 3) := by decide +kernel
theorem dX12_rule_159 : decode cX12_rule 159 = .ok (.iconst 4, 1) := by decide +kernel
theorem dX12_rule_160 : decode cX12_rule 160 = .ok (.if_icmp .gt 16, 3) := by decide +kernel
theorem dX12_rule_163 : decode cX12_rule 163 = .ok (.aload_n 0, 1) := by decide +kernel
theorem dX12_rule_164 : decode cX12_rule 164 = .ok (.invokevirtual 200, 3) := by decide +kernel
theorem dX12_rule_167 : decode cX12_rule 167 = .ok (.iconst 1, 1) := by decide +kernel
theorem dX12_rule_168 : decode cX12_rule 168 = .ok (.bipush 100, 2) := by decide +kernel
theorem dX12_rule_170 : decode cX12_rule 170 = .ok (.invokestatic 123, 3) := by decide +kernel
theorem dX12_rule_173 : decode cX12_rule 173 = .ok (.ifCond .ne 13, 3) := by decide +kernel
theorem dX12_rule_176 : decode cX12_rule 176 = .ok (.aload_n 0, 1) := by decide +kernel
theorem dX12_rule_177 : decode cX12_rule 177 = .ok (.iconst 1, 1) := by decide +kernel
theorem dX12_rule_178 : decode cX12_rule 178 = .ok (.aload_n 0, 1) := by decide +kernel
theorem dX12_rule_179 : decode cX12_rule 179 = .ok (.getfield 177, 3) := by decide +kernel
theorem dX12_rule_182 : decode cX12_rule 182 = .ok (.invokevirtual 193, 3) := by decide +kernel
theorem dX12_rule_185 : decode cX12_rule 185 = .ok (.ireturn, 1) := by decide +kernel
theorem dX12_rule_186 : decode cX12_rule 186 = .ok (.aload_n 0, 1) := by decide +kernel
theorem dX12_rule_187 : decode cX12_rule 187 = .ok (.getfield 87, 3) := by decide +kernel
theorem dX12_rule_190 : decode cX12_rule 190 = .ok (.iload_n 1, 1) := by decide +kernel
theorem dX12_rule_191 : decode cX12_rule 191 = .ok (.aload_n 0, 1) := by decide +kernel
theorem dX12_rule_192 : decode cX12_rule 192 = .ok (.invokevirtual 200, 3) := by decide +kernel
theorem dX12_rule_195 : decode cX12_rule 195 = .ok (.iastore, 1) := by decide +kernel
theorem dX12_rule_196 : decode cX12_rule 196 = .ok (.aload_n 0, 1) := by decide +kernel
theorem dX12_rule_197 : decode cX12_rule 197 = .ok (.aload_n 0, 1) := by decide +kernel
theorem dX12_rule_198 : decode cX12_rule 198 = .ok (.getfield 177, 3) := by decide +kernel
theorem dX12_rule_201 : decode cX12_rule 201 = .ok (.aload_n 0, 1) := by decide +kernel
theorem dX12_rule_202 : decode cX12_rule 202 = .ok (.getfield 180, 3) := by decide +kernel
theorem dX12_rule_205 : decode cX12_rule 205 = .ok (.iadd, 1) := by decide +kernel
theorem dX12_rule_206 : decode cX12_rule 206 = .ok (.putfield 167, 3) := by decide +kernel
theorem dX12_rule_209 : decode cX12_rule 209 = .ok (.iconst 1, 1) := by decide +kernel
theorem dX12_rule_210 : decode cX12_rule 210 = .ok (.istore_n 2, 1) := by decide +kernel
theorem dX12_rule_211 : decode cX12_rule 211 = .ok (.iload_n 2, 1) := by decide +kernel
theorem dX12_rule_212 : decode cX12_rule 212 = .ok (.ifCond .eq 184, 3) := by decide +kernel
theorem dX12_rule_215 : decode cX12_rule 215 = .ok (.bipush 6, 2) := by decide +kernel
theorem dX12_rule_217 : decode cX12_rule 217 = .ok (.iload_n 1, 1) := by decide +kernel
theorem dX12_rule_218 : decode cX12_rule 218 = .ok (.imul, 1) := by decide +kernel
theorem dX12_rule_219 : decode cX12_rule 219 = .ok (.aload_n 0, 1) := by decide +kernel
theorem dX12_rule_220 : decode cX12_rule 220 = .ok (.getfield 90, 3) := by decide +kernel
theorem dX12_rule_223 : decode cX12_rule 223 = .ok (.iload_n 1, 1) := by decide +kernel
theorem dX12_rule_224 : decode cX12_rule 224 = .ok (.iaload, 1) := by decide +kernel
theorem dX12_rule_225 : decode cX12_rule 225 = .ok (.iadd, 1) := by decide +kernel
theorem dX12_rule_226 : decode cX12_rule 226 = .ok (.istore_n 3, 1) := by decide +kernel
theorem dX12_rule_227 : decode cX12_rule 227 = .ok (.aload_n 0, 1) := by decide +kernel
theorem dX12_rule_228 : decode cX12_rule 228 = .ok (.aload_n 0, 1) := by decide +kernel
theorem dX12_rule_229 : decode cX12_rule 229 = .ok (.getfield 90, 3) := by decide +kernel
theorem dX12_rule_232 : decode cX12_rule 232 = .ok (.iload_n 1, 1) := by decide +kernel
theorem dX12_rule_233 : decode cX12_rule 233 = .ok (.iaload, 1) := by decide +kernel
theorem dX12_rule_234 : decode cX12_rule 234 = .ok (.bipush 6, 2) := by decide +kernel
theorem dX12_rule_236 : decode cX12_rule 236 = .ok (.if_icmp .ne 7, 3) := by decide +kernel
theorem dX12_rule_239 : decode cX12_rule 239 = .ok (.iconst 1, 1) := by decide +kernel
theorem dX12_rule_240 : decode cX12_rule 240 = .ok (.goto 4, 3) := by decide +kernel
theorem dX12_rule_243 : decode cX12_rule 243 = .ok (.iconst 0, 1) := by decide +kernel
theorem dX12_rule_244 : decode cX12_rule 244 = .ok (.invokevirtual 213, 3) := by decide +kernel
theorem dX12_rule_247 : decode cX12_rule 247 = .ok (.ifCond .ne 5, 3) := by decide +kernel
theorem dX12_rule_250 : decode cX12_rule 250 = .ok (.iconst 0, 1) := by decide +kernel
theorem dX12_rule_251 : decode cX12_rule 251 = .ok (.ireturn, 1) := by decide +kernel
theorem dX12_rule_252 : decode cX12_rule 252 = .ok (.aload_n 0, 1) := by decide +kernel
theorem dX12_rule_253 : decode cX12_rule 253 = .ok (.getfield 93, 3) := by decide +kernel
theorem dX12_rule_256 : decode cX12_rule 256 = .ok (.iload_n 3, 1) := by decide +kernel
theorem dX12_rule_257 : decode cX12_rule 257 = .ok (.aload_n 0, 1) := by decide +kernel
theorem dX12_rule_258 : decode cX12_rule 258 = .ok (.getfield 197, 3) := by decide +kernel
theorem dX12_rule_261 : decode cX12_rule 261 = .ok (.iastore, 1) := by decide +kernel
theorem dX12_rule_262 : decode cX12_rule 262 = .ok (.aload_n 0, 1) := by decide +kernel
theorem dX12_rule_263 : decode cX12_rule 263 = .ok (.getfield 96, 3) := by decide +kernel
theorem dX12_rule_266 : decode cX12_rule 266 = .ok (.iload_n 3, 1) := by decide +kernel
theorem dX12_rule_267 : decode cX12_rule 267 = .ok (.aload_n 0, 1) := by decide +kernel
theorem dX12_rule_268 : decode cX12_rule 268 = .ok (.getfield 203, 3) := by decide +kernel
theorem dX12_rule_271 : decode cX12_rule 271 = .ok (.iastore, 1) := by decide +kernel
theorem dX12_rule_272 : decode cX12_rule 272 = .ok (.aload_n 0, 1) := by decide +kernel
theorem dX12_rule_273 : decode cX12_rule 273 = .ok (.invokevirtual 173, 3) := by decide +kernel
theorem dX12_rule_276 : decode cX12_rule 276 = .ok (.istore 4, 2) := by decide +kernel
theorem dX12_rule_278 : decode cX12_rule 278 = .ok (.iload 4, 2) := by decide +kernel
theorem dX12_rule_280 : decode cX12_rule 280 = .ok (.bipush 60, 2) := by decide +kernel
theorem dX12_rule_282 : decode cX12_rule 282 = .ok (.if_icmp .eq 27, 3) := by decide +kernel
theorem dX12_rule_285 : decode cX12_rule 285 = .ok (.iload 4, 2) := by decide +kernel
theorem dX12_rule_287 : decode cX12_rule 287 = .ok (.bipush 62, 2) := by decide +kernel
theorem dX12_rule_289 : decode cX12_rule 289 = .ok (.if_icmp .eq 20, 3) := by decide +kernel
theorem dX12_rule_292 : decode cX12_rule 292 = .ok (.iload 4, 2) := by decide +kernel
theorem dX12_rule_294 : decode cX12_rule 294 = .ok (.bipush 61, 2) := by decide +kernel
theorem dX12_rule_296 : decode cX12_rule 296 = .ok (.if_icmp .eq 13, 3) := by decide +kernel
theorem dX12_rule_299 : decode cX12_rule 299 = .ok (.aload_n 0, 1) := by decide +kernel
theorem dX12_rule_300 : decode cX12_rule 300 = .ok (.iconst 0, 1) := by decide +kernel
theorem dX12_rule_301 : decode cX12_rule 301 = .ok (.aload_n 0, 1) := by decide +kernel
theorem dX12_rule_302 : decode cX12_rule 302 = .ok (.getfield 167, 3) := by decide +kernel
theorem dX12_rule_305 : decode cX12_rule 305 = .ok (.invokevirtual 193, 3) := by decide +kernel
theorem dX12_rule_308 : decode cX12_rule 308 = .ok (.ireturn, 1) := by decide +kernel
theorem dX12_rule_309 : decode cX12_rule 309 = .ok (.aload_n 0, 1) := by decide +kernel
theorem dX12_rule_310 : decode cX12_rule 310 = .ok (.getfield 99, 3) := by decide +kernel
theorem dX12_rule_313 : decode cX12_rule 313 = .ok (.iload_n 3, 1) := by decide +kernel
theorem dX12_rule_314 : decode cX12_rule 314 = .ok (.iload 4, 2) := by decide +kernel
theorem dX12_rule_316 : decode cX12_rule 316 = .ok (.iastore, 1) := by decide +kernel
theorem dX12_rule_317 : decode cX12_rule 317 = .ok (.aload_n 0, 1) := by decide +kernel
theorem dX12_rule_318 : decode cX12_rule 318 = .ok (.dup, 1) := by decide +kernel
theorem dX12_rule_319 : decode cX12_rule 319 = .ok (.getfield 167, 3) := by decide +kernel
theorem dX12_rule_322 : decode cX12_rule 322 = .ok (.iconst 1, 1) := by decide +kernel
theorem dX12_rule_323 : decode cX12_rule 323 = .ok (.iadd, 1) := by decide +kernel
theorem dX12_rule_324 : decode cX12_rule 324 = .ok (.putfield 167, 3) := by decide +kernel
theorem dX12_rule_327 : decode cX12_rule 327 = .ok (.aload_n 0, 1) := by decide +kernel
theorem dX12_rule_328 : decode cX12_rule 328 = .ok (.iconst 0, 1) := by decide +kernel
theorem dX12_rule_329 : decode cX12_rule 329 = .ok (.invokevirtual 213, 3) := by decide +kernel
theorem dX12_rule_332 : decode cX12_rule 332 = .ok (.ifCond .ne 5, 3) := by decide +kernel
theorem dX12_rule_335 : decode cX12_rule 335 = .ok (.iconst 0, 1) := by decide +kernel
theorem dX12_rule_336 : decode cX12_rule 336 = .ok (.ireturn, 1) := by decide +kernel
theorem dX12_rule_337 : decode cX12_rule 337 = .ok (.aload_n 0, 1) := by decide +kernel
theorem dX12_rule_338 : decode cX12_rule 338 = .ok (.getfield 102, 3) := by decide +kernel
theorem dX12_rule_341 : decode cX12_rule 341 = .ok (.iload_n 3, 1) := by decide +kernel
theorem dX12_rule_342 : decode cX12_rule 342 = .ok (.aload_n 0, 1) := by decide +kernel
theorem dX12_rule_343 : decode cX12_rule 343 = .ok (.getfield 197, 3) := by decide +kernel
theorem dX12_rule_346 : decode cX12_rule 346 = .ok (.iastore, 1) := by decide +kernel
theorem dX12_rule_347 : decode cX12_rule 347 = .ok (.aload_n 0, 1) := by decide +kernel
theorem dX12_rule_348 : decode cX12_rule 348 = .ok (.getfield 105, 3) := by decide +kernel
theorem dX12_rule_351 : decode cX12_rule 351 = .ok (.iload_n 3, 1) := by decide +kernel
theorem dX12_rule_352 : decode cX12_rule 352 = .ok (.aload_n 0, 1) := by decide +kernel
theorem dX12_rule_353 : decode cX12_rule 353 = .ok (.getfield 203, 3) := by decide +kernel
theorem dX12_rule_356 : decode cX12_rule 356 = .ok (.iastore, 1) := by decide +kernel
theorem dX12_rule_357 : decode cX12_rule 357 = .ok (.aload_n 0, 1) := by decide +kernel
theorem dX12_rule_358 : decode cX12_rule 358 = .ok (.getfield 90, 3) := by decide +kernel
theorem dX12_rule_361 : decode cX12_rule 361 = .ok (.iload_n 1, 1) := by decide +kernel
theorem dX12_rule_362 : decode cX12_rule 362 = .ok (.dup2, 1) := by decide +kernel
theorem dX12_rule_363 : decode cX12_rule 363 = .ok (.iaload, 1) := by decide +kernel
theorem dX12_rule_364 : decode cX12_rule 364 = .ok (.iconst 1, 1) := by decide +kernel
theorem dX12_rule_365 : decode cX12_rule 365 = .ok (.iadd, 1) := by decide +kernel
theorem dX12_rule_366 : decode cX12_rule 366 = .ok (.iastore, 1) := by decide +kernel
theorem dX12_rule_367 : decode cX12_rule 367 = .ok (.aload_n 0, 1) := by decide +kernel
theorem dX12_rule_368 : decode cX12_rule 368 = .ok (.invokevirtual 186, 3) := by decide +kernel
theorem dX12_rule_371 : decode cX12_rule 371 = .ok (.aload_n 0, 1) := by decide +kernel
theorem dX12_rule_372 : decode cX12_rule 372 = .ok (.invokevirtual 217, 3) := by decide +kernel
theorem dX12_rule_375 : decode cX12_rule 375 = .ok (.istore_n 2, 1) := by decide +kernel
theorem dX12_rule_376 : decode cX12_rule 376 = .ok (.iload_n 2, 1) := by decide +kernel
theorem dX12_rule_377 : decode cX12_rule 377 = .ok (.ifCond .eq 16, 3) := by decide +kernel
theorem dX12_rule_380 : decode cX12_rule 380 = .ok (.aload_n 0, 1) := by decide +kernel
theorem dX12_rule_381 : decode cX12_rule 381 = .ok (.aload_n 0, 1) := by decide +kernel
theorem dX12_rule_382 : decode cX12_rule 382 = .ok (.getfield 177, 3) := by decide +kernel
theorem dX12_rule_385 : decode cX12_rule 385 = .ok (.aload_n 0, 1) := by decide +kernel
theorem dX12_rule_386 : decode cX12_rule 386 = .ok (.getfield 180, 3) := by decide +kernel
theorem dX12_rule_389 : decode cX12_rule 389 = .ok (.iadd, 1) := by decide +kernel
theorem dX12_rule_390 : decode cX12_rule 390 = .ok (.putfield 167, 3) := by decide +kernel
theorem dX12_rule_393 : decode cX12_rule 393 = .ok (.goto (-182), 3) := by decide +kernel
theorem dX12_rule_396 : decode cX12_rule 396 = .ok (.iconst 1, 1) := by decide +kernel
theorem dX12_rule_397 : decode cX12_rule 397 = .ok (.ireturn, 1) := by decide +kernel
theorem dX12_rules_0 : decode cX12_rules 0 = .ok (.aload_n 0, 1) := by decide +kernel
theorem dX12_rules_1 : decode cX12_rules 1 = .ok (.iconst 0, 1) := by decide +kernel
theorem dX12_rules_2 : decode cX12_rules 2 = .ok (.putfield 167, 3) := by decide +kernel
theorem dX12_rules_5 : decode cX12_rules 5 = .ok (.aload_n 0, 1) := by decide +kernel
theorem dX12_rules_6 : decode cX12_rules 6 = .ok (.iconst 0, 1) := by decide +kernel
theorem dX12_rules_7 : decode cX12_rules 7 = .ok (.putfield 164, 3) := by decide +kernel
theorem dX12_rules_10 : decode cX12_rules 10 = .ok (.iconst 0, 1) := by decide +kernel
theorem dX12_rules_11 : decode cX12_rules 11 = .ok (.istore_n 1, 1) := by decide +kernel
theorem dX12_rules_12 : decode cX12_rules 12 = .ok (.iconst 1, 1) := by decide +kernel
theorem dX12_rules_13 : decode cX12_rules 13 = .ok (.istore_n 2, 1) := by decide +kernel
theorem dX12_rules_14 : decode cX12_rules 14 = .ok (.aload_n 0, 1) := by decide +kernel
theorem dX12_rules_15 : decode cX12_rules 15 = .ok (.invokevirtual 173, 3) := by decide +kernel
theorem dX12_rules_18 : decode cX12_rules 18 = .ok (.iconst (-1), 1) := by decide +kernel
theorem dX12_rules_19 : decode cX12_rules 19 = .ok (.if_icmp .eq 7, 3) := by decide +kernel
theorem dX12_rules_22 : decode cX12_rules 22 = .ok (.iconst 1, 1) := by decide +kernel
theorem dX12_rules_23 : decode cX12_rules 23 = .ok (.goto 4, 3) := by decide +kernel
theorem dX12_rules_26 : decode cX12_rules 26 = .ok (.iconst 0, 1) := by decide +kernel
theorem dX12_rules_27 : decode cX12_rules 27 = .ok (.istore_n 3, 1) := by decide +kernel
theorem dX12_rules_28 : decode cX12_rules 28 = .ok (.iload_n 2, 1) := by decide +kernel
theorem dX12_rules_29 : decode cX12_rules 29 = .ok (.ifCond .eq 74, 3) := by decide +kernel
theorem dX12_rules_32 : decode cX12_rules 32 = .ok (.iload_n 3, 1) := by decide +kernel
theorem dX12_rules_33 : decode cX12_rules 33 = .ok (.ifCond .eq 70, 3) := by decide +kernel
theorem dX12_rules_36 : decode cX12_rules 36 = .ok (.aload_n 0, 1) := by decide +kernel
theorem dX12_rules_37 : decode cX12_rules 37 = .ok (.iload_n 1, 1) := by decide +kernel
theorem dX12_rules_38 : decode cX12_rules 38 = .ok (.invokevirtual 220, 3) := by decide +kernel
theorem dX12_rules_41 : decode cX12_rules 41 = .ok (.istore_n 2, 1) := by decide +kernel
theorem dX12_rules_42 : decode cX12_rules 42 = .ok (.iinc 1 1, 3) := by decide +kernel
theorem dX12_rules_45 : decode cX12_rules 45 = .ok (.iload_n 2, 1) := by decide +kernel
theorem dX12_rules_46 : decode cX12_rules 46 = .ok (.ifCond .eq 15, 3) := by decide +kernel
theorem dX12_rules_49 : decode cX12_rules 49 = .ok (.aload_n 0, 1) := by decide +kernel
theorem dX12_rules_50 : decode cX12_rules 50 = .ok (.invokevirtual 173, 3) := by decide +kernel
theorem dX12_rules_53 : decode cX12_rules 53 = .ok (.iconst (-1), 1) := by decide +kernel
theorem dX12_rules_54 : decode cX12_rules 54 = .ok (.if_icmp .eq 7, 3) := by decide +kernel
theorem dX12_rules_57 : decode cX12_rules 57 = .ok (.iconst 1, 1) := by decide +kernel
theorem dX12_rules_58 : decode cX12_rules 58 = .ok (.goto 4, 3) := by decide +kernel
theorem dX12_rules_61 : decode cX12_rules 61 = .ok (.iconst 0, 1) := by decide +kernel
theorem dX12_rules_62 : decode cX12_rules 62 = .ok (.istore_n 3, 1) := by decide +kernel
theorem dX12_rules_63 : decode cX12_rules 63 = .ok (.iload_n 3, 1) := by decide +kernel
theorem dX12_rules_64 : decode cX12_rules 64 = .ok (.ifCond .eq 22, 3) := by decide +kernel
theorem dX12_rules_67 : decode cX12_rules 67 = .ok (.aload_n 0, 1) := by decide +kernel
theorem dX12_rules_68 : decode cX12_rules 68 = .ok (.invokevirtual 173, 3) := by decide +kernel
theorem dX12_rules_71 : decode cX12_rules 71 = .ok (.bipush 59, 2) := by decide +kernel
theorem dX12_rules_73 : decode cX12_rules 73 = .ok (.if_icmp .eq 13, 3) := by decide +kernel
theorem dX12_rules_76 : decode cX12_rules 76 = .ok (.aload_n 0, 1) := by decide +kernel
theorem dX12_rules_77 : decode cX12_rules 77 = .ok (.iconst 0, 1) := by decide +kernel
theorem dX12_rules_78 : decode cX12_rules 78 = .ok (.aload_n 0, 1) := by decide +kernel
theorem dX12_rules_79 : decode cX12_rules 79 = .ok (.getfield 167, 3) := by decide +kernel
theorem dX12_rules_82 : decode cX12_rules 82 = .ok (.invokevirtual 193, 3) := by decide +kernel
theorem dX12_rules_85 : decode cX12_rules 85 = .ok (.istore_n 2, 1) := by decide +kernel
theorem dX12_rules_86 : decode cX12_rules 86 = .ok (.iload_n 3, 1) := by decide +kernel
theorem dX12_rules_87 : decode cX12_rules 87 = .ok (.ifCond .eq (-59), 3) := by decide +kernel
theorem dX12_rules_90 : decode cX12_rules 90 = .ok (.aload_n 0, 1) := by decide +kernel
theorem dX12_rules_91 : decode cX12_rules 91 = .ok (.dup, 1) := by decide +kernel
theorem dX12_rules_92 : decode cX12_rules 92 = .ok (.getfield 167, 3) := by decide +kernel
theorem dX12_rules_95 : decode cX12_rules 95 = .ok (.iconst 1, 1) := by decide +kernel
theorem dX12_rules_96 : decode cX12_rules 96 = .ok (.iadd, 1) := by decide +kernel
theorem dX12_rules_97 : decode cX12_rules 97 = .ok (.putfield 167, 3) := by decide +kernel
theorem dX12_rules_100 : decode cX12_rules 100 = .ok (.goto (-72), 3) := by decide +kernel
theorem dX12_rules_103 : decode cX12_rules 103 = .ok (.aload_n 0, 1) := by decide +kernel
theorem dX12_rules_104 : decode cX12_rules 104 = .ok (.iconst 0, 1) := by decide +kernel
theorem dX12_rules_105 : decode cX12_rules 105 = .ok (.putfield 157, 3) := by decide +kernel
theorem dX12_rules_108 : decode cX12_rules 108 = .ok (.iload_n 2, 1) := by decide +kernel
theorem dX12_rules_109 : decode cX12_rules 109 = .ok (.ifCond .ne 11, 3) := by decide +kernel
theorem dX12_rules_112 : decode cX12_rules 112 = .ok (.bipush (-2), 2) := by decide +kernel
theorem dX12_rules_114 : decode cX12_rules 114 = .ok (.aload_n 0, 1) := by decide +kernel
theorem dX12_rules_115 : decode cX12_rules 115 = .ok (.getfield 164, 3) := by decide +kernel
theorem dX12_rules_118 : decode cX12_rules 118 = .ok (.isub, 1) := by decide +kernel
theorem dX12_rules_119 : decode cX12_rules 119 = .ok (.ireturn, 1) := by decide +kernel
theorem dX12_rules_120 : decode cX12_rules 120 = .ok (.aload_n 0, 1) := by decide +kernel
theorem dX12_rules_121 : decode cX12_rules 121 = .ok (.iload_n 1, 1) := by decide +kernel
theorem dX12_rules_122 : decode cX12_rules 122 = .ok (.putfield 223, 3) := by decide +kernel
theorem dX12_rules_125 : decode cX12_rules 125 = .ok (.iconst 0, 1) := by decide +kernel
theorem dX12_rules_126 : decode cX12_rules 126 = .ok (.istore 4, 2) := by decide +kernel
theorem dX12_rules_128 : decode cX12_rules 128 = .ok (.iload 4, 2) := by decide +kernel
theorem dX12_rules_130 : decode cX12_rules 130 = .ok (.iload_n 1, 1) := by decide +kernel
theorem dX12_rules_131 : decode cX12_rules 131 = .ok (.if_icmp .ge 152, 3) := by decide +kernel
theorem dX12_rules_134 : decode cX12_rules 134 = .ok (.aload_n 0, 1) := by decide +kernel
theorem dX12_rules_135 : decode cX12_rules 135 = .ok (.getfield 60, 3) := by decide +kernel
theorem dX12_rules_138 : decode cX12_rules 138 = .ok (.iload 4, 2) := by decide +kernel
theorem dX12_rules_140 : decode cX12_rules 140 = .ok (.aload_n 0, 1) := by decide +kernel
theorem dX12_rules_141 : decode cX12_rules 141 = .ok (.getfield 84, 3) := by decide +kernel
theorem dX12_rules_144 : decode cX12_rules 144 = .ok (.iload 4, 2) := by decide +kernel
theorem dX12_rules_146 : decode cX12_rules 146 = .ok (.iaload, 1) := by decide +kernel
theorem dX12_rules_147 : decode cX12_rules 147 = .ok (.iastore, 1) := by decide +kernel
theorem dX12_rules_148 : decode cX12_rules 148 = .ok (.aload_n 0, 1) := by decide +kernel
theorem dX12_rules_149 : decode cX12_rules 149 = .ok (.getfield 63, 3) := by decide +kernel
theorem dX12_rules_152 : decode cX12_rules 152 = .ok (.iload 4, 2) := by decide +kernel
theorem dX12_rules_154 : decode cX12_rules 154 = .ok (.aload_n 0, 1) := by decide +kernel
theorem dX12_rules_155 : decode cX12_rules 155 = .ok (.getfield 87, 3) := by decide +kernel
theorem dX12_rules_158 : decode cX12_rules 158 = .ok (.iload 4, 2) := by decide +kernel
theorem dX12_rules_160 : decode cX12_rules 160 = .ok (.iaload, 1) := by decide +kernel
theorem dX12_rules_161 : decode cX12_rules 161 = .ok (.iastore, 1) := by decide +kernel
theorem dX12_rules_162 : decode cX12_rules 162 = .ok (.aload_n 0, 1) := by decide +kernel
theorem dX12_rules_163 : decode cX12_rules 163 = .ok (.getfield 66, 3) := by decide +kernel
theorem dX12_rules_166 : decode cX12_rules 166 = .ok (.iload 4, 2) := by decide +kernel
theorem dX12_rules_168 : decode cX12_rules 168 = .ok (.aload_n 0, 1) := by decide +kernel
theorem dX12_rules_169 : decode cX12_rules 169 = .ok (.getfield 90, 3) := by decide +kernel
theorem dX12_rules_172 : decode cX12_rules 172 = .ok (.iload 4, 2) := by decide +kernel
theorem dX12_rules_174 : decode cX12_rules 174 = .ok (.iaload, 1) := by decide +kernel
theorem dX12_rules_175 : decode cX12_rules 175 = .ok (.iastore, 1) := by decide +kernel
theorem dX12_rules_176 : decode cX12_rules 176 = .ok (.bipush 6, 2) := by decide +kernel
theorem dX12_rules_178 : decode cX12_rules 178 = .ok (.iload 4, 2) := by decide +kernel
theorem dX12_rules_180 : decode cX12_rules 180 = .ok (.imul, 1) := by decide +kernel
theorem dX12_rules_181 : decode cX12_rules 181 = .ok (.istore 5, 2) := by decide +kernel
theorem dX12_rules_183 : decode cX12_rules 183 = .ok (.iload 5, 2) := by decide +kernel
theorem dX12_rules_185 : decode cX12_rules 185 = .ok (.bipush 6, 2) := by decide +kernel
theorem dX12_rules_187 : decode cX12_rules 187 = .ok (.iload 4, 2) := by decide +kernel
theorem dX12_rules_189 : decode cX12_rules 189 = .ok (.imul, 1) := by decide +kernel
theorem dX12_rules_190 : decode cX12_rules 190 = .ok (.aload_n 0, 1) := by decide +kernel
theorem dX12_rules_191 : decode cX12_rules 191 = .ok (.getfield 66, 3) := by decide +kernel
theorem dX12_rules_194 : decode cX12_rules 194 = .ok (.iload 4, 2) := by decide +kernel
theorem dX12_rules_196 : decode cX12_rules 196 = .ok (.iaload, 1) := by decide +kernel
theorem dX12_rules_197 : decode cX12_rules 197 = .ok (.iadd, 1) := by decide +kernel
theorem dX12_rules_198 : decode cX12_rules 198 = .ok (.if_icmp .ge 79, 3) := by decide +kernel
theorem dX12_rules_201 : decode cX12_rules 201 = .ok (.aload_n 0, 1) := by decide +kernel
theorem dX12_rules_202 : decode cX12_rules 202 = .ok (.getfield 69, 3) := by decide +kernel
theorem dX12_rules_205 : decode cX12_rules 205 = .ok (.iload 5, 2) := by decide +kernel
theorem dX12_rules_207 : decode cX12_rules 207 = .ok (.aload_n 0, 1) := by decide +kernel
theorem dX12_rules_208 : decode cX12_rules 208 = .ok (.getfield 93, 3) := by decide +kernel
theorem dX12_rules_211 : decode cX12_rules 211 = .ok (.iload 5, 2) := by decide +kernel
theorem dX12_rules_213 : decode cX12_rules 213 = .ok (.iaload, 1) := by decide +kernel
theorem dX12_rules_214 : decode cX12_rules 214 = .ok (.iastore, 1) := by decide +kernel
theorem dX12_rules_215 : decode cX12_rules 215 = .ok (.aload_n 0, 1) := by decide +kernel
theorem dX12_rules_216 : decode cX12_rules 216 = .ok (.getfield 72, 3) := by decide +kernel
theorem dX12_rules_219 : decode cX12_rules 219 = .ok (.iload 5, 2) := by decide +kernel
theorem dX12_rules_221 : decode cX12_rules 221 = .ok (.aload_n 0, 1) := by decide +kernel
theorem dX12_rules_222 : decode cX12_rules 222 = .ok (.getfield 96, 3) := by decide +kernel
theorem dX12_rules_225 : decode cX12_rules 225 = .ok (.iload 5, 2) := by decide +kernel
theorem dX12_rules_227 : decode cX12_rules 227 = .ok (.iaload, 1) := by decide +kernel
theorem dX12_rules_228 : decode cX12_rules 228 = .ok (.iastore, 1) := by decide +kernel
theorem dX12_rules_229 : decode cX12_rules 229 = .ok (.aload_n 0, 1) := by decide +kernel
theorem dX12_rules_230 : decode cX12_rules 230 = .ok (.getfield 75, 3) := by decide +kernel
theorem dX12_rules_233 : decode cX12_rules 233 = .ok (.iload 5, 2) := by decide +kernel
theorem dX12_rules_235 : decode cX12_rules 235 = .ok (.aload_n 0, 1) := by decide +kernel
theorem dX12_rules_236 : decode cX12_rules 236 = .ok (.getfield 99, 3) := by decide +kernel
theorem dX12_rules_239 : decode cX12_rules 239 = .ok (.iload 5, 2) := by decide +kernel
theorem dX12_rules_241 : decode cX12_rules 241 = .ok (.iaload, 1) := by decide +kernel
theorem dX12_rules_242 : decode cX12_rules 242 = .ok (.iastore, 1) := by decide +kernel
theorem dX12_rules_243 : decode cX12_rules 243 = .ok (.aload_n 0, 1) := by decide +kernel
theorem dX12_rules_244 : decode cX12_rules 244 = .ok (.getfield 78, 3) := by decide +kernel
theorem dX12_rules_247 : decode cX12_rules 247 = .ok (.iload 5, 2) := by decide +kernel
theorem dX12_rules_249 : decode cX12_rules 249 = .ok (.aload_n 0, 1) := by decide +kernel
theorem dX12_rules_250 : decode cX12_rules 250 = .ok (.getfield 102, 3) := by decide +kernel
theorem dX12_rules_253 : decode cX12_rules 253 = .ok (.iload 5, 2) := by decide +kernel
theorem dX12_rules_255 : decode cX12_rules 255 = .ok (.iaload, 1) := by decide +kernel
theorem dX12_rules_256 : decode cX12_rules 256 = .ok (.iastore, 1) := by decide +kernel
theorem dX12_rules_257 : decode cX12_rules 257 = .ok (.aload_n 0, 1) := by decide +kernel
theorem dX12_rules_258 : decode cX12_rules 258 = .ok (.getfield 81, 3) := by decide +kernel
theorem dX12_rules_261 : decode cX12_rules 261 = .ok (.iload 5, 2) := by decide +kernel
theorem dX12_rules_263 : decode cX12_rules 263 = .ok (.aload_n 0, 1) := by decide +kernel
theorem dX12_rules_264 : decode cX12_rules 264 = .ok (.getfield 105, 3) := by decide +kernel
theorem dX12_rules_267 : decode cX12_rules 267 = .ok (.iload 5, 2) := by decide +kernel
theorem dX12_rules_269 : decode cX12_rules 269 = .ok (.iaload, 1) := by decide +kernel
theorem dX12_rules_270 : decode cX12_rules 270 = .ok (.iastore, 1) := by decide +kernel
theorem dX12_rules_271 : decode cX12_rules 271 = .ok (.iinc 5 1, 3) := by decide +kernel
theorem dX12_rules_274 : decode cX12_rules 274 = .ok (.goto (-91), 3) := by decide +kernel
theorem dX12_rules_277 : decode cX12_rules 277 = .ok (.iinc 4 1, 3) := by decide +kernel
theorem dX12_rules_280 : decode cX12_rules 280 = .ok (.goto (-152), 3) := by decide +kernel
theorem dX12_rules_283 : decode cX12_rules 283 = .ok (.iload_n 1, 1) := by decide +kernel
theorem dX12_rules_284 : decode cX12_rules 284 = .ok (.ireturn, 1) := by decide +kernel
theorem dX12_sideOf_0 : decode cX12_sideOf 0 = .ok (.iload_n 1, 1) := by decide +kernel
theorem dX12_sideOf_1 : decode cX12_sideOf 1 = .ok (.ifCond .ne 5, 3) := by decide +kernel
theorem dX12_sideOf_4 : decode cX12_sideOf 4 = .ok (.iload_n 2, 1) := by decide +kernel
theorem dX12_sideOf_5 : decode cX12_sideOf 5 = .ok (.ireturn, 1) := by decide +kernel
theorem dX12_sideOf_6 : decode cX12_sideOf 6 = .ok (.iload_n 1, 1) := by decide +kernel
theorem dX12_sideOf_7 : decode cX12_sideOf 7 = .ok (.bipush 9, 2) := by decide +kernel
theorem dX12_sideOf_9 : decode cX12_sideOf 9 = .ok (.if_icmp .ge 20, 3) := by decide +kernel
theorem dX12_sideOf_12 : decode cX12_sideOf 12 = .ok (.aload_n 0, 1) := by decide +kernel
theorem dX12_sideOf_13 : decode cX12_sideOf 13 = .ok (.iload_n 3, 1) := by decide +kernel
theorem dX12_sideOf_14 : decode cX12_sideOf 14 = .ok (.iload_n 1, 1) := by decide +kernel
theorem dX12_sideOf_15 : decode cX12_sideOf 15 = .ok (.iconst 1, 1) := by decide +kernel
theorem dX12_sideOf_16 : decode cX12_sideOf 16 = .ok (.isub, 1) := by decide +kernel
theorem dX12_sideOf_17 : decode cX12_sideOf 17 = .ok (.iload 5, 2) := by decide +kernel
theorem dX12_sideOf_19 : decode cX12_sideOf 19 = .ok (.aload_n 0, 1) := by decide +kernel
theorem dX12_sideOf_20 : decode cX12_sideOf 20 = .ok (.getfield 127, 3) := by decide +kernel
theorem dX12_sideOf_23 : decode cX12_sideOf 23 = .ok (.invokevirtual 150, 3) := by decide +kernel
theorem dX12_sideOf_26 : decode cX12_sideOf 26 = .ok (.goto 22, 3) := by decide +kernel
theorem dX12_sideOf_29 : decode cX12_sideOf 29 = .ok (.aload_n 0, 1) := by decide +kernel
theorem dX12_sideOf_30 : decode cX12_sideOf 30 = .ok (.bipush 100, 2) := by decide +kernel
theorem dX12_sideOf_32 : decode cX12_sideOf 32 = .ok (.iload 4, 2) := by decide +kernel
theorem dX12_sideOf_34 : decode cX12_sideOf 34 = .ok (.iadd, 1) := by decide +kernel
theorem dX12_sideOf_35 : decode cX12_sideOf 35 = .ok (.iload_n 1, 1) := by decide +kernel
theorem dX12_sideOf_36 : decode cX12_sideOf 36 = .ok (.bipush 9, 2) := by decide +kernel
theorem dX12_sideOf_38 : decode cX12_sideOf 38 = .ok (.isub, 1) := by decide +kernel
theorem dX12_sideOf_39 : decode cX12_sideOf 39 = .ok (.iload 5, 2) := by decide +kernel
theorem dX12_sideOf_41 : decode cX12_sideOf 41 = .ok (.aload_n 0, 1) := by decide +kernel
theorem dX12_sideOf_42 : decode cX12_sideOf 42 = .ok (.getfield 127, 3) := by decide +kernel
theorem dX12_sideOf_45 : decode cX12_sideOf 45 = .ok (.invokevirtual 150, 3) := by decide +kernel
theorem dX12_sideOf_48 : decode cX12_sideOf 48 = .ok (.ireturn, 1) := by decide +kernel
theorem dX12_isSo_0 : decode cX12_isSo 0 = .ok (.bipush 6, 2) := by decide +kernel
theorem dX12_isSo_2 : decode cX12_isSo 2 = .ok (.iload_n 1, 1) := by decide +kernel
theorem dX12_isSo_3 : decode cX12_isSo 3 = .ok (.imul, 1) := by decide +kernel
theorem dX12_isSo_4 : decode cX12_isSo 4 = .ok (.istore 5, 2) := by decide +kernel
theorem dX12_isSo_6 : decode cX12_isSo 6 = .ok (.iload 5, 2) := by decide +kernel
theorem dX12_isSo_8 : decode cX12_isSo 8 = .ok (.bipush 6, 2) := by decide +kernel
theorem dX12_isSo_10 : decode cX12_isSo 10 = .ok (.iload_n 1, 1) := by decide +kernel
theorem dX12_isSo_11 : decode cX12_isSo 11 = .ok (.imul, 1) := by decide +kernel
theorem dX12_isSo_12 : decode cX12_isSo 12 = .ok (.aload_n 0, 1) := by decide +kernel
theorem dX12_isSo_13 : decode cX12_isSo 13 = .ok (.getfield 66, 3) := by decide +kernel
theorem dX12_isSo_16 : decode cX12_isSo 16 = .ok (.iload_n 1, 1) := by decide +kernel
theorem dX12_isSo_17 : decode cX12_isSo 17 = .ok (.iaload, 1) := by decide +kernel
theorem dX12_isSo_18 : decode cX12_isSo 18 = .ok (.iadd, 1) := by decide +kernel
theorem dX12_isSo_19 : decode cX12_isSo 19 = .ok (.if_icmp .ge 110, 3) := by decide +kernel
theorem dX12_isSo_22 : decode cX12_isSo 22 = .ok (.aload_n 0, 1) := by decide +kernel
theorem dX12_isSo_23 : decode cX12_isSo 23 = .ok (.aload_n 0, 1) := by decide +kernel
theorem dX12_isSo_24 : decode cX12_isSo 24 = .ok (.getfield 69, 3) := by decide +kernel
theorem dX12_isSo_27 : decode cX12_isSo 27 = .ok (.iload 5, 2) := by decide +kernel
theorem dX12_isSo_29 : decode cX12_isSo 29 = .ok (.iaload, 1) := by decide +kernel
theorem dX12_isSo_30 : decode cX12_isSo 30 = .ok (.aload_n 0, 1) := by decide +kernel
theorem dX12_isSo_31 : decode cX12_isSo 31 = .ok (.getfield 72, 3) := by decide +kernel
theorem dX12_isSo_34 : decode cX12_isSo 34 = .ok (.iload 5, 2) := by decide +kernel
theorem dX12_isSo_36 : decode cX12_isSo 36 = .ok (.iaload, 1) := by decide +kernel
theorem dX12_isSo_37 : decode cX12_isSo 37 = .ok (.iload_n 2, 1) := by decide +kernel
theorem dX12_isSo_38 : decode cX12_isSo 38 = .ok (.iload_n 3, 1) := by decide +kernel
theorem dX12_isSo_39 : decode cX12_isSo 39 = .ok (.iload 4, 2) := by decide +kernel
theorem dX12_isSo_41 : decode cX12_isSo 41 = .ok (.invokevirtual 226, 3) := by decide +kernel
theorem dX12_isSo_44 : decode cX12_isSo 44 = .ok (.istore 6, 2) := by decide +kernel
theorem dX12_isSo_46 : decode cX12_isSo 46 = .ok (.aload_n 0, 1) := by decide +kernel
theorem dX12_isSo_47 : decode cX12_isSo 47 = .ok (.aload_n 0, 1) := by decide +kernel
theorem dX12_isSo_48 : decode cX12_isSo 48 = .ok (.getfield 78, 3) := by decide +kernel
theorem dX12_isSo_51 : decode cX12_isSo 51 = .ok (.iload 5, 2) := by decide +kernel
theorem dX12_isSo_53 : decode cX12_isSo 53 = .ok (.iaload, 1) := by decide +kernel
theorem dX12_isSo_54 : decode cX12_isSo 54 = .ok (.aload_n 0, 1) := by decide +kernel
theorem dX12_isSo_55 : decode cX12_isSo 55 = .ok (.getfield 81, 3) := by decide +kernel
theorem dX12_isSo_58 : decode cX12_isSo 58 = .ok (.iload 5, 2) := by decide +kernel
theorem dX12_isSo_60 : decode cX12_isSo 60 = .ok (.iaload, 1) := by decide +kernel
theorem dX12_isSo_61 : decode cX12_isSo 61 = .ok (.iload_n 2, 1) := by decide +kernel
theorem dX12_isSo_62 : decode cX12_isSo 62 = .ok (.iload_n 3, 1) := by decide +kernel
theorem dX12_isSo_63 : decode cX12_isSo 63 = .ok (.iload 4, 2) := by decide +kernel
theorem dX12_isSo_65 : decode cX12_isSo 65 = .ok (.invokevirtual 226, 3) := by decide +kernel
theorem dX12_isSo_68 : decode cX12_isSo 68 = .ok (.istore 7, 2) := by decide +kernel
theorem dX12_isSo_70 : decode cX12_isSo 70 = .ok (.aload_n 0, 1) := by decide +kernel
theorem dX12_isSo_71 : decode cX12_isSo 71 = .ok (.getfield 75, 3) := by decide +kernel
theorem dX12_isSo_74 : decode cX12_isSo 74 = .ok (.iload 5, 2) := by decide +kernel
theorem dX12_isSo_76 : decode cX12_isSo 76 = .ok (.iaload, 1) := by decide +kernel
theorem dX12_isSo_77 : decode cX12_isSo 77 = .ok (.bipush 60, 2) := by decide +kernel
theorem dX12_isSo_79 : decode cX12_isSo 79 = .ok (.if_icmp .ne 13, 3) := by decide +kernel
theorem dX12_isSo_82 : decode cX12_isSo 82 = .ok (.iload 6, 2) := by decide +kernel
theorem dX12_isSo_84 : decode cX12_isSo 84 = .ok (.iload 7, 2) := by decide +kernel
theorem dX12_isSo_86 : decode cX12_isSo 86 = .ok (.if_icmp .ge 35, 3) := by decide +kernel
theorem dX12_isSo_89 : decode cX12_isSo 89 = .ok (.goto 34, 3) := by decide +kernel
theorem dX12_isSo_92 : decode cX12_isSo 92 = .ok (.aload_n 0, 1) := by decide +kernel
theorem dX12_isSo_93 : decode cX12_isSo 93 = .ok (.getfield 75, 3) := by decide +kernel
theorem dX12_isSo_96 : decode cX12_isSo 96 = .ok (.iload 5, 2) := by decide +kernel
theorem dX12_isSo_98 : decode cX12_isSo 98 = .ok (.iaload, 1) := by decide +kernel
theorem dX12_isSo_99 : decode cX12_isSo 99 = .ok (.bipush 62, 2) := by decide +kernel
theorem dX12_isSo_101 : decode cX12_isSo 101 = .ok (.if_icmp .ne 13, 3) := by decide +kernel
theorem dX12_isSo_104 : decode cX12_isSo 104 = .ok (.iload 6, 2) := by decide +kernel
theorem dX12_isSo_106 : decode cX12_isSo 106 = .ok (.iload 7, 2) := by decide +kernel
theorem dX12_isSo_108 : decode cX12_isSo 108 = .ok (.if_icmp .le 13, 3) := by decide +kernel
theorem dX12_isSo_111 : decode cX12_isSo 111 = .ok (.goto 12, 3) := by decide +kernel
theorem dX12_isSo_114 : decode cX12_isSo 114 = .ok (.iload 6, 2) := by decide +kernel
theorem dX12_isSo_116 : decode cX12_isSo 116 = .ok (.iload 7, 2) := by decide +kernel
theorem dX12_isSo_118 : decode cX12_isSo 118 = .ok (.if_icmp .eq 5, 3) := by decide +kernel
theorem dX12_isSo_121 : decode cX12_isSo 121 = .ok (.iconst 0, 1) := by decide +kernel
theorem dX12_isSo_122 : decode cX12_isSo 122 = .ok (.ireturn, 1) := by decide +kernel
theorem dX12_isSo_123 : decode cX12_isSo 123 = .ok (.iinc 5 1, 3) := by decide +kernel
theorem dX12_isSo_126 : decode cX12_isSo 126 = .ok (.goto (-120), 3) := by decide +kernel
theorem dX12_isSo_129 : decode cX12_isSo 129 = .ok (.iconst 1, 1) := by decide +kernel
theorem dX12_isSo_130 : decode cX12_isSo 130 = .ok (.ireturn, 1) := by decide +kernel
theorem dX12_barOf_0 : decode cX12_barOf 0 = .ok (.aload_n 0, 1) := by decide +kernel
theorem dX12_barOf_1 : decode cX12_barOf 1 = .ok (.getfield 17, 3) := by decide +kernel
theorem dX12_barOf_4 : decode cX12_barOf 4 = .ok (.iload_n 1, 1) := by decide +kernel
theorem dX12_barOf_5 : decode cX12_barOf 5 = .ok (.iaload, 1) := by decide +kernel
theorem dX12_barOf_6 : decode cX12_barOf 6 = .ok (.istore_n 3, 1) := by decide +kernel
theorem dX12_barOf_7 : decode cX12_barOf 7 = .ok (.iload_n 3, 1) := by decide +kernel
theorem dX12_barOf_8 : decode cX12_barOf 8 = .ok (.aload_n 0, 1) := by decide +kernel
theorem dX12_barOf_9 : decode cX12_barOf 9 = .ok (.getfield 20, 3) := by decide +kernel
theorem dX12_barOf_12 : decode cX12_barOf 12 = .ok (.iload_n 1, 1) := by decide +kernel
theorem dX12_barOf_13 : decode cX12_barOf 13 = .ok (.iaload, 1) := by decide +kernel
theorem dX12_barOf_14 : decode cX12_barOf 14 = .ok (.if_icmp .gt 107, 3) := by decide +kernel
theorem dX12_barOf_17 : decode cX12_barOf 17 = .ok (.aload_n 0, 1) := by decide +kernel
theorem dX12_barOf_18 : decode cX12_barOf 18 = .ok (.iload_n 3, 1) := by decide +kernel
theorem dX12_barOf_19 : decode cX12_barOf 19 = .ok (.putfield 230, 3) := by decide +kernel
theorem dX12_barOf_22 : decode cX12_barOf 22 = .ok (.aload_n 0, 1) := by decide +kernel
theorem dX12_barOf_23 : decode cX12_barOf 23 = .ok (.getfield 29, 3) := by decide +kernel
theorem dX12_barOf_26 : decode cX12_barOf 26 = .ok (.iload_n 2, 1) := by decide +kernel
theorem dX12_barOf_27 : decode cX12_barOf 27 = .ok (.iaload, 1) := by decide +kernel
theorem dX12_barOf_28 : decode cX12_barOf 28 = .ok (.iconst (-1), 1) := by decide +kernel
theorem dX12_barOf_29 : decode cX12_barOf 29 = .ok (.if_icmp .eq 15, 3) := by decide +kernel
theorem dX12_barOf_32 : decode cX12_barOf 32 = .ok (.aload_n 0, 1) := by decide +kernel
theorem dX12_barOf_33 : decode cX12_barOf 33 = .ok (.getfield 29, 3) := by decide +kernel
theorem dX12_barOf_36 : decode cX12_barOf 36 = .ok (.iload_n 2, 1) := by decide +kernel
theorem dX12_barOf_37 : decode cX12_barOf 37 = .ok (.iaload, 1) := by decide +kernel
theorem dX12_barOf_38 : decode cX12_barOf 38 = .ok (.iload_n 3, 1) := by decide +kernel
theorem dX12_barOf_39 : decode cX12_barOf 39 = .ok (.if_icmp .gt 5, 3) := by decide +kernel
theorem dX12_barOf_42 : decode cX12_barOf 42 = .ok (.iconst 1, 1) := by decide +kernel
theorem dX12_barOf_43 : decode cX12_barOf 43 = .ok (.ireturn, 1) := by decide +kernel
theorem dX12_barOf_44 : decode cX12_barOf 44 = .ok (.aload_n 0, 1) := by decide +kernel
theorem dX12_barOf_45 : decode cX12_barOf 45 = .ok (.iload_n 2, 1) := by decide +kernel
theorem dX12_barOf_46 : decode cX12_barOf 46 = .ok (.iload_n 3, 1) := by decide +kernel
theorem dX12_barOf_47 : decode cX12_barOf 47 = .ok (.invokevirtual 233, 3) := by decide +kernel
theorem dX12_barOf_50 : decode cX12_barOf 50 = .ok (.ifCond .ge 5, 3) := by decide +kernel
theorem dX12_barOf_53 : decode cX12_barOf 53 = .ok (.iconst 2, 1) := by decide +kernel
theorem dX12_barOf_54 : decode cX12_barOf 54 = .ok (.ireturn, 1) := by decide +kernel
theorem dX12_barOf_55 : decode cX12_barOf 55 = .ok (.iconst 0, 1) := by decide +kernel
theorem dX12_barOf_56 : decode cX12_barOf 56 = .ok (.istore 4, 2) := by decide +kernel
theorem dX12_barOf_58 : decode cX12_barOf 58 = .ok (.iload 4, 2) := by decide +kernel
theorem dX12_barOf_60 : decode cX12_barOf 60 = .ok (.aload_n 0, 1) := by decide +kernel
theorem dX12_barOf_61 : decode cX12_barOf 61 = .ok (.getfield 223, 3) := by decide +kernel
theorem dX12_barOf_64 : decode cX12_barOf 64 = .ok (.if_icmp .ge 51, 3) := by decide +kernel
theorem dX12_barOf_67 : decode cX12_barOf 67 = .ok (.aload_n 0, 1) := by decide +kernel
theorem dX12_barOf_68 : decode cX12_barOf 68 = .ok (.getfield 60, 3) := by decide +kernel
theorem dX12_barOf_71 : decode cX12_barOf 71 = .ok (.iload 4, 2) := by decide +kernel
theorem dX12_barOf_73 : decode cX12_barOf 73 = .ok (.iaload, 1) := by decide +kernel
theorem dX12_barOf_74 : decode cX12_barOf 74 = .ok (.aload_n 0, 1) := by decide +kernel
theorem dX12_barOf_75 : decode cX12_barOf 75 = .ok (.getfield 23, 3) := by decide +kernel
theorem dX12_barOf_78 : decode cX12_barOf 78 = .ok (.iload_n 1, 1) := by decide +kernel
theorem dX12_barOf_79 : decode cX12_barOf 79 = .ok (.baload, 1) := by decide +kernel
theorem dX12_barOf_80 : decode cX12_barOf 80 = .ok (.ifCond .eq 7, 3) := by decide +kernel
theorem dX12_barOf_83 : decode cX12_barOf 83 = .ok (.iconst 1, 1) := by decide +kernel
theorem dX12_barOf_84 : decode cX12_barOf 84 = .ok (.goto 4, 3) := by decide +kernel
theorem dX12_barOf_87 : decode cX12_barOf 87 = .ok (.iconst 0, 1) := by decide +kernel
theorem dX12_barOf_88 : decode cX12_barOf 88 = .ok (.if_icmp .ne 21, 3) := by decide +kernel
theorem dX12_barOf_91 : decode cX12_barOf 91 = .ok (.aload_n 0, 1) := by decide +kernel
theorem dX12_barOf_92 : decode cX12_barOf 92 = .ok (.iload 4, 2) := by decide +kernel
theorem dX12_barOf_94 : decode cX12_barOf 94 = .ok (.iload_n 1, 1) := by decide +kernel
theorem dX12_barOf_95 : decode cX12_barOf 95 = .ok (.iload_n 2, 1) := by decide +kernel
theorem dX12_barOf_96 : decode cX12_barOf 96 = .ok (.iload_n 3, 1) := by decide +kernel
theorem dX12_barOf_97 : decode cX12_barOf 97 = .ok (.invokevirtual 237, 3) := by decide +kernel
theorem dX12_barOf_100 : decode cX12_barOf 100 = .ok (.ifCond .ne 9, 3) := by decide +kernel
theorem dX12_barOf_103 : decode cX12_barOf 103 = .ok (.bipush 10, 2) := by decide +kernel
theorem dX12_barOf_105 : decode cX12_barOf 105 = .ok (.iload 4, 2) := by decide +kernel
theorem dX12_barOf_107 : decode cX12_barOf 107 = .ok (.iadd, 1) := by decide +kernel
theorem dX12_barOf_108 : decode cX12_barOf 108 = .ok (.ireturn, 1) := by decide +kernel
theorem dX12_barOf_109 : decode cX12_barOf 109 = .ok (.iinc 4 1, 3) := by decide +kernel
theorem dX12_barOf_112 : decode cX12_barOf 112 = .ok (.goto (-54), 3) := by decide +kernel
theorem dX12_barOf_115 : decode cX12_barOf 115 = .ok (.iinc 3 1, 3) := by decide +kernel
theorem dX12_barOf_118 : decode cX12_barOf 118 = .ok (.goto (-111), 3) := by decide +kernel
theorem dX12_barOf_121 : decode cX12_barOf 121 = .ok (.aload_n 0, 1) := by decide +kernel
theorem dX12_barOf_122 : decode cX12_barOf 122 = .ok (.iconst (-1), 1) := by decide +kernel
theorem dX12_barOf_123 : decode cX12_barOf 123 = .ok (.putfield 230, 3) := by decide +kernel
theorem dX12_barOf_126 : decode cX12_barOf 126 = .ok (.iconst 0, 1) := by decide +kernel
theorem dX12_barOf_127 : decode cX12_barOf 127 = .ok (.ireturn, 1) := by decide +kernel
theorem dX12_bars_0 : decode cX12_bars 0 = .ok (.aload_n 0, 1) := by decide +kernel
theorem dX12_bars_1 : decode cX12_bars 1 = .ok (.iload_n 1, 1) := by decide +kernel
theorem dX12_bars_2 : decode cX12_bars 2 = .ok (.invokevirtual 144, 3) := by decide +kernel
theorem dX12_bars_5 : decode cX12_bars 5 = .ok (.ifCond .eq 29, 3) := by decide +kernel
theorem dX12_bars_8 : decode cX12_bars 8 = .ok (.aload_n 0, 1) := by decide +kernel
theorem dX12_bars_9 : decode cX12_bars 9 = .ok (.iload_n 2, 1) := by decide +kernel
theorem dX12_bars_10 : decode cX12_bars 10 = .ok (.invokevirtual 140, 3) := by decide +kernel
theorem dX12_bars_13 : decode cX12_bars 13 = .ok (.ifCond .eq 21, 3) := by decide +kernel
theorem dX12_bars_16 : decode cX12_bars 16 = .ok (.aload_n 0, 1) := by decide +kernel
theorem dX12_bars_17 : decode cX12_bars 17 = .ok (.getfield 13, 3) := by decide +kernel
theorem dX12_bars_20 : decode cX12_bars 20 = .ok (.iload_n 1, 1) := by decide +kernel
theorem dX12_bars_21 : decode cX12_bars 21 = .ok (.baload, 1) := by decide +kernel
theorem dX12_bars_22 : decode cX12_bars 22 = .ok (.ifCond .eq 12, 3) := by decide +kernel
theorem dX12_bars_25 : decode cX12_bars 25 = .ok (.aload_n 0, 1) := by decide +kernel
theorem dX12_bars_26 : decode cX12_bars 26 = .ok (.iload_n 1, 1) := by decide +kernel
theorem dX12_bars_27 : decode cX12_bars 27 = .ok (.iload_n 2, 1) := by decide +kernel
theorem dX12_bars_28 : decode cX12_bars 28 = .ok (.invokevirtual 240, 3) := by decide +kernel
theorem dX12_bars_31 : decode cX12_bars 31 = .ok (.goto 4, 3) := by decide +kernel
theorem dX12_bars_34 : decode cX12_bars 34 = .ok (.iconst (-1), 1) := by decide +kernel
theorem dX12_bars_35 : decode cX12_bars 35 = .ok (.ireturn, 1) := by decide +kernel
theorem dX12_barred_0 : decode cX12_barred 0 = .ok (.aload_n 0, 1) := by decide +kernel
theorem dX12_barred_1 : decode cX12_barred 1 = .ok (.iload_n 1, 1) := by decide +kernel
theorem dX12_barred_2 : decode cX12_barred 2 = .ok (.iload_n 2, 1) := by decide +kernel
theorem dX12_barred_3 : decode cX12_barred 3 = .ok (.invokevirtual 243, 3) := by decide +kernel
theorem dX12_barred_6 : decode cX12_barred 6 = .ok (.ifCond .le 10, 3) := by decide +kernel
theorem dX12_barred_9 : decode cX12_barred 9 = .ok (.aload_n 0, 1) := by decide +kernel
theorem dX12_barred_10 : decode cX12_barred 10 = .ok (.getfield 230, 3) := by decide +kernel
theorem dX12_barred_13 : decode cX12_barred 13 = .ok (.goto 4, 3) := by decide +kernel
theorem dX12_barred_16 : decode cX12_barred 16 = .ok (.iconst (-1), 1) := by decide +kernel
theorem dX12_barred_17 : decode cX12_barred 17 = .ok (.ireturn, 1) := by decide +kernel
theorem dX12_wishOf_0 : decode cX12_wishOf 0 = .ok (.iconst 0, 1) := by decide +kernel
theorem dX12_wishOf_1 : decode cX12_wishOf 1 = .ok (.istore_n 3, 1) := by decide +kernel
theorem dX12_wishOf_2 : decode cX12_wishOf 2 = .ok (.iconst 0, 1) := by decide +kernel
theorem dX12_wishOf_3 : decode cX12_wishOf 3 = .ok (.istore 4, 2) := by decide +kernel
theorem dX12_wishOf_5 : decode cX12_wishOf 5 = .ok (.iload 4, 2) := by decide +kernel
theorem dX12_wishOf_7 : decode cX12_wishOf 7 = .ok (.aload_n 0, 1) := by decide +kernel
theorem dX12_wishOf_8 : decode cX12_wishOf 8 = .ok (.getfield 223, 3) := by decide +kernel
theorem dX12_wishOf_11 : decode cX12_wishOf 11 = .ok (.if_icmp .ge 47, 3) := by decide +kernel
theorem dX12_wishOf_14 : decode cX12_wishOf 14 = .ok (.aload_n 0, 1) := by decide +kernel
theorem dX12_wishOf_15 : decode cX12_wishOf 15 = .ok (.getfield 60, 3) := by decide +kernel
theorem dX12_wishOf_18 : decode cX12_wishOf 18 = .ok (.iload 4, 2) := by decide +kernel
theorem dX12_wishOf_20 : decode cX12_wishOf 20 = .ok (.iaload, 1) := by decide +kernel
theorem dX12_wishOf_21 : decode cX12_wishOf 21 = .ok (.iconst 2, 1) := by decide +kernel
theorem dX12_wishOf_22 : decode cX12_wishOf 22 = .ok (.if_icmp .ne 30, 3) := by decide +kernel
theorem dX12_wishOf_25 : decode cX12_wishOf 25 = .ok (.aload_n 0, 1) := by decide +kernel
theorem dX12_wishOf_26 : decode cX12_wishOf 26 = .ok (.iload 4, 2) := by decide +kernel
theorem dX12_wishOf_28 : decode cX12_wishOf 28 = .ok (.iload_n 1, 1) := by decide +kernel
theorem dX12_wishOf_29 : decode cX12_wishOf 29 = .ok (.iload_n 2, 1) := by decide +kernel
theorem dX12_wishOf_30 : decode cX12_wishOf 30 = .ok (.aload_n 0, 1) := by decide +kernel
theorem dX12_wishOf_31 : decode cX12_wishOf 31 = .ok (.getfield 17, 3) := by decide +kernel
theorem dX12_wishOf_34 : decode cX12_wishOf 34 = .ok (.iload_n 1, 1) := by decide +kernel
theorem dX12_wishOf_35 : decode cX12_wishOf 35 = .ok (.iaload, 1) := by decide +kernel
theorem dX12_wishOf_36 : decode cX12_wishOf 36 = .ok (.invokevirtual 237, 3) := by decide +kernel
theorem dX12_wishOf_39 : decode cX12_wishOf 39 = .ok (.ifCond .eq 13, 3) := by decide +kernel
theorem dX12_wishOf_42 : decode cX12_wishOf 42 = .ok (.iload_n 3, 1) := by decide +kernel
theorem dX12_wishOf_43 : decode cX12_wishOf 43 = .ok (.aload_n 0, 1) := by decide +kernel
theorem dX12_wishOf_44 : decode cX12_wishOf 44 = .ok (.getfield 63, 3) := by decide +kernel
theorem dX12_wishOf_47 : decode cX12_wishOf 47 = .ok (.iload 4, 2) := by decide +kernel
theorem dX12_wishOf_49 : decode cX12_wishOf 49 = .ok (.iaload, 1) := by decide +kernel
theorem dX12_wishOf_50 : decode cX12_wishOf 50 = .ok (.iadd, 1) := by decide +kernel
theorem dX12_wishOf_51 : decode cX12_wishOf 51 = .ok (.istore_n 3, 1) := by decide +kernel
theorem dX12_wishOf_52 : decode cX12_wishOf 52 = .ok (.iinc 4 1, 3) := by decide +kernel
theorem dX12_wishOf_55 : decode cX12_wishOf 55 = .ok (.goto (-50), 3) := by decide +kernel
theorem dX12_wishOf_58 : decode cX12_wishOf 58 = .ok (.iload_n 3, 1) := by decide +kernel
theorem dX12_wishOf_59 : decode cX12_wishOf 59 = .ok (.ireturn, 1) := by decide +kernel
theorem dX12_wish_0 : decode cX12_wish 0 = .ok (.aload_n 0, 1) := by decide +kernel
theorem dX12_wish_1 : decode cX12_wish 1 = .ok (.iload_n 1, 1) := by decide +kernel
theorem dX12_wish_2 : decode cX12_wish 2 = .ok (.invokevirtual 144, 3) := by decide +kernel
theorem dX12_wish_5 : decode cX12_wish 5 = .ok (.ifCond .eq 29, 3) := by decide +kernel
theorem dX12_wish_8 : decode cX12_wish 8 = .ok (.aload_n 0, 1) := by decide +kernel
theorem dX12_wish_9 : decode cX12_wish 9 = .ok (.iload_n 2, 1) := by decide +kernel
theorem dX12_wish_10 : decode cX12_wish 10 = .ok (.invokevirtual 140, 3) := by decide +kernel
theorem dX12_wish_13 : decode cX12_wish 13 = .ok (.ifCond .eq 21, 3) := by decide +kernel
theorem dX12_wish_16 : decode cX12_wish 16 = .ok (.aload_n 0, 1) := by decide +kernel
theorem dX12_wish_17 : decode cX12_wish 17 = .ok (.getfield 13, 3) := by decide +kernel
theorem dX12_wish_20 : decode cX12_wish 20 = .ok (.iload_n 1, 1) := by decide +kernel
theorem dX12_wish_21 : decode cX12_wish 21 = .ok (.baload, 1) := by decide +kernel
theorem dX12_wish_22 : decode cX12_wish 22 = .ok (.ifCond .eq 12, 3) := by decide +kernel
theorem dX12_wish_25 : decode cX12_wish 25 = .ok (.aload_n 0, 1) := by decide +kernel
theorem dX12_wish_26 : decode cX12_wish 26 = .ok (.iload_n 1, 1) := by decide +kernel
theorem dX12_wish_27 : decode cX12_wish 27 = .ok (.iload_n 2, 1) := by decide +kernel
theorem dX12_wish_28 : decode cX12_wish 28 = .ok (.invokevirtual 246, 3) := by decide +kernel
theorem dX12_wish_31 : decode cX12_wish 31 = .ok (.goto 4, 3) := by decide +kernel
theorem dX12_wish_34 : decode cX12_wish 34 = .ok (.iconst (-1), 1) := by decide +kernel
theorem dX12_wish_35 : decode cX12_wish 35 = .ok (.ireturn, 1) := by decide +kernel
theorem dX12_isLet_0 : decode cX12_isLet 0 = .ok (.aload_n 0, 1) := by decide +kernel
theorem dX12_isLet_1 : decode cX12_isLet 1 = .ok (.getfield 111, 3) := by decide +kernel
theorem dX12_isLet_4 : decode cX12_isLet 4 = .ok (.iload_n 1, 1) := by decide +kernel
theorem dX12_isLet_5 : decode cX12_isLet 5 = .ok (.iaload, 1) := by decide +kernel
theorem dX12_isLet_6 : decode cX12_isLet 6 = .ok (.istore_n 2, 1) := by decide +kernel
theorem dX12_isLet_7 : decode cX12_isLet 7 = .ok (.iload_n 2, 1) := by decide +kernel
theorem dX12_isLet_8 : decode cX12_isLet 8 = .ok (.aload_n 0, 1) := by decide +kernel
theorem dX12_isLet_9 : decode cX12_isLet 9 = .ok (.getfield 134, 3) := by decide +kernel
theorem dX12_isLet_12 : decode cX12_isLet 12 = .ok (.if_icmp .ne 5, 3) := by decide +kernel
theorem dX12_isLet_15 : decode cX12_isLet 15 = .ok (.iconst 1, 1) := by decide +kernel
theorem dX12_isLet_16 : decode cX12_isLet 16 = .ok (.ireturn, 1) := by decide +kernel
theorem dX12_isLet_17 : decode cX12_isLet 17 = .ok (.aload_n 0, 1) := by decide +kernel
theorem dX12_isLet_18 : decode cX12_isLet 18 = .ok (.getfield 13, 3) := by decide +kernel
theorem dX12_isLet_21 : decode cX12_isLet 21 = .ok (.iload_n 1, 1) := by decide +kernel
theorem dX12_isLet_22 : decode cX12_isLet 22 = .ok (.baload, 1) := by decide +kernel
theorem dX12_isLet_23 : decode cX12_isLet 23 = .ok (.ifCond .eq 16, 3) := by decide +kernel
theorem dX12_isLet_26 : decode cX12_isLet 26 = .ok (.aload_n 0, 1) := by decide +kernel
theorem dX12_isLet_27 : decode cX12_isLet 27 = .ok (.getfield 117, 3) := by decide +kernel
theorem dX12_isLet_30 : decode cX12_isLet 30 = .ok (.iconst 5, 1) := by decide +kernel
theorem dX12_isLet_31 : decode cX12_isLet 31 = .ok (.iload_n 1, 1) := by decide +kernel
theorem dX12_isLet_32 : decode cX12_isLet 32 = .ok (.imul, 1) := by decide +kernel
theorem dX12_isLet_33 : decode cX12_isLet 33 = .ok (.iload_n 2, 1) := by decide +kernel
theorem dX12_isLet_34 : decode cX12_isLet 34 = .ok (.iadd, 1) := by decide +kernel
theorem dX12_isLet_35 : decode cX12_isLet 35 = .ok (.baload, 1) := by decide +kernel
theorem dX12_isLet_36 : decode cX12_isLet 36 = .ok (.ifCond .ne 5, 3) := by decide +kernel
theorem dX12_isLet_39 : decode cX12_isLet 39 = .ok (.iconst 0, 1) := by decide +kernel
theorem dX12_isLet_40 : decode cX12_isLet 40 = .ok (.ireturn, 1) := by decide +kernel
theorem dX12_isLet_41 : decode cX12_isLet 41 = .ok (.aload_n 0, 1) := by decide +kernel
theorem dX12_isLet_42 : decode cX12_isLet 42 = .ok (.getfield 17, 3) := by decide +kernel
theorem dX12_isLet_45 : decode cX12_isLet 45 = .ok (.iload_n 1, 1) := by decide +kernel
theorem dX12_isLet_46 : decode cX12_isLet 46 = .ok (.iaload, 1) := by decide +kernel
theorem dX12_isLet_47 : decode cX12_isLet 47 = .ok (.istore_n 3, 1) := by decide +kernel
theorem dX12_isLet_48 : decode cX12_isLet 48 = .ok (.iload_n 3, 1) := by decide +kernel
theorem dX12_isLet_49 : decode cX12_isLet 49 = .ok (.aload_n 0, 1) := by decide +kernel
theorem dX12_isLet_50 : decode cX12_isLet 50 = .ok (.getfield 20, 3) := by decide +kernel
theorem dX12_isLet_53 : decode cX12_isLet 53 = .ok (.iload_n 1, 1) := by decide +kernel
theorem dX12_isLet_54 : decode cX12_isLet 54 = .ok (.iaload, 1) := by decide +kernel
theorem dX12_isLet_55 : decode cX12_isLet 55 = .ok (.if_icmp .gt 83, 3) := by decide +kernel
theorem dX12_isLet_58 : decode cX12_isLet 58 = .ok (.iconst 1, 1) := by decide +kernel
theorem dX12_isLet_59 : decode cX12_isLet 59 = .ok (.istore 4, 2) := by decide +kernel
theorem dX12_isLet_61 : decode cX12_isLet 61 = .ok (.iconst 0, 1) := by decide +kernel
theorem dX12_isLet_62 : decode cX12_isLet 62 = .ok (.istore 5, 2) := by decide +kernel
theorem dX12_isLet_64 : decode cX12_isLet 64 = .ok (.iload 5, 2) := by decide +kernel
theorem dX12_isLet_66 : decode cX12_isLet 66 = .ok (.iload_n 1, 1) := by decide +kernel
theorem dX12_isLet_67 : decode cX12_isLet 67 = .ok (.if_icmp .ge 52, 3) := by decide +kernel
theorem dX12_isLet_70 : decode cX12_isLet 70 = .ok (.iload 4, 2) := by decide +kernel
theorem dX12_isLet_72 : decode cX12_isLet 72 = .ok (.aload_n 0, 1) := by decide +kernel
theorem dX12_isLet_73 : decode cX12_isLet 73 = .ok (.getfield 111, 3) := by decide +kernel
theorem dX12_isLet_76 : decode cX12_isLet 76 = .ok (.iload 5, 2) := by decide +kernel
theorem dX12_isLet_78 : decode cX12_isLet 78 = .ok (.iaload, 1) := by decide +kernel
theorem dX12_isLet_79 : decode cX12_isLet 79 = .ok (.iload_n 2, 1) := by decide +kernel
theorem dX12_isLet_80 : decode cX12_isLet 80 = .ok (.if_icmp .ne 29, 3) := by decide +kernel
theorem dX12_isLet_83 : decode cX12_isLet 83 = .ok (.aload_n 0, 1) := by decide +kernel
theorem dX12_isLet_84 : decode cX12_isLet 84 = .ok (.getfield 17, 3) := by decide +kernel
theorem dX12_isLet_87 : decode cX12_isLet 87 = .ok (.iload 5, 2) := by decide +kernel
theorem dX12_isLet_89 : decode cX12_isLet 89 = .ok (.iaload, 1) := by decide +kernel
theorem dX12_isLet_90 : decode cX12_isLet 90 = .ok (.iload_n 3, 1) := by decide +kernel
theorem dX12_isLet_91 : decode cX12_isLet 91 = .ok (.if_icmp .gt 18, 3) := by decide +kernel
theorem dX12_isLet_94 : decode cX12_isLet 94 = .ok (.aload_n 0, 1) := by decide +kernel
theorem dX12_isLet_95 : decode cX12_isLet 95 = .ok (.getfield 20, 3) := by decide +kernel
theorem dX12_isLet_98 : decode cX12_isLet 98 = .ok (.iload 5, 2) := by decide +kernel
theorem dX12_isLet_100 : decode cX12_isLet 100 = .ok (.iaload, 1) := by decide +kernel
theorem dX12_isLet_101 : decode cX12_isLet 101 = .ok (.iload_n 3, 1) := by decide +kernel
theorem dX12_isLet_102 : decode cX12_isLet 102 = .ok (.if_icmp .lt 7, 3) := by decide +kernel
theorem dX12_isLet_105 : decode cX12_isLet 105 = .ok (.iconst 1, 1) := by decide +kernel
theorem dX12_isLet_106 : decode cX12_isLet 106 = .ok (.goto 4, 3) := by decide +kernel
theorem dX12_isLet_109 : decode cX12_isLet 109 = .ok (.iconst 0, 1) := by decide +kernel
theorem dX12_isLet_110 : decode cX12_isLet 110 = .ok (.iadd, 1) := by decide +kernel
theorem dX12_isLet_111 : decode cX12_isLet 111 = .ok (.istore 4, 2) := by decide +kernel
theorem dX12_isLet_113 : decode cX12_isLet 113 = .ok (.iinc 5 1, 3) := by decide +kernel
theorem dX12_isLet_116 : decode cX12_isLet 116 = .ok (.goto (-52), 3) := by decide +kernel
theorem dX12_isLet_119 : decode cX12_isLet 119 = .ok (.iload 4, 2) := by decide +kernel
theorem dX12_isLet_121 : decode cX12_isLet 121 = .ok (.aload_n 0, 1) := by decide +kernel
theorem dX12_isLet_122 : decode cX12_isLet 122 = .ok (.getfield 26, 3) := by decide +kernel
theorem dX12_isLet_125 : decode cX12_isLet 125 = .ok (.iload_n 2, 1) := by decide +kernel
theorem dX12_isLet_126 : decode cX12_isLet 126 = .ok (.iaload, 1) := by decide +kernel
theorem dX12_isLet_127 : decode cX12_isLet 127 = .ok (.if_icmp .le 5, 3) := by decide +kernel
theorem dX12_isLet_130 : decode cX12_isLet 130 = .ok (.iconst 0, 1) := by decide +kernel
theorem dX12_isLet_131 : decode cX12_isLet 131 = .ok (.ireturn, 1) := by decide +kernel
theorem dX12_isLet_132 : decode cX12_isLet 132 = .ok (.iinc 3 1, 3) := by decide +kernel
theorem dX12_isLet_135 : decode cX12_isLet 135 = .ok (.goto (-87), 3) := by decide +kernel
theorem dX12_isLet_138 : decode cX12_isLet 138 = .ok (.iconst 1, 1) := by decide +kernel
theorem dX12_isLet_139 : decode cX12_isLet 139 = .ok (.ireturn, 1) := by decide +kernel
theorem dX12_parted_0 : decode cX12_parted 0 = .ok (.iconst 0, 1) := by decide +kernel
theorem dX12_parted_1 : decode cX12_parted 1 = .ok (.istore_n 1, 1) := by decide +kernel
theorem dX12_parted_2 : decode cX12_parted 2 = .ok (.iconst 1, 1) := by decide +kernel
theorem dX12_parted_3 : decode cX12_parted 3 = .ok (.istore_n 2, 1) := by decide +kernel
theorem dX12_parted_4 : decode cX12_parted 4 = .ok (.iload_n 2, 1) := by decide +kernel
theorem dX12_parted_5 : decode cX12_parted 5 = .ok (.iconst 4, 1) := by decide +kernel
theorem dX12_parted_6 : decode cX12_parted 6 = .ok (.if_icmp .ge 134, 3) := by decide +kernel
theorem dX12_parted_9 : decode cX12_parted 9 = .ok (.iconst 0, 1) := by decide +kernel
theorem dX12_parted_10 : decode cX12_parted 10 = .ok (.istore_n 3, 1) := by decide +kernel
theorem dX12_parted_11 : decode cX12_parted 11 = .ok (.iconst 0, 1) := by decide +kernel
theorem dX12_parted_12 : decode cX12_parted 12 = .ok (.istore 4, 2) := by decide +kernel
theorem dX12_parted_14 : decode cX12_parted 14 = .ok (.iload 4, 2) := by decide +kernel
theorem dX12_parted_16 : decode cX12_parted 16 = .ok (.aload_n 0, 1) := by decide +kernel
theorem dX12_parted_17 : decode cX12_parted 17 = .ok (.getfield 131, 3) := by decide +kernel
theorem dX12_parted_20 : decode cX12_parted 20 = .ok (.if_icmp .ge 102, 3) := by decide +kernel
theorem dX12_parted_23 : decode cX12_parted 23 = .ok (.iconst 0, 1) := by decide +kernel
theorem dX12_parted_24 : decode cX12_parted 24 = .ok (.istore 5, 2) := by decide +kernel
theorem dX12_parted_26 : decode cX12_parted 26 = .ok (.iload 5, 2) := by decide +kernel
theorem dX12_parted_28 : decode cX12_parted 28 = .ok (.iload 4, 2) := by decide +kernel
theorem dX12_parted_30 : decode cX12_parted 30 = .ok (.if_icmp .ge 86, 3) := by decide +kernel
theorem dX12_parted_33 : decode cX12_parted 33 = .ok (.iload_n 3, 1) := by decide +kernel
theorem dX12_parted_34 : decode cX12_parted 34 = .ok (.ifCond .ne 70, 3) := by decide +kernel
theorem dX12_parted_37 : decode cX12_parted 37 = .ok (.aload_n 0, 1) := by decide +kernel
theorem dX12_parted_38 : decode cX12_parted 38 = .ok (.getfield 7, 3) := by decide +kernel
theorem dX12_parted_41 : decode cX12_parted 41 = .ok (.iload 4, 2) := by decide +kernel
theorem dX12_parted_43 : decode cX12_parted 43 = .ok (.iaload, 1) := by decide +kernel
theorem dX12_parted_44 : decode cX12_parted 44 = .ok (.iload_n 2, 1) := by decide +kernel
theorem dX12_parted_45 : decode cX12_parted 45 = .ok (.if_icmp .ne 63, 3) := by decide +kernel
theorem dX12_parted_48 : decode cX12_parted 48 = .ok (.aload_n 0, 1) := by decide +kernel
theorem dX12_parted_49 : decode cX12_parted 49 = .ok (.getfield 7, 3) := by decide +kernel
theorem dX12_parted_52 : decode cX12_parted 52 = .ok (.iload 5, 2) := by decide +kernel
theorem dX12_parted_54 : decode cX12_parted 54 = .ok (.iaload, 1) := by decide +kernel
theorem dX12_parted_55 : decode cX12_parted 55 = .ok (.iload_n 2, 1) := by decide +kernel
theorem dX12_parted_56 : decode cX12_parted 56 = .ok (.if_icmp .ne 52, 3) := by decide +kernel
theorem dX12_parted_59 : decode cX12_parted 59 = .ok (.aload_n 0, 1) := by decide +kernel
theorem dX12_parted_60 : decode cX12_parted 60 = .ok (.getfield 111, 3) := by decide +kernel
theorem dX12_parted_63 : decode cX12_parted 63 = .ok (.iload 4, 2) := by decide +kernel
theorem dX12_parted_65 : decode cX12_parted 65 = .ok (.iaload, 1) := by decide +kernel
theorem dX12_parted_66 : decode cX12_parted 66 = .ok (.aload_n 0, 1) := by decide +kernel
theorem dX12_parted_67 : decode cX12_parted 67 = .ok (.getfield 134, 3) := by decide +kernel
theorem dX12_parted_70 : decode cX12_parted 70 = .ok (.if_icmp .ge 38, 3) := by decide +kernel
theorem dX12_parted_73 : decode cX12_parted 73 = .ok (.aload_n 0, 1) := by decide +kernel
theorem dX12_parted_74 : decode cX12_parted 74 = .ok (.getfield 111, 3) := by decide +kernel
theorem dX12_parted_77 : decode cX12_parted 77 = .ok (.iload 5, 2) := by decide +kernel
theorem dX12_parted_79 : decode cX12_parted 79 = .ok (.iaload, 1) := by decide +kernel
theorem dX12_parted_80 : decode cX12_parted 80 = .ok (.aload_n 0, 1) := by decide +kernel
theorem dX12_parted_81 : decode cX12_parted 81 = .ok (.getfield 134, 3) := by decide +kernel
theorem dX12_parted_84 : decode cX12_parted 84 = .ok (.if_icmp .ge 24, 3) := by decide +kernel
theorem dX12_parted_87 : decode cX12_parted 87 = .ok (.aload_n 0, 1) := by decide +kernel
theorem dX12_parted_88 : decode cX12_parted 88 = .ok (.getfield 111, 3) := by decide +kernel
theorem dX12_parted_91 : decode cX12_parted 91 = .ok (.iload 4, 2) := by decide +kernel
theorem dX12_parted_93 : decode cX12_parted 93 = .ok (.iaload, 1) := by decide +kernel
theorem dX12_parted_94 : decode cX12_parted 94 = .ok (.aload_n 0, 1) := by decide +kernel
theorem dX12_parted_95 : decode cX12_parted 95 = .ok (.getfield 111, 3) := by decide +kernel
theorem dX12_parted_98 : decode cX12_parted 98 = .ok (.iload 5, 2) := by decide +kernel
theorem dX12_parted_100 : decode cX12_parted 100 = .ok (.iaload, 1) := by decide +kernel
theorem dX12_parted_101 : decode cX12_parted 101 = .ok (.if_icmp .eq 7, 3) := by decide +kernel
theorem dX12_parted_104 : decode cX12_parted 104 = .ok (.iconst 1, 1) := by decide +kernel
theorem dX12_parted_105 : decode cX12_parted 105 = .ok (.goto 4, 3) := by decide +kernel
theorem dX12_parted_108 : decode cX12_parted 108 = .ok (.iconst 0, 1) := by decide +kernel
theorem dX12_parted_109 : decode cX12_parted 109 = .ok (.istore_n 3, 1) := by decide +kernel
theorem dX12_parted_110 : decode cX12_parted 110 = .ok (.iinc 5 1, 3) := by decide +kernel
theorem dX12_parted_113 : decode cX12_parted 113 = .ok (.goto (-87), 3) := by decide +kernel
theorem dX12_parted_116 : decode cX12_parted 116 = .ok (.iinc 4 1, 3) := by decide +kernel
theorem dX12_parted_119 : decode cX12_parted 119 = .ok (.goto (-105), 3) := by decide +kernel
theorem dX12_parted_122 : decode cX12_parted 122 = .ok (.iload_n 1, 1) := by decide +kernel
theorem dX12_parted_123 : decode cX12_parted 123 = .ok (.iload_n 3, 1) := by decide +kernel
theorem dX12_parted_124 : decode cX12_parted 124 = .ok (.ifCond .eq 7, 3) := by decide +kernel
theorem dX12_parted_127 : decode cX12_parted 127 = .ok (.iconst 1, 1) := by decide +kernel
theorem dX12_parted_128 : decode cX12_parted 128 = .ok (.goto 4, 3) := by decide +kernel
theorem dX12_parted_131 : decode cX12_parted 131 = .ok (.iconst 0, 1) := by decide +kernel
theorem dX12_parted_132 : decode cX12_parted 132 = .ok (.iadd, 1) := by decide +kernel
theorem dX12_parted_133 : decode cX12_parted 133 = .ok (.istore_n 1, 1) := by decide +kernel
theorem dX12_parted_134 : decode cX12_parted 134 = .ok (.iinc 2 1, 3) := by decide +kernel
theorem dX12_parted_137 : decode cX12_parted 137 = .ok (.goto (-133), 3) := by decide +kernel
theorem dX12_parted_140 : decode cX12_parted 140 = .ok (.iload_n 1, 1) := by decide +kernel
theorem dX12_parted_141 : decode cX12_parted 141 = .ok (.ireturn, 1) := by decide +kernel
theorem dX12_weighs_0 : decode cX12_weighs 0 = .ok (.aload_n 0, 1) := by decide +kernel
theorem dX12_weighs_1 : decode cX12_weighs 1 = .ok (.invokevirtual 249, 3) := by decide +kernel
theorem dX12_weighs_4 : decode cX12_weighs 4 = .ok (.istore_n 3, 1) := by decide +kernel
theorem dX12_weighs_5 : decode cX12_weighs 5 = .ok (.iconst 0, 1) := by decide +kernel
theorem dX12_weighs_6 : decode cX12_weighs 6 = .ok (.istore 4, 2) := by decide +kernel
theorem dX12_weighs_8 : decode cX12_weighs 8 = .ok (.iconst 0, 1) := by decide +kernel
theorem dX12_weighs_9 : decode cX12_weighs 9 = .ok (.istore 5, 2) := by decide +kernel
theorem dX12_weighs_11 : decode cX12_weighs 11 = .ok (.iconst 0, 1) := by decide +kernel
theorem dX12_weighs_12 : decode cX12_weighs 12 = .ok (.istore 6, 2) := by decide +kernel
theorem dX12_weighs_14 : decode cX12_weighs 14 = .ok (.iload 6, 2) := by decide +kernel
theorem dX12_weighs_16 : decode cX12_weighs 16 = .ok (.aload_n 0, 1) := by decide +kernel
theorem dX12_weighs_17 : decode cX12_weighs 17 = .ok (.getfield 131, 3) := by decide +kernel
theorem dX12_weighs_20 : decode cX12_weighs 20 = .ok (.if_icmp .ge 96, 3) := by decide +kernel
theorem dX12_weighs_23 : decode cX12_weighs 23 = .ok (.iload 4, 2) := by decide +kernel
theorem dX12_weighs_25 : decode cX12_weighs 25 = .ok (.aload_n 0, 1) := by decide +kernel
theorem dX12_weighs_26 : decode cX12_weighs 26 = .ok (.getfield 13, 3) := by decide +kernel
theorem dX12_weighs_29 : decode cX12_weighs 29 = .ok (.iload 6, 2) := by decide +kernel
theorem dX12_weighs_31 : decode cX12_weighs 31 = .ok (.baload, 1) := by decide +kernel
theorem dX12_weighs_32 : decode cX12_weighs 32 = .ok (.ifCond .eq 34, 3) := by decide +kernel
theorem dX12_weighs_35 : decode cX12_weighs 35 = .ok (.aload_n 0, 1) := by decide +kernel
theorem dX12_weighs_36 : decode cX12_weighs 36 = .ok (.getfield 108, 3) := by decide +kernel
theorem dX12_weighs_39 : decode cX12_weighs 39 = .ok (.iload 6, 2) := by decide +kernel
theorem dX12_weighs_41 : decode cX12_weighs 41 = .ok (.iaload, 1) := by decide +kernel
theorem dX12_weighs_42 : decode cX12_weighs 42 = .ok (.ifCond .lt 24, 3) := by decide +kernel
theorem dX12_weighs_45 : decode cX12_weighs 45 = .ok (.aload_n 0, 1) := by decide +kernel
theorem dX12_weighs_46 : decode cX12_weighs 46 = .ok (.getfield 108, 3) := by decide +kernel
theorem dX12_weighs_49 : decode cX12_weighs 49 = .ok (.iload 6, 2) := by decide +kernel
theorem dX12_weighs_51 : decode cX12_weighs 51 = .ok (.iaload, 1) := by decide +kernel
theorem dX12_weighs_52 : decode cX12_weighs 52 = .ok (.aload_n 0, 1) := by decide +kernel
theorem dX12_weighs_53 : decode cX12_weighs 53 = .ok (.getfield 111, 3) := by decide +kernel
theorem dX12_weighs_56 : decode cX12_weighs 56 = .ok (.iload 6, 2) := by decide +kernel
theorem dX12_weighs_58 : decode cX12_weighs 58 = .ok (.iaload, 1) := by decide +kernel
theorem dX12_weighs_59 : decode cX12_weighs 59 = .ok (.if_icmp .eq 7, 3) := by decide +kernel
theorem dX12_weighs_62 : decode cX12_weighs 62 = .ok (.iconst 1, 1) := by decide +kernel
theorem dX12_weighs_63 : decode cX12_weighs 63 = .ok (.goto 4, 3) := by decide +kernel
theorem dX12_weighs_66 : decode cX12_weighs 66 = .ok (.iconst 0, 1) := by decide +kernel
theorem dX12_weighs_67 : decode cX12_weighs 67 = .ok (.iadd, 1) := by decide +kernel
theorem dX12_weighs_68 : decode cX12_weighs 68 = .ok (.istore 4, 2) := by decide +kernel
theorem dX12_weighs_70 : decode cX12_weighs 70 = .ok (.iload 5, 2) := by decide +kernel
theorem dX12_weighs_72 : decode cX12_weighs 72 = .ok (.aload_n 0, 1) := by decide +kernel
theorem dX12_weighs_73 : decode cX12_weighs 73 = .ok (.getfield 111, 3) := by decide +kernel
theorem dX12_weighs_76 : decode cX12_weighs 76 = .ok (.iload 6, 2) := by decide +kernel
theorem dX12_weighs_78 : decode cX12_weighs 78 = .ok (.iaload, 1) := by decide +kernel
theorem dX12_weighs_79 : decode cX12_weighs 79 = .ok (.aload_n 0, 1) := by decide +kernel
theorem dX12_weighs_80 : decode cX12_weighs 80 = .ok (.getfield 134, 3) := by decide +kernel
theorem dX12_weighs_83 : decode cX12_weighs 83 = .ok (.if_icmp .ge 23, 3) := by decide +kernel
theorem dX12_weighs_86 : decode cX12_weighs 86 = .ok (.aload_n 0, 1) := by decide +kernel
theorem dX12_weighs_87 : decode cX12_weighs 87 = .ok (.getfield 120, 3) := by decide +kernel
theorem dX12_weighs_90 : decode cX12_weighs 90 = .ok (.iconst 5, 1) := by decide +kernel
theorem dX12_weighs_91 : decode cX12_weighs 91 = .ok (.iload 6, 2) := by decide +kernel
theorem dX12_weighs_93 : decode cX12_weighs 93 = .ok (.imul, 1) := by decide +kernel
theorem dX12_weighs_94 : decode cX12_weighs 94 = .ok (.aload_n 0, 1) := by decide +kernel
theorem dX12_weighs_95 : decode cX12_weighs 95 = .ok (.getfield 111, 3) := by decide +kernel
theorem dX12_weighs_98 : decode cX12_weighs 98 = .ok (.iload 6, 2) := by decide +kernel
theorem dX12_weighs_100 : decode cX12_weighs 100 = .ok (.iaload, 1) := by decide +kernel
theorem dX12_weighs_101 : decode cX12_weighs 101 = .ok (.iadd, 1) := by decide +kernel
theorem dX12_weighs_102 : decode cX12_weighs 102 = .ok (.iaload, 1) := by decide +kernel
theorem dX12_weighs_103 : decode cX12_weighs 103 = .ok (.goto 4, 3) := by decide +kernel
theorem dX12_weighs_106 : decode cX12_weighs 106 = .ok (.iconst 0, 1) := by decide +kernel
theorem dX12_weighs_107 : decode cX12_weighs 107 = .ok (.iadd, 1) := by decide +kernel
theorem dX12_weighs_108 : decode cX12_weighs 108 = .ok (.istore 5, 2) := by decide +kernel
theorem dX12_weighs_110 : decode cX12_weighs 110 = .ok (.iinc 6 1, 3) := by decide +kernel
theorem dX12_weighs_113 : decode cX12_weighs 113 = .ok (.goto (-99), 3) := by decide +kernel
theorem dX12_weighs_116 : decode cX12_weighs 116 = .ok (.iload_n 1, 1) := by decide +kernel
theorem dX12_weighs_117 : decode cX12_weighs 117 = .ok (.aload_n 0, 1) := by decide +kernel
theorem dX12_weighs_118 : decode cX12_weighs 118 = .ok (.getfield 252, 3) := by decide +kernel
theorem dX12_weighs_121 : decode cX12_weighs 121 = .ok (.if_icmp .eq 19, 3) := by decide +kernel
theorem dX12_weighs_124 : decode cX12_weighs 124 = .ok (.iload_n 1, 1) := by decide +kernel
theorem dX12_weighs_125 : decode cX12_weighs 125 = .ok (.aload_n 0, 1) := by decide +kernel
theorem dX12_weighs_126 : decode cX12_weighs 126 = .ok (.getfield 252, 3) := by decide +kernel
theorem dX12_weighs_129 : decode cX12_weighs 129 = .ok (.if_icmp .ge 7, 3) := by decide +kernel
theorem dX12_weighs_132 : decode cX12_weighs 132 = .ok (.iconst 1, 1) := by decide +kernel
theorem dX12_weighs_133 : decode cX12_weighs 133 = .ok (.goto 75, 3) := by decide +kernel
theorem dX12_weighs_136 : decode cX12_weighs 136 = .ok (.iconst 0, 1) := by decide +kernel
theorem dX12_weighs_137 : decode cX12_weighs 137 = .ok (.goto 71, 3) := by decide +kernel
theorem dX12_weighs_140 : decode cX12_weighs 140 = .ok (.iload_n 3, 1) := by decide +kernel
theorem dX12_weighs_141 : decode cX12_weighs 141 = .ok (.aload_n 0, 1) := by decide +kernel
theorem dX12_weighs_142 : decode cX12_weighs 142 = .ok (.getfield 255, 3) := by decide +kernel
theorem dX12_weighs_145 : decode cX12_weighs 145 = .ok (.if_icmp .eq 19, 3) := by decide +kernel
theorem dX12_weighs_148 : decode cX12_weighs 148 = .ok (.iload_n 3, 1) := by decide +kernel
theorem dX12_weighs_149 : decode cX12_weighs 149 = .ok (.aload_n 0, 1) := by decide +kernel
theorem dX12_weighs_150 : decode cX12_weighs 150 = .ok (.getfield 255, 3) := by decide +kernel
theorem dX12_weighs_153 : decode cX12_weighs 153 = .ok (.if_icmp .ge 7, 3) := by decide +kernel
theorem dX12_weighs_156 : decode cX12_weighs 156 = .ok (.iconst 1, 1) := by decide +kernel
theorem dX12_weighs_157 : decode cX12_weighs 157 = .ok (.goto 51, 3) := by decide +kernel
theorem dX12_weighs_160 : decode cX12_weighs 160 = .ok (.iconst 0, 1) := by decide +kernel
theorem dX12_weighs_161 : decode cX12_weighs 161 = .ok (.goto 47, 3) := by decide +kernel
theorem dX12_weighs_164 : decode cX12_weighs 164 = .ok (.iload_n 2, 1) := by decide +kernel
theorem dX12_weighs_165 : decode cX12_weighs 165 = .ok (.ifCond .eq 29, 3) := by decide +kernel
theorem dX12_weighs_168 : decode cX12_weighs 168 = .ok (.iload 4, 2) := by decide +kernel
theorem dX12_weighs_170 : decode cX12_weighs 170 = .ok (.aload_n 0, 1) := by decide +kernel
theorem dX12_weighs_171 : decode cX12_weighs 171 = .ok (.getfield 258, 3) := by decide +kernel
theorem dX12_weighs_174 : decode cX12_weighs 174 = .ok (.if_icmp .eq 20, 3) := by decide +kernel
theorem dX12_weighs_177 : decode cX12_weighs 177 = .ok (.iload 4, 2) := by decide +kernel
theorem dX12_weighs_179 : decode cX12_weighs 179 = .ok (.aload_n 0, 1) := by decide +kernel
theorem dX12_weighs_180 : decode cX12_weighs 180 = .ok (.getfield 258, 3) := by decide +kernel
theorem dX12_weighs_183 : decode cX12_weighs 183 = .ok (.if_icmp .ge 7, 3) := by decide +kernel
theorem dX12_weighs_186 : decode cX12_weighs 186 = .ok (.iconst 1, 1) := by decide +kernel
theorem dX12_weighs_187 : decode cX12_weighs 187 = .ok (.goto 21, 3) := by decide +kernel
theorem dX12_weighs_190 : decode cX12_weighs 190 = .ok (.iconst 0, 1) := by decide +kernel
theorem dX12_weighs_191 : decode cX12_weighs 191 = .ok (.goto 17, 3) := by decide +kernel
theorem dX12_weighs_194 : decode cX12_weighs 194 = .ok (.iload 5, 2) := by decide +kernel
theorem dX12_weighs_196 : decode cX12_weighs 196 = .ok (.aload_n 0, 1) := by decide +kernel
theorem dX12_weighs_197 : decode cX12_weighs 197 = .ok (.getfield 261, 3) := by decide +kernel
theorem dX12_weighs_200 : decode cX12_weighs 200 = .ok (.if_icmp .le 7, 3) := by decide +kernel
theorem dX12_weighs_203 : decode cX12_weighs 203 = .ok (.iconst 1, 1) := by decide +kernel
theorem dX12_weighs_204 : decode cX12_weighs 204 = .ok (.goto 4, 3) := by decide +kernel
theorem dX12_weighs_207 : decode cX12_weighs 207 = .ok (.iconst 0, 1) := by decide +kernel
theorem dX12_weighs_208 : decode cX12_weighs 208 = .ok (.istore 6, 2) := by decide +kernel
theorem dX12_weighs_210 : decode cX12_weighs 210 = .ok (.iload 6, 2) := by decide +kernel
theorem dX12_weighs_212 : decode cX12_weighs 212 = .ok (.ifCond .ne 4, 3) := by decide +kernel
theorem dX12_weighs_215 : decode cX12_weighs 215 = .ok (.return_, 1) := by decide +kernel
theorem dX12_weighs_216 : decode cX12_weighs 216 = .ok (.aload_n 0, 1) := by decide +kernel
theorem dX12_weighs_217 : decode cX12_weighs 217 = .ok (.iload_n 1, 1) := by decide +kernel
theorem dX12_weighs_218 : decode cX12_weighs 218 = .ok (.putfield 252, 3) := by decide +kernel
theorem dX12_weighs_221 : decode cX12_weighs 221 = .ok (.aload_n 0, 1) := by decide +kernel
theorem dX12_weighs_222 : decode cX12_weighs 222 = .ok (.iload_n 3, 1) := by decide +kernel
theorem dX12_weighs_223 : decode cX12_weighs 223 = .ok (.putfield 255, 3) := by decide +kernel
theorem dX12_weighs_226 : decode cX12_weighs 226 = .ok (.aload_n 0, 1) := by decide +kernel
theorem dX12_weighs_227 : decode cX12_weighs 227 = .ok (.iload 4, 2) := by decide +kernel
theorem dX12_weighs_229 : decode cX12_weighs 229 = .ok (.putfield 258, 3) := by decide +kernel
theorem dX12_weighs_232 : decode cX12_weighs 232 = .ok (.aload_n 0, 1) := by decide +kernel
theorem dX12_weighs_233 : decode cX12_weighs 233 = .ok (.iload 5, 2) := by decide +kernel
theorem dX12_weighs_235 : decode cX12_weighs 235 = .ok (.putfield 261, 3) := by decide +kernel
theorem dX12_weighs_238 : decode cX12_weighs 238 = .ok (.iconst 0, 1) := by decide +kernel
theorem dX12_weighs_239 : decode cX12_weighs 239 = .ok (.istore 7, 2) := by decide +kernel
theorem dX12_weighs_241 : decode cX12_weighs 241 = .ok (.iload 7, 2) := by decide +kernel
theorem dX12_weighs_243 : decode cX12_weighs 243 = .ok (.aload_n 0, 1) := by decide +kernel
theorem dX12_weighs_244 : decode cX12_weighs 244 = .ok (.getfield 131, 3) := by decide +kernel
theorem dX12_weighs_247 : decode cX12_weighs 247 = .ok (.if_icmp .ge 23, 3) := by decide +kernel
theorem dX12_weighs_250 : decode cX12_weighs 250 = .ok (.aload_n 0, 1) := by decide +kernel
theorem dX12_weighs_251 : decode cX12_weighs 251 = .ok (.getfield 114, 3) := by decide +kernel
theorem dX12_weighs_254 : decode cX12_weighs 254 = .ok (.iload 7, 2) := by decide +kernel
theorem dX12_weighs_256 : decode cX12_weighs 256 = .ok (.aload_n 0, 1) := by decide +kernel
theorem dX12_weighs_257 : decode cX12_weighs 257 = .ok (.getfield 111, 3) := by decide +kernel
theorem dX12_weighs_260 : decode cX12_weighs 260 = .ok (.iload 7, 2) := by decide +kernel
theorem dX12_weighs_262 : decode cX12_weighs 262 = .ok (.iaload, 1) := by decide +kernel
theorem dX12_weighs_263 : decode cX12_weighs 263 = .ok (.iastore, 1) := by decide +kernel
theorem dX12_weighs_264 : decode cX12_weighs 264 = .ok (.iinc 7 1, 3) := by decide +kernel
theorem dX12_weighs_267 : decode cX12_weighs 267 = .ok (.goto (-26), 3) := by decide +kernel
theorem dX12_weighs_270 : decode cX12_weighs 270 = .ok (.return_, 1) := by decide +kernel
theorem dX12_place_0 : decode cX12_place 0 = .ok (.aload_n 0, 1) := by decide +kernel
theorem dX12_place_1 : decode cX12_place 1 = .ok (.iconst 0, 1) := by decide +kernel
theorem dX12_place_2 : decode cX12_place 2 = .ok (.putfield 264, 3) := by decide +kernel
theorem dX12_place_5 : decode cX12_place 5 = .ok (.iconst 0, 1) := by decide +kernel
theorem dX12_place_6 : decode cX12_place 6 = .ok (.istore_n 2, 1) := by decide +kernel
theorem dX12_place_7 : decode cX12_place 7 = .ok (.iload_n 2, 1) := by decide +kernel
theorem dX12_place_8 : decode cX12_place 8 = .ok (.aload_n 0, 1) := by decide +kernel
theorem dX12_place_9 : decode cX12_place 9 = .ok (.getfield 131, 3) := by decide +kernel
theorem dX12_place_12 : decode cX12_place 12 = .ok (.if_icmp .ge 104, 3) := by decide +kernel
theorem dX12_place_15 : decode cX12_place 15 = .ok (.aload_n 0, 1) := by decide +kernel
theorem dX12_place_16 : decode cX12_place 16 = .ok (.getfield 111, 3) := by decide +kernel
theorem dX12_place_19 : decode cX12_place 19 = .ok (.iload_n 2, 1) := by decide +kernel
theorem dX12_place_20 : decode cX12_place 20 = .ok (.iconst (-1), 1) := by decide +kernel
theorem dX12_place_21 : decode cX12_place 21 = .ok (.iastore, 1) := by decide +kernel
theorem dX12_place_22 : decode cX12_place 22 = .ok (.aload_n 0, 1) := by decide +kernel
theorem dX12_place_23 : decode cX12_place 23 = .ok (.dup, 1) := by decide +kernel
theorem dX12_place_24 : decode cX12_place 24 = .ok (.getfield 264, 3) := by decide +kernel
theorem dX12_place_27 : decode cX12_place 27 = .ok (.aload_n 0, 1) := by decide +kernel
theorem dX12_place_28 : decode cX12_place 28 = .ok (.getfield 13, 3) := by decide +kernel
theorem dX12_place_31 : decode cX12_place 31 = .ok (.iload_n 2, 1) := by decide +kernel
theorem dX12_place_32 : decode cX12_place 32 = .ok (.baload, 1) := by decide +kernel
theorem dX12_place_33 : decode cX12_place 33 = .ok (.ifCond .eq 7, 3) := by decide +kernel
theorem dX12_place_36 : decode cX12_place 36 = .ok (.iconst 1, 1) := by decide +kernel
theorem dX12_place_37 : decode cX12_place 37 = .ok (.goto 4, 3) := by decide +kernel
theorem dX12_place_40 : decode cX12_place 40 = .ok (.iconst 0, 1) := by decide +kernel
theorem dX12_place_41 : decode cX12_place 41 = .ok (.iadd, 1) := by decide +kernel
theorem dX12_place_42 : decode cX12_place 42 = .ok (.putfield 264, 3) := by decide +kernel
theorem dX12_place_45 : decode cX12_place 45 = .ok (.iconst 0, 1) := by decide +kernel
theorem dX12_place_46 : decode cX12_place 46 = .ok (.istore_n 3, 1) := by decide +kernel
theorem dX12_place_47 : decode cX12_place 47 = .ok (.iload_n 3, 1) := by decide +kernel
theorem dX12_place_48 : decode cX12_place 48 = .ok (.aload_n 0, 1) := by decide +kernel
theorem dX12_place_49 : decode cX12_place 49 = .ok (.getfield 134, 3) := by decide +kernel
theorem dX12_place_52 : decode cX12_place 52 = .ok (.if_icmp .ge 58, 3) := by decide +kernel
theorem dX12_place_55 : decode cX12_place 55 = .ok (.aload_n 0, 1) := by decide +kernel
theorem dX12_place_56 : decode cX12_place 56 = .ok (.getfield 13, 3) := by decide +kernel
theorem dX12_place_59 : decode cX12_place 59 = .ok (.iload_n 2, 1) := by decide +kernel
theorem dX12_place_60 : decode cX12_place 60 = .ok (.baload, 1) := by decide +kernel
theorem dX12_place_61 : decode cX12_place 61 = .ok (.ifCond .eq 49, 3) := by decide +kernel
theorem dX12_place_64 : decode cX12_place 64 = .ok (.aload_n 0, 1) := by decide +kernel
theorem dX12_place_65 : decode cX12_place 65 = .ok (.getfield 117, 3) := by decide +kernel
theorem dX12_place_68 : decode cX12_place 68 = .ok (.iconst 5, 1) := by decide +kernel
theorem dX12_place_69 : decode cX12_place 69 = .ok (.iload_n 2, 1) := by decide +kernel
theorem dX12_place_70 : decode cX12_place 70 = .ok (.imul, 1) := by decide +kernel
theorem dX12_place_71 : decode cX12_place 71 = .ok (.iload_n 3, 1) := by decide +kernel
theorem dX12_place_72 : decode cX12_place 72 = .ok (.iadd, 1) := by decide +kernel
theorem dX12_place_73 : decode cX12_place 73 = .ok (.aload_n 0, 1) := by decide +kernel
theorem dX12_place_74 : decode cX12_place 74 = .ok (.iload_n 2, 1) := by decide +kernel
theorem dX12_place_75 : decode cX12_place 75 = .ok (.iload_n 3, 1) := by decide +kernel
theorem dX12_place_76 : decode cX12_place 76 = .ok (.invokevirtual 240, 3) := by decide +kernel
theorem dX12_place_79 : decode cX12_place 79 = .ok (.ifCond .ne 7, 3) := by decide +kernel
theorem dX12_place_82 : decode cX12_place 82 = .ok (.iconst 1, 1) := by decide +kernel
theorem dX12_place_83 : decode cX12_place 83 = .ok (.goto 4, 3) := by decide +kernel
theorem dX12_place_86 : decode cX12_place 86 = .ok (.iconst 0, 1) := by decide +kernel
theorem dX12_place_87 : decode cX12_place 87 = .ok (.bastore, 1) := by decide +kernel
theorem dX12_place_88 : decode cX12_place 88 = .ok (.aload_n 0, 1) := by decide +kernel
theorem dX12_place_89 : decode cX12_place 89 = .ok (.getfield 120, 3) := by decide +kernel
theorem dX12_place_92 : decode cX12_place 92 = .ok (.iconst 5, 1) := by decide +kernel
theorem dX12_place_93 : decode cX12_place 93 = .ok (.iload_n 2, 1) := by decide +kernel
theorem dX12_place_94 : decode cX12_place 94 = .ok (.imul, 1) := by decide +kernel
theorem dX12_place_95 : decode cX12_place 95 = .ok (.iload_n 3, 1) := by decide +kernel
theorem dX12_place_96 : decode cX12_place 96 = .ok (.iadd, 1) := by decide +kernel
theorem dX12_place_97 : decode cX12_place 97 = .ok (.aload_n 0, 1) := by decide +kernel
theorem dX12_place_98 : decode cX12_place 98 = .ok (.iload_n 2, 1) := by decide +kernel
theorem dX12_place_99 : decode cX12_place 99 = .ok (.iload_n 3, 1) := by decide +kernel
theorem dX12_place_100 : decode cX12_place 100 = .ok (.invokevirtual 246, 3) := by decide +kernel
theorem dX12_place_103 : decode cX12_place 103 = .ok (.iastore, 1) := by decide +kernel
theorem dX12_place_104 : decode cX12_place 104 = .ok (.iinc 3 1, 3) := by decide +kernel
theorem dX12_place_107 : decode cX12_place 107 = .ok (.goto (-60), 3) := by decide +kernel
theorem dX12_place_110 : decode cX12_place 110 = .ok (.iinc 2 1, 3) := by decide +kernel
theorem dX12_place_113 : decode cX12_place 113 = .ok (.goto (-106), 3) := by decide +kernel
theorem dX12_place_116 : decode cX12_place 116 = .ok (.aload_n 0, 1) := by decide +kernel
theorem dX12_place_117 : decode cX12_place 117 = .ok (.bipush 99, 2) := by decide +kernel
theorem dX12_place_119 : decode cX12_place 119 = .ok (.putfield 252, 3) := by decide +kernel
theorem dX12_place_122 : decode cX12_place 122 = .ok (.iconst 0, 1) := by decide +kernel
theorem dX12_place_123 : decode cX12_place 123 = .ok (.istore_n 2, 1) := by decide +kernel
theorem dX12_place_124 : decode cX12_place 124 = .ok (.iconst 0, 1) := by decide +kernel
theorem dX12_place_125 : decode cX12_place 125 = .ok (.istore_n 3, 1) := by decide +kernel
theorem dX12_place_126 : decode cX12_place 126 = .ok (.aload_n 0, 1) := by decide +kernel
theorem dX12_place_127 : decode cX12_place 127 = .ok (.getfield 131, 3) := by decide +kernel
theorem dX12_place_130 : decode cX12_place 130 = .ok (.ifCond .ne 9, 3) := by decide +kernel
theorem dX12_place_133 : decode cX12_place 133 = .ok (.aload_n 0, 1) := by decide +kernel
theorem dX12_place_134 : decode cX12_place 134 = .ok (.iconst 0, 1) := by decide +kernel
theorem dX12_place_135 : decode cX12_place 135 = .ok (.iload_n 1, 1) := by decide +kernel
theorem dX12_place_136 : decode cX12_place 136 = .ok (.invokevirtual 267, 3) := by decide +kernel
theorem dX12_place_139 : decode cX12_place 139 = .ok (.aload_n 0, 1) := by decide +kernel
theorem dX12_place_140 : decode cX12_place 140 = .ok (.getfield 131, 3) := by decide +kernel
theorem dX12_place_143 : decode cX12_place 143 = .ok (.ifCond .le 134, 3) := by decide +kernel
theorem dX12_place_146 : decode cX12_place 146 = .ok (.iload_n 2, 1) := by decide +kernel
theorem dX12_place_147 : decode cX12_place 147 = .ok (.ifCond .lt 130, 3) := by decide +kernel
theorem dX12_place_150 : decode cX12_place 150 = .ok (.aload_n 0, 1) := by decide +kernel
theorem dX12_place_151 : decode cX12_place 151 = .ok (.getfield 111, 3) := by decide +kernel
theorem dX12_place_154 : decode cX12_place 154 = .ok (.iload_n 2, 1) := by decide +kernel
theorem dX12_place_155 : decode cX12_place 155 = .ok (.iaload, 1) := by decide +kernel
theorem dX12_place_156 : decode cX12_place 156 = .ok (.aload_n 0, 1) := by decide +kernel
theorem dX12_place_157 : decode cX12_place 157 = .ok (.getfield 134, 3) := by decide +kernel
theorem dX12_place_160 : decode cX12_place 160 = .ok (.if_icmp .ne 33, 3) := by decide +kernel
theorem dX12_place_163 : decode cX12_place 163 = .ok (.iload_n 3, 1) := by decide +kernel
theorem dX12_place_164 : decode cX12_place 164 = .ok (.aload_n 0, 1) := by decide +kernel
theorem dX12_place_165 : decode cX12_place 165 = .ok (.getfield 13, 3) := by decide +kernel
theorem dX12_place_168 : decode cX12_place 168 = .ok (.iload_n 2, 1) := by decide +kernel
theorem dX12_place_169 : decode cX12_place 169 = .ok (.baload, 1) := by decide +kernel
theorem dX12_place_170 : decode cX12_place 170 = .ok (.ifCond .eq 7, 3) := by decide +kernel
theorem dX12_place_173 : decode cX12_place 173 = .ok (.iconst 1, 1) := by decide +kernel
theorem dX12_place_174 : decode cX12_place 174 = .ok (.goto 4, 3) := by decide +kernel
theorem dX12_place_177 : decode cX12_place 177 = .ok (.iconst 0, 1) := by decide +kernel
theorem dX12_place_178 : decode cX12_place 178 = .ok (.isub, 1) := by decide +kernel
theorem dX12_place_179 : decode cX12_place 179 = .ok (.istore_n 3, 1) := by decide +kernel
theorem dX12_place_180 : decode cX12_place 180 = .ok (.aload_n 0, 1) := by decide +kernel
theorem dX12_place_181 : decode cX12_place 181 = .ok (.getfield 111, 3) := by decide +kernel
theorem dX12_place_184 : decode cX12_place 184 = .ok (.iload_n 2, 1) := by decide +kernel
theorem dX12_place_185 : decode cX12_place 185 = .ok (.iconst (-1), 1) := by decide +kernel
theorem dX12_place_186 : decode cX12_place 186 = .ok (.iastore, 1) := by decide +kernel
theorem dX12_place_187 : decode cX12_place 187 = .ok (.iinc 2 (-1), 3) := by decide +kernel
theorem dX12_place_190 : decode cX12_place 190 = .ok (.goto (-51), 3) := by decide +kernel
theorem dX12_place_193 : decode cX12_place 193 = .ok (.aload_n 0, 1) := by decide +kernel
theorem dX12_place_194 : decode cX12_place 194 = .ok (.getfield 111, 3) := by decide +kernel
theorem dX12_place_197 : decode cX12_place 197 = .ok (.iload_n 2, 1) := by decide +kernel
theorem dX12_place_198 : decode cX12_place 198 = .ok (.dup2, 1) := by decide +kernel
theorem dX12_place_199 : decode cX12_place 199 = .ok (.iaload, 1) := by decide +kernel
theorem dX12_place_200 : decode cX12_place 200 = .ok (.iconst 1, 1) := by decide +kernel
theorem dX12_place_201 : decode cX12_place 201 = .ok (.iadd, 1) := by decide +kernel
theorem dX12_place_202 : decode cX12_place 202 = .ok (.iastore, 1) := by decide +kernel
theorem dX12_place_203 : decode cX12_place 203 = .ok (.iload_n 3, 1) := by decide +kernel
theorem dX12_place_204 : decode cX12_place 204 = .ok (.aload_n 0, 1) := by decide +kernel
theorem dX12_place_205 : decode cX12_place 205 = .ok (.getfield 111, 3) := by decide +kernel
theorem dX12_place_208 : decode cX12_place 208 = .ok (.iload_n 2, 1) := by decide +kernel
theorem dX12_place_209 : decode cX12_place 209 = .ok (.iaload, 1) := by decide +kernel
theorem dX12_place_210 : decode cX12_place 210 = .ok (.aload_n 0, 1) := by decide +kernel
theorem dX12_place_211 : decode cX12_place 211 = .ok (.getfield 134, 3) := by decide +kernel
theorem dX12_place_214 : decode cX12_place 214 = .ok (.if_icmp .ne 16, 3) := by decide +kernel
theorem dX12_place_217 : decode cX12_place 217 = .ok (.aload_n 0, 1) := by decide +kernel
theorem dX12_place_218 : decode cX12_place 218 = .ok (.getfield 13, 3) := by decide +kernel
theorem dX12_place_221 : decode cX12_place 221 = .ok (.iload_n 2, 1) := by decide +kernel
theorem dX12_place_222 : decode cX12_place 222 = .ok (.baload, 1) := by decide +kernel
theorem dX12_place_223 : decode cX12_place 223 = .ok (.ifCond .eq 7, 3) := by decide +kernel
theorem dX12_place_226 : decode cX12_place 226 = .ok (.iconst 1, 1) := by decide +kernel
theorem dX12_place_227 : decode cX12_place 227 = .ok (.goto 4, 3) := by decide +kernel
theorem dX12_place_230 : decode cX12_place 230 = .ok (.iconst 0, 1) := by decide +kernel
theorem dX12_place_231 : decode cX12_place 231 = .ok (.iadd, 1) := by decide +kernel
theorem dX12_place_232 : decode cX12_place 232 = .ok (.istore_n 3, 1) := by decide +kernel
theorem dX12_place_233 : decode cX12_place 233 = .ok (.iload_n 3, 1) := by decide +kernel
theorem dX12_place_234 : decode cX12_place 234 = .ok (.aload_n 0, 1) := by decide +kernel
theorem dX12_place_235 : decode cX12_place 235 = .ok (.getfield 252, 3) := by decide +kernel
theorem dX12_place_238 : decode cX12_place 238 = .ok (.if_icmp .gt (-99), 3) := by decide +kernel
theorem dX12_place_241 : decode cX12_place 241 = .ok (.aload_n 0, 1) := by decide +kernel
theorem dX12_place_242 : decode cX12_place 242 = .ok (.iload_n 2, 1) := by decide +kernel
theorem dX12_place_243 : decode cX12_place 243 = .ok (.invokevirtual 271, 3) := by decide +kernel
theorem dX12_place_246 : decode cX12_place 246 = .ok (.ifCond .ne 6, 3) := by decide +kernel
theorem dX12_place_249 : decode cX12_place 249 = .ok (.goto (-110), 3) := by decide +kernel
theorem dX12_place_252 : decode cX12_place 252 = .ok (.iload_n 2, 1) := by decide +kernel
theorem dX12_place_253 : decode cX12_place 253 = .ok (.iconst 1, 1) := by decide +kernel
theorem dX12_place_254 : decode cX12_place 254 = .ok (.iadd, 1) := by decide +kernel
theorem dX12_place_255 : decode cX12_place 255 = .ok (.aload_n 0, 1) := by decide +kernel
theorem dX12_place_256 : decode cX12_place 256 = .ok (.getfield 131, 3) := by decide +kernel
theorem dX12_place_259 : decode cX12_place 259 = .ok (.if_icmp .ge 9, 3) := by decide +kernel
theorem dX12_place_262 : decode cX12_place 262 = .ok (.iinc 2 1, 3) := by decide +kernel
theorem dX12_place_265 : decode cX12_place 265 = .ok (.goto (-126), 3) := by decide +kernel
theorem dX12_place_268 : decode cX12_place 268 = .ok (.aload_n 0, 1) := by decide +kernel
theorem dX12_place_269 : decode cX12_place 269 = .ok (.iload_n 3, 1) := by decide +kernel
theorem dX12_place_270 : decode cX12_place 270 = .ok (.iload_n 1, 1) := by decide +kernel
theorem dX12_place_271 : decode cX12_place 271 = .ok (.invokevirtual 267, 3) := by decide +kernel
theorem dX12_place_274 : decode cX12_place 274 = .ok (.goto (-135), 3) := by decide +kernel
theorem dX12_place_277 : decode cX12_place 277 = .ok (.iconst 0, 1) := by decide +kernel
theorem dX12_place_278 : decode cX12_place 278 = .ok (.istore 4, 2) := by decide +kernel
theorem dX12_place_280 : decode cX12_place 280 = .ok (.iload 4, 2) := by decide +kernel
theorem dX12_place_282 : decode cX12_place 282 = .ok (.aload_n 0, 1) := by decide +kernel
theorem dX12_place_283 : decode cX12_place 283 = .ok (.getfield 131, 3) := by decide +kernel
theorem dX12_place_286 : decode cX12_place 286 = .ok (.if_icmp .ge 41, 3) := by decide +kernel
theorem dX12_place_289 : decode cX12_place 289 = .ok (.aload_n 0, 1) := by decide +kernel
theorem dX12_place_290 : decode cX12_place 290 = .ok (.getfield 108, 3) := by decide +kernel
theorem dX12_place_293 : decode cX12_place 293 = .ok (.iload 4, 2) := by decide +kernel
theorem dX12_place_295 : decode cX12_place 295 = .ok (.aload_n 0, 1) := by decide +kernel
theorem dX12_place_296 : decode cX12_place 296 = .ok (.getfield 114, 3) := by decide +kernel
theorem dX12_place_299 : decode cX12_place 299 = .ok (.iload 4, 2) := by decide +kernel
theorem dX12_place_301 : decode cX12_place 301 = .ok (.iaload, 1) := by decide +kernel
theorem dX12_place_302 : decode cX12_place 302 = .ok (.aload_n 0, 1) := by decide +kernel
theorem dX12_place_303 : decode cX12_place 303 = .ok (.getfield 134, 3) := by decide +kernel
theorem dX12_place_306 : decode cX12_place 306 = .ok (.if_icmp .ge 13, 3) := by decide +kernel
theorem dX12_place_309 : decode cX12_place 309 = .ok (.aload_n 0, 1) := by decide +kernel
theorem dX12_place_310 : decode cX12_place 310 = .ok (.getfield 114, 3) := by decide +kernel
theorem dX12_place_313 : decode cX12_place 313 = .ok (.iload 4, 2) := by decide +kernel
theorem dX12_place_315 : decode cX12_place 315 = .ok (.iaload, 1) := by decide +kernel
theorem dX12_place_316 : decode cX12_place 316 = .ok (.goto 4, 3) := by decide +kernel
theorem dX12_place_319 : decode cX12_place 319 = .ok (.iconst (-1), 1) := by decide +kernel
theorem dX12_place_320 : decode cX12_place 320 = .ok (.iastore, 1) := by decide +kernel
theorem dX12_place_321 : decode cX12_place 321 = .ok (.iinc 4 1, 3) := by decide +kernel
theorem dX12_place_324 : decode cX12_place 324 = .ok (.goto (-44), 3) := by decide +kernel
theorem dX12_place_327 : decode cX12_place 327 = .ok (.aload_n 0, 1) := by decide +kernel
theorem dX12_place_328 : decode cX12_place 328 = .ok (.iconst 1, 1) := by decide +kernel
theorem dX12_place_329 : decode cX12_place 329 = .ok (.putfield 274, 3) := by decide +kernel
theorem dX12_place_332 : decode cX12_place 332 = .ok (.aload_n 0, 1) := by decide +kernel
theorem dX12_place_333 : decode cX12_place 333 = .ok (.getfield 252, 3) := by decide +kernel
theorem dX12_place_336 : decode cX12_place 336 = .ok (.ireturn, 1) := by decide +kernel
theorem dX12_at_0 : decode cX12_at 0 = .ok (.aload_n 0, 1) := by decide +kernel
theorem dX12_at_1 : decode cX12_at 1 = .ok (.iload_n 1, 1) := by decide +kernel
theorem dX12_at_2 : decode cX12_at 2 = .ok (.invokevirtual 144, 3) := by decide +kernel
theorem dX12_at_5 : decode cX12_at 5 = .ok (.ifCond .eq 12, 3) := by decide +kernel
theorem dX12_at_8 : decode cX12_at 8 = .ok (.aload_n 0, 1) := by decide +kernel
theorem dX12_at_9 : decode cX12_at 9 = .ok (.getfield 108, 3) := by decide +kernel
theorem dX12_at_12 : decode cX12_at 12 = .ok (.iload_n 1, 1) := by decide +kernel
theorem dX12_at_13 : decode cX12_at 13 = .ok (.iaload, 1) := by decide +kernel
theorem dX12_at_14 : decode cX12_at 14 = .ok (.goto 4, 3) := by decide +kernel
theorem dX12_at_17 : decode cX12_at 17 = .ok (.iconst (-1), 1) := by decide +kernel
theorem dX12_at_18 : decode cX12_at 18 = .ok (.ireturn, 1) := by decide +kernel
theorem dX12_placed_0 : decode cX12_placed 0 = .ok (.aload_n 0, 1) := by decide +kernel
theorem dX12_placed_1 : decode cX12_placed 1 = .ok (.getfield 274, 3) := by decide +kernel
theorem dX12_placed_4 : decode cX12_placed 4 = .ok (.ifCond .ne 5, 3) := by decide +kernel
theorem dX12_placed_7 : decode cX12_placed 7 = .ok (.iconst (-1), 1) := by decide +kernel
theorem dX12_placed_8 : decode cX12_placed 8 = .ok (.ireturn, 1) := by decide +kernel
theorem dX12_placed_9 : decode cX12_placed 9 = .ok (.iload_n 1, 1) := by decide +kernel
theorem dX12_placed_10 : decode cX12_placed 10 = .ok (.tableswitch 59 0 4 #[34, 39, 44, 49, 54], 34) := by decide +kernel
theorem dX12_placed_44 : decode cX12_placed 44 = .ok (.aload_n 0, 1) := by decide +kernel
theorem dX12_placed_45 : decode cX12_placed 45 = .ok (.getfield 264, 3) := by decide +kernel
theorem dX12_placed_48 : decode cX12_placed 48 = .ok (.ireturn, 1) := by decide +kernel
theorem dX12_placed_49 : decode cX12_placed 49 = .ok (.aload_n 0, 1) := by decide +kernel
theorem dX12_placed_50 : decode cX12_placed 50 = .ok (.getfield 252, 3) := by decide +kernel
theorem dX12_placed_53 : decode cX12_placed 53 = .ok (.ireturn, 1) := by decide +kernel
theorem dX12_placed_54 : decode cX12_placed 54 = .ok (.aload_n 0, 1) := by decide +kernel
theorem dX12_placed_55 : decode cX12_placed 55 = .ok (.getfield 255, 3) := by decide +kernel
theorem dX12_placed_58 : decode cX12_placed 58 = .ok (.ireturn, 1) := by decide +kernel
theorem dX12_placed_59 : decode cX12_placed 59 = .ok (.aload_n 0, 1) := by decide +kernel
theorem dX12_placed_60 : decode cX12_placed 60 = .ok (.getfield 258, 3) := by decide +kernel
theorem dX12_placed_63 : decode cX12_placed 63 = .ok (.ireturn, 1) := by decide +kernel
theorem dX12_placed_64 : decode cX12_placed 64 = .ok (.aload_n 0, 1) := by decide +kernel
theorem dX12_placed_65 : decode cX12_placed 65 = .ok (.getfield 261, 3) := by decide +kernel
theorem dX12_placed_68 : decode cX12_placed 68 = .ok (.ireturn, 1) := by decide +kernel
theorem dX12_placed_69 : decode cX12_placed 69 = .ok (.iconst (-1), 1) := by decide +kernel
theorem dX12_placed_70 : decode cX12_placed 70 = .ok (.ireturn, 1) := by decide +kernel
theorem dX12_beds_0 : decode cX12_beds 0 = .ok (.aload_n 0, 1) := by decide +kernel
theorem dX12_beds_1 : decode cX12_beds 1 = .ok (.iload_n 1, 1) := by decide +kernel
theorem dX12_beds_2 : decode cX12_beds 2 = .ok (.invokevirtual 140, 3) := by decide +kernel
theorem dX12_beds_5 : decode cX12_beds 5 = .ok (.ifCond .eq 10, 3) := by decide +kernel
theorem dX12_beds_8 : decode cX12_beds 8 = .ok (.iload_n 2, 1) := by decide +kernel
theorem dX12_beds_9 : decode cX12_beds 9 = .ok (.invokestatic 147, 3) := by decide +kernel
theorem dX12_beds_12 : decode cX12_beds 12 = .ok (.ifCond .ne 5, 3) := by decide +kernel
theorem dX12_beds_15 : decode cX12_beds 15 = .ok (.iconst (-1), 1) := by decide +kernel
theorem dX12_beds_16 : decode cX12_beds 16 = .ok (.ireturn, 1) := by decide +kernel
theorem dX12_beds_17 : decode cX12_beds 17 = .ok (.iconst 0, 1) := by decide +kernel
theorem dX12_beds_18 : decode cX12_beds 18 = .ok (.istore_n 3, 1) := by decide +kernel
theorem dX12_beds_19 : decode cX12_beds 19 = .ok (.iconst 0, 1) := by decide +kernel
theorem dX12_beds_20 : decode cX12_beds 20 = .ok (.istore 4, 2) := by decide +kernel
theorem dX12_beds_22 : decode cX12_beds 22 = .ok (.iload 4, 2) := by decide +kernel
theorem dX12_beds_24 : decode cX12_beds 24 = .ok (.aload_n 0, 1) := by decide +kernel
theorem dX12_beds_25 : decode cX12_beds 25 = .ok (.getfield 131, 3) := by decide +kernel
theorem dX12_beds_28 : decode cX12_beds 28 = .ok (.if_icmp .ge 60, 3) := by decide +kernel
theorem dX12_beds_31 : decode cX12_beds 31 = .ok (.iload_n 3, 1) := by decide +kernel
theorem dX12_beds_32 : decode cX12_beds 32 = .ok (.aload_n 0, 1) := by decide +kernel
theorem dX12_beds_33 : decode cX12_beds 33 = .ok (.getfield 108, 3) := by decide +kernel
theorem dX12_beds_36 : decode cX12_beds 36 = .ok (.iload 4, 2) := by decide +kernel
theorem dX12_beds_38 : decode cX12_beds 38 = .ok (.iaload, 1) := by decide +kernel
theorem dX12_beds_39 : decode cX12_beds 39 = .ok (.iload_n 1, 1) := by decide +kernel
theorem dX12_beds_40 : decode cX12_beds 40 = .ok (.if_icmp .ne 39, 3) := by decide +kernel
theorem dX12_beds_43 : decode cX12_beds 43 = .ok (.aload_n 0, 1) := by decide +kernel
theorem dX12_beds_44 : decode cX12_beds 44 = .ok (.getfield 13, 3) := by decide +kernel
theorem dX12_beds_47 : decode cX12_beds 47 = .ok (.iload 4, 2) := by decide +kernel
theorem dX12_beds_49 : decode cX12_beds 49 = .ok (.baload, 1) := by decide +kernel
theorem dX12_beds_50 : decode cX12_beds 50 = .ok (.ifCond .eq 29, 3) := by decide +kernel
theorem dX12_beds_53 : decode cX12_beds 53 = .ok (.aload_n 0, 1) := by decide +kernel
theorem dX12_beds_54 : decode cX12_beds 54 = .ok (.getfield 17, 3) := by decide +kernel
theorem dX12_beds_57 : decode cX12_beds 57 = .ok (.iload 4, 2) := by decide +kernel
theorem dX12_beds_59 : decode cX12_beds 59 = .ok (.iaload, 1) := by decide +kernel
theorem dX12_beds_60 : decode cX12_beds 60 = .ok (.iload_n 2, 1) := by decide +kernel
theorem dX12_beds_61 : decode cX12_beds 61 = .ok (.if_icmp .gt 18, 3) := by decide +kernel
theorem dX12_beds_64 : decode cX12_beds 64 = .ok (.aload_n 0, 1) := by decide +kernel
theorem dX12_beds_65 : decode cX12_beds 65 = .ok (.getfield 20, 3) := by decide +kernel
theorem dX12_beds_68 : decode cX12_beds 68 = .ok (.iload 4, 2) := by decide +kernel
theorem dX12_beds_70 : decode cX12_beds 70 = .ok (.iaload, 1) := by decide +kernel
theorem dX12_beds_71 : decode cX12_beds 71 = .ok (.iload_n 2, 1) := by decide +kernel
theorem dX12_beds_72 : decode cX12_beds 72 = .ok (.if_icmp .lt 7, 3) := by decide +kernel
theorem dX12_beds_75 : decode cX12_beds 75 = .ok (.iconst 1, 1) := by decide +kernel
theorem dX12_beds_76 : decode cX12_beds 76 = .ok (.goto 4, 3) := by decide +kernel
theorem dX12_beds_79 : decode cX12_beds 79 = .ok (.iconst 0, 1) := by decide +kernel
theorem dX12_beds_80 : decode cX12_beds 80 = .ok (.iadd, 1) := by decide +kernel
theorem dX12_beds_81 : decode cX12_beds 81 = .ok (.istore_n 3, 1) := by decide +kernel
theorem dX12_beds_82 : decode cX12_beds 82 = .ok (.iinc 4 1, 3) := by decide +kernel
theorem dX12_beds_85 : decode cX12_beds 85 = .ok (.goto (-63), 3) := by decide +kernel
theorem dX12_beds_88 : decode cX12_beds 88 = .ok (.iload_n 3, 1) := by decide +kernel
theorem dX12_beds_89 : decode cX12_beds 89 = .ok (.ireturn, 1) := by decide +kernel
theorem dX12_reviewOf_0 : decode cX12_reviewOf 0 = .ok (.aload_n 0, 1) := by decide +kernel
theorem dX12_reviewOf_1 : decode cX12_reviewOf 1 = .ok (.getfield 108, 3) := by decide +kernel
theorem dX12_reviewOf_4 : decode cX12_reviewOf 4 = .ok (.iload_n 1, 1) := by decide +kernel
theorem dX12_reviewOf_5 : decode cX12_reviewOf 5 = .ok (.iaload, 1) := by decide +kernel
theorem dX12_reviewOf_6 : decode cX12_reviewOf 6 = .ok (.ifCond .lt 12, 3) := by decide +kernel
theorem dX12_reviewOf_9 : decode cX12_reviewOf 9 = .ok (.aload_n 0, 1) := by decide +kernel
theorem dX12_reviewOf_10 : decode cX12_reviewOf 10 = .ok (.getfield 13, 3) := by decide +kernel
theorem dX12_reviewOf_13 : decode cX12_reviewOf 13 = .ok (.iload_n 1, 1) := by decide +kernel
theorem dX12_reviewOf_14 : decode cX12_reviewOf 14 = .ok (.baload, 1) := by decide +kernel
theorem dX12_reviewOf_15 : decode cX12_reviewOf 15 = .ok (.ifCond .ne 5, 3) := by decide +kernel
theorem dX12_reviewOf_18 : decode cX12_reviewOf 18 = .ok (.iconst (-1), 1) := by decide +kernel
theorem dX12_reviewOf_19 : decode cX12_reviewOf 19 = .ok (.ireturn, 1) := by decide +kernel
theorem dX12_reviewOf_20 : decode cX12_reviewOf 20 = .ok (.aload_n 0, 1) := by decide +kernel
theorem dX12_reviewOf_21 : decode cX12_reviewOf 21 = .ok (.getfield 17, 3) := by decide +kernel
theorem dX12_reviewOf_24 : decode cX12_reviewOf 24 = .ok (.iload_n 1, 1) := by decide +kernel
theorem dX12_reviewOf_25 : decode cX12_reviewOf 25 = .ok (.iaload, 1) := by decide +kernel
theorem dX12_reviewOf_26 : decode cX12_reviewOf 26 = .ok (.iload_n 2, 1) := by decide +kernel
theorem dX12_reviewOf_27 : decode cX12_reviewOf 27 = .ok (.ifCond .ne 8, 3) := by decide +kernel
theorem dX12_reviewOf_30 : decode cX12_reviewOf 30 = .ok (.bipush 7, 2) := by decide +kernel
theorem dX12_reviewOf_32 : decode cX12_reviewOf 32 = .ok (.goto 12, 3) := by decide +kernel
theorem dX12_reviewOf_35 : decode cX12_reviewOf 35 = .ok (.bipush 28, 2) := by decide +kernel
theorem dX12_reviewOf_37 : decode cX12_reviewOf 37 = .ok (.bipush 90, 2) := by decide +kernel
theorem dX12_reviewOf_39 : decode cX12_reviewOf 39 = .ok (.iload_n 2, 1) := by decide +kernel
theorem dX12_reviewOf_40 : decode cX12_reviewOf 40 = .ok (.iconst 1, 1) := by decide +kernel
theorem dX12_reviewOf_41 : decode cX12_reviewOf 41 = .ok (.isub, 1) := by decide +kernel
theorem dX12_reviewOf_42 : decode cX12_reviewOf 42 = .ok (.imul, 1) := by decide +kernel
theorem dX12_reviewOf_43 : decode cX12_reviewOf 43 = .ok (.iadd, 1) := by decide +kernel
theorem dX12_reviewOf_44 : decode cX12_reviewOf 44 = .ok (.iadd, 1) := by decide +kernel
theorem dX12_reviewOf_45 : decode cX12_reviewOf 45 = .ok (.istore_n 3, 1) := by decide +kernel
theorem dX12_reviewOf_46 : decode cX12_reviewOf 46 = .ok (.iload_n 3, 1) := by decide +kernel
theorem dX12_reviewOf_47 : decode cX12_reviewOf 47 = .ok (.aload_n 0, 1) := by decide +kernel
theorem dX12_reviewOf_48 : decode cX12_reviewOf 48 = .ok (.getfield 20, 3) := by decide +kernel
theorem dX12_reviewOf_51 : decode cX12_reviewOf 51 = .ok (.iload_n 1, 1) := by decide +kernel
theorem dX12_reviewOf_52 : decode cX12_reviewOf 52 = .ok (.iaload, 1) := by decide +kernel
theorem dX12_reviewOf_53 : decode cX12_reviewOf 53 = .ok (.if_icmp .gt 7, 3) := by decide +kernel
theorem dX12_reviewOf_56 : decode cX12_reviewOf 56 = .ok (.iload_n 3, 1) := by decide +kernel
theorem dX12_reviewOf_57 : decode cX12_reviewOf 57 = .ok (.goto 4, 3) := by decide +kernel
theorem dX12_reviewOf_60 : decode cX12_reviewOf 60 = .ok (.iconst (-1), 1) := by decide +kernel
theorem dX12_reviewOf_61 : decode cX12_reviewOf 61 = .ok (.ireturn, 1) := by decide +kernel
theorem dX12_review_0 : decode cX12_review 0 = .ok (.aload_n 0, 1) := by decide +kernel
theorem dX12_review_1 : decode cX12_review 1 = .ok (.iload_n 1, 1) := by decide +kernel
theorem dX12_review_2 : decode cX12_review 2 = .ok (.invokevirtual 144, 3) := by decide +kernel
theorem dX12_review_5 : decode cX12_review 5 = .ok (.ifCond .eq 22, 3) := by decide +kernel
theorem dX12_review_8 : decode cX12_review 8 = .ok (.iload_n 2, 1) := by decide +kernel
theorem dX12_review_9 : decode cX12_review 9 = .ok (.iconst 0, 1) := by decide +kernel
theorem dX12_review_10 : decode cX12_review 10 = .ok (.bipush 100, 2) := by decide +kernel
theorem dX12_review_12 : decode cX12_review 12 = .ok (.invokestatic 123, 3) := by decide +kernel
theorem dX12_review_15 : decode cX12_review 15 = .ok (.ifCond .eq 12, 3) := by decide +kernel
theorem dX12_review_18 : decode cX12_review 18 = .ok (.aload_n 0, 1) := by decide +kernel
theorem dX12_review_19 : decode cX12_review 19 = .ok (.iload_n 1, 1) := by decide +kernel
theorem dX12_review_20 : decode cX12_review 20 = .ok (.iload_n 2, 1) := by decide +kernel
theorem dX12_review_21 : decode cX12_review 21 = .ok (.invokevirtual 278, 3) := by decide +kernel
theorem dX12_review_24 : decode cX12_review 24 = .ok (.goto 4, 3) := by decide +kernel
theorem dX12_review_27 : decode cX12_review 27 = .ok (.iconst (-1), 1) := by decide +kernel
theorem dX12_review_28 : decode cX12_review 28 = .ok (.ireturn, 1) := by decide +kernel
theorem dX12_reviews_0 : decode cX12_reviews 0 = .ok (.iload_n 1, 1) := by decide +kernel
theorem dX12_reviews_1 : decode cX12_reviews 1 = .ok (.invokestatic 147, 3) := by decide +kernel
theorem dX12_reviews_4 : decode cX12_reviews 4 = .ok (.ifCond .ne 5, 3) := by decide +kernel
theorem dX12_reviews_7 : decode cX12_reviews 7 = .ok (.iconst (-1), 1) := by decide +kernel
theorem dX12_reviews_8 : decode cX12_reviews 8 = .ok (.ireturn, 1) := by decide +kernel
theorem dX12_reviews_9 : decode cX12_reviews 9 = .ok (.iconst 0, 1) := by decide +kernel
theorem dX12_reviews_10 : decode cX12_reviews 10 = .ok (.istore_n 2, 1) := by decide +kernel
theorem dX12_reviews_11 : decode cX12_reviews 11 = .ok (.iconst 0, 1) := by decide +kernel
theorem dX12_reviews_12 : decode cX12_reviews 12 = .ok (.istore_n 3, 1) := by decide +kernel
theorem dX12_reviews_13 : decode cX12_reviews 13 = .ok (.iload_n 3, 1) := by decide +kernel
theorem dX12_reviews_14 : decode cX12_reviews 14 = .ok (.aload_n 0, 1) := by decide +kernel
theorem dX12_reviews_15 : decode cX12_reviews 15 = .ok (.getfield 131, 3) := by decide +kernel
theorem dX12_reviews_18 : decode cX12_reviews 18 = .ok (.if_icmp .ge 44, 3) := by decide +kernel
theorem dX12_reviews_21 : decode cX12_reviews 21 = .ok (.iconst 0, 1) := by decide +kernel
theorem dX12_reviews_22 : decode cX12_reviews 22 = .ok (.istore 4, 2) := by decide +kernel
theorem dX12_reviews_24 : decode cX12_reviews 24 = .ok (.iload 4, 2) := by decide +kernel
theorem dX12_reviews_26 : decode cX12_reviews 26 = .ok (.bipush 12, 2) := by decide +kernel
theorem dX12_reviews_28 : decode cX12_reviews 28 = .ok (.if_icmp .ge 28, 3) := by decide +kernel
theorem dX12_reviews_31 : decode cX12_reviews 31 = .ok (.iload_n 2, 1) := by decide +kernel
theorem dX12_reviews_32 : decode cX12_reviews 32 = .ok (.aload_n 0, 1) := by decide +kernel
theorem dX12_reviews_33 : decode cX12_reviews 33 = .ok (.iload_n 3, 1) := by decide +kernel
theorem dX12_reviews_34 : decode cX12_reviews 34 = .ok (.iload 4, 2) := by decide +kernel
theorem dX12_reviews_36 : decode cX12_reviews 36 = .ok (.invokevirtual 278, 3) := by decide +kernel
theorem dX12_reviews_39 : decode cX12_reviews 39 = .ok (.iload_n 1, 1) := by decide +kernel
theorem dX12_reviews_40 : decode cX12_reviews 40 = .ok (.if_icmp .ne 7, 3) := by decide +kernel
theorem dX12_reviews_43 : decode cX12_reviews 43 = .ok (.iconst 1, 1) := by decide +kernel
theorem dX12_reviews_44 : decode cX12_reviews 44 = .ok (.goto 4, 3) := by decide +kernel
theorem dX12_reviews_47 : decode cX12_reviews 47 = .ok (.iconst 0, 1) := by decide +kernel
theorem dX12_reviews_48 : decode cX12_reviews 48 = .ok (.iadd, 1) := by decide +kernel
theorem dX12_reviews_49 : decode cX12_reviews 49 = .ok (.istore_n 2, 1) := by decide +kernel
theorem dX12_reviews_50 : decode cX12_reviews 50 = .ok (.iinc 4 1, 3) := by decide +kernel
theorem dX12_reviews_53 : decode cX12_reviews 53 = .ok (.goto (-29), 3) := by decide +kernel
theorem dX12_reviews_56 : decode cX12_reviews 56 = .ok (.iinc 3 1, 3) := by decide +kernel
theorem dX12_reviews_59 : decode cX12_reviews 59 = .ok (.goto (-46), 3) := by decide +kernel
theorem dX12_reviews_62 : decode cX12_reviews 62 = .ok (.iload_n 2, 1) := by decide +kernel
theorem dX12_reviews_63 : decode cX12_reviews 63 = .ok (.ireturn, 1) := by decide +kernel
theorem dX12_count_0 : decode cX12_count 0 = .ok (.iload_n 1, 1) := by decide +kernel
theorem dX12_count_1 : decode cX12_count 1 = .ok (.tableswitch 78 0 6 #[43, 48, 53, 58, 63, 68, 73], 43) := by decide +kernel
theorem dX12_count_44 : decode cX12_count 44 = .ok (.aload_n 0, 1) := by decide +kernel
theorem dX12_count_45 : decode cX12_count 45 = .ok (.getfield 131, 3) := by decide +kernel
theorem dX12_count_48 : decode cX12_count 48 = .ok (.ireturn, 1) := by decide +kernel
theorem dX12_count_49 : decode cX12_count 49 = .ok (.aload_n 0, 1) := by decide +kernel
theorem dX12_count_50 : decode cX12_count 50 = .ok (.getfield 134, 3) := by decide +kernel
theorem dX12_count_53 : decode cX12_count 53 = .ok (.ireturn, 1) := by decide +kernel
theorem dX12_count_54 : decode cX12_count 54 = .ok (.aload_n 0, 1) := by decide +kernel
theorem dX12_count_55 : decode cX12_count 55 = .ok (.getfield 137, 3) := by decide +kernel
theorem dX12_count_58 : decode cX12_count 58 = .ok (.ireturn, 1) := by decide +kernel
theorem dX12_count_59 : decode cX12_count 59 = .ok (.aload_n 0, 1) := by decide +kernel
theorem dX12_count_60 : decode cX12_count 60 = .ok (.getfield 154, 3) := by decide +kernel
theorem dX12_count_63 : decode cX12_count 63 = .ok (.ireturn, 1) := by decide +kernel
theorem dX12_count_64 : decode cX12_count 64 = .ok (.aload_n 0, 1) := by decide +kernel
theorem dX12_count_65 : decode cX12_count 65 = .ok (.getfield 223, 3) := by decide +kernel
theorem dX12_count_68 : decode cX12_count 68 = .ok (.ireturn, 1) := by decide +kernel
theorem dX12_count_69 : decode cX12_count 69 = .ok (.aload_n 0, 1) := by decide +kernel
theorem dX12_count_70 : decode cX12_count 70 = .ok (.getfield 127, 3) := by decide +kernel
theorem dX12_count_73 : decode cX12_count 73 = .ok (.ireturn, 1) := by decide +kernel
theorem dX12_count_74 : decode cX12_count 74 = .ok (.aload_n 0, 1) := by decide +kernel
theorem dX12_count_75 : decode cX12_count 75 = .ok (.getfield 157, 3) := by decide +kernel
theorem dX12_count_78 : decode cX12_count 78 = .ok (.ireturn, 1) := by decide +kernel
theorem dX12_count_79 : decode cX12_count 79 = .ok (.iconst (-1), 1) := by decide +kernel
theorem dX12_count_80 : decode cX12_count 80 = .ok (.ireturn, 1) := by decide +kernel
