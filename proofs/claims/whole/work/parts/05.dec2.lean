theorem dX12_init_0 : decode cX12_init 0 = .ok (.aload_n 0, 1) := by decide +kernel
theorem dX12_init_1 : decode cX12_init 1 = .ok (.invokespecial 1, 3) := by decide +kernel
theorem dX12_init_4 : decode cX12_init 4 = .ok (.aload_n 0, 1) := by decide +kernel
theorem dX12_init_5 : decode cX12_init 5 = .ok (.bipush 6, 2) := by decide +kernel
theorem dX12_init_7 : decode cX12_init 7 = .ok (.newarray .int, 2) := by decide +kernel
theorem dX12_init_9 : decode cX12_init 9 = .ok (.putfield 7, 3) := by decide +kernel
theorem dX12_init_12 : decode cX12_init 12 = .ok (.aload_n 0, 1) := by decide +kernel
theorem dX12_init_13 : decode cX12_init 13 = .ok (.bipush 6, 2) := by decide +kernel
theorem dX12_init_15 : decode cX12_init 15 = .ok (.newarray .int, 2) := by decide +kernel
theorem dX12_init_17 : decode cX12_init 17 = .ok (.putfield 13, 3) := by decide +kernel
theorem dX12_init_20 : decode cX12_init 20 = .ok (.aload_n 0, 1) := by decide +kernel
theorem dX12_init_21 : decode cX12_init 21 = .ok (.bipush 6, 2) := by decide +kernel
theorem dX12_init_23 : decode cX12_init 23 = .ok (.newarray .int, 2) := by decide +kernel
theorem dX12_init_25 : decode cX12_init 25 = .ok (.putfield 16, 3) := by decide +kernel
theorem dX12_init_28 : decode cX12_init 28 = .ok (.aload_n 0, 1) := by decide +kernel
theorem dX12_init_29 : decode cX12_init 29 = .ok (.bipush 12, 2) := by decide +kernel
theorem dX12_init_31 : decode cX12_init 31 = .ok (.newarray .int, 2) := by decide +kernel
theorem dX12_init_33 : decode cX12_init 33 = .ok (.putfield 19, 3) := by decide +kernel
theorem dX12_init_36 : decode cX12_init 36 = .ok (.aload_n 0, 1) := by decide +kernel
theorem dX12_init_37 : decode cX12_init 37 = .ok (.bipush 12, 2) := by decide +kernel
theorem dX12_init_39 : decode cX12_init 39 = .ok (.newarray .int, 2) := by decide +kernel
theorem dX12_init_41 : decode cX12_init 41 = .ok (.putfield 22, 3) := by decide +kernel
theorem dX12_init_44 : decode cX12_init 44 = .ok (.aload_n 0, 1) := by decide +kernel
theorem dX12_init_45 : decode cX12_init 45 = .ok (.bipush 12, 2) := by decide +kernel
theorem dX12_init_47 : decode cX12_init 47 = .ok (.newarray .int, 2) := by decide +kernel
theorem dX12_init_49 : decode cX12_init 49 = .ok (.putfield 25, 3) := by decide +kernel
theorem dX12_init_52 : decode cX12_init 52 = .ok (.aload_n 0, 1) := by decide +kernel
theorem dX12_init_53 : decode cX12_init 53 = .ok (.iconst 3, 1) := by decide +kernel
theorem dX12_init_54 : decode cX12_init 54 = .ok (.newarray .int, 2) := by decide +kernel
theorem dX12_init_56 : decode cX12_init 56 = .ok (.putfield 28, 3) := by decide +kernel
theorem dX12_init_59 : decode cX12_init 59 = .ok (.aload_n 0, 1) := by decide +kernel
theorem dX12_init_60 : decode cX12_init 60 = .ok (.iconst 3, 1) := by decide +kernel
theorem dX12_init_61 : decode cX12_init 61 = .ok (.newarray .int, 2) := by decide +kernel
theorem dX12_init_63 : decode cX12_init 63 = .ok (.putfield 31, 3) := by decide +kernel
theorem dX12_init_66 : decode cX12_init 66 = .ok (.aload_n 0, 1) := by decide +kernel
theorem dX12_init_67 : decode cX12_init 67 = .ok (.iconst 3, 1) := by decide +kernel
theorem dX12_init_68 : decode cX12_init 68 = .ok (.newarray .int, 2) := by decide +kernel
theorem dX12_init_70 : decode cX12_init 70 = .ok (.putfield 34, 3) := by decide +kernel
theorem dX12_init_73 : decode cX12_init 73 = .ok (.aload_n 0, 1) := by decide +kernel
theorem dX12_init_74 : decode cX12_init 74 = .ok (.iconst 3, 1) := by decide +kernel
theorem dX12_init_75 : decode cX12_init 75 = .ok (.newarray .int, 2) := by decide +kernel
theorem dX12_init_77 : decode cX12_init 77 = .ok (.putfield 37, 3) := by decide +kernel
theorem dX12_init_80 : decode cX12_init 80 = .ok (.aload_n 0, 1) := by decide +kernel
theorem dX12_init_81 : decode cX12_init 81 = .ok (.iconst 2, 1) := by decide +kernel
theorem dX12_init_82 : decode cX12_init 82 = .ok (.newarray .int, 2) := by decide +kernel
theorem dX12_init_84 : decode cX12_init 84 = .ok (.putfield 40, 3) := by decide +kernel
theorem dX12_init_87 : decode cX12_init 87 = .ok (.aload_n 0, 1) := by decide +kernel
theorem dX12_init_88 : decode cX12_init 88 = .ok (.iconst 2, 1) := by decide +kernel
theorem dX12_init_89 : decode cX12_init 89 = .ok (.newarray .int, 2) := by decide +kernel
theorem dX12_init_91 : decode cX12_init 91 = .ok (.putfield 43, 3) := by decide +kernel
theorem dX12_init_94 : decode cX12_init 94 = .ok (.aload_n 0, 1) := by decide +kernel
theorem dX12_init_95 : decode cX12_init 95 = .ok (.iconst 2, 1) := by decide +kernel
theorem dX12_init_96 : decode cX12_init 96 = .ok (.newarray .int, 2) := by decide +kernel
theorem dX12_init_98 : decode cX12_init 98 = .ok (.putfield 46, 3) := by decide +kernel
theorem dX12_init_101 : decode cX12_init 101 = .ok (.aload_n 0, 1) := by decide +kernel
theorem dX12_init_102 : decode cX12_init 102 = .ok (.iconst 3, 1) := by decide +kernel
theorem dX12_init_103 : decode cX12_init 103 = .ok (.newarray .int, 2) := by decide +kernel
theorem dX12_init_105 : decode cX12_init 105 = .ok (.putfield 49, 3) := by decide +kernel
theorem dX12_init_108 : decode cX12_init 108 = .ok (.aload_n 0, 1) := by decide +kernel
theorem dX12_init_109 : decode cX12_init 109 = .ok (.iconst 3, 1) := by decide +kernel
theorem dX12_init_110 : decode cX12_init 110 = .ok (.newarray .int, 2) := by decide +kernel
theorem dX12_init_112 : decode cX12_init 112 = .ok (.putfield 52, 3) := by decide +kernel
theorem dX12_init_115 : decode cX12_init 115 = .ok (.aload_n 0, 1) := by decide +kernel
theorem dX12_init_116 : decode cX12_init 116 = .ok (.iconst 3, 1) := by decide +kernel
theorem dX12_init_117 : decode cX12_init 117 = .ok (.newarray .int, 2) := by decide +kernel
theorem dX12_init_119 : decode cX12_init 119 = .ok (.putfield 55, 3) := by decide +kernel
theorem dX12_init_122 : decode cX12_init 122 = .ok (.aload_n 0, 1) := by decide +kernel
theorem dX12_init_123 : decode cX12_init 123 = .ok (.iconst 3, 1) := by decide +kernel
theorem dX12_init_124 : decode cX12_init 124 = .ok (.newarray .int, 2) := by decide +kernel
theorem dX12_init_126 : decode cX12_init 126 = .ok (.putfield 58, 3) := by decide +kernel
theorem dX12_init_129 : decode cX12_init 129 = .ok (.aload_n 0, 1) := by decide +kernel
theorem dX12_init_130 : decode cX12_init 130 = .ok (.bipush 6, 2) := by decide +kernel
theorem dX12_init_132 : decode cX12_init 132 = .ok (.newarray .long, 2) := by decide +kernel
theorem dX12_init_134 : decode cX12_init 134 = .ok (.putfield 61, 3) := by decide +kernel
theorem dX12_init_137 : decode cX12_init 137 = .ok (.aload_n 0, 1) := by decide +kernel
theorem dX12_init_138 : decode cX12_init 138 = .ok (.bipush 12, 2) := by decide +kernel
theorem dX12_init_140 : decode cX12_init 140 = .ok (.newarray .int, 2) := by decide +kernel
theorem dX12_init_142 : decode cX12_init 142 = .ok (.putfield 65, 3) := by decide +kernel
theorem dX12_init_145 : decode cX12_init 145 = .ok (.aload_n 0, 1) := by decide +kernel
theorem dX12_init_146 : decode cX12_init 146 = .ok (.iconst 3, 1) := by decide +kernel
theorem dX12_init_147 : decode cX12_init 147 = .ok (.newarray .int, 2) := by decide +kernel
theorem dX12_init_149 : decode cX12_init 149 = .ok (.putfield 68, 3) := by decide +kernel
theorem dX12_init_152 : decode cX12_init 152 = .ok (.aload_n 0, 1) := by decide +kernel
theorem dX12_init_153 : decode cX12_init 153 = .ok (.bipush 36, 2) := by decide +kernel
theorem dX12_init_155 : decode cX12_init 155 = .ok (.newarray .long, 2) := by decide +kernel
theorem dX12_init_157 : decode cX12_init 157 = .ok (.putfield 71, 3) := by decide +kernel
theorem dX12_init_160 : decode cX12_init 160 = .ok (.aload_n 0, 1) := by decide +kernel
theorem dX12_init_161 : decode cX12_init 161 = .ok (.bipush 6, 2) := by decide +kernel
theorem dX12_init_163 : decode cX12_init 163 = .ok (.newarray .long, 2) := by decide +kernel
theorem dX12_init_165 : decode cX12_init 165 = .ok (.putfield 74, 3) := by decide +kernel
theorem dX12_init_168 : decode cX12_init 168 = .ok (.aload_n 0, 1) := by decide +kernel
theorem dX12_init_169 : decode cX12_init 169 = .ok (.bipush 36, 2) := by decide +kernel
theorem dX12_init_171 : decode cX12_init 171 = .ok (.newarray .long, 2) := by decide +kernel
theorem dX12_init_173 : decode cX12_init 173 = .ok (.putfield 77, 3) := by decide +kernel
theorem dX12_init_176 : decode cX12_init 176 = .ok (.aload_n 0, 1) := by decide +kernel
theorem dX12_init_177 : decode cX12_init 177 = .ok (.bipush 20, 2) := by decide +kernel
theorem dX12_init_179 : decode cX12_init 179 = .ok (.newarray .int, 2) := by decide +kernel
theorem dX12_init_181 : decode cX12_init 181 = .ok (.putfield 80, 3) := by decide +kernel
theorem dX12_init_184 : decode cX12_init 184 = .ok (.aload_n 0, 1) := by decide +kernel
theorem dX12_init_185 : decode cX12_init 185 = .ok (.bipush 20, 2) := by decide +kernel
theorem dX12_init_187 : decode cX12_init 187 = .ok (.newarray .long, 2) := by decide +kernel
theorem dX12_init_189 : decode cX12_init 189 = .ok (.putfield 83, 3) := by decide +kernel
theorem dX12_init_192 : decode cX12_init 192 = .ok (.aload_n 0, 1) := by decide +kernel
theorem dX12_init_193 : decode cX12_init 193 = .ok (.bipush 6, 2) := by decide +kernel
theorem dX12_init_195 : decode cX12_init 195 = .ok (.newarray .int, 2) := by decide +kernel
theorem dX12_init_197 : decode cX12_init 197 = .ok (.putfield 86, 3) := by decide +kernel
theorem dX12_init_200 : decode cX12_init 200 = .ok (.aload_n 0, 1) := by decide +kernel
theorem dX12_init_201 : decode cX12_init 201 = .ok (.bipush 6, 2) := by decide +kernel
theorem dX12_init_203 : decode cX12_init 203 = .ok (.newarray .int, 2) := by decide +kernel
theorem dX12_init_205 : decode cX12_init 205 = .ok (.putfield 89, 3) := by decide +kernel
theorem dX12_init_208 : decode cX12_init 208 = .ok (.aload_n 0, 1) := by decide +kernel
theorem dX12_init_209 : decode cX12_init 209 = .ok (.bipush 6, 2) := by decide +kernel
theorem dX12_init_211 : decode cX12_init 211 = .ok (.newarray .long, 2) := by decide +kernel
theorem dX12_init_213 : decode cX12_init 213 = .ok (.putfield 92, 3) := by decide +kernel
theorem dX12_init_216 : decode cX12_init 216 = .ok (.aload_n 0, 1) := by decide +kernel
theorem dX12_init_217 : decode cX12_init 217 = .ok (.iconst 5, 1) := by decide +kernel
theorem dX12_init_218 : decode cX12_init 218 = .ok (.newarray .int, 2) := by decide +kernel
theorem dX12_init_220 : decode cX12_init 220 = .ok (.putfield 95, 3) := by decide +kernel
theorem dX12_init_223 : decode cX12_init 223 = .ok (.aload_n 0, 1) := by decide +kernel
theorem dX12_init_224 : decode cX12_init 224 = .ok (.iconst 5, 1) := by decide +kernel
theorem dX12_init_225 : decode cX12_init 225 = .ok (.newarray .int, 2) := by decide +kernel
theorem dX12_init_227 : decode cX12_init 227 = .ok (.putfield 98, 3) := by decide +kernel
theorem dX12_init_230 : decode cX12_init 230 = .ok (.aload_n 0, 1) := by decide +kernel
theorem dX12_init_231 : decode cX12_init 231 = .ok (.bipush 6, 2) := by decide +kernel
theorem dX12_init_233 : decode cX12_init 233 = .ok (.newarray .boolean, 2) := by decide +kernel
theorem dX12_init_235 : decode cX12_init 235 = .ok (.putfield 101, 3) := by decide +kernel
theorem dX12_init_238 : decode cX12_init 238 = .ok (.aload_n 0, 1) := by decide +kernel
theorem dX12_init_239 : decode cX12_init 239 = .ok (.bipush 6, 2) := by decide +kernel
theorem dX12_init_241 : decode cX12_init 241 = .ok (.newarray .int, 2) := by decide +kernel
theorem dX12_init_243 : decode cX12_init 243 = .ok (.putfield 105, 3) := by decide +kernel
theorem dX12_init_246 : decode cX12_init 246 = .ok (.aload_n 0, 1) := by decide +kernel
theorem dX12_init_247 : decode cX12_init 247 = .ok (.bipush 6, 2) := by decide +kernel
theorem dX12_init_249 : decode cX12_init 249 = .ok (.newarray .int, 2) := by decide +kernel
theorem dX12_init_251 : decode cX12_init 251 = .ok (.putfield 108, 3) := by decide +kernel
theorem dX12_init_254 : decode cX12_init 254 = .ok (.aload_n 0, 1) := by decide +kernel
theorem dX12_init_255 : decode cX12_init 255 = .ok (.bipush 30, 2) := by decide +kernel
theorem dX12_init_257 : decode cX12_init 257 = .ok (.newarray .int, 2) := by decide +kernel
theorem dX12_init_259 : decode cX12_init 259 = .ok (.putfield 111, 3) := by decide +kernel
theorem dX12_init_262 : decode cX12_init 262 = .ok (.aload_n 0, 1) := by decide +kernel
theorem dX12_init_263 : decode cX12_init 263 = .ok (.sipush 200, 3) := by decide +kernel
theorem dX12_init_266 : decode cX12_init 266 = .ok (.newarray .int, 2) := by decide +kernel
theorem dX12_init_268 : decode cX12_init 268 = .ok (.putfield 114, 3) := by decide +kernel
theorem dX12_init_271 : decode cX12_init 271 = .ok (.aload_n 0, 1) := by decide +kernel
theorem dX12_init_272 : decode cX12_init 272 = .ok (.sipush 201, 3) := by decide +kernel
theorem dX12_init_275 : decode cX12_init 275 = .ok (.newarray .boolean, 2) := by decide +kernel
theorem dX12_init_277 : decode cX12_init 277 = .ok (.putfield 117, 3) := by decide +kernel
theorem dX12_init_280 : decode cX12_init 280 = .ok (.aload_n 0, 1) := by decide +kernel
theorem dX12_init_281 : decode cX12_init 281 = .ok (.sipush 201, 3) := by decide +kernel
theorem dX12_init_284 : decode cX12_init 284 = .ok (.newarray .boolean, 2) := by decide +kernel
theorem dX12_init_286 : decode cX12_init 286 = .ok (.putfield 120, 3) := by decide +kernel
theorem dX12_init_289 : decode cX12_init 289 = .ok (.aload_n 0, 1) := by decide +kernel
theorem dX12_init_290 : decode cX12_init 290 = .ok (.sipush 201, 3) := by decide +kernel
theorem dX12_init_293 : decode cX12_init 293 = .ok (.newarray .int, 2) := by decide +kernel
theorem dX12_init_295 : decode cX12_init 295 = .ok (.putfield 123, 3) := by decide +kernel
theorem dX12_init_298 : decode cX12_init 298 = .ok (.aload_n 0, 1) := by decide +kernel
theorem dX12_init_299 : decode cX12_init 299 = .ok (.bipush 6, 2) := by decide +kernel
theorem dX12_init_301 : decode cX12_init 301 = .ok (.newarray .int, 2) := by decide +kernel
theorem dX12_init_303 : decode cX12_init 303 = .ok (.putfield 126, 3) := by decide +kernel
theorem dX12_init_306 : decode cX12_init 306 = .ok (.aload_n 0, 1) := by decide +kernel
theorem dX12_init_307 : decode cX12_init 307 = .ok (.bipush 6, 2) := by decide +kernel
theorem dX12_init_309 : decode cX12_init 309 = .ok (.newarray .int, 2) := by decide +kernel
theorem dX12_init_311 : decode cX12_init 311 = .ok (.putfield 129, 3) := by decide +kernel
theorem dX12_init_314 : decode cX12_init 314 = .ok (.iconst 0, 1) := by decide +kernel
theorem dX12_init_315 : decode cX12_init 315 = .ok (.istore_n 1, 1) := by decide +kernel
theorem dX12_init_316 : decode cX12_init 316 = .ok (.iload_n 1, 1) := by decide +kernel
theorem dX12_init_317 : decode cX12_init 317 = .ok (.bipush 6, 2) := by decide +kernel
theorem dX12_init_319 : decode cX12_init 319 = .ok (.if_icmp .ge 17, 3) := by decide +kernel
theorem dX12_init_322 : decode cX12_init 322 = .ok (.aload_n 0, 1) := by decide +kernel
theorem dX12_init_323 : decode cX12_init 323 = .ok (.getfield 126, 3) := by decide +kernel
theorem dX12_init_326 : decode cX12_init 326 = .ok (.iload_n 1, 1) := by decide +kernel
theorem dX12_init_327 : decode cX12_init 327 = .ok (.ldc 132, 2) := by decide +kernel
theorem dX12_init_329 : decode cX12_init 329 = .ok (.iastore, 1) := by decide +kernel
theorem dX12_init_330 : decode cX12_init 330 = .ok (.iinc 1 1, 3) := by decide +kernel
theorem dX12_init_333 : decode cX12_init 333 = .ok (.goto (-17), 3) := by decide +kernel
theorem dX12_init_336 : decode cX12_init 336 = .ok (.return_, 1) := by decide +kernel
theorem dX12_in_0 : decode cX12_in 0 = .ok (.lload_n 0, 1) := by decide +kernel
theorem dX12_in_1 : decode cX12_in 1 = .ok (.lload_n 2, 1) := by decide +kernel
theorem dX12_in_2 : decode cX12_in 2 = .ok (.lcmp, 1) := by decide +kernel
theorem dX12_in_3 : decode cX12_in 3 = .ok (.ifCond .lt 14, 3) := by decide +kernel
theorem dX12_in_6 : decode cX12_in 6 = .ok (.lload_n 0, 1) := by decide +kernel
theorem dX12_in_7 : decode cX12_in 7 = .ok (.lload 4, 2) := by decide +kernel
theorem dX12_in_9 : decode cX12_in 9 = .ok (.lcmp, 1) := by decide +kernel
theorem dX12_in_10 : decode cX12_in 10 = .ok (.ifCond .gt 7, 3) := by decide +kernel
theorem dX12_in_13 : decode cX12_in 13 = .ok (.iconst 1, 1) := by decide +kernel
theorem dX12_in_14 : decode cX12_in 14 = .ok (.goto 4, 3) := by decide +kernel
theorem dX12_in_17 : decode cX12_in 17 = .ok (.iconst 0, 1) := by decide +kernel
theorem dX12_in_18 : decode cX12_in 18 = .ok (.ireturn, 1) := by decide +kernel
theorem dX12_noCell_0 : decode cX12_noCell 0 = .ok (.iload_n 1, 1) := by decide +kernel
theorem dX12_noCell_1 : decode cX12_noCell 1 = .ok (.i2l, 1) := by decide +kernel
theorem dX12_noCell_2 : decode cX12_noCell 2 = .ok (.lconst 0, 1) := by decide +kernel
theorem dX12_noCell_3 : decode cX12_noCell 3 = .ok (.aload_n 0, 1) := by decide +kernel
theorem dX12_noCell_4 : decode cX12_noCell 4 = .ok (.getfield 137, 3) := by decide +kernel
theorem dX12_noCell_7 : decode cX12_noCell 7 = .ok (.iconst 1, 1) := by decide +kernel
theorem dX12_noCell_8 : decode cX12_noCell 8 = .ok (.isub, 1) := by decide +kernel
theorem dX12_noCell_9 : decode cX12_noCell 9 = .ok (.i2l, 1) := by decide +kernel
theorem dX12_noCell_10 : decode cX12_noCell 10 = .ok (.invokestatic 140, 3) := by decide +kernel
theorem dX12_noCell_13 : decode cX12_noCell 13 = .ok (.ifCond .ne 7, 3) := by decide +kernel
theorem dX12_noCell_16 : decode cX12_noCell 16 = .ok (.iconst 1, 1) := by decide +kernel
theorem dX12_noCell_17 : decode cX12_noCell 17 = .ok (.goto 4, 3) := by decide +kernel
theorem dX12_noCell_20 : decode cX12_noCell 20 = .ok (.iconst 0, 1) := by decide +kernel
theorem dX12_noCell_21 : decode cX12_noCell 21 = .ok (.ireturn, 1) := by decide +kernel
theorem dX12_noWell_0 : decode cX12_noWell 0 = .ok (.iload_n 1, 1) := by decide +kernel
theorem dX12_noWell_1 : decode cX12_noWell 1 = .ok (.i2l, 1) := by decide +kernel
theorem dX12_noWell_2 : decode cX12_noWell 2 = .ok (.lconst 0, 1) := by decide +kernel
theorem dX12_noWell_3 : decode cX12_noWell 3 = .ok (.aload_n 0, 1) := by decide +kernel
theorem dX12_noWell_4 : decode cX12_noWell 4 = .ok (.getfield 144, 3) := by decide +kernel
theorem dX12_noWell_7 : decode cX12_noWell 7 = .ok (.iconst 1, 1) := by decide +kernel
theorem dX12_noWell_8 : decode cX12_noWell 8 = .ok (.isub, 1) := by decide +kernel
theorem dX12_noWell_9 : decode cX12_noWell 9 = .ok (.i2l, 1) := by decide +kernel
theorem dX12_noWell_10 : decode cX12_noWell 10 = .ok (.invokestatic 140, 3) := by decide +kernel
theorem dX12_noWell_13 : decode cX12_noWell 13 = .ok (.ifCond .ne 7, 3) := by decide +kernel
theorem dX12_noWell_16 : decode cX12_noWell 16 = .ok (.iconst 1, 1) := by decide +kernel
theorem dX12_noWell_17 : decode cX12_noWell 17 = .ok (.goto 4, 3) := by decide +kernel
theorem dX12_noWell_20 : decode cX12_noWell 20 = .ok (.iconst 0, 1) := by decide +kernel
theorem dX12_noWell_21 : decode cX12_noWell 21 = .ok (.ireturn, 1) := by decide +kernel
theorem dX12_down_0 : decode cX12_down 0 = .ok (.lload_n 0, 1) := by decide +kernel
theorem dX12_down_1 : decode cX12_down 1 = .ok (.lload_n 2, 1) := by decide +kernel
theorem dX12_down_2 : decode cX12_down 2 = .ok (.lrem, 1) := by decide +kernel
theorem dX12_down_3 : decode cX12_down 3 = .ok (.lstore 4, 2) := by decide +kernel
theorem dX12_down_5 : decode cX12_down 5 = .ok (.lload_n 0, 1) := by decide +kernel
theorem dX12_down_6 : decode cX12_down 6 = .ok (.lload 4, 2) := by decide +kernel
theorem dX12_down_8 : decode cX12_down 8 = .ok (.lconst 0, 1) := by decide +kernel
theorem dX12_down_9 : decode cX12_down 9 = .ok (.lcmp, 1) := by decide +kernel
theorem dX12_down_10 : decode cX12_down 10 = .ok (.ifCond .ge 10, 3) := by decide +kernel
theorem dX12_down_13 : decode cX12_down 13 = .ok (.lload 4, 2) := by decide +kernel
theorem dX12_down_15 : decode cX12_down 15 = .ok (.lload_n 2, 1) := by decide +kernel
theorem dX12_down_16 : decode cX12_down 16 = .ok (.ladd, 1) := by decide +kernel
theorem dX12_down_17 : decode cX12_down 17 = .ok (.goto 5, 3) := by decide +kernel
theorem dX12_down_20 : decode cX12_down 20 = .ok (.lload 4, 2) := by decide +kernel
theorem dX12_down_22 : decode cX12_down 22 = .ok (.lsub, 1) := by decide +kernel
theorem dX12_down_23 : decode cX12_down 23 = .ok (.lload_n 2, 1) := by decide +kernel
theorem dX12_down_24 : decode cX12_down 24 = .ok (.ldiv, 1) := by decide +kernel
theorem dX12_down_25 : decode cX12_down 25 = .ok (.lreturn, 1) := by decide +kernel
theorem dX12_common_0 : decode cX12_common 0 = .ok (.lload_n 0, 1) := by decide +kernel
theorem dX12_common_1 : decode cX12_common 1 = .ok (.lconst 0, 1) := by decide +kernel
theorem dX12_common_2 : decode cX12_common 2 = .ok (.lcmp, 1) := by decide +kernel
theorem dX12_common_3 : decode cX12_common 3 = .ok (.ifCond .ge 8, 3) := by decide +kernel
theorem dX12_common_6 : decode cX12_common 6 = .ok (.lload_n 0, 1) := by decide +kernel
theorem dX12_common_7 : decode cX12_common 7 = .ok (.lneg, 1) := by decide +kernel
theorem dX12_common_8 : decode cX12_common 8 = .ok (.goto 4, 3) := by decide +kernel
theorem dX12_common_11 : decode cX12_common 11 = .ok (.lload_n 0, 1) := by decide +kernel
theorem dX12_common_12 : decode cX12_common 12 = .ok (.lstore 4, 2) := by decide +kernel
theorem dX12_common_14 : decode cX12_common 14 = .ok (.lload_n 2, 1) := by decide +kernel
theorem dX12_common_15 : decode cX12_common 15 = .ok (.lconst 0, 1) := by decide +kernel
theorem dX12_common_16 : decode cX12_common 16 = .ok (.lcmp, 1) := by decide +kernel
theorem dX12_common_17 : decode cX12_common 17 = .ok (.ifCond .ge 8, 3) := by decide +kernel
theorem dX12_common_20 : decode cX12_common 20 = .ok (.lload_n 2, 1) := by decide +kernel
theorem dX12_common_21 : decode cX12_common 21 = .ok (.lneg, 1) := by decide +kernel
theorem dX12_common_22 : decode cX12_common 22 = .ok (.goto 4, 3) := by decide +kernel
theorem dX12_common_25 : decode cX12_common 25 = .ok (.lload_n 2, 1) := by decide +kernel
theorem dX12_common_26 : decode cX12_common 26 = .ok (.lstore 6, 2) := by decide +kernel
theorem dX12_common_28 : decode cX12_common 28 = .ok (.lload 6, 2) := by decide +kernel
theorem dX12_common_30 : decode cX12_common 30 = .ok (.lconst 0, 1) := by decide +kernel
theorem dX12_common_31 : decode cX12_common 31 = .ok (.lcmp, 1) := by decide +kernel
theorem dX12_common_32 : decode cX12_common 32 = .ok (.ifCond .eq 21, 3) := by decide +kernel
theorem dX12_common_35 : decode cX12_common 35 = .ok (.lload 4, 2) := by decide +kernel
theorem dX12_common_37 : decode cX12_common 37 = .ok (.lload 6, 2) := by decide +kernel
theorem dX12_common_39 : decode cX12_common 39 = .ok (.lrem, 1) := by decide +kernel
theorem dX12_common_40 : decode cX12_common 40 = .ok (.lstore 8, 2) := by decide +kernel
theorem dX12_common_42 : decode cX12_common 42 = .ok (.lload 6, 2) := by decide +kernel
theorem dX12_common_44 : decode cX12_common 44 = .ok (.lstore 4, 2) := by decide +kernel
theorem dX12_common_46 : decode cX12_common 46 = .ok (.lload 8, 2) := by decide +kernel
theorem dX12_common_48 : decode cX12_common 48 = .ok (.lstore 6, 2) := by decide +kernel
theorem dX12_common_50 : decode cX12_common 50 = .ok (.goto (-22), 3) := by decide +kernel
theorem dX12_common_53 : decode cX12_common 53 = .ok (.lload 4, 2) := by decide +kernel
theorem dX12_common_55 : decode cX12_common 55 = .ok (.lconst 0, 1) := by decide +kernel
theorem dX12_common_56 : decode cX12_common 56 = .ok (.lcmp, 1) := by decide +kernel
theorem dX12_common_57 : decode cX12_common 57 = .ok (.ifCond .ne 7, 3) := by decide +kernel
theorem dX12_common_60 : decode cX12_common 60 = .ok (.lconst 1, 1) := by decide +kernel
theorem dX12_common_61 : decode cX12_common 61 = .ok (.goto 5, 3) := by decide +kernel
theorem dX12_common_64 : decode cX12_common 64 = .ok (.lload 4, 2) := by decide +kernel
theorem dX12_common_66 : decode cX12_common 66 = .ok (.lreturn, 1) := by decide +kernel
theorem dX12_cell_0 : decode cX12_cell 0 = .ok (.aload_n 0, 1) := by decide +kernel
theorem dX12_cell_1 : decode cX12_cell 1 = .ok (.iconst 0, 1) := by decide +kernel
theorem dX12_cell_2 : decode cX12_cell 2 = .ok (.putfield 133, 3) := by decide +kernel
theorem dX12_cell_5 : decode cX12_cell 5 = .ok (.iload_n 1, 1) := by decide +kernel
theorem dX12_cell_6 : decode cX12_cell 6 = .ok (.i2l, 1) := by decide +kernel
theorem dX12_cell_7 : decode cX12_cell 7 = .ok (.lconst 0, 1) := by decide +kernel
theorem dX12_cell_8 : decode cX12_cell 8 = .ok (.ldc2_w 147, 3) := by decide +kernel
theorem dX12_cell_11 : decode cX12_cell 11 = .ok (.invokestatic 140, 3) := by decide +kernel
theorem dX12_cell_14 : decode cX12_cell 14 = .ok (.ifCond .eq 27, 3) := by decide +kernel
theorem dX12_cell_17 : decode cX12_cell 17 = .ok (.iload_n 2, 1) := by decide +kernel
theorem dX12_cell_18 : decode cX12_cell 18 = .ok (.i2l, 1) := by decide +kernel
theorem dX12_cell_19 : decode cX12_cell 19 = .ok (.lconst 0, 1) := by decide +kernel
theorem dX12_cell_20 : decode cX12_cell 20 = .ok (.ldc2_w 149, 3) := by decide +kernel
theorem dX12_cell_23 : decode cX12_cell 23 = .ok (.invokestatic 140, 3) := by decide +kernel
theorem dX12_cell_26 : decode cX12_cell 26 = .ok (.ifCond .eq 15, 3) := by decide +kernel
theorem dX12_cell_29 : decode cX12_cell 29 = .ok (.iload_n 3, 1) := by decide +kernel
theorem dX12_cell_30 : decode cX12_cell 30 = .ok (.i2l, 1) := by decide +kernel
theorem dX12_cell_31 : decode cX12_cell 31 = .ok (.lconst 1, 1) := by decide +kernel
theorem dX12_cell_32 : decode cX12_cell 32 = .ok (.ldc2_w 151, 3) := by decide +kernel
theorem dX12_cell_35 : decode cX12_cell 35 = .ok (.invokestatic 140, 3) := by decide +kernel
theorem dX12_cell_38 : decode cX12_cell 38 = .ok (.ifCond .ne 6, 3) := by decide +kernel
theorem dX12_cell_41 : decode cX12_cell 41 = .ok (.ldc 153, 2) := by decide +kernel
theorem dX12_cell_43 : decode cX12_cell 43 = .ok (.ireturn, 1) := by decide +kernel
theorem dX12_cell_44 : decode cX12_cell 44 = .ok (.aload_n 0, 1) := by decide +kernel
theorem dX12_cell_45 : decode cX12_cell 45 = .ok (.getfield 137, 3) := by decide +kernel
theorem dX12_cell_48 : decode cX12_cell 48 = .ok (.bipush 6, 2) := by decide +kernel
theorem dX12_cell_50 : decode cX12_cell 50 = .ok (.if_icmp .ne 6, 3) := by decide +kernel
theorem dX12_cell_53 : decode cX12_cell 53 = .ok (.ldc 154, 2) := by decide +kernel
theorem dX12_cell_55 : decode cX12_cell 55 = .ok (.ireturn, 1) := by decide +kernel
theorem dX12_cell_56 : decode cX12_cell 56 = .ok (.aload_n 0, 1) := by decide +kernel
theorem dX12_cell_57 : decode cX12_cell 57 = .ok (.getfield 7, 3) := by decide +kernel
theorem dX12_cell_60 : decode cX12_cell 60 = .ok (.aload_n 0, 1) := by decide +kernel
theorem dX12_cell_61 : decode cX12_cell 61 = .ok (.getfield 137, 3) := by decide +kernel
theorem dX12_cell_64 : decode cX12_cell 64 = .ok (.iload_n 1, 1) := by decide +kernel
theorem dX12_cell_65 : decode cX12_cell 65 = .ok (.iastore, 1) := by decide +kernel
theorem dX12_cell_66 : decode cX12_cell 66 = .ok (.aload_n 0, 1) := by decide +kernel
theorem dX12_cell_67 : decode cX12_cell 67 = .ok (.getfield 13, 3) := by decide +kernel
theorem dX12_cell_70 : decode cX12_cell 70 = .ok (.aload_n 0, 1) := by decide +kernel
theorem dX12_cell_71 : decode cX12_cell 71 = .ok (.getfield 137, 3) := by decide +kernel
theorem dX12_cell_74 : decode cX12_cell 74 = .ok (.iload_n 2, 1) := by decide +kernel
theorem dX12_cell_75 : decode cX12_cell 75 = .ok (.iastore, 1) := by decide +kernel
theorem dX12_cell_76 : decode cX12_cell 76 = .ok (.aload_n 0, 1) := by decide +kernel
theorem dX12_cell_77 : decode cX12_cell 77 = .ok (.getfield 16, 3) := by decide +kernel
theorem dX12_cell_80 : decode cX12_cell 80 = .ok (.aload_n 0, 1) := by decide +kernel
theorem dX12_cell_81 : decode cX12_cell 81 = .ok (.getfield 137, 3) := by decide +kernel
theorem dX12_cell_84 : decode cX12_cell 84 = .ok (.iload_n 3, 1) := by decide +kernel
theorem dX12_cell_85 : decode cX12_cell 85 = .ok (.iastore, 1) := by decide +kernel
theorem dX12_cell_86 : decode cX12_cell 86 = .ok (.aload_n 0, 1) := by decide +kernel
theorem dX12_cell_87 : decode cX12_cell 87 = .ok (.dup, 1) := by decide +kernel
theorem dX12_cell_88 : decode cX12_cell 88 = .ok (.getfield 137, 3) := by decide +kernel
theorem dX12_cell_91 : decode cX12_cell 91 = .ok (.iconst 1, 1) := by decide +kernel
theorem dX12_cell_92 : decode cX12_cell 92 = .ok (.iadd, 1) := by decide +kernel
theorem dX12_cell_93 : decode cX12_cell 93 = .ok (.putfield 137, 3) := by decide +kernel
theorem dX12_cell_96 : decode cX12_cell 96 = .ok (.aload_n 0, 1) := by decide +kernel
theorem dX12_cell_97 : decode cX12_cell 97 = .ok (.getfield 137, 3) := by decide +kernel
theorem dX12_cell_100 : decode cX12_cell 100 = .ok (.iconst 1, 1) := by decide +kernel
theorem dX12_cell_101 : decode cX12_cell 101 = .ok (.isub, 1) := by decide +kernel
theorem dX12_cell_102 : decode cX12_cell 102 = .ok (.ireturn, 1) := by decide +kernel
theorem dX12_noEase_0 : decode cX12_noEase 0 = .ok (.iload_n 0, 1) := by decide +kernel
theorem dX12_noEase_1 : decode cX12_noEase 1 = .ok (.i2l, 1) := by decide +kernel
theorem dX12_noEase_2 : decode cX12_noEase 2 = .ok (.lconst 1, 1) := by decide +kernel
theorem dX12_noEase_3 : decode cX12_noEase 3 = .ok (.ldc2_w 151, 3) := by decide +kernel
theorem dX12_noEase_6 : decode cX12_noEase 6 = .ok (.invokestatic 140, 3) := by decide +kernel
theorem dX12_noEase_9 : decode cX12_noEase 9 = .ok (.ifCond .ne 7, 3) := by decide +kernel
theorem dX12_noEase_12 : decode cX12_noEase 12 = .ok (.iconst 1, 1) := by decide +kernel
theorem dX12_noEase_13 : decode cX12_noEase 13 = .ok (.goto 4, 3) := by decide +kernel
theorem dX12_noEase_16 : decode cX12_noEase 16 = .ok (.iconst 0, 1) := by decide +kernel
theorem dX12_noEase_17 : decode cX12_noEase 17 = .ok (.ireturn, 1) := by decide +kernel
theorem dX12_link_0 : decode cX12_link 0 = .ok (.aload_n 0, 1) := by decide +kernel
theorem dX12_link_1 : decode cX12_link 1 = .ok (.iconst 0, 1) := by decide +kernel
theorem dX12_link_2 : decode cX12_link 2 = .ok (.putfield 133, 3) := by decide +kernel
theorem dX12_link_5 : decode cX12_link 5 = .ok (.aload_n 0, 1) := by decide +kernel
theorem dX12_link_6 : decode cX12_link 6 = .ok (.iload_n 1, 1) := by decide +kernel
theorem dX12_link_7 : decode cX12_link 7 = .ok (.invokevirtual 155, 3) := by decide +kernel
theorem dX12_link_10 : decode cX12_link 10 = .ok (.ifCond .ne 11, 3) := by decide +kernel
theorem dX12_link_13 : decode cX12_link 13 = .ok (.aload_n 0, 1) := by decide +kernel
theorem dX12_link_14 : decode cX12_link 14 = .ok (.iload_n 2, 1) := by decide +kernel
theorem dX12_link_15 : decode cX12_link 15 = .ok (.invokevirtual 155, 3) := by decide +kernel
theorem dX12_link_18 : decode cX12_link 18 = .ok (.ifCond .eq 6, 3) := by decide +kernel
theorem dX12_link_21 : decode cX12_link 21 = .ok (.ldc 159, 2) := by decide +kernel
theorem dX12_link_23 : decode cX12_link 23 = .ok (.ireturn, 1) := by decide +kernel
theorem dX12_link_24 : decode cX12_link 24 = .ok (.iload_n 3, 1) := by decide +kernel
theorem dX12_link_25 : decode cX12_link 25 = .ok (.invokestatic 160, 3) := by decide +kernel
theorem dX12_link_28 : decode cX12_link 28 = .ok (.ifCond .eq 6, 3) := by decide +kernel
theorem dX12_link_31 : decode cX12_link 31 = .ok (.ldc 153, 2) := by decide +kernel
theorem dX12_link_33 : decode cX12_link 33 = .ok (.ireturn, 1) := by decide +kernel
theorem dX12_link_34 : decode cX12_link 34 = .ok (.iload_n 1, 1) := by decide +kernel
theorem dX12_link_35 : decode cX12_link 35 = .ok (.iload_n 2, 1) := by decide +kernel
theorem dX12_link_36 : decode cX12_link 36 = .ok (.if_icmp .ne 6, 3) := by decide +kernel
theorem dX12_link_39 : decode cX12_link 39 = .ok (.ldc 163, 2) := by decide +kernel
theorem dX12_link_41 : decode cX12_link 41 = .ok (.ireturn, 1) := by decide +kernel
theorem dX12_link_42 : decode cX12_link 42 = .ok (.aload_n 0, 1) := by decide +kernel
theorem dX12_link_43 : decode cX12_link 43 = .ok (.getfield 164, 3) := by decide +kernel
theorem dX12_link_46 : decode cX12_link 46 = .ok (.bipush 12, 2) := by decide +kernel
theorem dX12_link_48 : decode cX12_link 48 = .ok (.if_icmp .ne 6, 3) := by decide +kernel
theorem dX12_link_51 : decode cX12_link 51 = .ok (.ldc 154, 2) := by decide +kernel
theorem dX12_link_53 : decode cX12_link 53 = .ok (.ireturn, 1) := by decide +kernel
theorem dX12_link_54 : decode cX12_link 54 = .ok (.aload_n 0, 1) := by decide +kernel
theorem dX12_link_55 : decode cX12_link 55 = .ok (.getfield 19, 3) := by decide +kernel
theorem dX12_link_58 : decode cX12_link 58 = .ok (.aload_n 0, 1) := by decide +kernel
theorem dX12_link_59 : decode cX12_link 59 = .ok (.getfield 164, 3) := by decide +kernel
theorem dX12_link_62 : decode cX12_link 62 = .ok (.iload_n 1, 1) := by decide +kernel
theorem dX12_link_63 : decode cX12_link 63 = .ok (.iastore, 1) := by decide +kernel
theorem dX12_link_64 : decode cX12_link 64 = .ok (.aload_n 0, 1) := by decide +kernel
theorem dX12_link_65 : decode cX12_link 65 = .ok (.getfield 22, 3) := by decide +kernel
theorem dX12_link_68 : decode cX12_link 68 = .ok (.aload_n 0, 1) := by decide +kernel
theorem dX12_link_69 : decode cX12_link 69 = .ok (.getfield 164, 3) := by decide +kernel
theorem dX12_link_72 : decode cX12_link 72 = .ok (.iload_n 2, 1) := by decide +kernel
theorem dX12_link_73 : decode cX12_link 73 = .ok (.iastore, 1) := by decide +kernel
theorem dX12_link_74 : decode cX12_link 74 = .ok (.aload_n 0, 1) := by decide +kernel
theorem dX12_link_75 : decode cX12_link 75 = .ok (.getfield 25, 3) := by decide +kernel
theorem dX12_link_78 : decode cX12_link 78 = .ok (.aload_n 0, 1) := by decide +kernel
theorem dX12_link_79 : decode cX12_link 79 = .ok (.getfield 164, 3) := by decide +kernel
theorem dX12_link_82 : decode cX12_link 82 = .ok (.iload_n 3, 1) := by decide +kernel
theorem dX12_link_83 : decode cX12_link 83 = .ok (.iastore, 1) := by decide +kernel
theorem dX12_link_84 : decode cX12_link 84 = .ok (.aload_n 0, 1) := by decide +kernel
theorem dX12_link_85 : decode cX12_link 85 = .ok (.dup, 1) := by decide +kernel
theorem dX12_link_86 : decode cX12_link 86 = .ok (.getfield 164, 3) := by decide +kernel
theorem dX12_link_89 : decode cX12_link 89 = .ok (.iconst 1, 1) := by decide +kernel
theorem dX12_link_90 : decode cX12_link 90 = .ok (.iadd, 1) := by decide +kernel
theorem dX12_link_91 : decode cX12_link 91 = .ok (.putfield 164, 3) := by decide +kernel
theorem dX12_link_94 : decode cX12_link 94 = .ok (.aload_n 0, 1) := by decide +kernel
theorem dX12_link_95 : decode cX12_link 95 = .ok (.getfield 164, 3) := by decide +kernel
theorem dX12_link_98 : decode cX12_link 98 = .ok (.iconst 1, 1) := by decide +kernel
theorem dX12_link_99 : decode cX12_link 99 = .ok (.isub, 1) := by decide +kernel
theorem dX12_link_100 : decode cX12_link 100 = .ok (.ireturn, 1) := by decide +kernel
theorem dX12_river_0 : decode cX12_river 0 = .ok (.aload_n 0, 1) := by decide +kernel
theorem dX12_river_1 : decode cX12_river 1 = .ok (.iconst 0, 1) := by decide +kernel
theorem dX12_river_2 : decode cX12_river 2 = .ok (.putfield 133, 3) := by decide +kernel
theorem dX12_river_5 : decode cX12_river 5 = .ok (.aload_n 0, 1) := by decide +kernel
theorem dX12_river_6 : decode cX12_river 6 = .ok (.iload_n 1, 1) := by decide +kernel
theorem dX12_river_7 : decode cX12_river 7 = .ok (.invokevirtual 155, 3) := by decide +kernel
theorem dX12_river_10 : decode cX12_river 10 = .ok (.ifCond .eq 6, 3) := by decide +kernel
theorem dX12_river_13 : decode cX12_river 13 = .ok (.ldc 159, 2) := by decide +kernel
theorem dX12_river_15 : decode cX12_river 15 = .ok (.ireturn, 1) := by decide +kernel
theorem dX12_river_16 : decode cX12_river 16 = .ok (.iload_n 2, 1) := by decide +kernel
theorem dX12_river_17 : decode cX12_river 17 = .ok (.i2l, 1) := by decide +kernel
theorem dX12_river_18 : decode cX12_river 18 = .ok (.lconst 0, 1) := by decide +kernel
theorem dX12_river_19 : decode cX12_river 19 = .ok (.ldc2_w 167, 3) := by decide +kernel
theorem dX12_river_22 : decode cX12_river 22 = .ok (.invokestatic 140, 3) := by decide +kernel
theorem dX12_river_25 : decode cX12_river 25 = .ok (.ifCond .eq 22, 3) := by decide +kernel
theorem dX12_river_28 : decode cX12_river 28 = .ok (.iload_n 3, 1) := by decide +kernel
theorem dX12_river_29 : decode cX12_river 29 = .ok (.i2l, 1) := by decide +kernel
theorem dX12_river_30 : decode cX12_river 30 = .ok (.lconst 0, 1) := by decide +kernel
theorem dX12_river_31 : decode cX12_river 31 = .ok (.iload_n 2, 1) := by decide +kernel
theorem dX12_river_32 : decode cX12_river 32 = .ok (.i2l, 1) := by decide +kernel
theorem dX12_river_33 : decode cX12_river 33 = .ok (.invokestatic 140, 3) := by decide +kernel
theorem dX12_river_36 : decode cX12_river 36 = .ok (.ifCond .eq 11, 3) := by decide +kernel
theorem dX12_river_39 : decode cX12_river 39 = .ok (.iload 4, 2) := by decide +kernel
theorem dX12_river_41 : decode cX12_river 41 = .ok (.invokestatic 160, 3) := by decide +kernel
theorem dX12_river_44 : decode cX12_river 44 = .ok (.ifCond .eq 6, 3) := by decide +kernel
theorem dX12_river_47 : decode cX12_river 47 = .ok (.ldc 153, 2) := by decide +kernel
theorem dX12_river_49 : decode cX12_river 49 = .ok (.ireturn, 1) := by decide +kernel
theorem dX12_river_50 : decode cX12_river 50 = .ok (.aload_n 0, 1) := by decide +kernel
theorem dX12_river_51 : decode cX12_river 51 = .ok (.getfield 169, 3) := by decide +kernel
theorem dX12_river_54 : decode cX12_river 54 = .ok (.iconst 3, 1) := by decide +kernel
theorem dX12_river_55 : decode cX12_river 55 = .ok (.if_icmp .ne 6, 3) := by decide +kernel
theorem dX12_river_58 : decode cX12_river 58 = .ok (.ldc 154, 2) := by decide +kernel
theorem dX12_river_60 : decode cX12_river 60 = .ok (.ireturn, 1) := by decide +kernel
theorem dX12_river_61 : decode cX12_river 61 = .ok (.aload_n 0, 1) := by decide +kernel
theorem dX12_river_62 : decode cX12_river 62 = .ok (.getfield 28, 3) := by decide +kernel
theorem dX12_river_65 : decode cX12_river 65 = .ok (.aload_n 0, 1) := by decide +kernel
theorem dX12_river_66 : decode cX12_river 66 = .ok (.getfield 169, 3) := by decide +kernel
theorem dX12_river_69 : decode cX12_river 69 = .ok (.iload_n 1, 1) := by decide +kernel
theorem dX12_river_70 : decode cX12_river 70 = .ok (.iastore, 1) := by decide +kernel
theorem dX12_river_71 : decode cX12_river 71 = .ok (.aload_n 0, 1) := by decide +kernel
theorem dX12_river_72 : decode cX12_river 72 = .ok (.getfield 31, 3) := by decide +kernel
theorem dX12_river_75 : decode cX12_river 75 = .ok (.aload_n 0, 1) := by decide +kernel
theorem dX12_river_76 : decode cX12_river 76 = .ok (.getfield 169, 3) := by decide +kernel
theorem dX12_river_79 : decode cX12_river 79 = .ok (.iload_n 2, 1) := by decide +kernel
theorem dX12_river_80 : decode cX12_river 80 = .ok (.iastore, 1) := by decide +kernel
theorem dX12_river_81 : decode cX12_river 81 = .ok (.aload_n 0, 1) := by decide +kernel
theorem dX12_river_82 : decode cX12_river 82 = .ok (.getfield 34, 3) := by decide +kernel
theorem dX12_river_85 : decode cX12_river 85 = .ok (.aload_n 0, 1) := by decide +kernel
theorem dX12_river_86 : decode cX12_river 86 = .ok (.getfield 169, 3) := by decide +kernel
theorem dX12_river_89 : decode cX12_river 89 = .ok (.iload_n 3, 1) := by decide +kernel
theorem dX12_river_90 : decode cX12_river 90 = .ok (.iastore, 1) := by decide +kernel
theorem dX12_river_91 : decode cX12_river 91 = .ok (.aload_n 0, 1) := by decide +kernel
theorem dX12_river_92 : decode cX12_river 92 = .ok (.getfield 37, 3) := by decide +kernel
theorem dX12_river_95 : decode cX12_river 95 = .ok (.aload_n 0, 1) := by decide +kernel
theorem dX12_river_96 : decode cX12_river 96 = .ok (.getfield 169, 3) := by decide +kernel
theorem dX12_river_99 : decode cX12_river 99 = .ok (.iload 4, 2) := by decide +kernel
theorem dX12_river_101 : decode cX12_river 101 = .ok (.iastore, 1) := by decide +kernel
theorem dX12_river_102 : decode cX12_river 102 = .ok (.aload_n 0, 1) := by decide +kernel
theorem dX12_river_103 : decode cX12_river 103 = .ok (.dup, 1) := by decide +kernel
theorem dX12_river_104 : decode cX12_river 104 = .ok (.getfield 169, 3) := by decide +kernel
theorem dX12_river_107 : decode cX12_river 107 = .ok (.iconst 1, 1) := by decide +kernel
theorem dX12_river_108 : decode cX12_river 108 = .ok (.iadd, 1) := by decide +kernel
theorem dX12_river_109 : decode cX12_river 109 = .ok (.putfield 169, 3) := by decide +kernel
theorem dX12_river_112 : decode cX12_river 112 = .ok (.aload_n 0, 1) := by decide +kernel
theorem dX12_river_113 : decode cX12_river 113 = .ok (.getfield 169, 3) := by decide +kernel
theorem dX12_river_116 : decode cX12_river 116 = .ok (.iconst 1, 1) := by decide +kernel
theorem dX12_river_117 : decode cX12_river 117 = .ok (.isub, 1) := by decide +kernel
theorem dX12_river_118 : decode cX12_river 118 = .ok (.ireturn, 1) := by decide +kernel
theorem dX12_drain_0 : decode cX12_drain 0 = .ok (.aload_n 0, 1) := by decide +kernel
theorem dX12_drain_1 : decode cX12_drain 1 = .ok (.iconst 0, 1) := by decide +kernel
theorem dX12_drain_2 : decode cX12_drain 2 = .ok (.putfield 133, 3) := by decide +kernel
theorem dX12_drain_5 : decode cX12_drain 5 = .ok (.aload_n 0, 1) := by decide +kernel
theorem dX12_drain_6 : decode cX12_drain 6 = .ok (.iload_n 1, 1) := by decide +kernel
theorem dX12_drain_7 : decode cX12_drain 7 = .ok (.invokevirtual 155, 3) := by decide +kernel
theorem dX12_drain_10 : decode cX12_drain 10 = .ok (.ifCond .eq 6, 3) := by decide +kernel
theorem dX12_drain_13 : decode cX12_drain 13 = .ok (.ldc 159, 2) := by decide +kernel
theorem dX12_drain_15 : decode cX12_drain 15 = .ok (.ireturn, 1) := by decide +kernel
theorem dX12_drain_16 : decode cX12_drain 16 = .ok (.iload_n 2, 1) := by decide +kernel
theorem dX12_drain_17 : decode cX12_drain 17 = .ok (.i2l, 1) := by decide +kernel
theorem dX12_drain_18 : decode cX12_drain 18 = .ok (.lconst 0, 1) := by decide +kernel
theorem dX12_drain_19 : decode cX12_drain 19 = .ok (.ldc2_w 167, 3) := by decide +kernel
theorem dX12_drain_22 : decode cX12_drain 22 = .ok (.invokestatic 140, 3) := by decide +kernel
theorem dX12_drain_25 : decode cX12_drain 25 = .ok (.ifCond .eq 10, 3) := by decide +kernel
theorem dX12_drain_28 : decode cX12_drain 28 = .ok (.iload_n 3, 1) := by decide +kernel
theorem dX12_drain_29 : decode cX12_drain 29 = .ok (.invokestatic 160, 3) := by decide +kernel
theorem dX12_drain_32 : decode cX12_drain 32 = .ok (.ifCond .eq 6, 3) := by decide +kernel
theorem dX12_drain_35 : decode cX12_drain 35 = .ok (.ldc 153, 2) := by decide +kernel
theorem dX12_drain_37 : decode cX12_drain 37 = .ok (.ireturn, 1) := by decide +kernel
theorem dX12_drain_38 : decode cX12_drain 38 = .ok (.aload_n 0, 1) := by decide +kernel
theorem dX12_drain_39 : decode cX12_drain 39 = .ok (.getfield 172, 3) := by decide +kernel
theorem dX12_drain_42 : decode cX12_drain 42 = .ok (.iconst 2, 1) := by decide +kernel
theorem dX12_drain_43 : decode cX12_drain 43 = .ok (.if_icmp .ne 6, 3) := by decide +kernel
theorem dX12_drain_46 : decode cX12_drain 46 = .ok (.ldc 154, 2) := by decide +kernel
theorem dX12_drain_48 : decode cX12_drain 48 = .ok (.ireturn, 1) := by decide +kernel
theorem dX12_drain_49 : decode cX12_drain 49 = .ok (.aload_n 0, 1) := by decide +kernel
theorem dX12_drain_50 : decode cX12_drain 50 = .ok (.getfield 40, 3) := by decide +kernel
theorem dX12_drain_53 : decode cX12_drain 53 = .ok (.aload_n 0, 1) := by decide +kernel
theorem dX12_drain_54 : decode cX12_drain 54 = .ok (.getfield 172, 3) := by decide +kernel
theorem dX12_drain_57 : decode cX12_drain 57 = .ok (.iload_n 1, 1) := by decide +kernel
theorem dX12_drain_58 : decode cX12_drain 58 = .ok (.iastore, 1) := by decide +kernel
theorem dX12_drain_59 : decode cX12_drain 59 = .ok (.aload_n 0, 1) := by decide +kernel
theorem dX12_drain_60 : decode cX12_drain 60 = .ok (.getfield 43, 3) := by decide +kernel
theorem dX12_drain_63 : decode cX12_drain 63 = .ok (.aload_n 0, 1) := by decide +kernel
theorem dX12_drain_64 : decode cX12_drain 64 = .ok (.getfield 172, 3) := by decide +kernel
theorem dX12_drain_67 : decode cX12_drain 67 = .ok (.iload_n 2, 1) := by decide +kernel
theorem dX12_drain_68 : decode cX12_drain 68 = .ok (.iastore, 1) := by decide +kernel
theorem dX12_drain_69 : decode cX12_drain 69 = .ok (.aload_n 0, 1) := by decide +kernel
theorem dX12_drain_70 : decode cX12_drain 70 = .ok (.getfield 46, 3) := by decide +kernel
theorem dX12_drain_73 : decode cX12_drain 73 = .ok (.aload_n 0, 1) := by decide +kernel
theorem dX12_drain_74 : decode cX12_drain 74 = .ok (.getfield 172, 3) := by decide +kernel
theorem dX12_drain_77 : decode cX12_drain 77 = .ok (.iload_n 3, 1) := by decide +kernel
theorem dX12_drain_78 : decode cX12_drain 78 = .ok (.iastore, 1) := by decide +kernel
theorem dX12_drain_79 : decode cX12_drain 79 = .ok (.aload_n 0, 1) := by decide +kernel
theorem dX12_drain_80 : decode cX12_drain 80 = .ok (.dup, 1) := by decide +kernel
theorem dX12_drain_81 : decode cX12_drain 81 = .ok (.getfield 172, 3) := by decide +kernel
theorem dX12_drain_84 : decode cX12_drain 84 = .ok (.iconst 1, 1) := by decide +kernel
theorem dX12_drain_85 : decode cX12_drain 85 = .ok (.iadd, 1) := by decide +kernel
theorem dX12_drain_86 : decode cX12_drain 86 = .ok (.putfield 172, 3) := by decide +kernel
theorem dX12_drain_89 : decode cX12_drain 89 = .ok (.aload_n 0, 1) := by decide +kernel
theorem dX12_drain_90 : decode cX12_drain 90 = .ok (.getfield 172, 3) := by decide +kernel
theorem dX12_drain_93 : decode cX12_drain 93 = .ok (.iconst 1, 1) := by decide +kernel
theorem dX12_drain_94 : decode cX12_drain 94 = .ok (.isub, 1) := by decide +kernel
theorem dX12_drain_95 : decode cX12_drain 95 = .ok (.ireturn, 1) := by decide +kernel
theorem dX12_well_0 : decode cX12_well 0 = .ok (.aload_n 0, 1) := by decide +kernel
theorem dX12_well_1 : decode cX12_well 1 = .ok (.iconst 0, 1) := by decide +kernel
theorem dX12_well_2 : decode cX12_well 2 = .ok (.putfield 133, 3) := by decide +kernel
theorem dX12_well_5 : decode cX12_well 5 = .ok (.aload_n 0, 1) := by decide +kernel
theorem dX12_well_6 : decode cX12_well 6 = .ok (.iload_n 1, 1) := by decide +kernel
theorem dX12_well_7 : decode cX12_well 7 = .ok (.invokevirtual 155, 3) := by decide +kernel
theorem dX12_well_10 : decode cX12_well 10 = .ok (.ifCond .eq 6, 3) := by decide +kernel
theorem dX12_well_13 : decode cX12_well 13 = .ok (.ldc 159, 2) := by decide +kernel
theorem dX12_well_15 : decode cX12_well 15 = .ok (.ireturn, 1) := by decide +kernel
theorem dX12_well_16 : decode cX12_well 16 = .ok (.iload_n 2, 1) := by decide +kernel
theorem dX12_well_17 : decode cX12_well 17 = .ok (.i2l, 1) := by decide +kernel
theorem dX12_well_18 : decode cX12_well 18 = .ok (.lconst 0, 1) := by decide +kernel
theorem dX12_well_19 : decode cX12_well 19 = .ok (.ldc2_w 149, 3) := by decide +kernel
theorem dX12_well_22 : decode cX12_well 22 = .ok (.invokestatic 140, 3) := by decide +kernel
theorem dX12_well_25 : decode cX12_well 25 = .ok (.ifCond .eq 15, 3) := by decide +kernel
theorem dX12_well_28 : decode cX12_well 28 = .ok (.iload_n 3, 1) := by decide +kernel
theorem dX12_well_29 : decode cX12_well 29 = .ok (.i2l, 1) := by decide +kernel
theorem dX12_well_30 : decode cX12_well 30 = .ok (.lconst 0, 1) := by decide +kernel
theorem dX12_well_31 : decode cX12_well 31 = .ok (.ldc2_w 149, 3) := by decide +kernel
theorem dX12_well_34 : decode cX12_well 34 = .ok (.invokestatic 140, 3) := by decide +kernel
theorem dX12_well_37 : decode cX12_well 37 = .ok (.ifCond .ne 6, 3) := by decide +kernel
theorem dX12_well_40 : decode cX12_well 40 = .ok (.ldc 153, 2) := by decide +kernel
theorem dX12_well_42 : decode cX12_well 42 = .ok (.ireturn, 1) := by decide +kernel
theorem dX12_well_43 : decode cX12_well 43 = .ok (.aload_n 0, 1) := by decide +kernel
theorem dX12_well_44 : decode cX12_well 44 = .ok (.getfield 144, 3) := by decide +kernel
theorem dX12_well_47 : decode cX12_well 47 = .ok (.iconst 3, 1) := by decide +kernel
theorem dX12_well_48 : decode cX12_well 48 = .ok (.if_icmp .ne 6, 3) := by decide +kernel
theorem dX12_well_51 : decode cX12_well 51 = .ok (.ldc 154, 2) := by decide +kernel
theorem dX12_well_53 : decode cX12_well 53 = .ok (.ireturn, 1) := by decide +kernel
theorem dX12_well_54 : decode cX12_well 54 = .ok (.aload_n 0, 1) := by decide +kernel
theorem dX12_well_55 : decode cX12_well 55 = .ok (.getfield 49, 3) := by decide +kernel
theorem dX12_well_58 : decode cX12_well 58 = .ok (.aload_n 0, 1) := by decide +kernel
theorem dX12_well_59 : decode cX12_well 59 = .ok (.getfield 144, 3) := by decide +kernel
theorem dX12_well_62 : decode cX12_well 62 = .ok (.iload_n 1, 1) := by decide +kernel
theorem dX12_well_63 : decode cX12_well 63 = .ok (.iastore, 1) := by decide +kernel
theorem dX12_well_64 : decode cX12_well 64 = .ok (.aload_n 0, 1) := by decide +kernel
theorem dX12_well_65 : decode cX12_well 65 = .ok (.getfield 52, 3) := by decide +kernel
theorem dX12_well_68 : decode cX12_well 68 = .ok (.aload_n 0, 1) := by decide +kernel
theorem dX12_well_69 : decode cX12_well 69 = .ok (.getfield 144, 3) := by decide +kernel
theorem dX12_well_72 : decode cX12_well 72 = .ok (.iload_n 2, 1) := by decide +kernel
theorem dX12_well_73 : decode cX12_well 73 = .ok (.iastore, 1) := by decide +kernel
theorem dX12_well_74 : decode cX12_well 74 = .ok (.aload_n 0, 1) := by decide +kernel
theorem dX12_well_75 : decode cX12_well 75 = .ok (.getfield 55, 3) := by decide +kernel
theorem dX12_well_78 : decode cX12_well 78 = .ok (.aload_n 0, 1) := by decide +kernel
theorem dX12_well_79 : decode cX12_well 79 = .ok (.getfield 144, 3) := by decide +kernel
theorem dX12_well_82 : decode cX12_well 82 = .ok (.iload_n 3, 1) := by decide +kernel
theorem dX12_well_83 : decode cX12_well 83 = .ok (.iastore, 1) := by decide +kernel
theorem dX12_well_84 : decode cX12_well 84 = .ok (.aload_n 0, 1) := by decide +kernel
theorem dX12_well_85 : decode cX12_well 85 = .ok (.dup, 1) := by decide +kernel
theorem dX12_well_86 : decode cX12_well 86 = .ok (.getfield 144, 3) := by decide +kernel
theorem dX12_well_89 : decode cX12_well 89 = .ok (.iconst 1, 1) := by decide +kernel
theorem dX12_well_90 : decode cX12_well 90 = .ok (.iadd, 1) := by decide +kernel
theorem dX12_well_91 : decode cX12_well 91 = .ok (.putfield 144, 3) := by decide +kernel
theorem dX12_well_94 : decode cX12_well 94 = .ok (.aload_n 0, 1) := by decide +kernel
theorem dX12_well_95 : decode cX12_well 95 = .ok (.getfield 144, 3) := by decide +kernel
theorem dX12_well_98 : decode cX12_well 98 = .ok (.iconst 1, 1) := by decide +kernel
theorem dX12_well_99 : decode cX12_well 99 = .ok (.isub, 1) := by decide +kernel
theorem dX12_well_100 : decode cX12_well 100 = .ok (.ireturn, 1) := by decide +kernel
theorem dX12_rain_0 : decode cX12_rain 0 = .ok (.aload_n 0, 1) := by decide +kernel
theorem dX12_rain_1 : decode cX12_rain 1 = .ok (.iconst 0, 1) := by decide +kernel
theorem dX12_rain_2 : decode cX12_rain 2 = .ok (.putfield 133, 3) := by decide +kernel
theorem dX12_rain_5 : decode cX12_rain 5 = .ok (.aload_n 0, 1) := by decide +kernel
theorem dX12_rain_6 : decode cX12_rain 6 = .ok (.iload_n 1, 1) := by decide +kernel
theorem dX12_rain_7 : decode cX12_rain 7 = .ok (.invokevirtual 155, 3) := by decide +kernel
theorem dX12_rain_10 : decode cX12_rain 10 = .ok (.ifCond .eq 6, 3) := by decide +kernel
theorem dX12_rain_13 : decode cX12_rain 13 = .ok (.ldc 159, 2) := by decide +kernel
theorem dX12_rain_15 : decode cX12_rain 15 = .ok (.ireturn, 1) := by decide +kernel
theorem dX12_rain_16 : decode cX12_rain 16 = .ok (.iload_n 2, 1) := by decide +kernel
theorem dX12_rain_17 : decode cX12_rain 17 = .ok (.i2l, 1) := by decide +kernel
theorem dX12_rain_18 : decode cX12_rain 18 = .ok (.lconst 0, 1) := by decide +kernel
theorem dX12_rain_19 : decode cX12_rain 19 = .ok (.ldc2_w 149, 3) := by decide +kernel
theorem dX12_rain_22 : decode cX12_rain 22 = .ok (.invokestatic 140, 3) := by decide +kernel
theorem dX12_rain_25 : decode cX12_rain 25 = .ok (.ifCond .ne 6, 3) := by decide +kernel
theorem dX12_rain_28 : decode cX12_rain 28 = .ok (.ldc 153, 2) := by decide +kernel
theorem dX12_rain_30 : decode cX12_rain 30 = .ok (.ireturn, 1) := by decide +kernel
theorem dX12_rain_31 : decode cX12_rain 31 = .ok (.aload_n 0, 1) := by decide +kernel
theorem dX12_rain_32 : decode cX12_rain 32 = .ok (.getfield 13, 3) := by decide +kernel
theorem dX12_rain_35 : decode cX12_rain 35 = .ok (.iload_n 1, 1) := by decide +kernel
theorem dX12_rain_36 : decode cX12_rain 36 = .ok (.iaload, 1) := by decide +kernel
theorem dX12_rain_37 : decode cX12_rain 37 = .ok (.istore_n 3, 1) := by decide +kernel
theorem dX12_rain_38 : decode cX12_rain 38 = .ok (.aload_n 0, 1) := by decide +kernel
theorem dX12_rain_39 : decode cX12_rain 39 = .ok (.getfield 13, 3) := by decide +kernel
theorem dX12_rain_42 : decode cX12_rain 42 = .ok (.iload_n 1, 1) := by decide +kernel
theorem dX12_rain_43 : decode cX12_rain 43 = .ok (.iload_n 2, 1) := by decide +kernel
theorem dX12_rain_44 : decode cX12_rain 44 = .ok (.iastore, 1) := by decide +kernel
theorem dX12_rain_45 : decode cX12_rain 45 = .ok (.iload_n 3, 1) := by decide +kernel
theorem dX12_rain_46 : decode cX12_rain 46 = .ok (.ireturn, 1) := by decide +kernel
theorem dX12_ease_0 : decode cX12_ease 0 = .ok (.aload_n 0, 1) := by decide +kernel
theorem dX12_ease_1 : decode cX12_ease 1 = .ok (.iconst 0, 1) := by decide +kernel
theorem dX12_ease_2 : decode cX12_ease 2 = .ok (.putfield 133, 3) := by decide +kernel
theorem dX12_ease_5 : decode cX12_ease 5 = .ok (.iload_n 1, 1) := by decide +kernel
theorem dX12_ease_6 : decode cX12_ease 6 = .ok (.i2l, 1) := by decide +kernel
theorem dX12_ease_7 : decode cX12_ease 7 = .ok (.lconst 0, 1) := by decide +kernel
theorem dX12_ease_8 : decode cX12_ease 8 = .ok (.aload_n 0, 1) := by decide +kernel
theorem dX12_ease_9 : decode cX12_ease 9 = .ok (.getfield 164, 3) := by decide +kernel
theorem dX12_ease_12 : decode cX12_ease 12 = .ok (.iconst 1, 1) := by decide +kernel
theorem dX12_ease_13 : decode cX12_ease 13 = .ok (.isub, 1) := by decide +kernel
theorem dX12_ease_14 : decode cX12_ease 14 = .ok (.i2l, 1) := by decide +kernel
theorem dX12_ease_15 : decode cX12_ease 15 = .ok (.invokestatic 140, 3) := by decide +kernel
theorem dX12_ease_18 : decode cX12_ease 18 = .ok (.ifCond .ne 6, 3) := by decide +kernel
theorem dX12_ease_21 : decode cX12_ease 21 = .ok (.ldc 159, 2) := by decide +kernel
theorem dX12_ease_23 : decode cX12_ease 23 = .ok (.ireturn, 1) := by decide +kernel
theorem dX12_ease_24 : decode cX12_ease 24 = .ok (.iload_n 2, 1) := by decide +kernel
theorem dX12_ease_25 : decode cX12_ease 25 = .ok (.invokestatic 160, 3) := by decide +kernel
theorem dX12_ease_28 : decode cX12_ease 28 = .ok (.ifCond .eq 6, 3) := by decide +kernel
theorem dX12_ease_31 : decode cX12_ease 31 = .ok (.ldc 153, 2) := by decide +kernel
theorem dX12_ease_33 : decode cX12_ease 33 = .ok (.ireturn, 1) := by decide +kernel
theorem dX12_ease_34 : decode cX12_ease 34 = .ok (.aload_n 0, 1) := by decide +kernel
theorem dX12_ease_35 : decode cX12_ease 35 = .ok (.getfield 25, 3) := by decide +kernel
theorem dX12_ease_38 : decode cX12_ease 38 = .ok (.iload_n 1, 1) := by decide +kernel
theorem dX12_ease_39 : decode cX12_ease 39 = .ok (.iaload, 1) := by decide +kernel
theorem dX12_ease_40 : decode cX12_ease 40 = .ok (.istore_n 3, 1) := by decide +kernel
theorem dX12_ease_41 : decode cX12_ease 41 = .ok (.aload_n 0, 1) := by decide +kernel
theorem dX12_ease_42 : decode cX12_ease 42 = .ok (.getfield 25, 3) := by decide +kernel
theorem dX12_ease_45 : decode cX12_ease 45 = .ok (.iload_n 1, 1) := by decide +kernel
theorem dX12_ease_46 : decode cX12_ease 46 = .ok (.iload_n 2, 1) := by decide +kernel
theorem dX12_ease_47 : decode cX12_ease 47 = .ok (.iastore, 1) := by decide +kernel
theorem dX12_ease_48 : decode cX12_ease 48 = .ok (.iload_n 3, 1) := by decide +kernel
theorem dX12_ease_49 : decode cX12_ease 49 = .ok (.ireturn, 1) := by decide +kernel
theorem dX12_rate_0 : decode cX12_rate 0 = .ok (.aload_n 0, 1) := by decide +kernel
theorem dX12_rate_1 : decode cX12_rate 1 = .ok (.iconst 0, 1) := by decide +kernel
theorem dX12_rate_2 : decode cX12_rate 2 = .ok (.putfield 133, 3) := by decide +kernel
theorem dX12_rate_5 : decode cX12_rate 5 = .ok (.aload_n 0, 1) := by decide +kernel
theorem dX12_rate_6 : decode cX12_rate 6 = .ok (.iload_n 1, 1) := by decide +kernel
theorem dX12_rate_7 : decode cX12_rate 7 = .ok (.invokevirtual 175, 3) := by decide +kernel
theorem dX12_rate_10 : decode cX12_rate 10 = .ok (.ifCond .eq 6, 3) := by decide +kernel
theorem dX12_rate_13 : decode cX12_rate 13 = .ok (.ldc 159, 2) := by decide +kernel
theorem dX12_rate_15 : decode cX12_rate 15 = .ok (.ireturn, 1) := by decide +kernel
theorem dX12_rate_16 : decode cX12_rate 16 = .ok (.iload_n 2, 1) := by decide +kernel
theorem dX12_rate_17 : decode cX12_rate 17 = .ok (.i2l, 1) := by decide +kernel
theorem dX12_rate_18 : decode cX12_rate 18 = .ok (.lconst 0, 1) := by decide +kernel
theorem dX12_rate_19 : decode cX12_rate 19 = .ok (.aload_n 0, 1) := by decide +kernel
theorem dX12_rate_20 : decode cX12_rate 20 = .ok (.getfield 52, 3) := by decide +kernel
theorem dX12_rate_23 : decode cX12_rate 23 = .ok (.iload_n 1, 1) := by decide +kernel
theorem dX12_rate_24 : decode cX12_rate 24 = .ok (.iaload, 1) := by decide +kernel
theorem dX12_rate_25 : decode cX12_rate 25 = .ok (.i2l, 1) := by decide +kernel
theorem dX12_rate_26 : decode cX12_rate 26 = .ok (.invokestatic 140, 3) := by decide +kernel
theorem dX12_rate_29 : decode cX12_rate 29 = .ok (.ifCond .ne 6, 3) := by decide +kernel
theorem dX12_rate_32 : decode cX12_rate 32 = .ok (.ldc 153, 2) := by decide +kernel
theorem dX12_rate_34 : decode cX12_rate 34 = .ok (.ireturn, 1) := by decide +kernel
theorem dX12_rate_35 : decode cX12_rate 35 = .ok (.aload_n 0, 1) := by decide +kernel
theorem dX12_rate_36 : decode cX12_rate 36 = .ok (.getfield 58, 3) := by decide +kernel
theorem dX12_rate_39 : decode cX12_rate 39 = .ok (.iload_n 1, 1) := by decide +kernel
theorem dX12_rate_40 : decode cX12_rate 40 = .ok (.iaload, 1) := by decide +kernel
theorem dX12_rate_41 : decode cX12_rate 41 = .ok (.istore_n 3, 1) := by decide +kernel
theorem dX12_rate_42 : decode cX12_rate 42 = .ok (.aload_n 0, 1) := by decide +kernel
theorem dX12_rate_43 : decode cX12_rate 43 = .ok (.getfield 58, 3) := by decide +kernel
theorem dX12_rate_46 : decode cX12_rate 46 = .ok (.iload_n 1, 1) := by decide +kernel
theorem dX12_rate_47 : decode cX12_rate 47 = .ok (.iload_n 2, 1) := by decide +kernel
theorem dX12_rate_48 : decode cX12_rate 48 = .ok (.iastore, 1) := by decide +kernel
theorem dX12_rate_49 : decode cX12_rate 49 = .ok (.iload_n 3, 1) := by decide +kernel
theorem dX12_rate_50 : decode cX12_rate 50 = .ok (.ireturn, 1) := by decide +kernel
theorem dX12_stage_0 : decode cX12_stage 0 = .ok (.aload_n 0, 1) := by decide +kernel
theorem dX12_stage_1 : decode cX12_stage 1 = .ok (.iconst 0, 1) := by decide +kernel
theorem dX12_stage_2 : decode cX12_stage 2 = .ok (.putfield 133, 3) := by decide +kernel
theorem dX12_stage_5 : decode cX12_stage 5 = .ok (.iload_n 1, 1) := by decide +kernel
theorem dX12_stage_6 : decode cX12_stage 6 = .ok (.i2l, 1) := by decide +kernel
theorem dX12_stage_7 : decode cX12_stage 7 = .ok (.lconst 0, 1) := by decide +kernel
theorem dX12_stage_8 : decode cX12_stage 8 = .ok (.aload_n 0, 1) := by decide +kernel
theorem dX12_stage_9 : decode cX12_stage 9 = .ok (.getfield 169, 3) := by decide +kernel
theorem dX12_stage_12 : decode cX12_stage 12 = .ok (.iconst 1, 1) := by decide +kernel
theorem dX12_stage_13 : decode cX12_stage 13 = .ok (.isub, 1) := by decide +kernel
theorem dX12_stage_14 : decode cX12_stage 14 = .ok (.i2l, 1) := by decide +kernel
theorem dX12_stage_15 : decode cX12_stage 15 = .ok (.invokestatic 140, 3) := by decide +kernel
theorem dX12_stage_18 : decode cX12_stage 18 = .ok (.ifCond .ne 6, 3) := by decide +kernel
theorem dX12_stage_21 : decode cX12_stage 21 = .ok (.ldc 159, 2) := by decide +kernel
theorem dX12_stage_23 : decode cX12_stage 23 = .ok (.ireturn, 1) := by decide +kernel
theorem dX12_stage_24 : decode cX12_stage 24 = .ok (.iload_n 2, 1) := by decide +kernel
theorem dX12_stage_25 : decode cX12_stage 25 = .ok (.i2l, 1) := by decide +kernel
theorem dX12_stage_26 : decode cX12_stage 26 = .ok (.aload_n 0, 1) := by decide +kernel
theorem dX12_stage_27 : decode cX12_stage 27 = .ok (.getfield 34, 3) := by decide +kernel
theorem dX12_stage_30 : decode cX12_stage 30 = .ok (.iload_n 1, 1) := by decide +kernel
theorem dX12_stage_31 : decode cX12_stage 31 = .ok (.iaload, 1) := by decide +kernel
theorem dX12_stage_32 : decode cX12_stage 32 = .ok (.i2l, 1) := by decide +kernel
theorem dX12_stage_33 : decode cX12_stage 33 = .ok (.ldc2_w 167, 3) := by decide +kernel
theorem dX12_stage_36 : decode cX12_stage 36 = .ok (.invokestatic 140, 3) := by decide +kernel
theorem dX12_stage_39 : decode cX12_stage 39 = .ok (.ifCond .ne 6, 3) := by decide +kernel
theorem dX12_stage_42 : decode cX12_stage 42 = .ok (.ldc 153, 2) := by decide +kernel
theorem dX12_stage_44 : decode cX12_stage 44 = .ok (.ireturn, 1) := by decide +kernel
theorem dX12_stage_45 : decode cX12_stage 45 = .ok (.aload_n 0, 1) := by decide +kernel
theorem dX12_stage_46 : decode cX12_stage 46 = .ok (.getfield 31, 3) := by decide +kernel
theorem dX12_stage_49 : decode cX12_stage 49 = .ok (.iload_n 1, 1) := by decide +kernel
theorem dX12_stage_50 : decode cX12_stage 50 = .ok (.iaload, 1) := by decide +kernel
theorem dX12_stage_51 : decode cX12_stage 51 = .ok (.istore_n 3, 1) := by decide +kernel
theorem dX12_stage_52 : decode cX12_stage 52 = .ok (.aload_n 0, 1) := by decide +kernel
theorem dX12_stage_53 : decode cX12_stage 53 = .ok (.getfield 31, 3) := by decide +kernel
theorem dX12_stage_56 : decode cX12_stage 56 = .ok (.iload_n 1, 1) := by decide +kernel
theorem dX12_stage_57 : decode cX12_stage 57 = .ok (.iload_n 2, 1) := by decide +kernel
theorem dX12_stage_58 : decode cX12_stage 58 = .ok (.iastore, 1) := by decide +kernel
theorem dX12_stage_59 : decode cX12_stage 59 = .ok (.iload_n 3, 1) := by decide +kernel
theorem dX12_stage_60 : decode cX12_stage 60 = .ok (.ireturn, 1) := by decide +kernel
theorem dX12_power_0 : decode cX12_power 0 = .ok (.lconst 1, 1) := by decide +kernel
theorem dX12_power_1 : decode cX12_power 1 = .ok (.lstore 6, 2) := by decide +kernel
theorem dX12_power_3 : decode cX12_power 3 = .ok (.lload_n 0, 1) := by decide +kernel
theorem dX12_power_4 : decode cX12_power 4 = .ok (.lload 4, 2) := by decide +kernel
theorem dX12_power_6 : decode cX12_power 6 = .ok (.lrem, 1) := by decide +kernel
theorem dX12_power_7 : decode cX12_power 7 = .ok (.lstore 8, 2) := by decide +kernel
theorem dX12_power_9 : decode cX12_power 9 = .ok (.lload_n 2, 1) := by decide +kernel
theorem dX12_power_10 : decode cX12_power 10 = .ok (.lstore 10, 2) := by decide +kernel
theorem dX12_power_12 : decode cX12_power 12 = .ok (.lload 10, 2) := by decide +kernel
theorem dX12_power_14 : decode cX12_power 14 = .ok (.lconst 0, 1) := by decide +kernel
theorem dX12_power_15 : decode cX12_power 15 = .ok (.lcmp, 1) := by decide +kernel
theorem dX12_power_16 : decode cX12_power 16 = .ok (.ifCond .le 50, 3) := by decide +kernel
theorem dX12_power_19 : decode cX12_power 19 = .ok (.lload 10, 2) := by decide +kernel
theorem dX12_power_21 : decode cX12_power 21 = .ok (.ldc2_w 178, 3) := by decide +kernel
theorem dX12_power_24 : decode cX12_power 24 = .ok (.lrem, 1) := by decide +kernel
theorem dX12_power_25 : decode cX12_power 25 = .ok (.lconst 1, 1) := by decide +kernel
theorem dX12_power_26 : decode cX12_power 26 = .ok (.lcmp, 1) := by decide +kernel
theorem dX12_power_27 : decode cX12_power 27 = .ok (.ifCond .ne 14, 3) := by decide +kernel
theorem dX12_power_30 : decode cX12_power 30 = .ok (.lload 6, 2) := by decide +kernel
theorem dX12_power_32 : decode cX12_power 32 = .ok (.lload 8, 2) := by decide +kernel
theorem dX12_power_34 : decode cX12_power 34 = .ok (.lmul, 1) := by decide +kernel
theorem dX12_power_35 : decode cX12_power 35 = .ok (.lload 4, 2) := by decide +kernel
theorem dX12_power_37 : decode cX12_power 37 = .ok (.lrem, 1) := by decide +kernel
theorem dX12_power_38 : decode cX12_power 38 = .ok (.goto 5, 3) := by decide +kernel
theorem dX12_power_41 : decode cX12_power 41 = .ok (.lload 6, 2) := by decide +kernel
theorem dX12_power_43 : decode cX12_power 43 = .ok (.lstore 6, 2) := by decide +kernel
theorem dX12_power_45 : decode cX12_power 45 = .ok (.lload 8, 2) := by decide +kernel
theorem dX12_power_47 : decode cX12_power 47 = .ok (.lload 8, 2) := by decide +kernel
theorem dX12_power_49 : decode cX12_power 49 = .ok (.lmul, 1) := by decide +kernel
theorem dX12_power_50 : decode cX12_power 50 = .ok (.lload 4, 2) := by decide +kernel
theorem dX12_power_52 : decode cX12_power 52 = .ok (.lrem, 1) := by decide +kernel
theorem dX12_power_53 : decode cX12_power 53 = .ok (.lstore 8, 2) := by decide +kernel
theorem dX12_power_55 : decode cX12_power 55 = .ok (.lload 10, 2) := by decide +kernel
theorem dX12_power_57 : decode cX12_power 57 = .ok (.ldc2_w 178, 3) := by decide +kernel
theorem dX12_power_60 : decode cX12_power 60 = .ok (.ldiv, 1) := by decide +kernel
theorem dX12_power_61 : decode cX12_power 61 = .ok (.lstore 10, 2) := by decide +kernel
theorem dX12_power_63 : decode cX12_power 63 = .ok (.goto (-51), 3) := by decide +kernel
theorem dX12_power_66 : decode cX12_power 66 = .ok (.lload 6, 2) := by decide +kernel
theorem dX12_power_68 : decode cX12_power 68 = .ok (.lreturn, 1) := by decide +kernel
theorem dX12_determinant_0 : decode cX12_determinant 0 = .ok (.iconst 0, 1) := by decide +kernel
theorem dX12_determinant_1 : decode cX12_determinant 1 = .ok (.istore 4, 2) := by decide +kernel
theorem dX12_determinant_3 : decode cX12_determinant 3 = .ok (.iload 4, 2) := by decide +kernel
theorem dX12_determinant_5 : decode cX12_determinant 5 = .ok (.aload_n 0, 1) := by decide +kernel
theorem dX12_determinant_6 : decode cX12_determinant 6 = .ok (.getfield 137, 3) := by decide +kernel
theorem dX12_determinant_9 : decode cX12_determinant 9 = .ok (.if_icmp .ge 89, 3) := by decide +kernel
theorem dX12_determinant_12 : decode cX12_determinant 12 = .ok (.iconst 0, 1) := by decide +kernel
theorem dX12_determinant_13 : decode cX12_determinant 13 = .ok (.istore 5, 2) := by decide +kernel
theorem dX12_determinant_15 : decode cX12_determinant 15 = .ok (.iload 5, 2) := by decide +kernel
theorem dX12_determinant_17 : decode cX12_determinant 17 = .ok (.aload_n 0, 1) := by decide +kernel
theorem dX12_determinant_18 : decode cX12_determinant 18 = .ok (.getfield 137, 3) := by decide +kernel
theorem dX12_determinant_21 : decode cX12_determinant 21 = .ok (.if_icmp .ge 71, 3) := by decide +kernel
theorem dX12_determinant_24 : decode cX12_determinant 24 = .ok (.iload 5, 2) := by decide +kernel
theorem dX12_determinant_26 : decode cX12_determinant 26 = .ok (.iload_n 1, 1) := by decide +kernel
theorem dX12_determinant_27 : decode cX12_determinant 27 = .ok (.if_icmp .ne 13, 3) := by decide +kernel
theorem dX12_determinant_30 : decode cX12_determinant 30 = .ok (.aload_n 0, 1) := by decide +kernel
theorem dX12_determinant_31 : decode cX12_determinant 31 = .ok (.getfield 74, 3) := by decide +kernel
theorem dX12_determinant_34 : decode cX12_determinant 34 = .ok (.iload 4, 2) := by decide +kernel
theorem dX12_determinant_36 : decode cX12_determinant 36 = .ok (.laload, 1) := by decide +kernel
theorem dX12_determinant_37 : decode cX12_determinant 37 = .ok (.goto 16, 3) := by decide +kernel
theorem dX12_determinant_40 : decode cX12_determinant 40 = .ok (.aload_n 0, 1) := by decide +kernel
theorem dX12_determinant_41 : decode cX12_determinant 41 = .ok (.getfield 71, 3) := by decide +kernel
theorem dX12_determinant_44 : decode cX12_determinant 44 = .ok (.bipush 6, 2) := by decide +kernel
theorem dX12_determinant_46 : decode cX12_determinant 46 = .ok (.iload 4, 2) := by decide +kernel
theorem dX12_determinant_48 : decode cX12_determinant 48 = .ok (.imul, 1) := by decide +kernel
theorem dX12_determinant_49 : decode cX12_determinant 49 = .ok (.iload 5, 2) := by decide +kernel
theorem dX12_determinant_51 : decode cX12_determinant 51 = .ok (.iadd, 1) := by decide +kernel
theorem dX12_determinant_52 : decode cX12_determinant 52 = .ok (.laload, 1) := by decide +kernel
theorem dX12_determinant_53 : decode cX12_determinant 53 = .ok (.lload_n 2, 1) := by decide +kernel
theorem dX12_determinant_54 : decode cX12_determinant 54 = .ok (.lrem, 1) := by decide +kernel
theorem dX12_determinant_55 : decode cX12_determinant 55 = .ok (.lstore 6, 2) := by decide +kernel
theorem dX12_determinant_57 : decode cX12_determinant 57 = .ok (.aload_n 0, 1) := by decide +kernel
theorem dX12_determinant_58 : decode cX12_determinant 58 = .ok (.getfield 77, 3) := by decide +kernel
theorem dX12_determinant_61 : decode cX12_determinant 61 = .ok (.bipush 6, 2) := by decide +kernel
theorem dX12_determinant_63 : decode cX12_determinant 63 = .ok (.iload 4, 2) := by decide +kernel
theorem dX12_determinant_65 : decode cX12_determinant 65 = .ok (.imul, 1) := by decide +kernel
theorem dX12_determinant_66 : decode cX12_determinant 66 = .ok (.iload 5, 2) := by decide +kernel
theorem dX12_determinant_68 : decode cX12_determinant 68 = .ok (.iadd, 1) := by decide +kernel
theorem dX12_determinant_69 : decode cX12_determinant 69 = .ok (.lload 6, 2) := by decide +kernel
theorem dX12_determinant_71 : decode cX12_determinant 71 = .ok (.lconst 0, 1) := by decide +kernel
theorem dX12_determinant_72 : decode cX12_determinant 72 = .ok (.lcmp, 1) := by decide +kernel
theorem dX12_determinant_73 : decode cX12_determinant 73 = .ok (.ifCond .ge 10, 3) := by decide +kernel
theorem dX12_determinant_76 : decode cX12_determinant 76 = .ok (.lload 6, 2) := by decide +kernel
theorem dX12_determinant_78 : decode cX12_determinant 78 = .ok (.lload_n 2, 1) := by decide +kernel
theorem dX12_determinant_79 : decode cX12_determinant 79 = .ok (.ladd, 1) := by decide +kernel
theorem dX12_determinant_80 : decode cX12_determinant 80 = .ok (.goto 5, 3) := by decide +kernel
theorem dX12_determinant_83 : decode cX12_determinant 83 = .ok (.lload 6, 2) := by decide +kernel
theorem dX12_determinant_85 : decode cX12_determinant 85 = .ok (.lastore, 1) := by decide +kernel
theorem dX12_determinant_86 : decode cX12_determinant 86 = .ok (.iinc 5 1, 3) := by decide +kernel
theorem dX12_determinant_89 : decode cX12_determinant 89 = .ok (.goto (-74), 3) := by decide +kernel
theorem dX12_determinant_92 : decode cX12_determinant 92 = .ok (.iinc 4 1, 3) := by decide +kernel
theorem dX12_determinant_95 : decode cX12_determinant 95 = .ok (.goto (-92), 3) := by decide +kernel
theorem dX12_determinant_98 : decode cX12_determinant 98 = .ok (.lconst 1, 1) := by decide +kernel
theorem dX12_determinant_99 : decode cX12_determinant 99 = .ok (.lstore 4, 2) := by decide +kernel
theorem dX12_determinant_101 : decode cX12_determinant 101 = .ok (.iconst 0, 1) := by decide +kernel
theorem dX12_determinant_102 : decode cX12_determinant 102 = .ok (.istore 6, 2) := by decide +kernel
theorem dX12_determinant_104 : decode cX12_determinant 104 = .ok (.iload 6, 2) := by decide +kernel
theorem dX12_determinant_106 : decode cX12_determinant 106 = .ok (.aload_n 0, 1) := by decide +kernel
theorem dX12_determinant_107 : decode cX12_determinant 107 = .ok (.getfield 137, 3) := by decide +kernel
theorem dX12_determinant_110 : decode cX12_determinant 110 = .ok (.if_icmp .ge 297, 3) := by decide +kernel
theorem dX12_determinant_113 : decode cX12_determinant 113 = .ok (.iload 6, 2) := by decide +kernel
theorem dX12_determinant_115 : decode cX12_determinant 115 = .ok (.istore 7, 2) := by decide +kernel
theorem dX12_determinant_117 : decode cX12_determinant 117 = .ok (.iload 7, 2) := by decide +kernel
theorem dX12_determinant_119 : decode cX12_determinant 119 = .ok (.aload_n 0, 1) := by decide +kernel
theorem dX12_determinant_120 : decode cX12_determinant 120 = .ok (.getfield 137, 3) := by decide +kernel
theorem dX12_determinant_123 : decode cX12_determinant 123 = .ok (.if_icmp .ge 27, 3) := by decide +kernel
theorem dX12_determinant_126 : decode cX12_determinant 126 = .ok (.aload_n 0, 1) := by decide +kernel
theorem dX12_determinant_127 : decode cX12_determinant 127 = .ok (.getfield 77, 3) := by decide +kernel
theorem dX12_determinant_130 : decode cX12_determinant 130 = .ok (.bipush 6, 2) := by decide +kernel
theorem dX12_determinant_132 : decode cX12_determinant 132 = .ok (.iload 7, 2) := by decide +kernel
theorem dX12_determinant_134 : decode cX12_determinant 134 = .ok (.imul, 1) := by decide +kernel
theorem dX12_determinant_135 : decode cX12_determinant 135 = .ok (.iload 6, 2) := by decide +kernel
theorem dX12_determinant_137 : decode cX12_determinant 137 = .ok (.iadd, 1) := by decide +kernel
theorem dX12_determinant_138 : decode cX12_determinant 138 = .ok (.laload, 1) := by decide +kernel
theorem dX12_determinant_139 : decode cX12_determinant 139 = .ok (.lconst 0, 1) := by decide +kernel
theorem dX12_determinant_140 : decode cX12_determinant 140 = .ok (.lcmp, 1) := by decide +kernel
theorem dX12_determinant_141 : decode cX12_determinant 141 = .ok (.ifCond .ne 9, 3) := by decide +kernel
theorem dX12_determinant_144 : decode cX12_determinant 144 = .ok (.iinc 7 1, 3) := by decide +kernel
theorem dX12_determinant_147 : decode cX12_determinant 147 = .ok (.goto (-30), 3) := by decide +kernel
theorem dX12_determinant_150 : decode cX12_determinant 150 = .ok (.iload 7, 2) := by decide +kernel
theorem dX12_determinant_152 : decode cX12_determinant 152 = .ok (.aload_n 0, 1) := by decide +kernel
theorem dX12_determinant_153 : decode cX12_determinant 153 = .ok (.getfield 137, 3) := by decide +kernel
theorem dX12_determinant_156 : decode cX12_determinant 156 = .ok (.if_icmp .ne 5, 3) := by decide +kernel
theorem dX12_determinant_159 : decode cX12_determinant 159 = .ok (.lconst 0, 1) := by decide +kernel
theorem dX12_determinant_160 : decode cX12_determinant 160 = .ok (.lreturn, 1) := by decide +kernel
theorem dX12_determinant_161 : decode cX12_determinant 161 = .ok (.iload 7, 2) := by decide +kernel
theorem dX12_determinant_163 : decode cX12_determinant 163 = .ok (.iload 6, 2) := by decide +kernel
theorem dX12_determinant_165 : decode cX12_determinant 165 = .ok (.if_icmp .eq 85, 3) := by decide +kernel
theorem dX12_determinant_168 : decode cX12_determinant 168 = .ok (.iconst 0, 1) := by decide +kernel
theorem dX12_determinant_169 : decode cX12_determinant 169 = .ok (.istore 8, 2) := by decide +kernel
theorem dX12_determinant_171 : decode cX12_determinant 171 = .ok (.iload 8, 2) := by decide +kernel
theorem dX12_determinant_173 : decode cX12_determinant 173 = .ok (.aload_n 0, 1) := by decide +kernel
theorem dX12_determinant_174 : decode cX12_determinant 174 = .ok (.getfield 137, 3) := by decide +kernel
theorem dX12_determinant_177 : decode cX12_determinant 177 = .ok (.if_icmp .ge 65, 3) := by decide +kernel
theorem dX12_determinant_180 : decode cX12_determinant 180 = .ok (.aload_n 0, 1) := by decide +kernel
theorem dX12_determinant_181 : decode cX12_determinant 181 = .ok (.getfield 77, 3) := by decide +kernel
theorem dX12_determinant_184 : decode cX12_determinant 184 = .ok (.bipush 6, 2) := by decide +kernel
theorem dX12_determinant_186 : decode cX12_determinant 186 = .ok (.iload 6, 2) := by decide +kernel
theorem dX12_determinant_188 : decode cX12_determinant 188 = .ok (.imul, 1) := by decide +kernel
theorem dX12_determinant_189 : decode cX12_determinant 189 = .ok (.iload 8, 2) := by decide +kernel
theorem dX12_determinant_191 : decode cX12_determinant 191 = .ok (.iadd, 1) := by decide +kernel
theorem dX12_determinant_192 : decode cX12_determinant 192 = .ok (.laload, 1) := by decide +kernel
theorem dX12_determinant_193 : decode cX12_determinant 193 = .ok (.lstore 9, 2) := by decide +kernel
theorem dX12_determinant_195 : decode cX12_determinant 195 = .ok (.aload_n 0, 1) := by decide +kernel
theorem dX12_determinant_196 : decode cX12_determinant 196 = .ok (.getfield 77, 3) := by decide +kernel
theorem dX12_determinant_199 : decode cX12_determinant 199 = .ok (.bipush 6, 2) := by decide +kernel
theorem dX12_determinant_201 : decode cX12_determinant 201 = .ok (.iload 6, 2) := by decide +kernel
theorem dX12_determinant_203 : decode cX12_determinant 203 = .ok (.imul, 1) := by decide +kernel
theorem dX12_determinant_204 : decode cX12_determinant 204 = .ok (.iload 8, 2) := by decide +kernel
theorem dX12_determinant_206 : decode cX12_determinant 206 = .ok (.iadd, 1) := by decide +kernel
theorem dX12_determinant_207 : decode cX12_determinant 207 = .ok (.aload_n 0, 1) := by decide +kernel
theorem dX12_determinant_208 : decode cX12_determinant 208 = .ok (.getfield 77, 3) := by decide +kernel
theorem dX12_determinant_211 : decode cX12_determinant 211 = .ok (.bipush 6, 2) := by decide +kernel
theorem dX12_determinant_213 : decode cX12_determinant 213 = .ok (.iload 7, 2) := by decide +kernel
theorem dX12_determinant_215 : decode cX12_determinant 215 = .ok (.imul, 1) := by decide +kernel
theorem dX12_determinant_216 : decode cX12_determinant 216 = .ok (.iload 8, 2) := by decide +kernel
theorem dX12_determinant_218 : decode cX12_determinant 218 = .ok (.iadd, 1) := by decide +kernel
theorem dX12_determinant_219 : decode cX12_determinant 219 = .ok (.laload, 1) := by decide +kernel
theorem dX12_determinant_220 : decode cX12_determinant 220 = .ok (.lastore, 1) := by decide +kernel
theorem dX12_determinant_221 : decode cX12_determinant 221 = .ok (.aload_n 0, 1) := by decide +kernel
theorem dX12_determinant_222 : decode cX12_determinant 222 = .ok (.getfield 77, 3) := by decide +kernel
theorem dX12_determinant_225 : decode cX12_determinant 225 = .ok (.bipush 6, 2) := by decide +kernel
theorem dX12_determinant_227 : decode cX12_determinant 227 = .ok (.iload 7, 2) := by decide +kernel
theorem dX12_determinant_229 : decode cX12_determinant 229 = .ok (.imul, 1) := by decide +kernel
theorem dX12_determinant_230 : decode cX12_determinant 230 = .ok (.iload 8, 2) := by decide +kernel
theorem dX12_determinant_232 : decode cX12_determinant 232 = .ok (.iadd, 1) := by decide +kernel
theorem dX12_determinant_233 : decode cX12_determinant 233 = .ok (.lload 9, 2) := by decide +kernel
theorem dX12_determinant_235 : decode cX12_determinant 235 = .ok (.lastore, 1) := by decide +kernel
theorem dX12_determinant_236 : decode cX12_determinant 236 = .ok (.iinc 8 1, 3) := by decide +kernel
theorem dX12_determinant_239 : decode cX12_determinant 239 = .ok (.goto (-68), 3) := by decide +kernel
theorem dX12_determinant_242 : decode cX12_determinant 242 = .ok (.lload_n 2, 1) := by decide +kernel
theorem dX12_determinant_243 : decode cX12_determinant 243 = .ok (.lload 4, 2) := by decide +kernel
theorem dX12_determinant_245 : decode cX12_determinant 245 = .ok (.lsub, 1) := by decide +kernel
theorem dX12_determinant_246 : decode cX12_determinant 246 = .ok (.lload_n 2, 1) := by decide +kernel
theorem dX12_determinant_247 : decode cX12_determinant 247 = .ok (.lrem, 1) := by decide +kernel
theorem dX12_determinant_248 : decode cX12_determinant 248 = .ok (.lstore 4, 2) := by decide +kernel
theorem dX12_determinant_250 : decode cX12_determinant 250 = .ok (.lload 4, 2) := by decide +kernel
theorem dX12_determinant_252 : decode cX12_determinant 252 = .ok (.aload_n 0, 1) := by decide +kernel
theorem dX12_determinant_253 : decode cX12_determinant 253 = .ok (.getfield 77, 3) := by decide +kernel
theorem dX12_determinant_256 : decode cX12_determinant 256 = .ok (.bipush 6, 2) := by decide +kernel
theorem dX12_determinant_258 : decode cX12_determinant 258 = .ok (.iload 6, 2) := by decide +kernel
theorem dX12_determinant_260 : decode cX12_determinant 260 = .ok (.imul, 1) := by decide +kernel
theorem dX12_determinant_261 : decode cX12_determinant 261 = .ok (.iload 6, 2) := by decide +kernel
theorem dX12_determinant_263 : decode cX12_determinant 263 = .ok (.iadd, 1) := by decide +kernel
theorem dX12_determinant_264 : decode cX12_determinant 264 = .ok (.laload, 1) := by decide +kernel
theorem dX12_determinant_265 : decode cX12_determinant 265 = .ok (.lmul, 1) := by decide +kernel
theorem dX12_determinant_266 : decode cX12_determinant 266 = .ok (.lload_n 2, 1) := by decide +kernel
theorem dX12_determinant_267 : decode cX12_determinant 267 = .ok (.lrem, 1) := by decide +kernel
theorem dX12_determinant_268 : decode cX12_determinant 268 = .ok (.lstore 4, 2) := by decide +kernel
theorem dX12_determinant_270 : decode cX12_determinant 270 = .ok (.aload_n 0, 1) := by decide +kernel
theorem dX12_determinant_271 : decode cX12_determinant 271 = .ok (.getfield 77, 3) := by decide +kernel
theorem dX12_determinant_274 : decode cX12_determinant 274 = .ok (.bipush 6, 2) := by decide +kernel
theorem dX12_determinant_276 : decode cX12_determinant 276 = .ok (.iload 6, 2) := by decide +kernel
theorem dX12_determinant_278 : decode cX12_determinant 278 = .ok (.imul, 1) := by decide +kernel
theorem dX12_determinant_279 : decode cX12_determinant 279 = .ok (.iload 6, 2) := by decide +kernel
theorem dX12_determinant_281 : decode cX12_determinant 281 = .ok (.iadd, 1) := by decide +kernel
theorem dX12_determinant_282 : decode cX12_determinant 282 = .ok (.laload, 1) := by decide +kernel
theorem dX12_determinant_283 : decode cX12_determinant 283 = .ok (.lload_n 2, 1) := by decide +kernel
theorem dX12_determinant_284 : decode cX12_determinant 284 = .ok (.ldc2_w 178, 3) := by decide +kernel
theorem dX12_determinant_287 : decode cX12_determinant 287 = .ok (.lsub, 1) := by decide +kernel
theorem dX12_determinant_288 : decode cX12_determinant 288 = .ok (.lload_n 2, 1) := by decide +kernel
theorem dX12_determinant_289 : decode cX12_determinant 289 = .ok (.invokestatic 180, 3) := by decide +kernel
theorem dX12_determinant_292 : decode cX12_determinant 292 = .ok (.lstore 8, 2) := by decide +kernel
theorem dX12_determinant_294 : decode cX12_determinant 294 = .ok (.iload 6, 2) := by decide +kernel
theorem dX12_determinant_296 : decode cX12_determinant 296 = .ok (.iconst 1, 1) := by decide +kernel
theorem dX12_determinant_297 : decode cX12_determinant 297 = .ok (.iadd, 1) := by decide +kernel
theorem dX12_determinant_298 : decode cX12_determinant 298 = .ok (.istore 10, 2) := by decide +kernel
theorem dX12_determinant_300 : decode cX12_determinant 300 = .ok (.iload 10, 2) := by decide +kernel
theorem dX12_determinant_302 : decode cX12_determinant 302 = .ok (.aload_n 0, 1) := by decide +kernel
theorem dX12_determinant_303 : decode cX12_determinant 303 = .ok (.getfield 137, 3) := by decide +kernel
theorem dX12_determinant_306 : decode cX12_determinant 306 = .ok (.if_icmp .ge 95, 3) := by decide +kernel
theorem dX12_determinant_309 : decode cX12_determinant 309 = .ok (.aload_n 0, 1) := by decide +kernel
theorem dX12_determinant_310 : decode cX12_determinant 310 = .ok (.getfield 77, 3) := by decide +kernel
theorem dX12_determinant_313 : decode cX12_determinant 313 = .ok (.bipush 6, 2) := by decide +kernel
theorem dX12_determinant_315 : decode cX12_determinant 315 = .ok (.iload 10, 2) := by decide +kernel
theorem dX12_determinant_317 : decode cX12_determinant 317 = .ok (.imul, 1) := by decide +kernel
theorem dX12_determinant_318 : decode cX12_determinant 318 = .ok (.iload 6, 2) := by decide +kernel
theorem dX12_determinant_320 : decode cX12_determinant 320 = .ok (.iadd, 1) := by decide +kernel
theorem dX12_determinant_321 : decode cX12_determinant 321 = .ok (.laload, 1) := by decide +kernel
theorem dX12_determinant_322 : decode cX12_determinant 322 = .ok (.lload 8, 2) := by decide +kernel
theorem dX12_determinant_324 : decode cX12_determinant 324 = .ok (.lmul, 1) := by decide +kernel
theorem dX12_determinant_325 : decode cX12_determinant 325 = .ok (.lload_n 2, 1) := by decide +kernel
theorem dX12_determinant_326 : decode cX12_determinant 326 = .ok (.lrem, 1) := by decide +kernel
theorem dX12_determinant_327 : decode cX12_determinant 327 = .ok (.lstore 11, 2) := by decide +kernel
theorem dX12_determinant_329 : decode cX12_determinant 329 = .ok (.iload 6, 2) := by decide +kernel
theorem dX12_determinant_331 : decode cX12_determinant 331 = .ok (.istore 13, 2) := by decide +kernel
theorem dX12_determinant_333 : decode cX12_determinant 333 = .ok (.iload 13, 2) := by decide +kernel
theorem dX12_determinant_335 : decode cX12_determinant 335 = .ok (.aload_n 0, 1) := by decide +kernel
theorem dX12_determinant_336 : decode cX12_determinant 336 = .ok (.getfield 137, 3) := by decide +kernel
theorem dX12_determinant_339 : decode cX12_determinant 339 = .ok (.if_icmp .ge 56, 3) := by decide +kernel
theorem dX12_determinant_342 : decode cX12_determinant 342 = .ok (.aload_n 0, 1) := by decide +kernel
theorem dX12_determinant_343 : decode cX12_determinant 343 = .ok (.getfield 77, 3) := by decide +kernel
theorem dX12_determinant_346 : decode cX12_determinant 346 = .ok (.bipush 6, 2) := by decide +kernel
theorem dX12_determinant_348 : decode cX12_determinant 348 = .ok (.iload 10, 2) := by decide +kernel
theorem dX12_determinant_350 : decode cX12_determinant 350 = .ok (.imul, 1) := by decide +kernel
theorem dX12_determinant_351 : decode cX12_determinant 351 = .ok (.iload 13, 2) := by decide +kernel
theorem dX12_determinant_353 : decode cX12_determinant 353 = .ok (.iadd, 1) := by decide +kernel
theorem dX12_determinant_354 : decode cX12_determinant 354 = .ok (.aload_n 0, 1) := by decide +kernel
theorem dX12_determinant_355 : decode cX12_determinant 355 = .ok (.getfield 77, 3) := by decide +kernel
theorem dX12_determinant_358 : decode cX12_determinant 358 = .ok (.bipush 6, 2) := by decide +kernel
theorem dX12_determinant_360 : decode cX12_determinant 360 = .ok (.iload 10, 2) := by decide +kernel
theorem dX12_determinant_362 : decode cX12_determinant 362 = .ok (.imul, 1) := by decide +kernel
theorem dX12_determinant_363 : decode cX12_determinant 363 = .ok (.iload 13, 2) := by decide +kernel
theorem dX12_determinant_365 : decode cX12_determinant 365 = .ok (.iadd, 1) := by decide +kernel
theorem dX12_determinant_366 : decode cX12_determinant 366 = .ok (.laload, 1) := by decide +kernel
theorem dX12_determinant_367 : decode cX12_determinant 367 = .ok (.lload_n 2, 1) := by decide +kernel
theorem dX12_determinant_368 : decode cX12_determinant 368 = .ok (.lload 11, 2) := by decide +kernel
theorem dX12_determinant_370 : decode cX12_determinant 370 = .ok (.lsub, 1) := by decide +kernel
theorem dX12_determinant_371 : decode cX12_determinant 371 = .ok (.aload_n 0, 1) := by decide +kernel
theorem dX12_determinant_372 : decode cX12_determinant 372 = .ok (.getfield 77, 3) := by decide +kernel
theorem dX12_determinant_375 : decode cX12_determinant 375 = .ok (.bipush 6, 2) := by decide +kernel
theorem dX12_determinant_377 : decode cX12_determinant 377 = .ok (.iload 6, 2) := by decide +kernel
theorem dX12_determinant_379 : decode cX12_determinant 379 = .ok (.imul, 1) := by decide +kernel
theorem dX12_determinant_380 : decode cX12_determinant 380 = .ok (.iload 13, 2) := by decide +kernel
theorem dX12_determinant_382 : decode cX12_determinant 382 = .ok (.iadd, 1) := by decide +kernel
theorem dX12_determinant_383 : decode cX12_determinant 383 = .ok (.laload, 1) := by decide +kernel
theorem dX12_determinant_384 : decode cX12_determinant 384 = .ok (.lmul, 1) := by decide +kernel
theorem dX12_determinant_385 : decode cX12_determinant 385 = .ok (.ladd, 1) := by decide +kernel
theorem dX12_determinant_386 : decode cX12_determinant 386 = .ok (.lload_n 2, 1) := by decide +kernel
theorem dX12_determinant_387 : decode cX12_determinant 387 = .ok (.lrem, 1) := by decide +kernel
theorem dX12_determinant_388 : decode cX12_determinant 388 = .ok (.lastore, 1) := by decide +kernel
theorem dX12_determinant_389 : decode cX12_determinant 389 = .ok (.iinc 13 1, 3) := by decide +kernel
theorem dX12_determinant_392 : decode cX12_determinant 392 = .ok (.goto (-59), 3) := by decide +kernel
theorem dX12_determinant_395 : decode cX12_determinant 395 = .ok (.iinc 10 1, 3) := by decide +kernel
theorem dX12_determinant_398 : decode cX12_determinant 398 = .ok (.goto (-98), 3) := by decide +kernel
theorem dX12_determinant_401 : decode cX12_determinant 401 = .ok (.iinc 6 1, 3) := by decide +kernel
theorem dX12_determinant_404 : decode cX12_determinant 404 = .ok (.goto (-300), 3) := by decide +kernel
theorem dX12_determinant_407 : decode cX12_determinant 407 = .ok (.lload 4, 2) := by decide +kernel
theorem dX12_determinant_409 : decode cX12_determinant 409 = .ok (.lreturn, 1) := by decide +kernel
theorem dX12_whole_0 : decode cX12_whole 0 = .ok (.aload_n 0, 1) := by decide +kernel
theorem dX12_whole_1 : decode cX12_whole 1 = .ok (.iload_n 1, 1) := by decide +kernel
theorem dX12_whole_2 : decode cX12_whole 2 = .ok (.ldc2_w 184, 3) := by decide +kernel
theorem dX12_whole_5 : decode cX12_whole 5 = .ok (.invokevirtual 186, 3) := by decide +kernel
theorem dX12_whole_8 : decode cX12_whole 8 = .ok (.lstore_n 2, 1) := by decide +kernel
theorem dX12_whole_9 : decode cX12_whole 9 = .ok (.aload_n 0, 1) := by decide +kernel
theorem dX12_whole_10 : decode cX12_whole 10 = .ok (.iload_n 1, 1) := by decide +kernel
theorem dX12_whole_11 : decode cX12_whole 11 = .ok (.ldc2_w 190, 3) := by decide +kernel
theorem dX12_whole_14 : decode cX12_whole 14 = .ok (.invokevirtual 186, 3) := by decide +kernel
theorem dX12_whole_17 : decode cX12_whole 17 = .ok (.lstore 4, 2) := by decide +kernel
theorem dX12_whole_19 : decode cX12_whole 19 = .ok (.lload 4, 2) := by decide +kernel
theorem dX12_whole_21 : decode cX12_whole 21 = .ok (.lload_n 2, 1) := by decide +kernel
theorem dX12_whole_22 : decode cX12_whole 22 = .ok (.lsub, 1) := by decide +kernel
theorem dX12_whole_23 : decode cX12_whole 23 = .ok (.ldc2_w 190, 3) := by decide +kernel
theorem dX12_whole_26 : decode cX12_whole 26 = .ok (.lrem, 1) := by decide +kernel
theorem dX12_whole_27 : decode cX12_whole 27 = .ok (.ldc2_w 190, 3) := by decide +kernel
theorem dX12_whole_30 : decode cX12_whole 30 = .ok (.ladd, 1) := by decide +kernel
theorem dX12_whole_31 : decode cX12_whole 31 = .ok (.ldc2_w 190, 3) := by decide +kernel
theorem dX12_whole_34 : decode cX12_whole 34 = .ok (.lrem, 1) := by decide +kernel
theorem dX12_whole_35 : decode cX12_whole 35 = .ok (.ldc2_w 192, 3) := by decide +kernel
theorem dX12_whole_38 : decode cX12_whole 38 = .ok (.ldc2_w 194, 3) := by decide +kernel
theorem dX12_whole_41 : decode cX12_whole 41 = .ok (.ldc2_w 190, 3) := by decide +kernel
theorem dX12_whole_44 : decode cX12_whole 44 = .ok (.invokestatic 180, 3) := by decide +kernel
theorem dX12_whole_47 : decode cX12_whole 47 = .ok (.lmul, 1) := by decide +kernel
theorem dX12_whole_48 : decode cX12_whole 48 = .ok (.ldc2_w 190, 3) := by decide +kernel
theorem dX12_whole_51 : decode cX12_whole 51 = .ok (.lrem, 1) := by decide +kernel
theorem dX12_whole_52 : decode cX12_whole 52 = .ok (.lstore 6, 2) := by decide +kernel
theorem dX12_whole_54 : decode cX12_whole 54 = .ok (.lload_n 2, 1) := by decide +kernel
theorem dX12_whole_55 : decode cX12_whole 55 = .ok (.ldc2_w 184, 3) := by decide +kernel
theorem dX12_whole_58 : decode cX12_whole 58 = .ok (.lload 6, 2) := by decide +kernel
theorem dX12_whole_60 : decode cX12_whole 60 = .ok (.lmul, 1) := by decide +kernel
theorem dX12_whole_61 : decode cX12_whole 61 = .ok (.ladd, 1) := by decide +kernel
theorem dX12_whole_62 : decode cX12_whole 62 = .ok (.lstore 8, 2) := by decide +kernel
theorem dX12_whole_64 : decode cX12_whole 64 = .ok (.lload 8, 2) := by decide +kernel
theorem dX12_whole_66 : decode cX12_whole 66 = .ok (.ldc2_w 196, 3) := by decide +kernel
theorem dX12_whole_69 : decode cX12_whole 69 = .ok (.lcmp, 1) := by decide +kernel
theorem dX12_whole_70 : decode cX12_whole 70 = .ok (.ifCond .le 12, 3) := by decide +kernel
theorem dX12_whole_73 : decode cX12_whole 73 = .ok (.lload 8, 2) := by decide +kernel
theorem dX12_whole_75 : decode cX12_whole 75 = .ok (.ldc2_w 198, 3) := by decide +kernel
theorem dX12_whole_78 : decode cX12_whole 78 = .ok (.lsub, 1) := by decide +kernel
theorem dX12_whole_79 : decode cX12_whole 79 = .ok (.goto 5, 3) := by decide +kernel
theorem dX12_whole_82 : decode cX12_whole 82 = .ok (.lload 8, 2) := by decide +kernel
theorem dX12_whole_84 : decode cX12_whole 84 = .ok (.lreturn, 1) := by decide +kernel
theorem dX12_lay_0 : decode cX12_lay 0 = .ok (.iconst 0, 1) := by decide +kernel
theorem dX12_lay_1 : decode cX12_lay 1 = .ok (.istore_n 2, 1) := by decide +kernel
theorem dX12_lay_2 : decode cX12_lay 2 = .ok (.iload_n 2, 1) := by decide +kernel
theorem dX12_lay_3 : decode cX12_lay 3 = .ok (.bipush 36, 2) := by decide +kernel
theorem dX12_lay_5 : decode cX12_lay 5 = .ok (.if_icmp .ge 16, 3) := by decide +kernel
theorem dX12_lay_8 : decode cX12_lay 8 = .ok (.aload_n 0, 1) := by decide +kernel
theorem dX12_lay_9 : decode cX12_lay 9 = .ok (.getfield 71, 3) := by decide +kernel
theorem dX12_lay_12 : decode cX12_lay 12 = .ok (.iload_n 2, 1) := by decide +kernel
theorem dX12_lay_13 : decode cX12_lay 13 = .ok (.lconst 0, 1) := by decide +kernel
theorem dX12_lay_14 : decode cX12_lay 14 = .ok (.lastore, 1) := by decide +kernel
theorem dX12_lay_15 : decode cX12_lay 15 = .ok (.iinc 2 1, 3) := by decide +kernel
theorem dX12_lay_18 : decode cX12_lay 18 = .ok (.goto (-16), 3) := by decide +kernel
theorem dX12_lay_21 : decode cX12_lay 21 = .ok (.iconst 0, 1) := by decide +kernel
theorem dX12_lay_22 : decode cX12_lay 22 = .ok (.istore_n 2, 1) := by decide +kernel
theorem dX12_lay_23 : decode cX12_lay 23 = .ok (.iload_n 2, 1) := by decide +kernel
theorem dX12_lay_24 : decode cX12_lay 24 = .ok (.aload_n 0, 1) := by decide +kernel
theorem dX12_lay_25 : decode cX12_lay 25 = .ok (.getfield 137, 3) := by decide +kernel
theorem dX12_lay_28 : decode cX12_lay 28 = .ok (.if_icmp .ge 22, 3) := by decide +kernel
theorem dX12_lay_31 : decode cX12_lay 31 = .ok (.aload_n 0, 1) := by decide +kernel
theorem dX12_lay_32 : decode cX12_lay 32 = .ok (.getfield 74, 3) := by decide +kernel
theorem dX12_lay_35 : decode cX12_lay 35 = .ok (.iload_n 2, 1) := by decide +kernel
theorem dX12_lay_36 : decode cX12_lay 36 = .ok (.aload_n 0, 1) := by decide +kernel
theorem dX12_lay_37 : decode cX12_lay 37 = .ok (.getfield 13, 3) := by decide +kernel
theorem dX12_lay_40 : decode cX12_lay 40 = .ok (.iload_n 2, 1) := by decide +kernel
theorem dX12_lay_41 : decode cX12_lay 41 = .ok (.iaload, 1) := by decide +kernel
theorem dX12_lay_42 : decode cX12_lay 42 = .ok (.i2l, 1) := by decide +kernel
theorem dX12_lay_43 : decode cX12_lay 43 = .ok (.lastore, 1) := by decide +kernel
theorem dX12_lay_44 : decode cX12_lay 44 = .ok (.iinc 2 1, 3) := by decide +kernel
theorem dX12_lay_47 : decode cX12_lay 47 = .ok (.goto (-24), 3) := by decide +kernel
theorem dX12_lay_50 : decode cX12_lay 50 = .ok (.iconst 0, 1) := by decide +kernel
theorem dX12_lay_51 : decode cX12_lay 51 = .ok (.istore_n 2, 1) := by decide +kernel
theorem dX12_lay_52 : decode cX12_lay 52 = .ok (.iload_n 2, 1) := by decide +kernel
theorem dX12_lay_53 : decode cX12_lay 53 = .ok (.aload_n 0, 1) := by decide +kernel
theorem dX12_lay_54 : decode cX12_lay 54 = .ok (.getfield 164, 3) := by decide +kernel
theorem dX12_lay_57 : decode cX12_lay 57 = .ok (.if_icmp .ge 107, 3) := by decide +kernel
theorem dX12_lay_60 : decode cX12_lay 60 = .ok (.aload_n 0, 1) := by decide +kernel
theorem dX12_lay_61 : decode cX12_lay 61 = .ok (.getfield 19, 3) := by decide +kernel
theorem dX12_lay_64 : decode cX12_lay 64 = .ok (.iload_n 2, 1) := by decide +kernel
theorem dX12_lay_65 : decode cX12_lay 65 = .ok (.iaload, 1) := by decide +kernel
theorem dX12_lay_66 : decode cX12_lay 66 = .ok (.istore_n 3, 1) := by decide +kernel
theorem dX12_lay_67 : decode cX12_lay 67 = .ok (.aload_n 0, 1) := by decide +kernel
theorem dX12_lay_68 : decode cX12_lay 68 = .ok (.getfield 22, 3) := by decide +kernel
theorem dX12_lay_71 : decode cX12_lay 71 = .ok (.iload_n 2, 1) := by decide +kernel
theorem dX12_lay_72 : decode cX12_lay 72 = .ok (.iaload, 1) := by decide +kernel
theorem dX12_lay_73 : decode cX12_lay 73 = .ok (.istore 4, 2) := by decide +kernel
theorem dX12_lay_75 : decode cX12_lay 75 = .ok (.aload_n 0, 1) := by decide +kernel
theorem dX12_lay_76 : decode cX12_lay 76 = .ok (.getfield 71, 3) := by decide +kernel
theorem dX12_lay_79 : decode cX12_lay 79 = .ok (.bipush 7, 2) := by decide +kernel
theorem dX12_lay_81 : decode cX12_lay 81 = .ok (.iload_n 3, 1) := by decide +kernel
theorem dX12_lay_82 : decode cX12_lay 82 = .ok (.imul, 1) := by decide +kernel
theorem dX12_lay_83 : decode cX12_lay 83 = .ok (.dup2, 1) := by decide +kernel
theorem dX12_lay_84 : decode cX12_lay 84 = .ok (.laload, 1) := by decide +kernel
theorem dX12_lay_85 : decode cX12_lay 85 = .ok (.aload_n 0, 1) := by decide +kernel
theorem dX12_lay_86 : decode cX12_lay 86 = .ok (.getfield 65, 3) := by decide +kernel
theorem dX12_lay_89 : decode cX12_lay 89 = .ok (.iload_n 2, 1) := by decide +kernel
theorem dX12_lay_90 : decode cX12_lay 90 = .ok (.iaload, 1) := by decide +kernel
theorem dX12_lay_91 : decode cX12_lay 91 = .ok (.i2l, 1) := by decide +kernel
theorem dX12_lay_92 : decode cX12_lay 92 = .ok (.ladd, 1) := by decide +kernel
theorem dX12_lay_93 : decode cX12_lay 93 = .ok (.lastore, 1) := by decide +kernel
theorem dX12_lay_94 : decode cX12_lay 94 = .ok (.aload_n 0, 1) := by decide +kernel
theorem dX12_lay_95 : decode cX12_lay 95 = .ok (.getfield 71, 3) := by decide +kernel
theorem dX12_lay_98 : decode cX12_lay 98 = .ok (.bipush 7, 2) := by decide +kernel
theorem dX12_lay_100 : decode cX12_lay 100 = .ok (.iload 4, 2) := by decide +kernel
theorem dX12_lay_102 : decode cX12_lay 102 = .ok (.imul, 1) := by decide +kernel
theorem dX12_lay_103 : decode cX12_lay 103 = .ok (.dup2, 1) := by decide +kernel
theorem dX12_lay_104 : decode cX12_lay 104 = .ok (.laload, 1) := by decide +kernel
theorem dX12_lay_105 : decode cX12_lay 105 = .ok (.aload_n 0, 1) := by decide +kernel
theorem dX12_lay_106 : decode cX12_lay 106 = .ok (.getfield 65, 3) := by decide +kernel
theorem dX12_lay_109 : decode cX12_lay 109 = .ok (.iload_n 2, 1) := by decide +kernel
theorem dX12_lay_110 : decode cX12_lay 110 = .ok (.iaload, 1) := by decide +kernel
theorem dX12_lay_111 : decode cX12_lay 111 = .ok (.i2l, 1) := by decide +kernel
theorem dX12_lay_112 : decode cX12_lay 112 = .ok (.ladd, 1) := by decide +kernel
theorem dX12_lay_113 : decode cX12_lay 113 = .ok (.lastore, 1) := by decide +kernel
theorem dX12_lay_114 : decode cX12_lay 114 = .ok (.aload_n 0, 1) := by decide +kernel
theorem dX12_lay_115 : decode cX12_lay 115 = .ok (.getfield 71, 3) := by decide +kernel
theorem dX12_lay_118 : decode cX12_lay 118 = .ok (.bipush 6, 2) := by decide +kernel
theorem dX12_lay_120 : decode cX12_lay 120 = .ok (.iload_n 3, 1) := by decide +kernel
theorem dX12_lay_121 : decode cX12_lay 121 = .ok (.imul, 1) := by decide +kernel
theorem dX12_lay_122 : decode cX12_lay 122 = .ok (.iload 4, 2) := by decide +kernel
theorem dX12_lay_124 : decode cX12_lay 124 = .ok (.iadd, 1) := by decide +kernel
theorem dX12_lay_125 : decode cX12_lay 125 = .ok (.dup2, 1) := by decide +kernel
theorem dX12_lay_126 : decode cX12_lay 126 = .ok (.laload, 1) := by decide +kernel
theorem dX12_lay_127 : decode cX12_lay 127 = .ok (.aload_n 0, 1) := by decide +kernel
theorem dX12_lay_128 : decode cX12_lay 128 = .ok (.getfield 65, 3) := by decide +kernel
theorem dX12_lay_131 : decode cX12_lay 131 = .ok (.iload_n 2, 1) := by decide +kernel
theorem dX12_lay_132 : decode cX12_lay 132 = .ok (.iaload, 1) := by decide +kernel
theorem dX12_lay_133 : decode cX12_lay 133 = .ok (.i2l, 1) := by decide +kernel
theorem dX12_lay_134 : decode cX12_lay 134 = .ok (.lsub, 1) := by decide +kernel
theorem dX12_lay_135 : decode cX12_lay 135 = .ok (.lastore, 1) := by decide +kernel
theorem dX12_lay_136 : decode cX12_lay 136 = .ok (.aload_n 0, 1) := by decide +kernel
theorem dX12_lay_137 : decode cX12_lay 137 = .ok (.getfield 71, 3) := by decide +kernel
theorem dX12_lay_140 : decode cX12_lay 140 = .ok (.bipush 6, 2) := by decide +kernel
theorem dX12_lay_142 : decode cX12_lay 142 = .ok (.iload 4, 2) := by decide +kernel
theorem dX12_lay_144 : decode cX12_lay 144 = .ok (.imul, 1) := by decide +kernel
theorem dX12_lay_145 : decode cX12_lay 145 = .ok (.iload_n 3, 1) := by decide +kernel
theorem dX12_lay_146 : decode cX12_lay 146 = .ok (.iadd, 1) := by decide +kernel
theorem dX12_lay_147 : decode cX12_lay 147 = .ok (.dup2, 1) := by decide +kernel
theorem dX12_lay_148 : decode cX12_lay 148 = .ok (.laload, 1) := by decide +kernel
theorem dX12_lay_149 : decode cX12_lay 149 = .ok (.aload_n 0, 1) := by decide +kernel
theorem dX12_lay_150 : decode cX12_lay 150 = .ok (.getfield 65, 3) := by decide +kernel
theorem dX12_lay_153 : decode cX12_lay 153 = .ok (.iload_n 2, 1) := by decide +kernel
theorem dX12_lay_154 : decode cX12_lay 154 = .ok (.iaload, 1) := by decide +kernel
theorem dX12_lay_155 : decode cX12_lay 155 = .ok (.i2l, 1) := by decide +kernel
theorem dX12_lay_156 : decode cX12_lay 156 = .ok (.lsub, 1) := by decide +kernel
theorem dX12_lay_157 : decode cX12_lay 157 = .ok (.lastore, 1) := by decide +kernel
theorem dX12_lay_158 : decode cX12_lay 158 = .ok (.iinc 2 1, 3) := by decide +kernel
theorem dX12_lay_161 : decode cX12_lay 161 = .ok (.goto (-109), 3) := by decide +kernel
theorem dX12_lay_164 : decode cX12_lay 164 = .ok (.iconst 0, 1) := by decide +kernel
theorem dX12_lay_165 : decode cX12_lay 165 = .ok (.istore_n 2, 1) := by decide +kernel
theorem dX12_lay_166 : decode cX12_lay 166 = .ok (.iload_n 2, 1) := by decide +kernel
theorem dX12_lay_167 : decode cX12_lay 167 = .ok (.aload_n 0, 1) := by decide +kernel
theorem dX12_lay_168 : decode cX12_lay 168 = .ok (.getfield 169, 3) := by decide +kernel
theorem dX12_lay_171 : decode cX12_lay 171 = .ok (.if_icmp .ge 108, 3) := by decide +kernel
theorem dX12_lay_174 : decode cX12_lay 174 = .ok (.iload_n 1, 1) := by decide +kernel
theorem dX12_lay_175 : decode cX12_lay 175 = .ok (.iload_n 2, 1) := by decide +kernel
theorem dX12_lay_176 : decode cX12_lay 176 = .ok (.ishr, 1) := by decide +kernel
theorem dX12_lay_177 : decode cX12_lay 177 = .ok (.iconst 1, 1) := by decide +kernel
theorem dX12_lay_178 : decode cX12_lay 178 = .ok (.iand, 1) := by decide +kernel
theorem dX12_lay_179 : decode cX12_lay 179 = .ok (.iconst 1, 1) := by decide +kernel
theorem dX12_lay_180 : decode cX12_lay 180 = .ok (.if_icmp .ne 58, 3) := by decide +kernel
theorem dX12_lay_183 : decode cX12_lay 183 = .ok (.aload_n 0, 1) := by decide +kernel
theorem dX12_lay_184 : decode cX12_lay 184 = .ok (.getfield 71, 3) := by decide +kernel
theorem dX12_lay_187 : decode cX12_lay 187 = .ok (.bipush 7, 2) := by decide +kernel
theorem dX12_lay_189 : decode cX12_lay 189 = .ok (.aload_n 0, 1) := by decide +kernel
theorem dX12_lay_190 : decode cX12_lay 190 = .ok (.getfield 28, 3) := by decide +kernel
theorem dX12_lay_193 : decode cX12_lay 193 = .ok (.iload_n 2, 1) := by decide +kernel
theorem dX12_lay_194 : decode cX12_lay 194 = .ok (.iaload, 1) := by decide +kernel
theorem dX12_lay_195 : decode cX12_lay 195 = .ok (.imul, 1) := by decide +kernel
theorem dX12_lay_196 : decode cX12_lay 196 = .ok (.dup2, 1) := by decide +kernel
theorem dX12_lay_197 : decode cX12_lay 197 = .ok (.laload, 1) := by decide +kernel
theorem dX12_lay_198 : decode cX12_lay 198 = .ok (.aload_n 0, 1) := by decide +kernel
theorem dX12_lay_199 : decode cX12_lay 199 = .ok (.getfield 37, 3) := by decide +kernel
theorem dX12_lay_202 : decode cX12_lay 202 = .ok (.iload_n 2, 1) := by decide +kernel
theorem dX12_lay_203 : decode cX12_lay 203 = .ok (.iaload, 1) := by decide +kernel
theorem dX12_lay_204 : decode cX12_lay 204 = .ok (.i2l, 1) := by decide +kernel
theorem dX12_lay_205 : decode cX12_lay 205 = .ok (.ladd, 1) := by decide +kernel
theorem dX12_lay_206 : decode cX12_lay 206 = .ok (.lastore, 1) := by decide +kernel
theorem dX12_lay_207 : decode cX12_lay 207 = .ok (.aload_n 0, 1) := by decide +kernel
theorem dX12_lay_208 : decode cX12_lay 208 = .ok (.getfield 74, 3) := by decide +kernel
theorem dX12_lay_211 : decode cX12_lay 211 = .ok (.aload_n 0, 1) := by decide +kernel
theorem dX12_lay_212 : decode cX12_lay 212 = .ok (.getfield 28, 3) := by decide +kernel
theorem dX12_lay_215 : decode cX12_lay 215 = .ok (.iload_n 2, 1) := by decide +kernel
theorem dX12_lay_216 : decode cX12_lay 216 = .ok (.iaload, 1) := by decide +kernel
theorem dX12_lay_217 : decode cX12_lay 217 = .ok (.dup2, 1) := by decide +kernel
theorem dX12_lay_218 : decode cX12_lay 218 = .ok (.laload, 1) := by decide +kernel
theorem dX12_lay_219 : decode cX12_lay 219 = .ok (.aload_n 0, 1) := by decide +kernel
theorem dX12_lay_220 : decode cX12_lay 220 = .ok (.getfield 37, 3) := by decide +kernel
theorem dX12_lay_223 : decode cX12_lay 223 = .ok (.iload_n 2, 1) := by decide +kernel
theorem dX12_lay_224 : decode cX12_lay 224 = .ok (.iaload, 1) := by decide +kernel
theorem dX12_lay_225 : decode cX12_lay 225 = .ok (.aload_n 0, 1) := by decide +kernel
theorem dX12_lay_226 : decode cX12_lay 226 = .ok (.getfield 31, 3) := by decide +kernel
theorem dX12_lay_229 : decode cX12_lay 229 = .ok (.iload_n 2, 1) := by decide +kernel
theorem dX12_lay_230 : decode cX12_lay 230 = .ok (.iaload, 1) := by decide +kernel
theorem dX12_lay_231 : decode cX12_lay 231 = .ok (.imul, 1) := by decide +kernel
theorem dX12_lay_232 : decode cX12_lay 232 = .ok (.i2l, 1) := by decide +kernel
theorem dX12_lay_233 : decode cX12_lay 233 = .ok (.ladd, 1) := by decide +kernel
theorem dX12_lay_234 : decode cX12_lay 234 = .ok (.lastore, 1) := by decide +kernel
theorem dX12_lay_235 : decode cX12_lay 235 = .ok (.goto 38, 3) := by decide +kernel
theorem dX12_lay_238 : decode cX12_lay 238 = .ok (.aload_n 0, 1) := by decide +kernel
theorem dX12_lay_239 : decode cX12_lay 239 = .ok (.getfield 74, 3) := by decide +kernel
theorem dX12_lay_242 : decode cX12_lay 242 = .ok (.aload_n 0, 1) := by decide +kernel
theorem dX12_lay_243 : decode cX12_lay 243 = .ok (.getfield 28, 3) := by decide +kernel
theorem dX12_lay_246 : decode cX12_lay 246 = .ok (.iload_n 2, 1) := by decide +kernel
theorem dX12_lay_247 : decode cX12_lay 247 = .ok (.iaload, 1) := by decide +kernel
theorem dX12_lay_248 : decode cX12_lay 248 = .ok (.dup2, 1) := by decide +kernel
theorem dX12_lay_249 : decode cX12_lay 249 = .ok (.laload, 1) := by decide +kernel
theorem dX12_lay_250 : decode cX12_lay 250 = .ok (.aload_n 0, 1) := by decide +kernel
theorem dX12_lay_251 : decode cX12_lay 251 = .ok (.getfield 37, 3) := by decide +kernel
theorem dX12_lay_254 : decode cX12_lay 254 = .ok (.iload_n 2, 1) := by decide +kernel
theorem dX12_lay_255 : decode cX12_lay 255 = .ok (.iaload, 1) := by decide +kernel
theorem dX12_lay_256 : decode cX12_lay 256 = .ok (.aload_n 0, 1) := by decide +kernel
theorem dX12_lay_257 : decode cX12_lay 257 = .ok (.getfield 31, 3) := by decide +kernel
theorem dX12_lay_260 : decode cX12_lay 260 = .ok (.iload_n 2, 1) := by decide +kernel
theorem dX12_lay_261 : decode cX12_lay 261 = .ok (.iaload, 1) := by decide +kernel
theorem dX12_lay_262 : decode cX12_lay 262 = .ok (.aload_n 0, 1) := by decide +kernel
theorem dX12_lay_263 : decode cX12_lay 263 = .ok (.getfield 34, 3) := by decide +kernel
theorem dX12_lay_266 : decode cX12_lay 266 = .ok (.iload_n 2, 1) := by decide +kernel
theorem dX12_lay_267 : decode cX12_lay 267 = .ok (.iaload, 1) := by decide +kernel
theorem dX12_lay_268 : decode cX12_lay 268 = .ok (.isub, 1) := by decide +kernel
theorem dX12_lay_269 : decode cX12_lay 269 = .ok (.imul, 1) := by decide +kernel
theorem dX12_lay_270 : decode cX12_lay 270 = .ok (.i2l, 1) := by decide +kernel
theorem dX12_lay_271 : decode cX12_lay 271 = .ok (.ladd, 1) := by decide +kernel
theorem dX12_lay_272 : decode cX12_lay 272 = .ok (.lastore, 1) := by decide +kernel
theorem dX12_lay_273 : decode cX12_lay 273 = .ok (.iinc 2 1, 3) := by decide +kernel
theorem dX12_lay_276 : decode cX12_lay 276 = .ok (.goto (-110), 3) := by decide +kernel
theorem dX12_lay_279 : decode cX12_lay 279 = .ok (.iconst 0, 1) := by decide +kernel
theorem dX12_lay_280 : decode cX12_lay 280 = .ok (.istore_n 2, 1) := by decide +kernel
theorem dX12_lay_281 : decode cX12_lay 281 = .ok (.iload_n 2, 1) := by decide +kernel
theorem dX12_lay_282 : decode cX12_lay 282 = .ok (.aload_n 0, 1) := by decide +kernel
theorem dX12_lay_283 : decode cX12_lay 283 = .ok (.getfield 172, 3) := by decide +kernel
theorem dX12_lay_286 : decode cX12_lay 286 = .ok (.if_icmp .ge 72, 3) := by decide +kernel
theorem dX12_lay_289 : decode cX12_lay 289 = .ok (.iload_n 1, 1) := by decide +kernel
theorem dX12_lay_290 : decode cX12_lay 290 = .ok (.iload_n 2, 1) := by decide +kernel
theorem dX12_lay_291 : decode cX12_lay 291 = .ok (.iconst 3, 1) := by decide +kernel
theorem dX12_lay_292 : decode cX12_lay 292 = .ok (.iadd, 1) := by decide +kernel
theorem dX12_lay_293 : decode cX12_lay 293 = .ok (.ishr, 1) := by decide +kernel
theorem dX12_lay_294 : decode cX12_lay 294 = .ok (.iconst 1, 1) := by decide +kernel
theorem dX12_lay_295 : decode cX12_lay 295 = .ok (.iand, 1) := by decide +kernel
theorem dX12_lay_296 : decode cX12_lay 296 = .ok (.iconst 1, 1) := by decide +kernel
theorem dX12_lay_297 : decode cX12_lay 297 = .ok (.if_icmp .ne 55, 3) := by decide +kernel
theorem dX12_lay_300 : decode cX12_lay 300 = .ok (.aload_n 0, 1) := by decide +kernel
theorem dX12_lay_301 : decode cX12_lay 301 = .ok (.getfield 71, 3) := by decide +kernel
theorem dX12_lay_304 : decode cX12_lay 304 = .ok (.bipush 7, 2) := by decide +kernel
theorem dX12_lay_306 : decode cX12_lay 306 = .ok (.aload_n 0, 1) := by decide +kernel
theorem dX12_lay_307 : decode cX12_lay 307 = .ok (.getfield 40, 3) := by decide +kernel
theorem dX12_lay_310 : decode cX12_lay 310 = .ok (.iload_n 2, 1) := by decide +kernel
theorem dX12_lay_311 : decode cX12_lay 311 = .ok (.iaload, 1) := by decide +kernel
theorem dX12_lay_312 : decode cX12_lay 312 = .ok (.imul, 1) := by decide +kernel
theorem dX12_lay_313 : decode cX12_lay 313 = .ok (.dup2, 1) := by decide +kernel
theorem dX12_lay_314 : decode cX12_lay 314 = .ok (.laload, 1) := by decide +kernel
theorem dX12_lay_315 : decode cX12_lay 315 = .ok (.aload_n 0, 1) := by decide +kernel
theorem dX12_lay_316 : decode cX12_lay 316 = .ok (.getfield 46, 3) := by decide +kernel
theorem dX12_lay_319 : decode cX12_lay 319 = .ok (.iload_n 2, 1) := by decide +kernel
theorem dX12_lay_320 : decode cX12_lay 320 = .ok (.iaload, 1) := by decide +kernel
theorem dX12_lay_321 : decode cX12_lay 321 = .ok (.i2l, 1) := by decide +kernel
theorem dX12_lay_322 : decode cX12_lay 322 = .ok (.ladd, 1) := by decide +kernel
theorem dX12_lay_323 : decode cX12_lay 323 = .ok (.lastore, 1) := by decide +kernel
theorem dX12_lay_324 : decode cX12_lay 324 = .ok (.aload_n 0, 1) := by decide +kernel
theorem dX12_lay_325 : decode cX12_lay 325 = .ok (.getfield 74, 3) := by decide +kernel
theorem dX12_lay_328 : decode cX12_lay 328 = .ok (.aload_n 0, 1) := by decide +kernel
theorem dX12_lay_329 : decode cX12_lay 329 = .ok (.getfield 40, 3) := by decide +kernel
theorem dX12_lay_332 : decode cX12_lay 332 = .ok (.iload_n 2, 1) := by decide +kernel
theorem dX12_lay_333 : decode cX12_lay 333 = .ok (.iaload, 1) := by decide +kernel
theorem dX12_lay_334 : decode cX12_lay 334 = .ok (.dup2, 1) := by decide +kernel
theorem dX12_lay_335 : decode cX12_lay 335 = .ok (.laload, 1) := by decide +kernel
theorem dX12_lay_336 : decode cX12_lay 336 = .ok (.aload_n 0, 1) := by decide +kernel
theorem dX12_lay_337 : decode cX12_lay 337 = .ok (.getfield 46, 3) := by decide +kernel
theorem dX12_lay_340 : decode cX12_lay 340 = .ok (.iload_n 2, 1) := by decide +kernel
theorem dX12_lay_341 : decode cX12_lay 341 = .ok (.iaload, 1) := by decide +kernel
theorem dX12_lay_342 : decode cX12_lay 342 = .ok (.aload_n 0, 1) := by decide +kernel
theorem dX12_lay_343 : decode cX12_lay 343 = .ok (.getfield 43, 3) := by decide +kernel
theorem dX12_lay_346 : decode cX12_lay 346 = .ok (.iload_n 2, 1) := by decide +kernel
theorem dX12_lay_347 : decode cX12_lay 347 = .ok (.iaload, 1) := by decide +kernel
theorem dX12_lay_348 : decode cX12_lay 348 = .ok (.imul, 1) := by decide +kernel
theorem dX12_lay_349 : decode cX12_lay 349 = .ok (.i2l, 1) := by decide +kernel
theorem dX12_lay_350 : decode cX12_lay 350 = .ok (.ladd, 1) := by decide +kernel
theorem dX12_lay_351 : decode cX12_lay 351 = .ok (.lastore, 1) := by decide +kernel
theorem dX12_lay_352 : decode cX12_lay 352 = .ok (.iinc 2 1, 3) := by decide +kernel
theorem dX12_lay_355 : decode cX12_lay 355 = .ok (.goto (-74), 3) := by decide +kernel
theorem dX12_lay_358 : decode cX12_lay 358 = .ok (.iconst 0, 1) := by decide +kernel
theorem dX12_lay_359 : decode cX12_lay 359 = .ok (.istore_n 2, 1) := by decide +kernel
theorem dX12_lay_360 : decode cX12_lay 360 = .ok (.iload_n 2, 1) := by decide +kernel
theorem dX12_lay_361 : decode cX12_lay 361 = .ok (.aload_n 0, 1) := by decide +kernel
theorem dX12_lay_362 : decode cX12_lay 362 = .ok (.getfield 144, 3) := by decide +kernel
theorem dX12_lay_365 : decode cX12_lay 365 = .ok (.if_icmp .ge 30, 3) := by decide +kernel
theorem dX12_lay_368 : decode cX12_lay 368 = .ok (.aload_n 0, 1) := by decide +kernel
theorem dX12_lay_369 : decode cX12_lay 369 = .ok (.getfield 74, 3) := by decide +kernel
theorem dX12_lay_372 : decode cX12_lay 372 = .ok (.aload_n 0, 1) := by decide +kernel
theorem dX12_lay_373 : decode cX12_lay 373 = .ok (.getfield 49, 3) := by decide +kernel
theorem dX12_lay_376 : decode cX12_lay 376 = .ok (.iload_n 2, 1) := by decide +kernel
theorem dX12_lay_377 : decode cX12_lay 377 = .ok (.iaload, 1) := by decide +kernel
theorem dX12_lay_378 : decode cX12_lay 378 = .ok (.dup2, 1) := by decide +kernel
theorem dX12_lay_379 : decode cX12_lay 379 = .ok (.laload, 1) := by decide +kernel
theorem dX12_lay_380 : decode cX12_lay 380 = .ok (.aload_n 0, 1) := by decide +kernel
theorem dX12_lay_381 : decode cX12_lay 381 = .ok (.getfield 68, 3) := by decide +kernel
theorem dX12_lay_384 : decode cX12_lay 384 = .ok (.iload_n 2, 1) := by decide +kernel
theorem dX12_lay_385 : decode cX12_lay 385 = .ok (.iaload, 1) := by decide +kernel
theorem dX12_lay_386 : decode cX12_lay 386 = .ok (.i2l, 1) := by decide +kernel
theorem dX12_lay_387 : decode cX12_lay 387 = .ok (.lsub, 1) := by decide +kernel
theorem dX12_lay_388 : decode cX12_lay 388 = .ok (.lastore, 1) := by decide +kernel
theorem dX12_lay_389 : decode cX12_lay 389 = .ok (.iinc 2 1, 3) := by decide +kernel
theorem dX12_lay_392 : decode cX12_lay 392 = .ok (.goto (-32), 3) := by decide +kernel
theorem dX12_lay_395 : decode cX12_lay 395 = .ok (.return_, 1) := by decide +kernel
theorem dX12_solves_0 : decode cX12_solves 0 = .ok (.aload_n 0, 1) := by decide +kernel
theorem dX12_solves_1 : decode cX12_solves 1 = .ok (.ldc 132, 2) := by decide +kernel
theorem dX12_solves_3 : decode cX12_solves 3 = .ok (.putfield 200, 3) := by decide +kernel
theorem dX12_solves_6 : decode cX12_solves 6 = .ok (.iconst 0, 1) := by decide +kernel
theorem dX12_solves_7 : decode cX12_solves 7 = .ok (.istore_n 1, 1) := by decide +kernel
theorem dX12_solves_8 : decode cX12_solves 8 = .ok (.iload_n 1, 1) := by decide +kernel
theorem dX12_solves_9 : decode cX12_solves 9 = .ok (.bipush 32, 2) := by decide +kernel
theorem dX12_solves_11 : decode cX12_solves 11 = .ok (.if_icmp .ge 148, 3) := by decide +kernel
theorem dX12_solves_14 : decode cX12_solves 14 = .ok (.aload_n 0, 1) := by decide +kernel
theorem dX12_solves_15 : decode cX12_solves 15 = .ok (.getfield 137, 3) := by decide +kernel
theorem dX12_solves_18 : decode cX12_solves 18 = .ok (.ifCond .le 141, 3) := by decide +kernel
theorem dX12_solves_21 : decode cX12_solves 21 = .ok (.iload_n 1, 1) := by decide +kernel
theorem dX12_solves_22 : decode cX12_solves 22 = .ok (.bipush 7, 2) := by decide +kernel
theorem dX12_solves_24 : decode cX12_solves 24 = .ok (.iand, 1) := by decide +kernel
theorem dX12_solves_25 : decode cX12_solves 25 = .ok (.aload_n 0, 1) := by decide +kernel
theorem dX12_solves_26 : decode cX12_solves 26 = .ok (.getfield 169, 3) := by decide +kernel
theorem dX12_solves_29 : decode cX12_solves 29 = .ok (.ishr, 1) := by decide +kernel
theorem dX12_solves_30 : decode cX12_solves 30 = .ok (.ifCond .ne 123, 3) := by decide +kernel
theorem dX12_solves_33 : decode cX12_solves 33 = .ok (.iload_n 1, 1) := by decide +kernel
theorem dX12_solves_34 : decode cX12_solves 34 = .ok (.iconst 3, 1) := by decide +kernel
theorem dX12_solves_35 : decode cX12_solves 35 = .ok (.ishr, 1) := by decide +kernel
theorem dX12_solves_36 : decode cX12_solves 36 = .ok (.aload_n 0, 1) := by decide +kernel
theorem dX12_solves_37 : decode cX12_solves 37 = .ok (.getfield 172, 3) := by decide +kernel
theorem dX12_solves_40 : decode cX12_solves 40 = .ok (.ishr, 1) := by decide +kernel
theorem dX12_solves_41 : decode cX12_solves 41 = .ok (.ifCond .ne 112, 3) := by decide +kernel
theorem dX12_solves_44 : decode cX12_solves 44 = .ok (.aload_n 0, 1) := by decide +kernel
theorem dX12_solves_45 : decode cX12_solves 45 = .ok (.iload_n 1, 1) := by decide +kernel
theorem dX12_solves_46 : decode cX12_solves 46 = .ok (.invokevirtual 203, 3) := by decide +kernel
theorem dX12_solves_49 : decode cX12_solves 49 = .ok (.aload_n 0, 1) := by decide +kernel
theorem dX12_solves_50 : decode cX12_solves 50 = .ok (.aload_n 0, 1) := by decide +kernel
theorem dX12_solves_51 : decode cX12_solves 51 = .ok (.ldc 132, 2) := by decide +kernel
theorem dX12_solves_53 : decode cX12_solves 53 = .ok (.invokevirtual 207, 3) := by decide +kernel
theorem dX12_solves_56 : decode cX12_solves 56 = .ok (.putfield 211, 3) := by decide +kernel
theorem dX12_solves_59 : decode cX12_solves 59 = .ok (.aload_n 0, 1) := by decide +kernel
theorem dX12_solves_60 : decode cX12_solves 60 = .ok (.getfield 211, 3) := by decide +kernel
theorem dX12_solves_63 : decode cX12_solves 63 = .ok (.lconst 0, 1) := by decide +kernel
theorem dX12_solves_64 : decode cX12_solves 64 = .ok (.lcmp, 1) := by decide +kernel
theorem dX12_solves_65 : decode cX12_solves 65 = .ok (.ifCond .eq 88, 3) := by decide +kernel
theorem dX12_solves_68 : decode cX12_solves 68 = .ok (.iconst 0, 1) := by decide +kernel
theorem dX12_solves_69 : decode cX12_solves 69 = .ok (.istore_n 2, 1) := by decide +kernel
theorem dX12_solves_70 : decode cX12_solves 70 = .ok (.iload_n 2, 1) := by decide +kernel
theorem dX12_solves_71 : decode cX12_solves 71 = .ok (.aload_n 0, 1) := by decide +kernel
theorem dX12_solves_72 : decode cX12_solves 72 = .ok (.getfield 137, 3) := by decide +kernel
theorem dX12_solves_75 : decode cX12_solves 75 = .ok (.if_icmp .ge 38, 3) := by decide +kernel
theorem dX12_solves_78 : decode cX12_solves 78 = .ok (.aload_n 0, 1) := by decide +kernel
theorem dX12_solves_79 : decode cX12_solves 79 = .ok (.getfield 61, 3) := by decide +kernel
theorem dX12_solves_82 : decode cX12_solves 82 = .ok (.iload_n 2, 1) := by decide +kernel
theorem dX12_solves_83 : decode cX12_solves 83 = .ok (.aload_n 0, 1) := by decide +kernel
theorem dX12_solves_84 : decode cX12_solves 84 = .ok (.getfield 211, 3) := by decide +kernel
theorem dX12_solves_87 : decode cX12_solves 87 = .ok (.lconst 0, 1) := by decide +kernel
theorem dX12_solves_88 : decode cX12_solves 88 = .ok (.lcmp, 1) := by decide +kernel
theorem dX12_solves_89 : decode cX12_solves 89 = .ok (.ifCond .ge 12, 3) := by decide +kernel
theorem dX12_solves_92 : decode cX12_solves 92 = .ok (.aload_n 0, 1) := by decide +kernel
theorem dX12_solves_93 : decode cX12_solves 93 = .ok (.iload_n 2, 1) := by decide +kernel
theorem dX12_solves_94 : decode cX12_solves 94 = .ok (.invokevirtual 207, 3) := by decide +kernel
theorem dX12_solves_97 : decode cX12_solves 97 = .ok (.lneg, 1) := by decide +kernel
theorem dX12_solves_98 : decode cX12_solves 98 = .ok (.goto 8, 3) := by decide +kernel
theorem dX12_solves_101 : decode cX12_solves 101 = .ok (.aload_n 0, 1) := by decide +kernel
theorem dX12_solves_102 : decode cX12_solves 102 = .ok (.iload_n 2, 1) := by decide +kernel
theorem dX12_solves_103 : decode cX12_solves 103 = .ok (.invokevirtual 207, 3) := by decide +kernel
theorem dX12_solves_106 : decode cX12_solves 106 = .ok (.lastore, 1) := by decide +kernel
theorem dX12_solves_107 : decode cX12_solves 107 = .ok (.iinc 2 1, 3) := by decide +kernel
theorem dX12_solves_110 : decode cX12_solves 110 = .ok (.goto (-40), 3) := by decide +kernel
theorem dX12_solves_113 : decode cX12_solves 113 = .ok (.aload_n 0, 1) := by decide +kernel
theorem dX12_solves_114 : decode cX12_solves 114 = .ok (.aload_n 0, 1) := by decide +kernel
theorem dX12_solves_115 : decode cX12_solves 115 = .ok (.getfield 211, 3) := by decide +kernel
theorem dX12_solves_118 : decode cX12_solves 118 = .ok (.lconst 0, 1) := by decide +kernel
theorem dX12_solves_119 : decode cX12_solves 119 = .ok (.lcmp, 1) := by decide +kernel
theorem dX12_solves_120 : decode cX12_solves 120 = .ok (.ifCond .ge 11, 3) := by decide +kernel
theorem dX12_solves_123 : decode cX12_solves 123 = .ok (.aload_n 0, 1) := by decide +kernel
theorem dX12_solves_124 : decode cX12_solves 124 = .ok (.getfield 211, 3) := by decide +kernel
theorem dX12_solves_127 : decode cX12_solves 127 = .ok (.lneg, 1) := by decide +kernel
theorem dX12_solves_128 : decode cX12_solves 128 = .ok (.goto 7, 3) := by decide +kernel
theorem dX12_solves_131 : decode cX12_solves 131 = .ok (.aload_n 0, 1) := by decide +kernel
theorem dX12_solves_132 : decode cX12_solves 132 = .ok (.getfield 211, 3) := by decide +kernel
theorem dX12_solves_135 : decode cX12_solves 135 = .ok (.putfield 211, 3) := by decide +kernel
theorem dX12_solves_138 : decode cX12_solves 138 = .ok (.aload_n 0, 1) := by decide +kernel
theorem dX12_solves_139 : decode cX12_solves 139 = .ok (.iload_n 1, 1) := by decide +kernel
theorem dX12_solves_140 : decode cX12_solves 140 = .ok (.invokevirtual 215, 3) := by decide +kernel
theorem dX12_solves_143 : decode cX12_solves 143 = .ok (.ifCond .eq 10, 3) := by decide +kernel
theorem dX12_solves_146 : decode cX12_solves 146 = .ok (.aload_n 0, 1) := by decide +kernel
theorem dX12_solves_147 : decode cX12_solves 147 = .ok (.iload_n 1, 1) := by decide +kernel
theorem dX12_solves_148 : decode cX12_solves 148 = .ok (.putfield 200, 3) := by decide +kernel
theorem dX12_solves_151 : decode cX12_solves 151 = .ok (.iconst 1, 1) := by decide +kernel
theorem dX12_solves_152 : decode cX12_solves 152 = .ok (.ireturn, 1) := by decide +kernel
theorem dX12_solves_153 : decode cX12_solves 153 = .ok (.iinc 1 1, 3) := by decide +kernel
theorem dX12_solves_156 : decode cX12_solves 156 = .ok (.goto (-148), 3) := by decide +kernel
theorem dX12_solves_159 : decode cX12_solves 159 = .ok (.iconst 0, 1) := by decide +kernel
theorem dX12_solves_160 : decode cX12_solves 160 = .ok (.ireturn, 1) := by decide +kernel
theorem dX12_fits_0 : decode cX12_fits 0 = .ok (.iconst 1, 1) := by decide +kernel
theorem dX12_fits_1 : decode cX12_fits 1 = .ok (.istore_n 2, 1) := by decide +kernel
theorem dX12_fits_2 : decode cX12_fits 2 = .ok (.iconst 0, 1) := by decide +kernel
theorem dX12_fits_3 : decode cX12_fits 3 = .ok (.istore_n 3, 1) := by decide +kernel
theorem dX12_fits_4 : decode cX12_fits 4 = .ok (.iload_n 3, 1) := by decide +kernel
theorem dX12_fits_5 : decode cX12_fits 5 = .ok (.aload_n 0, 1) := by decide +kernel
theorem dX12_fits_6 : decode cX12_fits 6 = .ok (.getfield 169, 3) := by decide +kernel
theorem dX12_fits_9 : decode cX12_fits 9 = .ok (.if_icmp .ge 68, 3) := by decide +kernel
theorem dX12_fits_12 : decode cX12_fits 12 = .ok (.iload_n 2, 1) := by decide +kernel
theorem dX12_fits_13 : decode cX12_fits 13 = .ok (.ifCond .eq 56, 3) := by decide +kernel
theorem dX12_fits_16 : decode cX12_fits 16 = .ok (.aload_n 0, 1) := by decide +kernel
theorem dX12_fits_17 : decode cX12_fits 17 = .ok (.getfield 61, 3) := by decide +kernel
theorem dX12_fits_20 : decode cX12_fits 20 = .ok (.aload_n 0, 1) := by decide +kernel
theorem dX12_fits_21 : decode cX12_fits 21 = .ok (.getfield 28, 3) := by decide +kernel
theorem dX12_fits_24 : decode cX12_fits 24 = .ok (.iload_n 3, 1) := by decide +kernel
theorem dX12_fits_25 : decode cX12_fits 25 = .ok (.iaload, 1) := by decide +kernel
theorem dX12_fits_26 : decode cX12_fits 26 = .ok (.laload, 1) := by decide +kernel
theorem dX12_fits_27 : decode cX12_fits 27 = .ok (.aload_n 0, 1) := by decide +kernel
theorem dX12_fits_28 : decode cX12_fits 28 = .ok (.getfield 34, 3) := by decide +kernel
theorem dX12_fits_31 : decode cX12_fits 31 = .ok (.iload_n 3, 1) := by decide +kernel
theorem dX12_fits_32 : decode cX12_fits 32 = .ok (.iaload, 1) := by decide +kernel
theorem dX12_fits_33 : decode cX12_fits 33 = .ok (.i2l, 1) := by decide +kernel
theorem dX12_fits_34 : decode cX12_fits 34 = .ok (.aload_n 0, 1) := by decide +kernel
theorem dX12_fits_35 : decode cX12_fits 35 = .ok (.getfield 211, 3) := by decide +kernel
theorem dX12_fits_38 : decode cX12_fits 38 = .ok (.lmul, 1) := by decide +kernel
theorem dX12_fits_39 : decode cX12_fits 39 = .ok (.lcmp, 1) := by decide +kernel
theorem dX12_fits_40 : decode cX12_fits 40 = .ok (.ifCond .lt 7, 3) := by decide +kernel
theorem dX12_fits_43 : decode cX12_fits 43 = .ok (.iconst 1, 1) := by decide +kernel
theorem dX12_fits_44 : decode cX12_fits 44 = .ok (.goto 4, 3) := by decide +kernel
theorem dX12_fits_47 : decode cX12_fits 47 = .ok (.iconst 0, 1) := by decide +kernel
theorem dX12_fits_48 : decode cX12_fits 48 = .ok (.iload_n 1, 1) := by decide +kernel
theorem dX12_fits_49 : decode cX12_fits 49 = .ok (.iload_n 3, 1) := by decide +kernel
theorem dX12_fits_50 : decode cX12_fits 50 = .ok (.ishr, 1) := by decide +kernel
theorem dX12_fits_51 : decode cX12_fits 51 = .ok (.iconst 1, 1) := by decide +kernel
theorem dX12_fits_52 : decode cX12_fits 52 = .ok (.iand, 1) := by decide +kernel
theorem dX12_fits_53 : decode cX12_fits 53 = .ok (.iconst 1, 1) := by decide +kernel
theorem dX12_fits_54 : decode cX12_fits 54 = .ok (.if_icmp .ne 7, 3) := by decide +kernel
theorem dX12_fits_57 : decode cX12_fits 57 = .ok (.iconst 1, 1) := by decide +kernel
theorem dX12_fits_58 : decode cX12_fits 58 = .ok (.goto 4, 3) := by decide +kernel
theorem dX12_fits_61 : decode cX12_fits 61 = .ok (.iconst 0, 1) := by decide +kernel
theorem dX12_fits_62 : decode cX12_fits 62 = .ok (.if_icmp .ne 7, 3) := by decide +kernel
theorem dX12_fits_65 : decode cX12_fits 65 = .ok (.iconst 1, 1) := by decide +kernel
theorem dX12_fits_66 : decode cX12_fits 66 = .ok (.goto 4, 3) := by decide +kernel
theorem dX12_fits_69 : decode cX12_fits 69 = .ok (.iconst 0, 1) := by decide +kernel
theorem dX12_fits_70 : decode cX12_fits 70 = .ok (.istore_n 2, 1) := by decide +kernel
theorem dX12_fits_71 : decode cX12_fits 71 = .ok (.iinc 3 1, 3) := by decide +kernel
theorem dX12_fits_74 : decode cX12_fits 74 = .ok (.goto (-70), 3) := by decide +kernel
theorem dX12_fits_77 : decode cX12_fits 77 = .ok (.iconst 0, 1) := by decide +kernel
theorem dX12_fits_78 : decode cX12_fits 78 = .ok (.istore_n 3, 1) := by decide +kernel
theorem dX12_fits_79 : decode cX12_fits 79 = .ok (.iload_n 3, 1) := by decide +kernel
theorem dX12_fits_80 : decode cX12_fits 80 = .ok (.aload_n 0, 1) := by decide +kernel
theorem dX12_fits_81 : decode cX12_fits 81 = .ok (.getfield 172, 3) := by decide +kernel
theorem dX12_fits_84 : decode cX12_fits 84 = .ok (.if_icmp .ge 70, 3) := by decide +kernel
theorem dX12_fits_87 : decode cX12_fits 87 = .ok (.iload_n 2, 1) := by decide +kernel
theorem dX12_fits_88 : decode cX12_fits 88 = .ok (.ifCond .eq 58, 3) := by decide +kernel
theorem dX12_fits_91 : decode cX12_fits 91 = .ok (.aload_n 0, 1) := by decide +kernel
theorem dX12_fits_92 : decode cX12_fits 92 = .ok (.getfield 61, 3) := by decide +kernel
theorem dX12_fits_95 : decode cX12_fits 95 = .ok (.aload_n 0, 1) := by decide +kernel
theorem dX12_fits_96 : decode cX12_fits 96 = .ok (.getfield 40, 3) := by decide +kernel
theorem dX12_fits_99 : decode cX12_fits 99 = .ok (.iload_n 3, 1) := by decide +kernel
theorem dX12_fits_100 : decode cX12_fits 100 = .ok (.iaload, 1) := by decide +kernel
theorem dX12_fits_101 : decode cX12_fits 101 = .ok (.laload, 1) := by decide +kernel
theorem dX12_fits_102 : decode cX12_fits 102 = .ok (.aload_n 0, 1) := by decide +kernel
theorem dX12_fits_103 : decode cX12_fits 103 = .ok (.getfield 43, 3) := by decide +kernel
theorem dX12_fits_106 : decode cX12_fits 106 = .ok (.iload_n 3, 1) := by decide +kernel
theorem dX12_fits_107 : decode cX12_fits 107 = .ok (.iaload, 1) := by decide +kernel
theorem dX12_fits_108 : decode cX12_fits 108 = .ok (.i2l, 1) := by decide +kernel
theorem dX12_fits_109 : decode cX12_fits 109 = .ok (.aload_n 0, 1) := by decide +kernel
theorem dX12_fits_110 : decode cX12_fits 110 = .ok (.getfield 211, 3) := by decide +kernel
theorem dX12_fits_113 : decode cX12_fits 113 = .ok (.lmul, 1) := by decide +kernel
theorem dX12_fits_114 : decode cX12_fits 114 = .ok (.lcmp, 1) := by decide +kernel
theorem dX12_fits_115 : decode cX12_fits 115 = .ok (.ifCond .le 7, 3) := by decide +kernel
theorem dX12_fits_118 : decode cX12_fits 118 = .ok (.iconst 1, 1) := by decide +kernel
theorem dX12_fits_119 : decode cX12_fits 119 = .ok (.goto 4, 3) := by decide +kernel
theorem dX12_fits_122 : decode cX12_fits 122 = .ok (.iconst 0, 1) := by decide +kernel
theorem dX12_fits_123 : decode cX12_fits 123 = .ok (.iload_n 1, 1) := by decide +kernel
theorem dX12_fits_124 : decode cX12_fits 124 = .ok (.iload_n 3, 1) := by decide +kernel
theorem dX12_fits_125 : decode cX12_fits 125 = .ok (.iconst 3, 1) := by decide +kernel
theorem dX12_fits_126 : decode cX12_fits 126 = .ok (.iadd, 1) := by decide +kernel
theorem dX12_fits_127 : decode cX12_fits 127 = .ok (.ishr, 1) := by decide +kernel
theorem dX12_fits_128 : decode cX12_fits 128 = .ok (.iconst 1, 1) := by decide +kernel
theorem dX12_fits_129 : decode cX12_fits 129 = .ok (.iand, 1) := by decide +kernel
theorem dX12_fits_130 : decode cX12_fits 130 = .ok (.iconst 1, 1) := by decide +kernel
theorem dX12_fits_131 : decode cX12_fits 131 = .ok (.if_icmp .ne 7, 3) := by decide +kernel
theorem dX12_fits_134 : decode cX12_fits 134 = .ok (.iconst 1, 1) := by decide +kernel
theorem dX12_fits_135 : decode cX12_fits 135 = .ok (.goto 4, 3) := by decide +kernel
theorem dX12_fits_138 : decode cX12_fits 138 = .ok (.iconst 0, 1) := by decide +kernel
theorem dX12_fits_139 : decode cX12_fits 139 = .ok (.if_icmp .ne 7, 3) := by decide +kernel
theorem dX12_fits_142 : decode cX12_fits 142 = .ok (.iconst 1, 1) := by decide +kernel
theorem dX12_fits_143 : decode cX12_fits 143 = .ok (.goto 4, 3) := by decide +kernel
theorem dX12_fits_146 : decode cX12_fits 146 = .ok (.iconst 0, 1) := by decide +kernel
theorem dX12_fits_147 : decode cX12_fits 147 = .ok (.istore_n 2, 1) := by decide +kernel
theorem dX12_fits_148 : decode cX12_fits 148 = .ok (.iinc 3 1, 3) := by decide +kernel
theorem dX12_fits_151 : decode cX12_fits 151 = .ok (.goto (-72), 3) := by decide +kernel
theorem dX12_fits_154 : decode cX12_fits 154 = .ok (.iload_n 2, 1) := by decide +kernel
theorem dX12_fits_155 : decode cX12_fits 155 = .ok (.ireturn, 1) := by decide +kernel
theorem dX12_rests_0 : decode cX12_rests 0 = .ok (.aload_n 0, 1) := by decide +kernel
theorem dX12_rests_1 : decode cX12_rests 1 = .ok (.invokevirtual 218, 3) := by decide +kernel
theorem dX12_rests_4 : decode cX12_rests 4 = .ok (.aload_n 0, 1) := by decide +kernel
theorem dX12_rests_5 : decode cX12_rests 5 = .ok (.invokevirtual 221, 3) := by decide +kernel
theorem dX12_rests_8 : decode cX12_rests 8 = .ok (.ireturn, 1) := by decide +kernel
theorem dX12_asIs_0 : decode cX12_asIs 0 = .ok (.iconst 0, 1) := by decide +kernel
theorem dX12_asIs_1 : decode cX12_asIs 1 = .ok (.istore_n 1, 1) := by decide +kernel
theorem dX12_asIs_2 : decode cX12_asIs 2 = .ok (.iload_n 1, 1) := by decide +kernel
theorem dX12_asIs_3 : decode cX12_asIs 3 = .ok (.bipush 12, 2) := by decide +kernel
theorem dX12_asIs_5 : decode cX12_asIs 5 = .ok (.if_icmp .ge 21, 3) := by decide +kernel
theorem dX12_asIs_8 : decode cX12_asIs 8 = .ok (.aload_n 0, 1) := by decide +kernel
theorem dX12_asIs_9 : decode cX12_asIs 9 = .ok (.getfield 65, 3) := by decide +kernel
theorem dX12_asIs_12 : decode cX12_asIs 12 = .ok (.iload_n 1, 1) := by decide +kernel
theorem dX12_asIs_13 : decode cX12_asIs 13 = .ok (.aload_n 0, 1) := by decide +kernel
theorem dX12_asIs_14 : decode cX12_asIs 14 = .ok (.getfield 25, 3) := by decide +kernel
theorem dX12_asIs_17 : decode cX12_asIs 17 = .ok (.iload_n 1, 1) := by decide +kernel
theorem dX12_asIs_18 : decode cX12_asIs 18 = .ok (.iaload, 1) := by decide +kernel
theorem dX12_asIs_19 : decode cX12_asIs 19 = .ok (.iastore, 1) := by decide +kernel
theorem dX12_asIs_20 : decode cX12_asIs 20 = .ok (.iinc 1 1, 3) := by decide +kernel
theorem dX12_asIs_23 : decode cX12_asIs 23 = .ok (.goto (-21), 3) := by decide +kernel
theorem dX12_asIs_26 : decode cX12_asIs 26 = .ok (.iconst 0, 1) := by decide +kernel
theorem dX12_asIs_27 : decode cX12_asIs 27 = .ok (.istore_n 1, 1) := by decide +kernel
theorem dX12_asIs_28 : decode cX12_asIs 28 = .ok (.iload_n 1, 1) := by decide +kernel
theorem dX12_asIs_29 : decode cX12_asIs 29 = .ok (.iconst 3, 1) := by decide +kernel
theorem dX12_asIs_30 : decode cX12_asIs 30 = .ok (.if_icmp .ge 21, 3) := by decide +kernel
theorem dX12_asIs_33 : decode cX12_asIs 33 = .ok (.aload_n 0, 1) := by decide +kernel
theorem dX12_asIs_34 : decode cX12_asIs 34 = .ok (.getfield 68, 3) := by decide +kernel
theorem dX12_asIs_37 : decode cX12_asIs 37 = .ok (.iload_n 1, 1) := by decide +kernel
theorem dX12_asIs_38 : decode cX12_asIs 38 = .ok (.aload_n 0, 1) := by decide +kernel
theorem dX12_asIs_39 : decode cX12_asIs 39 = .ok (.getfield 58, 3) := by decide +kernel
theorem dX12_asIs_42 : decode cX12_asIs 42 = .ok (.iload_n 1, 1) := by decide +kernel
theorem dX12_asIs_43 : decode cX12_asIs 43 = .ok (.iaload, 1) := by decide +kernel
theorem dX12_asIs_44 : decode cX12_asIs 44 = .ok (.iastore, 1) := by decide +kernel
theorem dX12_asIs_45 : decode cX12_asIs 45 = .ok (.iinc 1 1, 3) := by decide +kernel
theorem dX12_asIs_48 : decode cX12_asIs 48 = .ok (.goto (-20), 3) := by decide +kernel
theorem dX12_asIs_51 : decode cX12_asIs 51 = .ok (.return_, 1) := by decide +kernel
theorem dX12_milliOf_0 : decode cX12_milliOf 0 = .ok (.ldc2_w 167, 3) := by decide +kernel
theorem dX12_milliOf_3 : decode cX12_milliOf 3 = .ok (.lload_n 1, 1) := by decide +kernel
theorem dX12_milliOf_4 : decode cX12_milliOf 4 = .ok (.lmul, 1) := by decide +kernel
theorem dX12_milliOf_5 : decode cX12_milliOf 5 = .ok (.aload_n 0, 1) := by decide +kernel
theorem dX12_milliOf_6 : decode cX12_milliOf 6 = .ok (.getfield 211, 3) := by decide +kernel
theorem dX12_milliOf_9 : decode cX12_milliOf 9 = .ok (.invokestatic 225, 3) := by decide +kernel
theorem dX12_milliOf_12 : decode cX12_milliOf 12 = .ok (.l2i, 1) := by decide +kernel
theorem dX12_milliOf_13 : decode cX12_milliOf 13 = .ok (.ireturn, 1) := by decide +kernel
theorem dX12_flowOf_0 : decode cX12_flowOf 0 = .ok (.aload_n 0, 1) := by decide +kernel
theorem dX12_flowOf_1 : decode cX12_flowOf 1 = .ok (.getfield 65, 3) := by decide +kernel
theorem dX12_flowOf_4 : decode cX12_flowOf 4 = .ok (.iload_n 1, 1) := by decide +kernel
theorem dX12_flowOf_5 : decode cX12_flowOf 5 = .ok (.iaload, 1) := by decide +kernel
theorem dX12_flowOf_6 : decode cX12_flowOf 6 = .ok (.i2l, 1) := by decide +kernel
theorem dX12_flowOf_7 : decode cX12_flowOf 7 = .ok (.aload_n 0, 1) := by decide +kernel
theorem dX12_flowOf_8 : decode cX12_flowOf 8 = .ok (.getfield 61, 3) := by decide +kernel
theorem dX12_flowOf_11 : decode cX12_flowOf 11 = .ok (.aload_n 0, 1) := by decide +kernel
theorem dX12_flowOf_12 : decode cX12_flowOf 12 = .ok (.getfield 19, 3) := by decide +kernel
theorem dX12_flowOf_15 : decode cX12_flowOf 15 = .ok (.iload_n 1, 1) := by decide +kernel
theorem dX12_flowOf_16 : decode cX12_flowOf 16 = .ok (.iaload, 1) := by decide +kernel
theorem dX12_flowOf_17 : decode cX12_flowOf 17 = .ok (.laload, 1) := by decide +kernel
theorem dX12_flowOf_18 : decode cX12_flowOf 18 = .ok (.aload_n 0, 1) := by decide +kernel
theorem dX12_flowOf_19 : decode cX12_flowOf 19 = .ok (.getfield 61, 3) := by decide +kernel
theorem dX12_flowOf_22 : decode cX12_flowOf 22 = .ok (.aload_n 0, 1) := by decide +kernel
theorem dX12_flowOf_23 : decode cX12_flowOf 23 = .ok (.getfield 22, 3) := by decide +kernel
theorem dX12_flowOf_26 : decode cX12_flowOf 26 = .ok (.iload_n 1, 1) := by decide +kernel
theorem dX12_flowOf_27 : decode cX12_flowOf 27 = .ok (.iaload, 1) := by decide +kernel
theorem dX12_flowOf_28 : decode cX12_flowOf 28 = .ok (.laload, 1) := by decide +kernel
theorem dX12_flowOf_29 : decode cX12_flowOf 29 = .ok (.lsub, 1) := by decide +kernel
theorem dX12_flowOf_30 : decode cX12_flowOf 30 = .ok (.lmul, 1) := by decide +kernel
theorem dX12_flowOf_31 : decode cX12_flowOf 31 = .ok (.lreturn, 1) := by decide +kernel
theorem dX12_givesOf_0 : decode cX12_givesOf 0 = .ok (.aload_n 0, 1) := by decide +kernel
theorem dX12_givesOf_1 : decode cX12_givesOf 1 = .ok (.getfield 200, 3) := by decide +kernel
theorem dX12_givesOf_4 : decode cX12_givesOf 4 = .ok (.iload_n 1, 1) := by decide +kernel
theorem dX12_givesOf_5 : decode cX12_givesOf 5 = .ok (.ishr, 1) := by decide +kernel
theorem dX12_givesOf_6 : decode cX12_givesOf 6 = .ok (.iconst 1, 1) := by decide +kernel
theorem dX12_givesOf_7 : decode cX12_givesOf 7 = .ok (.iand, 1) := by decide +kernel
theorem dX12_givesOf_8 : decode cX12_givesOf 8 = .ok (.iconst 1, 1) := by decide +kernel
theorem dX12_givesOf_9 : decode cX12_givesOf 9 = .ok (.if_icmp .ne 38, 3) := by decide +kernel
theorem dX12_givesOf_12 : decode cX12_givesOf 12 = .ok (.aload_n 0, 1) := by decide +kernel
theorem dX12_givesOf_13 : decode cX12_givesOf 13 = .ok (.getfield 37, 3) := by decide +kernel
theorem dX12_givesOf_16 : decode cX12_givesOf 16 = .ok (.iload_n 1, 1) := by decide +kernel
theorem dX12_givesOf_17 : decode cX12_givesOf 17 = .ok (.iaload, 1) := by decide +kernel
theorem dX12_givesOf_18 : decode cX12_givesOf 18 = .ok (.i2l, 1) := by decide +kernel
theorem dX12_givesOf_19 : decode cX12_givesOf 19 = .ok (.aload_n 0, 1) := by decide +kernel
theorem dX12_givesOf_20 : decode cX12_givesOf 20 = .ok (.getfield 31, 3) := by decide +kernel
theorem dX12_givesOf_23 : decode cX12_givesOf 23 = .ok (.iload_n 1, 1) := by decide +kernel
theorem dX12_givesOf_24 : decode cX12_givesOf 24 = .ok (.iaload, 1) := by decide +kernel
theorem dX12_givesOf_25 : decode cX12_givesOf 25 = .ok (.i2l, 1) := by decide +kernel
theorem dX12_givesOf_26 : decode cX12_givesOf 26 = .ok (.aload_n 0, 1) := by decide +kernel
theorem dX12_givesOf_27 : decode cX12_givesOf 27 = .ok (.getfield 211, 3) := by decide +kernel
theorem dX12_givesOf_30 : decode cX12_givesOf 30 = .ok (.lmul, 1) := by decide +kernel
theorem dX12_givesOf_31 : decode cX12_givesOf 31 = .ok (.aload_n 0, 1) := by decide +kernel
theorem dX12_givesOf_32 : decode cX12_givesOf 32 = .ok (.getfield 61, 3) := by decide +kernel
theorem dX12_givesOf_35 : decode cX12_givesOf 35 = .ok (.aload_n 0, 1) := by decide +kernel
theorem dX12_givesOf_36 : decode cX12_givesOf 36 = .ok (.getfield 28, 3) := by decide +kernel
theorem dX12_givesOf_39 : decode cX12_givesOf 39 = .ok (.iload_n 1, 1) := by decide +kernel
theorem dX12_givesOf_40 : decode cX12_givesOf 40 = .ok (.iaload, 1) := by decide +kernel
theorem dX12_givesOf_41 : decode cX12_givesOf 41 = .ok (.laload, 1) := by decide +kernel
theorem dX12_givesOf_42 : decode cX12_givesOf 42 = .ok (.lsub, 1) := by decide +kernel
theorem dX12_givesOf_43 : decode cX12_givesOf 43 = .ok (.lmul, 1) := by decide +kernel
theorem dX12_givesOf_44 : decode cX12_givesOf 44 = .ok (.goto 29, 3) := by decide +kernel
theorem dX12_givesOf_47 : decode cX12_givesOf 47 = .ok (.aload_n 0, 1) := by decide +kernel
theorem dX12_givesOf_48 : decode cX12_givesOf 48 = .ok (.getfield 37, 3) := by decide +kernel
theorem dX12_givesOf_51 : decode cX12_givesOf 51 = .ok (.iload_n 1, 1) := by decide +kernel
theorem dX12_givesOf_52 : decode cX12_givesOf 52 = .ok (.iaload, 1) := by decide +kernel
theorem dX12_givesOf_53 : decode cX12_givesOf 53 = .ok (.aload_n 0, 1) := by decide +kernel
theorem dX12_givesOf_54 : decode cX12_givesOf 54 = .ok (.getfield 31, 3) := by decide +kernel
theorem dX12_givesOf_57 : decode cX12_givesOf 57 = .ok (.iload_n 1, 1) := by decide +kernel
theorem dX12_givesOf_58 : decode cX12_givesOf 58 = .ok (.iaload, 1) := by decide +kernel
theorem dX12_givesOf_59 : decode cX12_givesOf 59 = .ok (.aload_n 0, 1) := by decide +kernel
theorem dX12_givesOf_60 : decode cX12_givesOf 60 = .ok (.getfield 34, 3) := by decide +kernel
theorem dX12_givesOf_63 : decode cX12_givesOf 63 = .ok (.iload_n 1, 1) := by decide +kernel
theorem dX12_givesOf_64 : decode cX12_givesOf 64 = .ok (.iaload, 1) := by decide +kernel
theorem dX12_givesOf_65 : decode cX12_givesOf 65 = .ok (.isub, 1) := by decide +kernel
theorem dX12_givesOf_66 : decode cX12_givesOf 66 = .ok (.imul, 1) := by decide +kernel
theorem dX12_givesOf_67 : decode cX12_givesOf 67 = .ok (.i2l, 1) := by decide +kernel
theorem dX12_givesOf_68 : decode cX12_givesOf 68 = .ok (.aload_n 0, 1) := by decide +kernel
theorem dX12_givesOf_69 : decode cX12_givesOf 69 = .ok (.getfield 211, 3) := by decide +kernel
theorem dX12_givesOf_72 : decode cX12_givesOf 72 = .ok (.lmul, 1) := by decide +kernel
theorem dX12_givesOf_73 : decode cX12_givesOf 73 = .ok (.lreturn, 1) := by decide +kernel
theorem dX12_takesOf_0 : decode cX12_takesOf 0 = .ok (.aload_n 0, 1) := by decide +kernel
theorem dX12_takesOf_1 : decode cX12_takesOf 1 = .ok (.getfield 200, 3) := by decide +kernel
theorem dX12_takesOf_4 : decode cX12_takesOf 4 = .ok (.iload_n 1, 1) := by decide +kernel
theorem dX12_takesOf_5 : decode cX12_takesOf 5 = .ok (.iconst 3, 1) := by decide +kernel
theorem dX12_takesOf_6 : decode cX12_takesOf 6 = .ok (.iadd, 1) := by decide +kernel
theorem dX12_takesOf_7 : decode cX12_takesOf 7 = .ok (.ishr, 1) := by decide +kernel
theorem dX12_takesOf_8 : decode cX12_takesOf 8 = .ok (.iconst 1, 1) := by decide +kernel
theorem dX12_takesOf_9 : decode cX12_takesOf 9 = .ok (.iand, 1) := by decide +kernel
theorem dX12_takesOf_10 : decode cX12_takesOf 10 = .ok (.iconst 1, 1) := by decide +kernel
theorem dX12_takesOf_11 : decode cX12_takesOf 11 = .ok (.if_icmp .ne 38, 3) := by decide +kernel
theorem dX12_takesOf_14 : decode cX12_takesOf 14 = .ok (.aload_n 0, 1) := by decide +kernel
theorem dX12_takesOf_15 : decode cX12_takesOf 15 = .ok (.getfield 46, 3) := by decide +kernel
theorem dX12_takesOf_18 : decode cX12_takesOf 18 = .ok (.iload_n 1, 1) := by decide +kernel
theorem dX12_takesOf_19 : decode cX12_takesOf 19 = .ok (.iaload, 1) := by decide +kernel
theorem dX12_takesOf_20 : decode cX12_takesOf 20 = .ok (.i2l, 1) := by decide +kernel
theorem dX12_takesOf_21 : decode cX12_takesOf 21 = .ok (.aload_n 0, 1) := by decide +kernel
theorem dX12_takesOf_22 : decode cX12_takesOf 22 = .ok (.getfield 61, 3) := by decide +kernel
theorem dX12_takesOf_25 : decode cX12_takesOf 25 = .ok (.aload_n 0, 1) := by decide +kernel
theorem dX12_takesOf_26 : decode cX12_takesOf 26 = .ok (.getfield 40, 3) := by decide +kernel
theorem dX12_takesOf_29 : decode cX12_takesOf 29 = .ok (.iload_n 1, 1) := by decide +kernel
theorem dX12_takesOf_30 : decode cX12_takesOf 30 = .ok (.iaload, 1) := by decide +kernel
theorem dX12_takesOf_31 : decode cX12_takesOf 31 = .ok (.laload, 1) := by decide +kernel
theorem dX12_takesOf_32 : decode cX12_takesOf 32 = .ok (.aload_n 0, 1) := by decide +kernel
theorem dX12_takesOf_33 : decode cX12_takesOf 33 = .ok (.getfield 43, 3) := by decide +kernel
theorem dX12_takesOf_36 : decode cX12_takesOf 36 = .ok (.iload_n 1, 1) := by decide +kernel
theorem dX12_takesOf_37 : decode cX12_takesOf 37 = .ok (.iaload, 1) := by decide +kernel
theorem dX12_takesOf_38 : decode cX12_takesOf 38 = .ok (.i2l, 1) := by decide +kernel
theorem dX12_takesOf_39 : decode cX12_takesOf 39 = .ok (.aload_n 0, 1) := by decide +kernel
theorem dX12_takesOf_40 : decode cX12_takesOf 40 = .ok (.getfield 211, 3) := by decide +kernel
theorem dX12_takesOf_43 : decode cX12_takesOf 43 = .ok (.lmul, 1) := by decide +kernel
theorem dX12_takesOf_44 : decode cX12_takesOf 44 = .ok (.lsub, 1) := by decide +kernel
theorem dX12_takesOf_45 : decode cX12_takesOf 45 = .ok (.lmul, 1) := by decide +kernel
theorem dX12_takesOf_46 : decode cX12_takesOf 46 = .ok (.goto 4, 3) := by decide +kernel
theorem dX12_takesOf_49 : decode cX12_takesOf 49 = .ok (.lconst 0, 1) := by decide +kernel
theorem dX12_takesOf_50 : decode cX12_takesOf 50 = .ok (.lreturn, 1) := by decide +kernel
theorem dX12_pattern_0 : decode cX12_pattern 0 = .ok (.aload_n 0, 1) := by decide +kernel
theorem dX12_pattern_1 : decode cX12_pattern 1 = .ok (.iconst 0, 1) := by decide +kernel
theorem dX12_pattern_2 : decode cX12_pattern 2 = .ok (.putfield 133, 3) := by decide +kernel
theorem dX12_pattern_5 : decode cX12_pattern 5 = .ok (.aload_n 0, 1) := by decide +kernel
theorem dX12_pattern_6 : decode cX12_pattern 6 = .ok (.invokevirtual 229, 3) := by decide +kernel
theorem dX12_pattern_9 : decode cX12_pattern 9 = .ok (.ifCond .eq 10, 3) := by decide +kernel
theorem dX12_pattern_12 : decode cX12_pattern 12 = .ok (.aload_n 0, 1) := by decide +kernel
theorem dX12_pattern_13 : decode cX12_pattern 13 = .ok (.getfield 200, 3) := by decide +kernel
theorem dX12_pattern_16 : decode cX12_pattern 16 = .ok (.goto 5, 3) := by decide +kernel
theorem dX12_pattern_19 : decode cX12_pattern 19 = .ok (.ldc 132, 2) := by decide +kernel
theorem dX12_pattern_21 : decode cX12_pattern 21 = .ok (.ireturn, 1) := by decide +kernel
theorem dX12_told_0 : decode cX12_told 0 = .ok (.lload_n 0, 1) := by decide +kernel
theorem dX12_told_1 : decode cX12_told 1 = .ok (.lload_n 2, 1) := by decide +kernel
theorem dX12_told_2 : decode cX12_told 2 = .ok (.invokestatic 232, 3) := by decide +kernel
theorem dX12_told_5 : decode cX12_told 5 = .ok (.lstore 5, 2) := by decide +kernel
theorem dX12_told_7 : decode cX12_told 7 = .ok (.iload 4, 2) := by decide +kernel
theorem dX12_told_9 : decode cX12_told 9 = .ok (.ifCond .eq 10, 3) := by decide +kernel
theorem dX12_told_12 : decode cX12_told 12 = .ok (.lload_n 0, 1) := by decide +kernel
theorem dX12_told_13 : decode cX12_told 13 = .ok (.lload 5, 2) := by decide +kernel
theorem dX12_told_15 : decode cX12_told 15 = .ok (.ldiv, 1) := by decide +kernel
theorem dX12_told_16 : decode cX12_told 16 = .ok (.goto 7, 3) := by decide +kernel
theorem dX12_told_19 : decode cX12_told 19 = .ok (.lload_n 2, 1) := by decide +kernel
theorem dX12_told_20 : decode cX12_told 20 = .ok (.lload 5, 2) := by decide +kernel
theorem dX12_told_22 : decode cX12_told 22 = .ok (.ldiv, 1) := by decide +kernel
theorem dX12_told_23 : decode cX12_told 23 = .ok (.lreturn, 1) := by decide +kernel
theorem dX12_head_0 : decode cX12_head 0 = .ok (.aload_n 0, 1) := by decide +kernel
theorem dX12_head_1 : decode cX12_head 1 = .ok (.iconst 0, 1) := by decide +kernel
theorem dX12_head_2 : decode cX12_head 2 = .ok (.putfield 133, 3) := by decide +kernel
theorem dX12_head_5 : decode cX12_head 5 = .ok (.aload_n 0, 1) := by decide +kernel
theorem dX12_head_6 : decode cX12_head 6 = .ok (.iload_n 1, 1) := by decide +kernel
theorem dX12_head_7 : decode cX12_head 7 = .ok (.invokevirtual 155, 3) := by decide +kernel
theorem dX12_head_10 : decode cX12_head 10 = .ok (.ifCond .eq 7, 3) := by decide +kernel
theorem dX12_head_13 : decode cX12_head 13 = .ok (.ldc2_w 235, 3) := by decide +kernel
theorem dX12_head_16 : decode cX12_head 16 = .ok (.lreturn, 1) := by decide +kernel
theorem dX12_head_17 : decode cX12_head 17 = .ok (.aload_n 0, 1) := by decide +kernel
theorem dX12_head_18 : decode cX12_head 18 = .ok (.invokevirtual 229, 3) := by decide +kernel
theorem dX12_head_21 : decode cX12_head 21 = .ok (.ifCond .eq 20, 3) := by decide +kernel
theorem dX12_head_24 : decode cX12_head 24 = .ok (.aload_n 0, 1) := by decide +kernel
theorem dX12_head_25 : decode cX12_head 25 = .ok (.getfield 61, 3) := by decide +kernel
theorem dX12_head_28 : decode cX12_head 28 = .ok (.iload_n 1, 1) := by decide +kernel
theorem dX12_head_29 : decode cX12_head 29 = .ok (.laload, 1) := by decide +kernel
theorem dX12_head_30 : decode cX12_head 30 = .ok (.aload_n 0, 1) := by decide +kernel
theorem dX12_head_31 : decode cX12_head 31 = .ok (.getfield 211, 3) := by decide +kernel
theorem dX12_head_34 : decode cX12_head 34 = .ok (.iload_n 2, 1) := by decide +kernel
theorem dX12_head_35 : decode cX12_head 35 = .ok (.invokestatic 237, 3) := by decide +kernel
theorem dX12_head_38 : decode cX12_head 38 = .ok (.goto 6, 3) := by decide +kernel
theorem dX12_head_41 : decode cX12_head 41 = .ok (.ldc2_w 241, 3) := by decide +kernel
theorem dX12_head_44 : decode cX12_head 44 = .ok (.lreturn, 1) := by decide +kernel
theorem dX12_milli_0 : decode cX12_milli 0 = .ok (.aload_n 0, 1) := by decide +kernel
theorem dX12_milli_1 : decode cX12_milli 1 = .ok (.iconst 0, 1) := by decide +kernel
theorem dX12_milli_2 : decode cX12_milli 2 = .ok (.putfield 133, 3) := by decide +kernel
theorem dX12_milli_5 : decode cX12_milli 5 = .ok (.aload_n 0, 1) := by decide +kernel
theorem dX12_milli_6 : decode cX12_milli 6 = .ok (.iload_n 1, 1) := by decide +kernel
theorem dX12_milli_7 : decode cX12_milli 7 = .ok (.invokevirtual 155, 3) := by decide +kernel
theorem dX12_milli_10 : decode cX12_milli 10 = .ok (.ifCond .eq 8, 3) := by decide +kernel
theorem dX12_milli_13 : decode cX12_milli 13 = .ok (.ldc 159, 2) := by decide +kernel
theorem dX12_milli_15 : decode cX12_milli 15 = .ok (.goto 25, 3) := by decide +kernel
theorem dX12_milli_18 : decode cX12_milli 18 = .ok (.aload_n 0, 1) := by decide +kernel
theorem dX12_milli_19 : decode cX12_milli 19 = .ok (.invokevirtual 229, 3) := by decide +kernel
theorem dX12_milli_22 : decode cX12_milli 22 = .ok (.ifCond .eq 16, 3) := by decide +kernel
theorem dX12_milli_25 : decode cX12_milli 25 = .ok (.aload_n 0, 1) := by decide +kernel
theorem dX12_milli_26 : decode cX12_milli 26 = .ok (.aload_n 0, 1) := by decide +kernel
theorem dX12_milli_27 : decode cX12_milli 27 = .ok (.getfield 61, 3) := by decide +kernel
theorem dX12_milli_30 : decode cX12_milli 30 = .ok (.iload_n 1, 1) := by decide +kernel
theorem dX12_milli_31 : decode cX12_milli 31 = .ok (.laload, 1) := by decide +kernel
theorem dX12_milli_32 : decode cX12_milli 32 = .ok (.invokevirtual 243, 3) := by decide +kernel
theorem dX12_milli_35 : decode cX12_milli 35 = .ok (.goto 5, 3) := by decide +kernel
theorem dX12_milli_38 : decode cX12_milli 38 = .ok (.ldc 163, 2) := by decide +kernel
theorem dX12_milli_40 : decode cX12_milli 40 = .ok (.ireturn, 1) := by decide +kernel
theorem dX12_flow_0 : decode cX12_flow 0 = .ok (.aload_n 0, 1) := by decide +kernel
theorem dX12_flow_1 : decode cX12_flow 1 = .ok (.iconst 0, 1) := by decide +kernel
theorem dX12_flow_2 : decode cX12_flow 2 = .ok (.putfield 133, 3) := by decide +kernel
theorem dX12_flow_5 : decode cX12_flow 5 = .ok (.iload_n 1, 1) := by decide +kernel
theorem dX12_flow_6 : decode cX12_flow 6 = .ok (.i2l, 1) := by decide +kernel
theorem dX12_flow_7 : decode cX12_flow 7 = .ok (.lconst 0, 1) := by decide +kernel
theorem dX12_flow_8 : decode cX12_flow 8 = .ok (.aload_n 0, 1) := by decide +kernel
theorem dX12_flow_9 : decode cX12_flow 9 = .ok (.getfield 164, 3) := by decide +kernel
theorem dX12_flow_12 : decode cX12_flow 12 = .ok (.iconst 1, 1) := by decide +kernel
theorem dX12_flow_13 : decode cX12_flow 13 = .ok (.isub, 1) := by decide +kernel
theorem dX12_flow_14 : decode cX12_flow 14 = .ok (.i2l, 1) := by decide +kernel
theorem dX12_flow_15 : decode cX12_flow 15 = .ok (.invokestatic 140, 3) := by decide +kernel
theorem dX12_flow_18 : decode cX12_flow 18 = .ok (.ifCond .ne 8, 3) := by decide +kernel
theorem dX12_flow_21 : decode cX12_flow 21 = .ok (.ldc 159, 2) := by decide +kernel
theorem dX12_flow_23 : decode cX12_flow 23 = .ok (.goto 24, 3) := by decide +kernel
theorem dX12_flow_26 : decode cX12_flow 26 = .ok (.aload_n 0, 1) := by decide +kernel
theorem dX12_flow_27 : decode cX12_flow 27 = .ok (.invokevirtual 229, 3) := by decide +kernel
theorem dX12_flow_30 : decode cX12_flow 30 = .ok (.ifCond .eq 15, 3) := by decide +kernel
theorem dX12_flow_33 : decode cX12_flow 33 = .ok (.aload_n 0, 1) := by decide +kernel
theorem dX12_flow_34 : decode cX12_flow 34 = .ok (.aload_n 0, 1) := by decide +kernel
theorem dX12_flow_35 : decode cX12_flow 35 = .ok (.iload_n 1, 1) := by decide +kernel
theorem dX12_flow_36 : decode cX12_flow 36 = .ok (.invokevirtual 247, 3) := by decide +kernel
theorem dX12_flow_39 : decode cX12_flow 39 = .ok (.invokevirtual 243, 3) := by decide +kernel
theorem dX12_flow_42 : decode cX12_flow 42 = .ok (.goto 5, 3) := by decide +kernel
theorem dX12_flow_45 : decode cX12_flow 45 = .ok (.ldc 163, 2) := by decide +kernel
theorem dX12_flow_47 : decode cX12_flow 47 = .ok (.ireturn, 1) := by decide +kernel
theorem dX12_gives_0 : decode cX12_gives 0 = .ok (.aload_n 0, 1) := by decide +kernel
theorem dX12_gives_1 : decode cX12_gives 1 = .ok (.iconst 0, 1) := by decide +kernel
theorem dX12_gives_2 : decode cX12_gives 2 = .ok (.putfield 133, 3) := by decide +kernel
theorem dX12_gives_5 : decode cX12_gives 5 = .ok (.iload_n 1, 1) := by decide +kernel
theorem dX12_gives_6 : decode cX12_gives 6 = .ok (.i2l, 1) := by decide +kernel
theorem dX12_gives_7 : decode cX12_gives 7 = .ok (.lconst 0, 1) := by decide +kernel
theorem dX12_gives_8 : decode cX12_gives 8 = .ok (.aload_n 0, 1) := by decide +kernel
theorem dX12_gives_9 : decode cX12_gives 9 = .ok (.getfield 169, 3) := by decide +kernel
theorem dX12_gives_12 : decode cX12_gives 12 = .ok (.iconst 1, 1) := by decide +kernel
theorem dX12_gives_13 : decode cX12_gives 13 = .ok (.isub, 1) := by decide +kernel
theorem dX12_gives_14 : decode cX12_gives 14 = .ok (.i2l, 1) := by decide +kernel
theorem dX12_gives_15 : decode cX12_gives 15 = .ok (.invokestatic 140, 3) := by decide +kernel
theorem dX12_gives_18 : decode cX12_gives 18 = .ok (.ifCond .ne 8, 3) := by decide +kernel
theorem dX12_gives_21 : decode cX12_gives 21 = .ok (.ldc 159, 2) := by decide +kernel
theorem dX12_gives_23 : decode cX12_gives 23 = .ok (.goto 24, 3) := by decide +kernel
theorem dX12_gives_26 : decode cX12_gives 26 = .ok (.aload_n 0, 1) := by decide +kernel
theorem dX12_gives_27 : decode cX12_gives 27 = .ok (.invokevirtual 229, 3) := by decide +kernel
theorem dX12_gives_30 : decode cX12_gives 30 = .ok (.ifCond .eq 15, 3) := by decide +kernel
theorem dX12_gives_33 : decode cX12_gives 33 = .ok (.aload_n 0, 1) := by decide +kernel
theorem dX12_gives_34 : decode cX12_gives 34 = .ok (.aload_n 0, 1) := by decide +kernel
theorem dX12_gives_35 : decode cX12_gives 35 = .ok (.iload_n 1, 1) := by decide +kernel
theorem dX12_gives_36 : decode cX12_gives 36 = .ok (.invokevirtual 250, 3) := by decide +kernel
theorem dX12_gives_39 : decode cX12_gives 39 = .ok (.invokevirtual 243, 3) := by decide +kernel
theorem dX12_gives_42 : decode cX12_gives 42 = .ok (.goto 5, 3) := by decide +kernel
theorem dX12_gives_45 : decode cX12_gives 45 = .ok (.ldc 163, 2) := by decide +kernel
theorem dX12_gives_47 : decode cX12_gives 47 = .ok (.ireturn, 1) := by decide +kernel
theorem dX12_takes_0 : decode cX12_takes 0 = .ok (.aload_n 0, 1) := by decide +kernel
theorem dX12_takes_1 : decode cX12_takes 1 = .ok (.iconst 0, 1) := by decide +kernel
theorem dX12_takes_2 : decode cX12_takes 2 = .ok (.putfield 133, 3) := by decide +kernel
theorem dX12_takes_5 : decode cX12_takes 5 = .ok (.iload_n 1, 1) := by decide +kernel
theorem dX12_takes_6 : decode cX12_takes 6 = .ok (.i2l, 1) := by decide +kernel
theorem dX12_takes_7 : decode cX12_takes 7 = .ok (.lconst 0, 1) := by decide +kernel
theorem dX12_takes_8 : decode cX12_takes 8 = .ok (.aload_n 0, 1) := by decide +kernel
theorem dX12_takes_9 : decode cX12_takes 9 = .ok (.getfield 172, 3) := by decide +kernel
theorem dX12_takes_12 : decode cX12_takes 12 = .ok (.iconst 1, 1) := by decide +kernel
theorem dX12_takes_13 : decode cX12_takes 13 = .ok (.isub, 1) := by decide +kernel
theorem dX12_takes_14 : decode cX12_takes 14 = .ok (.i2l, 1) := by decide +kernel
theorem dX12_takes_15 : decode cX12_takes 15 = .ok (.invokestatic 140, 3) := by decide +kernel
theorem dX12_takes_18 : decode cX12_takes 18 = .ok (.ifCond .ne 8, 3) := by decide +kernel
theorem dX12_takes_21 : decode cX12_takes 21 = .ok (.ldc 159, 2) := by decide +kernel
theorem dX12_takes_23 : decode cX12_takes 23 = .ok (.goto 24, 3) := by decide +kernel
theorem dX12_takes_26 : decode cX12_takes 26 = .ok (.aload_n 0, 1) := by decide +kernel
theorem dX12_takes_27 : decode cX12_takes 27 = .ok (.invokevirtual 229, 3) := by decide +kernel
theorem dX12_takes_30 : decode cX12_takes 30 = .ok (.ifCond .eq 15, 3) := by decide +kernel
theorem dX12_takes_33 : decode cX12_takes 33 = .ok (.aload_n 0, 1) := by decide +kernel
theorem dX12_takes_34 : decode cX12_takes 34 = .ok (.aload_n 0, 1) := by decide +kernel
theorem dX12_takes_35 : decode cX12_takes 35 = .ok (.iload_n 1, 1) := by decide +kernel
theorem dX12_takes_36 : decode cX12_takes 36 = .ok (.invokevirtual 253, 3) := by decide +kernel
theorem dX12_takes_39 : decode cX12_takes 39 = .ok (.invokevirtual 243, 3) := by decide +kernel
theorem dX12_takes_42 : decode cX12_takes 42 = .ok (.goto 5, 3) := by decide +kernel
theorem dX12_takes_45 : decode cX12_takes 45 = .ok (.ldc 163, 2) := by decide +kernel
theorem dX12_takes_47 : decode cX12_takes 47 = .ok (.ireturn, 1) := by decide +kernel
theorem dX12_isDry_0 : decode cX12_isDry 0 = .ok (.aload_n 0, 1) := by decide +kernel
theorem dX12_isDry_1 : decode cX12_isDry 1 = .ok (.getfield 61, 3) := by decide +kernel
theorem dX12_isDry_4 : decode cX12_isDry 4 = .ok (.iload_n 1, 1) := by decide +kernel
theorem dX12_isDry_5 : decode cX12_isDry 5 = .ok (.laload, 1) := by decide +kernel
theorem dX12_isDry_6 : decode cX12_isDry 6 = .ok (.aload_n 0, 1) := by decide +kernel
theorem dX12_isDry_7 : decode cX12_isDry 7 = .ok (.getfield 7, 3) := by decide +kernel
theorem dX12_isDry_10 : decode cX12_isDry 10 = .ok (.iload_n 1, 1) := by decide +kernel
theorem dX12_isDry_11 : decode cX12_isDry 11 = .ok (.iaload, 1) := by decide +kernel
theorem dX12_isDry_12 : decode cX12_isDry 12 = .ok (.i2l, 1) := by decide +kernel
theorem dX12_isDry_13 : decode cX12_isDry 13 = .ok (.aload_n 0, 1) := by decide +kernel
theorem dX12_isDry_14 : decode cX12_isDry 14 = .ok (.getfield 211, 3) := by decide +kernel
theorem dX12_isDry_17 : decode cX12_isDry 17 = .ok (.lmul, 1) := by decide +kernel
theorem dX12_isDry_18 : decode cX12_isDry 18 = .ok (.lcmp, 1) := by decide +kernel
theorem dX12_isDry_19 : decode cX12_isDry 19 = .ok (.ifCond .ge 7, 3) := by decide +kernel
theorem dX12_isDry_22 : decode cX12_isDry 22 = .ok (.iconst 1, 1) := by decide +kernel
theorem dX12_isDry_23 : decode cX12_isDry 23 = .ok (.goto 4, 3) := by decide +kernel
theorem dX12_isDry_26 : decode cX12_isDry 26 = .ok (.iconst 0, 1) := by decide +kernel
theorem dX12_isDry_27 : decode cX12_isDry 27 = .ok (.ireturn, 1) := by decide +kernel
theorem dX12_dry_0 : decode cX12_dry 0 = .ok (.aload_n 0, 1) := by decide +kernel
theorem dX12_dry_1 : decode cX12_dry 1 = .ok (.iconst 0, 1) := by decide +kernel
theorem dX12_dry_2 : decode cX12_dry 2 = .ok (.putfield 133, 3) := by decide +kernel
theorem dX12_dry_5 : decode cX12_dry 5 = .ok (.aload_n 0, 1) := by decide +kernel
theorem dX12_dry_6 : decode cX12_dry 6 = .ok (.iload_n 1, 1) := by decide +kernel
theorem dX12_dry_7 : decode cX12_dry 7 = .ok (.invokevirtual 155, 3) := by decide +kernel
theorem dX12_dry_10 : decode cX12_dry 10 = .ok (.ifCond .eq 8, 3) := by decide +kernel
theorem dX12_dry_13 : decode cX12_dry 13 = .ok (.ldc 159, 2) := by decide +kernel
theorem dX12_dry_15 : decode cX12_dry 15 = .ok (.goto 28, 3) := by decide +kernel
theorem dX12_dry_18 : decode cX12_dry 18 = .ok (.aload_n 0, 1) := by decide +kernel
theorem dX12_dry_19 : decode cX12_dry 19 = .ok (.invokevirtual 229, 3) := by decide +kernel
theorem dX12_dry_22 : decode cX12_dry 22 = .ok (.ifCond .ne 8, 3) := by decide +kernel
theorem dX12_dry_25 : decode cX12_dry 25 = .ok (.ldc 163, 2) := by decide +kernel
theorem dX12_dry_27 : decode cX12_dry 27 = .ok (.goto 16, 3) := by decide +kernel
theorem dX12_dry_30 : decode cX12_dry 30 = .ok (.aload_n 0, 1) := by decide +kernel
theorem dX12_dry_31 : decode cX12_dry 31 = .ok (.iload_n 1, 1) := by decide +kernel
theorem dX12_dry_32 : decode cX12_dry 32 = .ok (.invokevirtual 256, 3) := by decide +kernel
theorem dX12_dry_35 : decode cX12_dry 35 = .ok (.ifCond .eq 7, 3) := by decide +kernel
theorem dX12_dry_38 : decode cX12_dry 38 = .ok (.iconst 1, 1) := by decide +kernel
theorem dX12_dry_39 : decode cX12_dry 39 = .ok (.goto 4, 3) := by decide +kernel
theorem dX12_dry_42 : decode cX12_dry 42 = .ok (.iconst 0, 1) := by decide +kernel
theorem dX12_dry_43 : decode cX12_dry 43 = .ok (.ireturn, 1) := by decide +kernel
theorem dX12_salt_0 : decode cX12_salt 0 = .ok (.aload_n 0, 1) := by decide +kernel
theorem dX12_salt_1 : decode cX12_salt 1 = .ok (.iconst 0, 1) := by decide +kernel
theorem dX12_salt_2 : decode cX12_salt 2 = .ok (.putfield 133, 3) := by decide +kernel
theorem dX12_salt_5 : decode cX12_salt 5 = .ok (.aload_n 0, 1) := by decide +kernel
theorem dX12_salt_6 : decode cX12_salt 6 = .ok (.iload_n 1, 1) := by decide +kernel
theorem dX12_salt_7 : decode cX12_salt 7 = .ok (.invokevirtual 155, 3) := by decide +kernel
theorem dX12_salt_10 : decode cX12_salt 10 = .ok (.ifCond .eq 8, 3) := by decide +kernel
theorem dX12_salt_13 : decode cX12_salt 13 = .ok (.ldc 159, 2) := by decide +kernel
theorem dX12_salt_15 : decode cX12_salt 15 = .ok (.goto 29, 3) := by decide +kernel
theorem dX12_salt_18 : decode cX12_salt 18 = .ok (.aload_n 0, 1) := by decide +kernel
theorem dX12_salt_19 : decode cX12_salt 19 = .ok (.invokevirtual 229, 3) := by decide +kernel
theorem dX12_salt_22 : decode cX12_salt 22 = .ok (.ifCond .eq 20, 3) := by decide +kernel
theorem dX12_salt_25 : decode cX12_salt 25 = .ok (.aload_n 0, 1) := by decide +kernel
theorem dX12_salt_26 : decode cX12_salt 26 = .ok (.ldc2_w 259, 3) := by decide +kernel
theorem dX12_salt_29 : decode cX12_salt 29 = .ok (.aload_n 0, 1) := by decide +kernel
theorem dX12_salt_30 : decode cX12_salt 30 = .ok (.getfield 61, 3) := by decide +kernel
theorem dX12_salt_33 : decode cX12_salt 33 = .ok (.iload_n 1, 1) := by decide +kernel
theorem dX12_salt_34 : decode cX12_salt 34 = .ok (.laload, 1) := by decide +kernel
theorem dX12_salt_35 : decode cX12_salt 35 = .ok (.lmul, 1) := by decide +kernel
theorem dX12_salt_36 : decode cX12_salt 36 = .ok (.invokevirtual 243, 3) := by decide +kernel
theorem dX12_salt_39 : decode cX12_salt 39 = .ok (.goto 5, 3) := by decide +kernel
theorem dX12_salt_42 : decode cX12_salt 42 = .ok (.ldc 163, 2) := by decide +kernel
theorem dX12_salt_44 : decode cX12_salt 44 = .ok (.ireturn, 1) := by decide +kernel
theorem dX12_through_0 : decode cX12_through 0 = .ok (.aload_n 0, 1) := by decide +kernel
theorem dX12_through_1 : decode cX12_through 1 = .ok (.iconst 0, 1) := by decide +kernel
theorem dX12_through_2 : decode cX12_through 2 = .ok (.putfield 133, 3) := by decide +kernel
theorem dX12_through_5 : decode cX12_through 5 = .ok (.aload_n 0, 1) := by decide +kernel
theorem dX12_through_6 : decode cX12_through 6 = .ok (.invokevirtual 229, 3) := by decide +kernel
theorem dX12_through_9 : decode cX12_through 9 = .ok (.ifCond .ne 7, 3) := by decide +kernel
theorem dX12_through_12 : decode cX12_through 12 = .ok (.ldc2_w 241, 3) := by decide +kernel
theorem dX12_through_15 : decode cX12_through 15 = .ok (.lreturn, 1) := by decide +kernel
theorem dX12_through_16 : decode cX12_through 16 = .ok (.lconst 0, 1) := by decide +kernel
theorem dX12_through_17 : decode cX12_through 17 = .ok (.lstore_n 2, 1) := by decide +kernel
theorem dX12_through_18 : decode cX12_through 18 = .ok (.iconst 0, 1) := by decide +kernel
theorem dX12_through_19 : decode cX12_through 19 = .ok (.istore 4, 2) := by decide +kernel
theorem dX12_through_21 : decode cX12_through 21 = .ok (.iload 4, 2) := by decide +kernel
theorem dX12_through_23 : decode cX12_through 23 = .ok (.aload_n 0, 1) := by decide +kernel
theorem dX12_through_24 : decode cX12_through 24 = .ok (.getfield 137, 3) := by decide +kernel
theorem dX12_through_27 : decode cX12_through 27 = .ok (.if_icmp .ge 25, 3) := by decide +kernel
theorem dX12_through_30 : decode cX12_through 30 = .ok (.lload_n 2, 1) := by decide +kernel
theorem dX12_through_31 : decode cX12_through 31 = .ok (.aload_n 0, 1) := by decide +kernel
theorem dX12_through_32 : decode cX12_through 32 = .ok (.getfield 13, 3) := by decide +kernel
theorem dX12_through_35 : decode cX12_through 35 = .ok (.iload 4, 2) := by decide +kernel
theorem dX12_through_37 : decode cX12_through 37 = .ok (.iaload, 1) := by decide +kernel
theorem dX12_through_38 : decode cX12_through 38 = .ok (.i2l, 1) := by decide +kernel
theorem dX12_through_39 : decode cX12_through 39 = .ok (.aload_n 0, 1) := by decide +kernel
theorem dX12_through_40 : decode cX12_through 40 = .ok (.getfield 211, 3) := by decide +kernel
theorem dX12_through_43 : decode cX12_through 43 = .ok (.lmul, 1) := by decide +kernel
theorem dX12_through_44 : decode cX12_through 44 = .ok (.ladd, 1) := by decide +kernel
theorem dX12_through_45 : decode cX12_through 45 = .ok (.lstore_n 2, 1) := by decide +kernel
theorem dX12_through_46 : decode cX12_through 46 = .ok (.iinc 4 1, 3) := by decide +kernel
theorem dX12_through_49 : decode cX12_through 49 = .ok (.goto (-28), 3) := by decide +kernel
theorem dX12_through_52 : decode cX12_through 52 = .ok (.iconst 0, 1) := by decide +kernel
theorem dX12_through_53 : decode cX12_through 53 = .ok (.istore 4, 2) := by decide +kernel
theorem dX12_through_55 : decode cX12_through 55 = .ok (.iload 4, 2) := by decide +kernel
theorem dX12_through_57 : decode cX12_through 57 = .ok (.aload_n 0, 1) := by decide +kernel
theorem dX12_through_58 : decode cX12_through 58 = .ok (.getfield 169, 3) := by decide +kernel
theorem dX12_through_61 : decode cX12_through 61 = .ok (.if_icmp .ge 33, 3) := by decide +kernel
theorem dX12_through_64 : decode cX12_through 64 = .ok (.lload_n 2, 1) := by decide +kernel
theorem dX12_through_65 : decode cX12_through 65 = .ok (.aload_n 0, 1) := by decide +kernel
theorem dX12_through_66 : decode cX12_through 66 = .ok (.iload 4, 2) := by decide +kernel
theorem dX12_through_68 : decode cX12_through 68 = .ok (.invokevirtual 250, 3) := by decide +kernel
theorem dX12_through_71 : decode cX12_through 71 = .ok (.lconst 0, 1) := by decide +kernel
theorem dX12_through_72 : decode cX12_through 72 = .ok (.lcmp, 1) := by decide +kernel
theorem dX12_through_73 : decode cX12_through 73 = .ok (.ifCond .le 12, 3) := by decide +kernel
theorem dX12_through_76 : decode cX12_through 76 = .ok (.aload_n 0, 1) := by decide +kernel
theorem dX12_through_77 : decode cX12_through 77 = .ok (.iload 4, 2) := by decide +kernel
theorem dX12_through_79 : decode cX12_through 79 = .ok (.invokevirtual 250, 3) := by decide +kernel
theorem dX12_through_82 : decode cX12_through 82 = .ok (.goto 4, 3) := by decide +kernel
theorem dX12_through_85 : decode cX12_through 85 = .ok (.lconst 0, 1) := by decide +kernel
theorem dX12_through_86 : decode cX12_through 86 = .ok (.ladd, 1) := by decide +kernel
theorem dX12_through_87 : decode cX12_through 87 = .ok (.lstore_n 2, 1) := by decide +kernel
theorem dX12_through_88 : decode cX12_through 88 = .ok (.iinc 4 1, 3) := by decide +kernel
theorem dX12_through_91 : decode cX12_through 91 = .ok (.goto (-36), 3) := by decide +kernel
theorem dX12_through_94 : decode cX12_through 94 = .ok (.lload_n 2, 1) := by decide +kernel
theorem dX12_through_95 : decode cX12_through 95 = .ok (.aload_n 0, 1) := by decide +kernel
theorem dX12_through_96 : decode cX12_through 96 = .ok (.getfield 211, 3) := by decide +kernel
theorem dX12_through_99 : decode cX12_through 99 = .ok (.iload_n 1, 1) := by decide +kernel
theorem dX12_through_100 : decode cX12_through 100 = .ok (.invokestatic 237, 3) := by decide +kernel
theorem dX12_through_103 : decode cX12_through 103 = .ok (.lreturn, 1) := by decide +kernel
theorem dX12_let_0 : decode cX12_let 0 = .ok (.lload_n 2, 1) := by decide +kernel
theorem dX12_let_1 : decode cX12_let 1 = .ok (.lconst 0, 1) := by decide +kernel
theorem dX12_let_2 : decode cX12_let 2 = .ok (.lcmp, 1) := by decide +kernel
theorem dX12_let_3 : decode cX12_let 3 = .ok (.ifCond .le 33, 3) := by decide +kernel
theorem dX12_let_6 : decode cX12_let 6 = .ok (.aload_n 0, 1) := by decide +kernel
theorem dX12_let_7 : decode cX12_let 7 = .ok (.getfield 80, 3) := by decide +kernel
theorem dX12_let_10 : decode cX12_let 10 = .ok (.aload_n 0, 1) := by decide +kernel
theorem dX12_let_11 : decode cX12_let 11 = .ok (.getfield 261, 3) := by decide +kernel
theorem dX12_let_14 : decode cX12_let 14 = .ok (.iload_n 1, 1) := by decide +kernel
theorem dX12_let_15 : decode cX12_let 15 = .ok (.iastore, 1) := by decide +kernel
theorem dX12_let_16 : decode cX12_let 16 = .ok (.aload_n 0, 1) := by decide +kernel
theorem dX12_let_17 : decode cX12_let 17 = .ok (.getfield 83, 3) := by decide +kernel
theorem dX12_let_20 : decode cX12_let 20 = .ok (.aload_n 0, 1) := by decide +kernel
theorem dX12_let_21 : decode cX12_let 21 = .ok (.getfield 261, 3) := by decide +kernel
theorem dX12_let_24 : decode cX12_let 24 = .ok (.lload_n 2, 1) := by decide +kernel
theorem dX12_let_25 : decode cX12_let 25 = .ok (.lastore, 1) := by decide +kernel
theorem dX12_let_26 : decode cX12_let 26 = .ok (.aload_n 0, 1) := by decide +kernel
theorem dX12_let_27 : decode cX12_let 27 = .ok (.dup, 1) := by decide +kernel
theorem dX12_let_28 : decode cX12_let 28 = .ok (.getfield 261, 3) := by decide +kernel
theorem dX12_let_31 : decode cX12_let 31 = .ok (.iconst 1, 1) := by decide +kernel
theorem dX12_let_32 : decode cX12_let 32 = .ok (.iadd, 1) := by decide +kernel
theorem dX12_let_33 : decode cX12_let 33 = .ok (.putfield 261, 3) := by decide +kernel
theorem dX12_let_36 : decode cX12_let 36 = .ok (.return_, 1) := by decide +kernel
theorem dX12_open_0 : decode cX12_open 0 = .ok (.aload_n 0, 1) := by decide +kernel
theorem dX12_open_1 : decode cX12_open 1 = .ok (.iconst 0, 1) := by decide +kernel
theorem dX12_open_2 : decode cX12_open 2 = .ok (.putfield 261, 3) := by decide +kernel
theorem dX12_open_5 : decode cX12_open 5 = .ok (.iconst 0, 1) := by decide +kernel
theorem dX12_open_6 : decode cX12_open 6 = .ok (.istore_n 2, 1) := by decide +kernel
theorem dX12_open_7 : decode cX12_open 7 = .ok (.iload_n 2, 1) := by decide +kernel
theorem dX12_open_8 : decode cX12_open 8 = .ok (.aload_n 0, 1) := by decide +kernel
theorem dX12_open_9 : decode cX12_open 9 = .ok (.getfield 164, 3) := by decide +kernel
theorem dX12_open_12 : decode cX12_open 12 = .ok (.if_icmp .ge 82, 3) := by decide +kernel
theorem dX12_open_15 : decode cX12_open 15 = .ok (.aload_n 0, 1) := by decide +kernel
theorem dX12_open_16 : decode cX12_open 16 = .ok (.getfield 19, 3) := by decide +kernel
theorem dX12_open_19 : decode cX12_open 19 = .ok (.iload_n 2, 1) := by decide +kernel
theorem dX12_open_20 : decode cX12_open 20 = .ok (.iaload, 1) := by decide +kernel
theorem dX12_open_21 : decode cX12_open 21 = .ok (.iload_n 1, 1) := by decide +kernel
theorem dX12_open_22 : decode cX12_open 22 = .ok (.if_icmp .eq 13, 3) := by decide +kernel
theorem dX12_open_25 : decode cX12_open 25 = .ok (.aload_n 0, 1) := by decide +kernel
theorem dX12_open_26 : decode cX12_open 26 = .ok (.getfield 22, 3) := by decide +kernel
theorem dX12_open_29 : decode cX12_open 29 = .ok (.iload_n 2, 1) := by decide +kernel
theorem dX12_open_30 : decode cX12_open 30 = .ok (.iaload, 1) := by decide +kernel
theorem dX12_open_31 : decode cX12_open 31 = .ok (.iload_n 1, 1) := by decide +kernel
theorem dX12_open_32 : decode cX12_open 32 = .ok (.if_icmp .ne 56, 3) := by decide +kernel
theorem dX12_open_35 : decode cX12_open 35 = .ok (.aload_n 0, 1) := by decide +kernel
theorem dX12_open_36 : decode cX12_open 36 = .ok (.aload_n 0, 1) := by decide +kernel
theorem dX12_open_37 : decode cX12_open 37 = .ok (.getfield 19, 3) := by decide +kernel
theorem dX12_open_40 : decode cX12_open 40 = .ok (.iload_n 2, 1) := by decide +kernel
theorem dX12_open_41 : decode cX12_open 41 = .ok (.iaload, 1) := by decide +kernel
theorem dX12_open_42 : decode cX12_open 42 = .ok (.iload_n 1, 1) := by decide +kernel
theorem dX12_open_43 : decode cX12_open 43 = .ok (.if_icmp .ne 12, 3) := by decide +kernel
theorem dX12_open_46 : decode cX12_open 46 = .ok (.aload_n 0, 1) := by decide +kernel
theorem dX12_open_47 : decode cX12_open 47 = .ok (.getfield 22, 3) := by decide +kernel
theorem dX12_open_50 : decode cX12_open 50 = .ok (.iload_n 2, 1) := by decide +kernel
theorem dX12_open_51 : decode cX12_open 51 = .ok (.iaload, 1) := by decide +kernel
theorem dX12_open_52 : decode cX12_open 52 = .ok (.goto 9, 3) := by decide +kernel
theorem dX12_open_55 : decode cX12_open 55 = .ok (.aload_n 0, 1) := by decide +kernel
theorem dX12_open_56 : decode cX12_open 56 = .ok (.getfield 19, 3) := by decide +kernel
theorem dX12_open_59 : decode cX12_open 59 = .ok (.iload_n 2, 1) := by decide +kernel
theorem dX12_open_60 : decode cX12_open 60 = .ok (.iaload, 1) := by decide +kernel
theorem dX12_open_61 : decode cX12_open 61 = .ok (.aload_n 0, 1) := by decide +kernel
theorem dX12_open_62 : decode cX12_open 62 = .ok (.getfield 19, 3) := by decide +kernel
theorem dX12_open_65 : decode cX12_open 65 = .ok (.iload_n 2, 1) := by decide +kernel
theorem dX12_open_66 : decode cX12_open 66 = .ok (.iaload, 1) := by decide +kernel
theorem dX12_open_67 : decode cX12_open 67 = .ok (.iload_n 1, 1) := by decide +kernel
theorem dX12_open_68 : decode cX12_open 68 = .ok (.if_icmp .ne 11, 3) := by decide +kernel
theorem dX12_open_71 : decode cX12_open 71 = .ok (.aload_n 0, 1) := by decide +kernel
theorem dX12_open_72 : decode cX12_open 72 = .ok (.iload_n 2, 1) := by decide +kernel
theorem dX12_open_73 : decode cX12_open 73 = .ok (.invokevirtual 247, 3) := by decide +kernel
theorem dX12_open_76 : decode cX12_open 76 = .ok (.goto 9, 3) := by decide +kernel
theorem dX12_open_79 : decode cX12_open 79 = .ok (.aload_n 0, 1) := by decide +kernel
theorem dX12_open_80 : decode cX12_open 80 = .ok (.iload_n 2, 1) := by decide +kernel
theorem dX12_open_81 : decode cX12_open 81 = .ok (.invokevirtual 247, 3) := by decide +kernel
theorem dX12_open_84 : decode cX12_open 84 = .ok (.lneg, 1) := by decide +kernel
theorem dX12_open_85 : decode cX12_open 85 = .ok (.invokevirtual 264, 3) := by decide +kernel
theorem dX12_open_88 : decode cX12_open 88 = .ok (.iinc 2 1, 3) := by decide +kernel
theorem dX12_open_91 : decode cX12_open 91 = .ok (.goto (-84), 3) := by decide +kernel
theorem dX12_open_94 : decode cX12_open 94 = .ok (.iconst 0, 1) := by decide +kernel
theorem dX12_open_95 : decode cX12_open 95 = .ok (.istore_n 2, 1) := by decide +kernel
theorem dX12_open_96 : decode cX12_open 96 = .ok (.iload_n 2, 1) := by decide +kernel
theorem dX12_open_97 : decode cX12_open 97 = .ok (.aload_n 0, 1) := by decide +kernel
theorem dX12_open_98 : decode cX12_open 98 = .ok (.getfield 169, 3) := by decide +kernel
theorem dX12_open_101 : decode cX12_open 101 = .ok (.if_icmp .ge 33, 3) := by decide +kernel
theorem dX12_open_104 : decode cX12_open 104 = .ok (.aload_n 0, 1) := by decide +kernel
theorem dX12_open_105 : decode cX12_open 105 = .ok (.getfield 28, 3) := by decide +kernel
theorem dX12_open_108 : decode cX12_open 108 = .ok (.iload_n 2, 1) := by decide +kernel
theorem dX12_open_109 : decode cX12_open 109 = .ok (.iaload, 1) := by decide +kernel
theorem dX12_open_110 : decode cX12_open 110 = .ok (.iload_n 1, 1) := by decide +kernel
theorem dX12_open_111 : decode cX12_open 111 = .ok (.if_icmp .ne 17, 3) := by decide +kernel
theorem dX12_open_114 : decode cX12_open 114 = .ok (.aload_n 0, 1) := by decide +kernel
theorem dX12_open_115 : decode cX12_open 115 = .ok (.bipush 100, 2) := by decide +kernel
theorem dX12_open_117 : decode cX12_open 117 = .ok (.iload_n 2, 1) := by decide +kernel
theorem dX12_open_118 : decode cX12_open 118 = .ok (.iadd, 1) := by decide +kernel
theorem dX12_open_119 : decode cX12_open 119 = .ok (.aload_n 0, 1) := by decide +kernel
theorem dX12_open_120 : decode cX12_open 120 = .ok (.iload_n 2, 1) := by decide +kernel
theorem dX12_open_121 : decode cX12_open 121 = .ok (.invokevirtual 250, 3) := by decide +kernel
theorem dX12_open_124 : decode cX12_open 124 = .ok (.lneg, 1) := by decide +kernel
theorem dX12_open_125 : decode cX12_open 125 = .ok (.invokevirtual 264, 3) := by decide +kernel
theorem dX12_open_128 : decode cX12_open 128 = .ok (.iinc 2 1, 3) := by decide +kernel
theorem dX12_open_131 : decode cX12_open 131 = .ok (.goto (-35), 3) := by decide +kernel
theorem dX12_open_134 : decode cX12_open 134 = .ok (.iconst 0, 1) := by decide +kernel
theorem dX12_open_135 : decode cX12_open 135 = .ok (.istore_n 2, 1) := by decide +kernel
theorem dX12_open_136 : decode cX12_open 136 = .ok (.iload_n 2, 1) := by decide +kernel
theorem dX12_open_137 : decode cX12_open 137 = .ok (.aload_n 0, 1) := by decide +kernel
theorem dX12_open_138 : decode cX12_open 138 = .ok (.getfield 172, 3) := by decide +kernel
theorem dX12_open_141 : decode cX12_open 141 = .ok (.if_icmp .ge 33, 3) := by decide +kernel
theorem dX12_open_144 : decode cX12_open 144 = .ok (.aload_n 0, 1) := by decide +kernel
theorem dX12_open_145 : decode cX12_open 145 = .ok (.getfield 40, 3) := by decide +kernel
theorem dX12_open_148 : decode cX12_open 148 = .ok (.iload_n 2, 1) := by decide +kernel
theorem dX12_open_149 : decode cX12_open 149 = .ok (.iaload, 1) := by decide +kernel
theorem dX12_open_150 : decode cX12_open 150 = .ok (.iload_n 1, 1) := by decide +kernel
theorem dX12_open_151 : decode cX12_open 151 = .ok (.if_icmp .ne 17, 3) := by decide +kernel
theorem dX12_open_154 : decode cX12_open 154 = .ok (.aload_n 0, 1) := by decide +kernel
theorem dX12_open_155 : decode cX12_open 155 = .ok (.sipush 200, 3) := by decide +kernel
theorem dX12_open_158 : decode cX12_open 158 = .ok (.iload_n 2, 1) := by decide +kernel
theorem dX12_open_159 : decode cX12_open 159 = .ok (.iadd, 1) := by decide +kernel
theorem dX12_open_160 : decode cX12_open 160 = .ok (.aload_n 0, 1) := by decide +kernel
theorem dX12_open_161 : decode cX12_open 161 = .ok (.iload_n 2, 1) := by decide +kernel
theorem dX12_open_162 : decode cX12_open 162 = .ok (.invokevirtual 253, 3) := by decide +kernel
theorem dX12_open_165 : decode cX12_open 165 = .ok (.invokevirtual 264, 3) := by decide +kernel
theorem dX12_open_168 : decode cX12_open 168 = .ok (.iinc 2 1, 3) := by decide +kernel
theorem dX12_open_171 : decode cX12_open 171 = .ok (.goto (-35), 3) := by decide +kernel
theorem dX12_open_174 : decode cX12_open 174 = .ok (.iconst 0, 1) := by decide +kernel
theorem dX12_open_175 : decode cX12_open 175 = .ok (.istore_n 2, 1) := by decide +kernel
theorem dX12_open_176 : decode cX12_open 176 = .ok (.iload_n 2, 1) := by decide +kernel
theorem dX12_open_177 : decode cX12_open 177 = .ok (.aload_n 0, 1) := by decide +kernel
theorem dX12_open_178 : decode cX12_open 178 = .ok (.getfield 144, 3) := by decide +kernel
theorem dX12_open_181 : decode cX12_open 181 = .ok (.if_icmp .ge 40, 3) := by decide +kernel
theorem dX12_open_184 : decode cX12_open 184 = .ok (.aload_n 0, 1) := by decide +kernel
theorem dX12_open_185 : decode cX12_open 185 = .ok (.getfield 49, 3) := by decide +kernel
theorem dX12_open_188 : decode cX12_open 188 = .ok (.iload_n 2, 1) := by decide +kernel
theorem dX12_open_189 : decode cX12_open 189 = .ok (.iaload, 1) := by decide +kernel
theorem dX12_open_190 : decode cX12_open 190 = .ok (.iload_n 1, 1) := by decide +kernel
theorem dX12_open_191 : decode cX12_open 191 = .ok (.if_icmp .ne 24, 3) := by decide +kernel
theorem dX12_open_194 : decode cX12_open 194 = .ok (.aload_n 0, 1) := by decide +kernel
theorem dX12_open_195 : decode cX12_open 195 = .ok (.sipush 300, 3) := by decide +kernel
theorem dX12_open_198 : decode cX12_open 198 = .ok (.iload_n 2, 1) := by decide +kernel
theorem dX12_open_199 : decode cX12_open 199 = .ok (.iadd, 1) := by decide +kernel
theorem dX12_open_200 : decode cX12_open 200 = .ok (.aload_n 0, 1) := by decide +kernel
theorem dX12_open_201 : decode cX12_open 201 = .ok (.getfield 68, 3) := by decide +kernel
theorem dX12_open_204 : decode cX12_open 204 = .ok (.iload_n 2, 1) := by decide +kernel
theorem dX12_open_205 : decode cX12_open 205 = .ok (.iaload, 1) := by decide +kernel
theorem dX12_open_206 : decode cX12_open 206 = .ok (.i2l, 1) := by decide +kernel
theorem dX12_open_207 : decode cX12_open 207 = .ok (.aload_n 0, 1) := by decide +kernel
theorem dX12_open_208 : decode cX12_open 208 = .ok (.getfield 211, 3) := by decide +kernel
theorem dX12_open_211 : decode cX12_open 211 = .ok (.lmul, 1) := by decide +kernel
theorem dX12_open_212 : decode cX12_open 212 = .ok (.invokevirtual 264, 3) := by decide +kernel
theorem dX12_open_215 : decode cX12_open 215 = .ok (.iinc 2 1, 3) := by decide +kernel
theorem dX12_open_218 : decode cX12_open 218 = .ok (.goto (-42), 3) := by decide +kernel
theorem dX12_open_221 : decode cX12_open 221 = .ok (.return_, 1) := by decide +kernel
theorem dX12_greatest_0 : decode cX12_greatest 0 = .ok (.ldc 132, 2) := by decide +kernel
theorem dX12_greatest_2 : decode cX12_greatest 2 = .ok (.istore_n 1, 1) := by decide +kernel
theorem dX12_greatest_3 : decode cX12_greatest 3 = .ok (.iconst 0, 1) := by decide +kernel
theorem dX12_greatest_4 : decode cX12_greatest 4 = .ok (.istore_n 2, 1) := by decide +kernel
theorem dX12_greatest_5 : decode cX12_greatest 5 = .ok (.iload_n 2, 1) := by decide +kernel
theorem dX12_greatest_6 : decode cX12_greatest 6 = .ok (.aload_n 0, 1) := by decide +kernel
theorem dX12_greatest_7 : decode cX12_greatest 7 = .ok (.getfield 261, 3) := by decide +kernel
theorem dX12_greatest_10 : decode cX12_greatest 10 = .ok (.if_icmp .ge 37, 3) := by decide +kernel
theorem dX12_greatest_13 : decode cX12_greatest 13 = .ok (.iload_n 1, 1) := by decide +kernel
theorem dX12_greatest_14 : decode cX12_greatest 14 = .ok (.ldc 132, 2) := by decide +kernel
theorem dX12_greatest_16 : decode cX12_greatest 16 = .ok (.if_icmp .eq 19, 3) := by decide +kernel
theorem dX12_greatest_19 : decode cX12_greatest 19 = .ok (.aload_n 0, 1) := by decide +kernel
theorem dX12_greatest_20 : decode cX12_greatest 20 = .ok (.getfield 83, 3) := by decide +kernel
theorem dX12_greatest_23 : decode cX12_greatest 23 = .ok (.iload_n 2, 1) := by decide +kernel
theorem dX12_greatest_24 : decode cX12_greatest 24 = .ok (.laload, 1) := by decide +kernel
theorem dX12_greatest_25 : decode cX12_greatest 25 = .ok (.aload_n 0, 1) := by decide +kernel
theorem dX12_greatest_26 : decode cX12_greatest 26 = .ok (.getfield 83, 3) := by decide +kernel
theorem dX12_greatest_29 : decode cX12_greatest 29 = .ok (.iload_n 1, 1) := by decide +kernel
theorem dX12_greatest_30 : decode cX12_greatest 30 = .ok (.laload, 1) := by decide +kernel
theorem dX12_greatest_31 : decode cX12_greatest 31 = .ok (.lcmp, 1) := by decide +kernel
theorem dX12_greatest_32 : decode cX12_greatest 32 = .ok (.ifCond .le 7, 3) := by decide +kernel
theorem dX12_greatest_35 : decode cX12_greatest 35 = .ok (.iload_n 2, 1) := by decide +kernel
theorem dX12_greatest_36 : decode cX12_greatest 36 = .ok (.goto 4, 3) := by decide +kernel
theorem dX12_greatest_39 : decode cX12_greatest 39 = .ok (.iload_n 1, 1) := by decide +kernel
theorem dX12_greatest_40 : decode cX12_greatest 40 = .ok (.istore_n 1, 1) := by decide +kernel
theorem dX12_greatest_41 : decode cX12_greatest 41 = .ok (.iinc 2 1, 3) := by decide +kernel
theorem dX12_greatest_44 : decode cX12_greatest 44 = .ok (.goto (-39), 3) := by decide +kernel
theorem dX12_greatest_47 : decode cX12_greatest 47 = .ok (.iload_n 1, 1) := by decide +kernel
theorem dX12_greatest_48 : decode cX12_greatest 48 = .ok (.ireturn, 1) := by decide +kernel
theorem dX12_allFlow_0 : decode cX12_allFlow 0 = .ok (.lconst 0, 1) := by decide +kernel
theorem dX12_allFlow_1 : decode cX12_allFlow 1 = .ok (.lstore_n 1, 1) := by decide +kernel
theorem dX12_allFlow_2 : decode cX12_allFlow 2 = .ok (.iconst 0, 1) := by decide +kernel
theorem dX12_allFlow_3 : decode cX12_allFlow 3 = .ok (.istore_n 3, 1) := by decide +kernel
theorem dX12_allFlow_4 : decode cX12_allFlow 4 = .ok (.iload_n 3, 1) := by decide +kernel
theorem dX12_allFlow_5 : decode cX12_allFlow 5 = .ok (.aload_n 0, 1) := by decide +kernel
theorem dX12_allFlow_6 : decode cX12_allFlow 6 = .ok (.getfield 261, 3) := by decide +kernel
theorem dX12_allFlow_9 : decode cX12_allFlow 9 = .ok (.if_icmp .ge 18, 3) := by decide +kernel
theorem dX12_allFlow_12 : decode cX12_allFlow 12 = .ok (.lload_n 1, 1) := by decide +kernel
theorem dX12_allFlow_13 : decode cX12_allFlow 13 = .ok (.aload_n 0, 1) := by decide +kernel
theorem dX12_allFlow_14 : decode cX12_allFlow 14 = .ok (.getfield 83, 3) := by decide +kernel
theorem dX12_allFlow_17 : decode cX12_allFlow 17 = .ok (.iload_n 3, 1) := by decide +kernel
theorem dX12_allFlow_18 : decode cX12_allFlow 18 = .ok (.laload, 1) := by decide +kernel
theorem dX12_allFlow_19 : decode cX12_allFlow 19 = .ok (.ladd, 1) := by decide +kernel
theorem dX12_allFlow_20 : decode cX12_allFlow 20 = .ok (.lstore_n 1, 1) := by decide +kernel
theorem dX12_allFlow_21 : decode cX12_allFlow 21 = .ok (.iinc 3 1, 3) := by decide +kernel
theorem dX12_allFlow_24 : decode cX12_allFlow 24 = .ok (.goto (-20), 3) := by decide +kernel
theorem dX12_allFlow_27 : decode cX12_allFlow 27 = .ok (.lload_n 1, 1) := by decide +kernel
theorem dX12_allFlow_28 : decode cX12_allFlow 28 = .ok (.lreturn, 1) := by decide +kernel
theorem dX12_nextOf_0 : decode cX12_nextOf 0 = .ok (.aload_n 0, 1) := by decide +kernel
theorem dX12_nextOf_1 : decode cX12_nextOf 1 = .ok (.iload_n 1, 1) := by decide +kernel
theorem dX12_nextOf_2 : decode cX12_nextOf 2 = .ok (.invokevirtual 268, 3) := by decide +kernel
theorem dX12_nextOf_5 : decode cX12_nextOf 5 = .ok (.aload_n 0, 1) := by decide +kernel
theorem dX12_nextOf_6 : decode cX12_nextOf 6 = .ok (.invokevirtual 271, 3) := by decide +kernel
theorem dX12_nextOf_9 : decode cX12_nextOf 9 = .ok (.istore_n 2, 1) := by decide +kernel
theorem dX12_nextOf_10 : decode cX12_nextOf 10 = .ok (.iload_n 2, 1) := by decide +kernel
theorem dX12_nextOf_11 : decode cX12_nextOf 11 = .ok (.ldc 132, 2) := by decide +kernel
theorem dX12_nextOf_13 : decode cX12_nextOf 13 = .ok (.if_icmp .ne 8, 3) := by decide +kernel
theorem dX12_nextOf_16 : decode cX12_nextOf 16 = .ok (.ldc 132, 2) := by decide +kernel
theorem dX12_nextOf_18 : decode cX12_nextOf 18 = .ok (.goto 9, 3) := by decide +kernel
theorem dX12_nextOf_21 : decode cX12_nextOf 21 = .ok (.aload_n 0, 1) := by decide +kernel
theorem dX12_nextOf_22 : decode cX12_nextOf 22 = .ok (.getfield 80, 3) := by decide +kernel
theorem dX12_nextOf_25 : decode cX12_nextOf 25 = .ok (.iload_n 2, 1) := by decide +kernel
theorem dX12_nextOf_26 : decode cX12_nextOf 26 = .ok (.iaload, 1) := by decide +kernel
theorem dX12_nextOf_27 : decode cX12_nextOf 27 = .ok (.ireturn, 1) := by decide +kernel
theorem dX12_way_0 : decode cX12_way 0 = .ok (.aload_n 0, 1) := by decide +kernel
theorem dX12_way_1 : decode cX12_way 1 = .ok (.iconst 0, 1) := by decide +kernel
theorem dX12_way_2 : decode cX12_way 2 = .ok (.putfield 133, 3) := by decide +kernel
theorem dX12_way_5 : decode cX12_way 5 = .ok (.aload_n 0, 1) := by decide +kernel
theorem dX12_way_6 : decode cX12_way 6 = .ok (.iload_n 1, 1) := by decide +kernel
theorem dX12_way_7 : decode cX12_way 7 = .ok (.invokevirtual 155, 3) := by decide +kernel
theorem dX12_way_10 : decode cX12_way 10 = .ok (.ifCond .eq 6, 3) := by decide +kernel
theorem dX12_way_13 : decode cX12_way 13 = .ok (.ldc 159, 2) := by decide +kernel
theorem dX12_way_15 : decode cX12_way 15 = .ok (.ireturn, 1) := by decide +kernel
theorem dX12_way_16 : decode cX12_way 16 = .ok (.aload_n 0, 1) := by decide +kernel
theorem dX12_way_17 : decode cX12_way 17 = .ok (.invokevirtual 229, 3) := by decide +kernel
theorem dX12_way_20 : decode cX12_way 20 = .ok (.ifCond .ne 6, 3) := by decide +kernel
theorem dX12_way_23 : decode cX12_way 23 = .ok (.ldc 163, 2) := by decide +kernel
theorem dX12_way_25 : decode cX12_way 25 = .ok (.ireturn, 1) := by decide +kernel
theorem dX12_way_26 : decode cX12_way 26 = .ok (.iload_n 2, 1) := by decide +kernel
theorem dX12_way_27 : decode cX12_way 27 = .ok (.ifCond .ge 6, 3) := by decide +kernel
theorem dX12_way_30 : decode cX12_way 30 = .ok (.ldc 132, 2) := by decide +kernel
theorem dX12_way_32 : decode cX12_way 32 = .ok (.ireturn, 1) := by decide +kernel
theorem dX12_way_33 : decode cX12_way 33 = .ok (.iload_n 1, 1) := by decide +kernel
theorem dX12_way_34 : decode cX12_way 34 = .ok (.istore_n 3, 1) := by decide +kernel
theorem dX12_way_35 : decode cX12_way 35 = .ok (.iconst 0, 1) := by decide +kernel
theorem dX12_way_36 : decode cX12_way 36 = .ok (.istore 4, 2) := by decide +kernel
theorem dX12_way_38 : decode cX12_way 38 = .ok (.iload 4, 2) := by decide +kernel
theorem dX12_way_40 : decode cX12_way 40 = .ok (.iload_n 2, 1) := by decide +kernel
theorem dX12_way_41 : decode cX12_way 41 = .ok (.if_icmp .ge 27, 3) := by decide +kernel
theorem dX12_way_44 : decode cX12_way 44 = .ok (.iload_n 3, 1) := by decide +kernel
theorem dX12_way_45 : decode cX12_way 45 = .ok (.i2l, 1) := by decide +kernel
theorem dX12_way_46 : decode cX12_way 46 = .ok (.lconst 0, 1) := by decide +kernel
theorem dX12_way_47 : decode cX12_way 47 = .ok (.ldc2_w 275, 3) := by decide +kernel
theorem dX12_way_50 : decode cX12_way 50 = .ok (.invokestatic 140, 3) := by decide +kernel
theorem dX12_way_53 : decode cX12_way 53 = .ok (.ifCond .eq 15, 3) := by decide +kernel
theorem dX12_way_56 : decode cX12_way 56 = .ok (.aload_n 0, 1) := by decide +kernel
theorem dX12_way_57 : decode cX12_way 57 = .ok (.iload_n 3, 1) := by decide +kernel
theorem dX12_way_58 : decode cX12_way 58 = .ok (.invokevirtual 277, 3) := by decide +kernel
theorem dX12_way_61 : decode cX12_way 61 = .ok (.istore_n 3, 1) := by decide +kernel
theorem dX12_way_62 : decode cX12_way 62 = .ok (.iinc 4 1, 3) := by decide +kernel
theorem dX12_way_65 : decode cX12_way 65 = .ok (.goto (-27), 3) := by decide +kernel
theorem dX12_way_68 : decode cX12_way 68 = .ok (.iload_n 3, 1) := by decide +kernel
theorem dX12_way_69 : decode cX12_way 69 = .ok (.i2l, 1) := by decide +kernel
theorem dX12_way_70 : decode cX12_way 70 = .ok (.lconst 0, 1) := by decide +kernel
theorem dX12_way_71 : decode cX12_way 71 = .ok (.ldc2_w 275, 3) := by decide +kernel
theorem dX12_way_74 : decode cX12_way 74 = .ok (.invokestatic 140, 3) := by decide +kernel
theorem dX12_way_77 : decode cX12_way 77 = .ok (.ifCond .eq 7, 3) := by decide +kernel
theorem dX12_way_80 : decode cX12_way 80 = .ok (.iload_n 3, 1) := by decide +kernel
theorem dX12_way_81 : decode cX12_way 81 = .ok (.goto 5, 3) := by decide +kernel
theorem dX12_way_84 : decode cX12_way 84 = .ok (.ldc 132, 2) := by decide +kernel
theorem dX12_way_86 : decode cX12_way 86 = .ok (.ireturn, 1) := by decide +kernel
theorem dX12_end_0 : decode cX12_end 0 = .ok (.aload_n 0, 1) := by decide +kernel
theorem dX12_end_1 : decode cX12_end 1 = .ok (.iconst 0, 1) := by decide +kernel
theorem dX12_end_2 : decode cX12_end 2 = .ok (.putfield 133, 3) := by decide +kernel
theorem dX12_end_5 : decode cX12_end 5 = .ok (.aload_n 0, 1) := by decide +kernel
theorem dX12_end_6 : decode cX12_end 6 = .ok (.iload_n 1, 1) := by decide +kernel
theorem dX12_end_7 : decode cX12_end 7 = .ok (.invokevirtual 155, 3) := by decide +kernel
theorem dX12_end_10 : decode cX12_end 10 = .ok (.ifCond .eq 6, 3) := by decide +kernel
theorem dX12_end_13 : decode cX12_end 13 = .ok (.ldc 159, 2) := by decide +kernel
theorem dX12_end_15 : decode cX12_end 15 = .ok (.ireturn, 1) := by decide +kernel
theorem dX12_end_16 : decode cX12_end 16 = .ok (.aload_n 0, 1) := by decide +kernel
theorem dX12_end_17 : decode cX12_end 17 = .ok (.invokevirtual 229, 3) := by decide +kernel
theorem dX12_end_20 : decode cX12_end 20 = .ok (.ifCond .ne 6, 3) := by decide +kernel
theorem dX12_end_23 : decode cX12_end 23 = .ok (.ldc 163, 2) := by decide +kernel
theorem dX12_end_25 : decode cX12_end 25 = .ok (.ireturn, 1) := by decide +kernel
theorem dX12_end_26 : decode cX12_end 26 = .ok (.iload_n 1, 1) := by decide +kernel
theorem dX12_end_27 : decode cX12_end 27 = .ok (.istore_n 2, 1) := by decide +kernel
theorem dX12_end_28 : decode cX12_end 28 = .ok (.iload_n 2, 1) := by decide +kernel
theorem dX12_end_29 : decode cX12_end 29 = .ok (.i2l, 1) := by decide +kernel
theorem dX12_end_30 : decode cX12_end 30 = .ok (.lconst 0, 1) := by decide +kernel
theorem dX12_end_31 : decode cX12_end 31 = .ok (.ldc2_w 275, 3) := by decide +kernel
theorem dX12_end_34 : decode cX12_end 34 = .ok (.invokestatic 140, 3) := by decide +kernel
theorem dX12_end_37 : decode cX12_end 37 = .ok (.ifCond .eq 12, 3) := by decide +kernel
theorem dX12_end_40 : decode cX12_end 40 = .ok (.aload_n 0, 1) := by decide +kernel
theorem dX12_end_41 : decode cX12_end 41 = .ok (.iload_n 2, 1) := by decide +kernel
theorem dX12_end_42 : decode cX12_end 42 = .ok (.invokevirtual 277, 3) := by decide +kernel
theorem dX12_end_45 : decode cX12_end 45 = .ok (.istore_n 2, 1) := by decide +kernel
theorem dX12_end_46 : decode cX12_end 46 = .ok (.goto (-18), 3) := by decide +kernel
theorem dX12_end_49 : decode cX12_end 49 = .ok (.iload_n 2, 1) := by decide +kernel
theorem dX12_end_50 : decode cX12_end 50 = .ok (.ireturn, 1) := by decide +kernel
theorem dX12_waterOf_0 : decode cX12_waterOf 0 = .ok (.aload_n 0, 1) := by decide +kernel
theorem dX12_waterOf_1 : decode cX12_waterOf 1 = .ok (.iload_n 1, 1) := by decide +kernel
theorem dX12_waterOf_2 : decode cX12_waterOf 2 = .ok (.invokevirtual 256, 3) := by decide +kernel
theorem dX12_waterOf_5 : decode cX12_waterOf 5 = .ok (.ifCond .eq 7, 3) := by decide +kernel
theorem dX12_waterOf_8 : decode cX12_waterOf 8 = .ok (.lconst 0, 1) := by decide +kernel
theorem dX12_waterOf_9 : decode cX12_waterOf 9 = .ok (.goto 30, 3) := by decide +kernel
theorem dX12_waterOf_12 : decode cX12_waterOf 12 = .ok (.aload_n 0, 1) := by decide +kernel
theorem dX12_waterOf_13 : decode cX12_waterOf 13 = .ok (.getfield 16, 3) := by decide +kernel
theorem dX12_waterOf_16 : decode cX12_waterOf 16 = .ok (.iload_n 1, 1) := by decide +kernel
theorem dX12_waterOf_17 : decode cX12_waterOf 17 = .ok (.iaload, 1) := by decide +kernel
theorem dX12_waterOf_18 : decode cX12_waterOf 18 = .ok (.i2l, 1) := by decide +kernel
theorem dX12_waterOf_19 : decode cX12_waterOf 19 = .ok (.aload_n 0, 1) := by decide +kernel
theorem dX12_waterOf_20 : decode cX12_waterOf 20 = .ok (.getfield 61, 3) := by decide +kernel
theorem dX12_waterOf_23 : decode cX12_waterOf 23 = .ok (.iload_n 1, 1) := by decide +kernel
theorem dX12_waterOf_24 : decode cX12_waterOf 24 = .ok (.laload, 1) := by decide +kernel
theorem dX12_waterOf_25 : decode cX12_waterOf 25 = .ok (.aload_n 0, 1) := by decide +kernel
theorem dX12_waterOf_26 : decode cX12_waterOf 26 = .ok (.getfield 7, 3) := by decide +kernel
theorem dX12_waterOf_29 : decode cX12_waterOf 29 = .ok (.iload_n 1, 1) := by decide +kernel
theorem dX12_waterOf_30 : decode cX12_waterOf 30 = .ok (.iaload, 1) := by decide +kernel
theorem dX12_waterOf_31 : decode cX12_waterOf 31 = .ok (.i2l, 1) := by decide +kernel
theorem dX12_waterOf_32 : decode cX12_waterOf 32 = .ok (.aload_n 0, 1) := by decide +kernel
theorem dX12_waterOf_33 : decode cX12_waterOf 33 = .ok (.getfield 211, 3) := by decide +kernel
theorem dX12_waterOf_36 : decode cX12_waterOf 36 = .ok (.lmul, 1) := by decide +kernel
theorem dX12_waterOf_37 : decode cX12_waterOf 37 = .ok (.lsub, 1) := by decide +kernel
theorem dX12_waterOf_38 : decode cX12_waterOf 38 = .ok (.lmul, 1) := by decide +kernel
theorem dX12_waterOf_39 : decode cX12_waterOf 39 = .ok (.lreturn, 1) := by decide +kernel
theorem dX12_time_0 : decode cX12_time 0 = .ok (.aload_n 0, 1) := by decide +kernel
theorem dX12_time_1 : decode cX12_time 1 = .ok (.iconst 0, 1) := by decide +kernel
theorem dX12_time_2 : decode cX12_time 2 = .ok (.putfield 133, 3) := by decide +kernel
theorem dX12_time_5 : decode cX12_time 5 = .ok (.aload_n 0, 1) := by decide +kernel
theorem dX12_time_6 : decode cX12_time 6 = .ok (.iload_n 1, 1) := by decide +kernel
theorem dX12_time_7 : decode cX12_time 7 = .ok (.invokevirtual 155, 3) := by decide +kernel
theorem dX12_time_10 : decode cX12_time 10 = .ok (.ifCond .eq 7, 3) := by decide +kernel
theorem dX12_time_13 : decode cX12_time 13 = .ok (.ldc2_w 235, 3) := by decide +kernel
theorem dX12_time_16 : decode cX12_time 16 = .ok (.lreturn, 1) := by decide +kernel
theorem dX12_time_17 : decode cX12_time 17 = .ok (.aload_n 0, 1) := by decide +kernel
theorem dX12_time_18 : decode cX12_time 18 = .ok (.invokevirtual 229, 3) := by decide +kernel
theorem dX12_time_21 : decode cX12_time 21 = .ok (.ifCond .ne 7, 3) := by decide +kernel
theorem dX12_time_24 : decode cX12_time 24 = .ok (.ldc2_w 241, 3) := by decide +kernel
theorem dX12_time_27 : decode cX12_time 27 = .ok (.lreturn, 1) := by decide +kernel
theorem dX12_time_28 : decode cX12_time 28 = .ok (.aload_n 0, 1) := by decide +kernel
theorem dX12_time_29 : decode cX12_time 29 = .ok (.iload_n 1, 1) := by decide +kernel
theorem dX12_time_30 : decode cX12_time 30 = .ok (.invokevirtual 268, 3) := by decide +kernel
theorem dX12_time_33 : decode cX12_time 33 = .ok (.aload_n 0, 1) := by decide +kernel
theorem dX12_time_34 : decode cX12_time 34 = .ok (.getfield 261, 3) := by decide +kernel
theorem dX12_time_37 : decode cX12_time 37 = .ok (.ifCond .ne 9, 3) := by decide +kernel
theorem dX12_time_40 : decode cX12_time 40 = .ok (.ldc2_w 281, 3) := by decide +kernel
theorem dX12_time_43 : decode cX12_time 43 = .ok (.goto 16, 3) := by decide +kernel
theorem dX12_time_46 : decode cX12_time 46 = .ok (.aload_n 0, 1) := by decide +kernel
theorem dX12_time_47 : decode cX12_time 47 = .ok (.iload_n 1, 1) := by decide +kernel
theorem dX12_time_48 : decode cX12_time 48 = .ok (.invokevirtual 283, 3) := by decide +kernel
theorem dX12_time_51 : decode cX12_time 51 = .ok (.aload_n 0, 1) := by decide +kernel
theorem dX12_time_52 : decode cX12_time 52 = .ok (.invokevirtual 286, 3) := by decide +kernel
theorem dX12_time_55 : decode cX12_time 55 = .ok (.iload_n 2, 1) := by decide +kernel
theorem dX12_time_56 : decode cX12_time 56 = .ok (.invokestatic 237, 3) := by decide +kernel
theorem dX12_time_59 : decode cX12_time 59 = .ok (.lreturn, 1) := by decide +kernel
theorem dX12_wayTime_0 : decode cX12_wayTime 0 = .ok (.aload_n 0, 1) := by decide +kernel
theorem dX12_wayTime_1 : decode cX12_wayTime 1 = .ok (.iconst 0, 1) := by decide +kernel
theorem dX12_wayTime_2 : decode cX12_wayTime 2 = .ok (.putfield 133, 3) := by decide +kernel
theorem dX12_wayTime_5 : decode cX12_wayTime 5 = .ok (.aload_n 0, 1) := by decide +kernel
theorem dX12_wayTime_6 : decode cX12_wayTime 6 = .ok (.iload_n 1, 1) := by decide +kernel
theorem dX12_wayTime_7 : decode cX12_wayTime 7 = .ok (.invokevirtual 155, 3) := by decide +kernel
theorem dX12_wayTime_10 : decode cX12_wayTime 10 = .ok (.ifCond .eq 7, 3) := by decide +kernel
theorem dX12_wayTime_13 : decode cX12_wayTime 13 = .ok (.ldc2_w 235, 3) := by decide +kernel
theorem dX12_wayTime_16 : decode cX12_wayTime 16 = .ok (.lreturn, 1) := by decide +kernel
theorem dX12_wayTime_17 : decode cX12_wayTime 17 = .ok (.aload_n 0, 1) := by decide +kernel
theorem dX12_wayTime_18 : decode cX12_wayTime 18 = .ok (.invokevirtual 229, 3) := by decide +kernel
theorem dX12_wayTime_21 : decode cX12_wayTime 21 = .ok (.ifCond .ne 7, 3) := by decide +kernel
theorem dX12_wayTime_24 : decode cX12_wayTime 24 = .ok (.ldc2_w 241, 3) := by decide +kernel
theorem dX12_wayTime_27 : decode cX12_wayTime 27 = .ok (.lreturn, 1) := by decide +kernel
theorem dX12_wayTime_28 : decode cX12_wayTime 28 = .ok (.lconst 0, 1) := by decide +kernel
theorem dX12_wayTime_29 : decode cX12_wayTime 29 = .ok (.lstore_n 2, 1) := by decide +kernel
theorem dX12_wayTime_30 : decode cX12_wayTime 30 = .ok (.iload_n 1, 1) := by decide +kernel
theorem dX12_wayTime_31 : decode cX12_wayTime 31 = .ok (.istore 4, 2) := by decide +kernel
theorem dX12_wayTime_33 : decode cX12_wayTime 33 = .ok (.iload 4, 2) := by decide +kernel
theorem dX12_wayTime_35 : decode cX12_wayTime 35 = .ok (.i2l, 1) := by decide +kernel
theorem dX12_wayTime_36 : decode cX12_wayTime 36 = .ok (.lconst 0, 1) := by decide +kernel
theorem dX12_wayTime_37 : decode cX12_wayTime 37 = .ok (.ldc2_w 275, 3) := by decide +kernel
theorem dX12_wayTime_40 : decode cX12_wayTime 40 = .ok (.invokestatic 140, 3) := by decide +kernel
theorem dX12_wayTime_43 : decode cX12_wayTime 43 = .ok (.ifCond .eq 51, 3) := by decide +kernel
theorem dX12_wayTime_46 : decode cX12_wayTime 46 = .ok (.aload_n 0, 1) := by decide +kernel
theorem dX12_wayTime_47 : decode cX12_wayTime 47 = .ok (.iload 4, 2) := by decide +kernel
theorem dX12_wayTime_49 : decode cX12_wayTime 49 = .ok (.invokevirtual 268, 3) := by decide +kernel
theorem dX12_wayTime_52 : decode cX12_wayTime 52 = .ok (.lload_n 2, 1) := by decide +kernel
theorem dX12_wayTime_53 : decode cX12_wayTime 53 = .ok (.aload_n 0, 1) := by decide +kernel
theorem dX12_wayTime_54 : decode cX12_wayTime 54 = .ok (.getfield 261, 3) := by decide +kernel
theorem dX12_wayTime_57 : decode cX12_wayTime 57 = .ok (.ifCond .ne 7, 3) := by decide +kernel
theorem dX12_wayTime_60 : decode cX12_wayTime 60 = .ok (.lconst 0, 1) := by decide +kernel
theorem dX12_wayTime_61 : decode cX12_wayTime 61 = .ok (.goto 20, 3) := by decide +kernel
theorem dX12_wayTime_64 : decode cX12_wayTime 64 = .ok (.ldc2_w 167, 3) := by decide +kernel
theorem dX12_wayTime_67 : decode cX12_wayTime 67 = .ok (.aload_n 0, 1) := by decide +kernel
theorem dX12_wayTime_68 : decode cX12_wayTime 68 = .ok (.iload 4, 2) := by decide +kernel
theorem dX12_wayTime_70 : decode cX12_wayTime 70 = .ok (.invokevirtual 283, 3) := by decide +kernel
theorem dX12_wayTime_73 : decode cX12_wayTime 73 = .ok (.lmul, 1) := by decide +kernel
theorem dX12_wayTime_74 : decode cX12_wayTime 74 = .ok (.aload_n 0, 1) := by decide +kernel
theorem dX12_wayTime_75 : decode cX12_wayTime 75 = .ok (.invokevirtual 286, 3) := by decide +kernel
theorem dX12_wayTime_78 : decode cX12_wayTime 78 = .ok (.invokestatic 225, 3) := by decide +kernel
theorem dX12_wayTime_81 : decode cX12_wayTime 81 = .ok (.ladd, 1) := by decide +kernel
theorem dX12_wayTime_82 : decode cX12_wayTime 82 = .ok (.lstore_n 2, 1) := by decide +kernel
theorem dX12_wayTime_83 : decode cX12_wayTime 83 = .ok (.aload_n 0, 1) := by decide +kernel
theorem dX12_wayTime_84 : decode cX12_wayTime 84 = .ok (.iload 4, 2) := by decide +kernel
theorem dX12_wayTime_86 : decode cX12_wayTime 86 = .ok (.invokevirtual 277, 3) := by decide +kernel
theorem dX12_wayTime_89 : decode cX12_wayTime 89 = .ok (.istore 4, 2) := by decide +kernel
theorem dX12_wayTime_91 : decode cX12_wayTime 91 = .ok (.goto (-58), 3) := by decide +kernel
theorem dX12_wayTime_94 : decode cX12_wayTime 94 = .ok (.lload_n 2, 1) := by decide +kernel
theorem dX12_wayTime_95 : decode cX12_wayTime 95 = .ok (.lreturn, 1) := by decide +kernel
theorem dX12_zone_0 : decode cX12_zone 0 = .ok (.aload_n 0, 1) := by decide +kernel
theorem dX12_zone_1 : decode cX12_zone 1 = .ok (.iconst 0, 1) := by decide +kernel
theorem dX12_zone_2 : decode cX12_zone 2 = .ok (.putfield 133, 3) := by decide +kernel
theorem dX12_zone_5 : decode cX12_zone 5 = .ok (.aload_n 0, 1) := by decide +kernel
theorem dX12_zone_6 : decode cX12_zone 6 = .ok (.iload_n 1, 1) := by decide +kernel
theorem dX12_zone_7 : decode cX12_zone 7 = .ok (.invokevirtual 175, 3) := by decide +kernel
theorem dX12_zone_10 : decode cX12_zone 10 = .ok (.ifCond .eq 6, 3) := by decide +kernel
theorem dX12_zone_13 : decode cX12_zone 13 = .ok (.ldc 159, 2) := by decide +kernel
theorem dX12_zone_15 : decode cX12_zone 15 = .ok (.ireturn, 1) := by decide +kernel
theorem dX12_zone_16 : decode cX12_zone 16 = .ok (.aload_n 0, 1) := by decide +kernel
theorem dX12_zone_17 : decode cX12_zone 17 = .ok (.invokevirtual 229, 3) := by decide +kernel
theorem dX12_zone_20 : decode cX12_zone 20 = .ok (.ifCond .ne 6, 3) := by decide +kernel
theorem dX12_zone_23 : decode cX12_zone 23 = .ok (.ldc 163, 2) := by decide +kernel
theorem dX12_zone_25 : decode cX12_zone 25 = .ok (.ireturn, 1) := by decide +kernel
theorem dX12_zone_26 : decode cX12_zone 26 = .ok (.aload_n 0, 1) := by decide +kernel
theorem dX12_zone_27 : decode cX12_zone 27 = .ok (.getfield 58, 3) := by decide +kernel
theorem dX12_zone_30 : decode cX12_zone 30 = .ok (.iload_n 1, 1) := by decide +kernel
theorem dX12_zone_31 : decode cX12_zone 31 = .ok (.iaload, 1) := by decide +kernel
theorem dX12_zone_32 : decode cX12_zone 32 = .ok (.ifCond .le 14, 3) := by decide +kernel
theorem dX12_zone_35 : decode cX12_zone 35 = .ok (.iconst 1, 1) := by decide +kernel
theorem dX12_zone_36 : decode cX12_zone 36 = .ok (.aload_n 0, 1) := by decide +kernel
theorem dX12_zone_37 : decode cX12_zone 37 = .ok (.getfield 49, 3) := by decide +kernel
theorem dX12_zone_40 : decode cX12_zone 40 = .ok (.iload_n 1, 1) := by decide +kernel
theorem dX12_zone_41 : decode cX12_zone 41 = .ok (.iaload, 1) := by decide +kernel
theorem dX12_zone_42 : decode cX12_zone 42 = .ok (.ishl, 1) := by decide +kernel
theorem dX12_zone_43 : decode cX12_zone 43 = .ok (.goto 4, 3) := by decide +kernel
theorem dX12_zone_46 : decode cX12_zone 46 = .ok (.iconst 0, 1) := by decide +kernel
theorem dX12_zone_47 : decode cX12_zone 47 = .ok (.istore_n 2, 1) := by decide +kernel
theorem dX12_zone_48 : decode cX12_zone 48 = .ok (.iconst 0, 1) := by decide +kernel
theorem dX12_zone_49 : decode cX12_zone 49 = .ok (.istore_n 3, 1) := by decide +kernel
theorem dX12_zone_50 : decode cX12_zone 50 = .ok (.iload_n 3, 1) := by decide +kernel
theorem dX12_zone_51 : decode cX12_zone 51 = .ok (.bipush 6, 2) := by decide +kernel
theorem dX12_zone_53 : decode cX12_zone 53 = .ok (.if_icmp .ge 115, 3) := by decide +kernel
theorem dX12_zone_56 : decode cX12_zone 56 = .ok (.iconst 0, 1) := by decide +kernel
theorem dX12_zone_57 : decode cX12_zone 57 = .ok (.istore 4, 2) := by decide +kernel
theorem dX12_zone_59 : decode cX12_zone 59 = .ok (.iload 4, 2) := by decide +kernel
theorem dX12_zone_61 : decode cX12_zone 61 = .ok (.aload_n 0, 1) := by decide +kernel
theorem dX12_zone_62 : decode cX12_zone 62 = .ok (.getfield 164, 3) := by decide +kernel
theorem dX12_zone_65 : decode cX12_zone 65 = .ok (.if_icmp .ge 97, 3) := by decide +kernel
theorem dX12_zone_68 : decode cX12_zone 68 = .ok (.aload_n 0, 1) := by decide +kernel
theorem dX12_zone_69 : decode cX12_zone 69 = .ok (.iload 4, 2) := by decide +kernel
theorem dX12_zone_71 : decode cX12_zone 71 = .ok (.invokevirtual 247, 3) := by decide +kernel
theorem dX12_zone_74 : decode cX12_zone 74 = .ok (.lstore 5, 2) := by decide +kernel
theorem dX12_zone_76 : decode cX12_zone 76 = .ok (.lload 5, 2) := by decide +kernel
theorem dX12_zone_78 : decode cX12_zone 78 = .ok (.lconst 0, 1) := by decide +kernel
theorem dX12_zone_79 : decode cX12_zone 79 = .ok (.lcmp, 1) := by decide +kernel
theorem dX12_zone_80 : decode cX12_zone 80 = .ok (.ifCond .le 13, 3) := by decide +kernel
theorem dX12_zone_83 : decode cX12_zone 83 = .ok (.aload_n 0, 1) := by decide +kernel
theorem dX12_zone_84 : decode cX12_zone 84 = .ok (.getfield 19, 3) := by decide +kernel
theorem dX12_zone_87 : decode cX12_zone 87 = .ok (.iload 4, 2) := by decide +kernel
theorem dX12_zone_89 : decode cX12_zone 89 = .ok (.iaload, 1) := by decide +kernel
theorem dX12_zone_90 : decode cX12_zone 90 = .ok (.goto 10, 3) := by decide +kernel
theorem dX12_zone_93 : decode cX12_zone 93 = .ok (.aload_n 0, 1) := by decide +kernel
theorem dX12_zone_94 : decode cX12_zone 94 = .ok (.getfield 22, 3) := by decide +kernel
theorem dX12_zone_97 : decode cX12_zone 97 = .ok (.iload 4, 2) := by decide +kernel
theorem dX12_zone_99 : decode cX12_zone 99 = .ok (.iaload, 1) := by decide +kernel
theorem dX12_zone_100 : decode cX12_zone 100 = .ok (.istore 7, 2) := by decide +kernel
theorem dX12_zone_102 : decode cX12_zone 102 = .ok (.lload 5, 2) := by decide +kernel
theorem dX12_zone_104 : decode cX12_zone 104 = .ok (.lconst 0, 1) := by decide +kernel
theorem dX12_zone_105 : decode cX12_zone 105 = .ok (.lcmp, 1) := by decide +kernel
theorem dX12_zone_106 : decode cX12_zone 106 = .ok (.ifCond .le 13, 3) := by decide +kernel
theorem dX12_zone_109 : decode cX12_zone 109 = .ok (.aload_n 0, 1) := by decide +kernel
theorem dX12_zone_110 : decode cX12_zone 110 = .ok (.getfield 22, 3) := by decide +kernel
theorem dX12_zone_113 : decode cX12_zone 113 = .ok (.iload 4, 2) := by decide +kernel
theorem dX12_zone_115 : decode cX12_zone 115 = .ok (.iaload, 1) := by decide +kernel
theorem dX12_zone_116 : decode cX12_zone 116 = .ok (.goto 10, 3) := by decide +kernel
theorem dX12_zone_119 : decode cX12_zone 119 = .ok (.aload_n 0, 1) := by decide +kernel
theorem dX12_zone_120 : decode cX12_zone 120 = .ok (.getfield 19, 3) := by decide +kernel
theorem dX12_zone_123 : decode cX12_zone 123 = .ok (.iload 4, 2) := by decide +kernel
theorem dX12_zone_125 : decode cX12_zone 125 = .ok (.iaload, 1) := by decide +kernel
theorem dX12_zone_126 : decode cX12_zone 126 = .ok (.istore 8, 2) := by decide +kernel
theorem dX12_zone_128 : decode cX12_zone 128 = .ok (.iload_n 2, 1) := by decide +kernel
theorem dX12_zone_129 : decode cX12_zone 129 = .ok (.lload 5, 2) := by decide +kernel
theorem dX12_zone_131 : decode cX12_zone 131 = .ok (.lconst 0, 1) := by decide +kernel
theorem dX12_zone_132 : decode cX12_zone 132 = .ok (.lcmp, 1) := by decide +kernel
theorem dX12_zone_133 : decode cX12_zone 133 = .ok (.ifCond .eq 20, 3) := by decide +kernel
theorem dX12_zone_136 : decode cX12_zone 136 = .ok (.iload_n 2, 1) := by decide +kernel
theorem dX12_zone_137 : decode cX12_zone 137 = .ok (.iload 8, 2) := by decide +kernel
theorem dX12_zone_139 : decode cX12_zone 139 = .ok (.ishr, 1) := by decide +kernel
theorem dX12_zone_140 : decode cX12_zone 140 = .ok (.iconst 1, 1) := by decide +kernel
theorem dX12_zone_141 : decode cX12_zone 141 = .ok (.iand, 1) := by decide +kernel
theorem dX12_zone_142 : decode cX12_zone 142 = .ok (.iconst 1, 1) := by decide +kernel
theorem dX12_zone_143 : decode cX12_zone 143 = .ok (.if_icmp .ne 10, 3) := by decide +kernel
theorem dX12_zone_146 : decode cX12_zone 146 = .ok (.iconst 1, 1) := by decide +kernel
theorem dX12_zone_147 : decode cX12_zone 147 = .ok (.iload 7, 2) := by decide +kernel
theorem dX12_zone_149 : decode cX12_zone 149 = .ok (.ishl, 1) := by decide +kernel
theorem dX12_zone_150 : decode cX12_zone 150 = .ok (.goto 4, 3) := by decide +kernel
theorem dX12_zone_153 : decode cX12_zone 153 = .ok (.iconst 0, 1) := by decide +kernel
theorem dX12_zone_154 : decode cX12_zone 154 = .ok (.ior, 1) := by decide +kernel
theorem dX12_zone_155 : decode cX12_zone 155 = .ok (.istore_n 2, 1) := by decide +kernel
theorem dX12_zone_156 : decode cX12_zone 156 = .ok (.iinc 4 1, 3) := by decide +kernel
theorem dX12_zone_159 : decode cX12_zone 159 = .ok (.goto (-100), 3) := by decide +kernel
theorem dX12_zone_162 : decode cX12_zone 162 = .ok (.iinc 3 1, 3) := by decide +kernel
theorem dX12_zone_165 : decode cX12_zone 165 = .ok (.goto (-115), 3) := by decide +kernel
theorem dX12_zone_168 : decode cX12_zone 168 = .ok (.iload_n 2, 1) := by decide +kernel
theorem dX12_zone_169 : decode cX12_zone 169 = .ok (.ireturn, 1) := by decide +kernel
theorem dX12_shareOf_0 : decode cX12_shareOf 0 = .ok (.lconst 0, 1) := by decide +kernel
theorem dX12_shareOf_1 : decode cX12_shareOf 1 = .ok (.lstore 5, 2) := by decide +kernel
theorem dX12_shareOf_3 : decode cX12_shareOf 3 = .ok (.lconst 0, 1) := by decide +kernel
theorem dX12_shareOf_4 : decode cX12_shareOf 4 = .ok (.lstore 7, 2) := by decide +kernel
theorem dX12_shareOf_6 : decode cX12_shareOf 6 = .ok (.bipush 20, 2) := by decide +kernel
theorem dX12_shareOf_8 : decode cX12_shareOf 8 = .ok (.istore 9, 2) := by decide +kernel
theorem dX12_shareOf_10 : decode cX12_shareOf 10 = .ok (.iload 9, 2) := by decide +kernel
theorem dX12_shareOf_12 : decode cX12_shareOf 12 = .ok (.ifCond .lt 52, 3) := by decide +kernel
theorem dX12_shareOf_15 : decode cX12_shareOf 15 = .ok (.ldc2_w 178, 3) := by decide +kernel
theorem dX12_shareOf_18 : decode cX12_shareOf 18 = .ok (.lload 7, 2) := by decide +kernel
theorem dX12_shareOf_20 : decode cX12_shareOf 20 = .ok (.lmul, 1) := by decide +kernel
theorem dX12_shareOf_21 : decode cX12_shareOf 21 = .ok (.iload_n 0, 1) := by decide +kernel
theorem dX12_shareOf_22 : decode cX12_shareOf 22 = .ok (.iload 9, 2) := by decide +kernel
theorem dX12_shareOf_24 : decode cX12_shareOf 24 = .ok (.ishr, 1) := by decide +kernel
theorem dX12_shareOf_25 : decode cX12_shareOf 25 = .ok (.iconst 1, 1) := by decide +kernel
theorem dX12_shareOf_26 : decode cX12_shareOf 26 = .ok (.iand, 1) := by decide +kernel
theorem dX12_shareOf_27 : decode cX12_shareOf 27 = .ok (.iconst 1, 1) := by decide +kernel
theorem dX12_shareOf_28 : decode cX12_shareOf 28 = .ok (.if_icmp .ne 7, 3) := by decide +kernel
theorem dX12_shareOf_31 : decode cX12_shareOf 31 = .ok (.lload_n 1, 1) := by decide +kernel
theorem dX12_shareOf_32 : decode cX12_shareOf 32 = .ok (.goto 4, 3) := by decide +kernel
theorem dX12_shareOf_35 : decode cX12_shareOf 35 = .ok (.lconst 0, 1) := by decide +kernel
theorem dX12_shareOf_36 : decode cX12_shareOf 36 = .ok (.ladd, 1) := by decide +kernel
theorem dX12_shareOf_37 : decode cX12_shareOf 37 = .ok (.lstore 10, 2) := by decide +kernel
theorem dX12_shareOf_39 : decode cX12_shareOf 39 = .ok (.ldc2_w 178, 3) := by decide +kernel
theorem dX12_shareOf_42 : decode cX12_shareOf 42 = .ok (.lload 5, 2) := by decide +kernel
theorem dX12_shareOf_44 : decode cX12_shareOf 44 = .ok (.lmul, 1) := by decide +kernel
theorem dX12_shareOf_45 : decode cX12_shareOf 45 = .ok (.lload 10, 2) := by decide +kernel
theorem dX12_shareOf_47 : decode cX12_shareOf 47 = .ok (.lload_n 3, 1) := by decide +kernel
theorem dX12_shareOf_48 : decode cX12_shareOf 48 = .ok (.ldiv, 1) := by decide +kernel
theorem dX12_shareOf_49 : decode cX12_shareOf 49 = .ok (.ladd, 1) := by decide +kernel
theorem dX12_shareOf_50 : decode cX12_shareOf 50 = .ok (.lstore 5, 2) := by decide +kernel
theorem dX12_shareOf_52 : decode cX12_shareOf 52 = .ok (.lload 10, 2) := by decide +kernel
theorem dX12_shareOf_54 : decode cX12_shareOf 54 = .ok (.lload_n 3, 1) := by decide +kernel
theorem dX12_shareOf_55 : decode cX12_shareOf 55 = .ok (.lrem, 1) := by decide +kernel
theorem dX12_shareOf_56 : decode cX12_shareOf 56 = .ok (.lstore 7, 2) := by decide +kernel
theorem dX12_shareOf_58 : decode cX12_shareOf 58 = .ok (.iinc 9 (-1), 3) := by decide +kernel
theorem dX12_shareOf_61 : decode cX12_shareOf 61 = .ok (.goto (-51), 3) := by decide +kernel
theorem dX12_shareOf_64 : decode cX12_shareOf 64 = .ok (.lload 5, 2) := by decide +kernel
theorem dX12_shareOf_66 : decode cX12_shareOf 66 = .ok (.l2i, 1) := by decide +kernel
theorem dX12_shareOf_67 : decode cX12_shareOf 67 = .ok (.ireturn, 1) := by decide +kernel
theorem dX12_spill_0 : decode cX12_spill 0 = .ok (.aload_n 0, 1) := by decide +kernel
theorem dX12_spill_1 : decode cX12_spill 1 = .ok (.iconst 0, 1) := by decide +kernel
theorem dX12_spill_2 : decode cX12_spill 2 = .ok (.putfield 133, 3) := by decide +kernel
theorem dX12_spill_5 : decode cX12_spill 5 = .ok (.iload_n 2, 1) := by decide +kernel
theorem dX12_spill_6 : decode cX12_spill 6 = .ok (.i2l, 1) := by decide +kernel
theorem dX12_spill_7 : decode cX12_spill 7 = .ok (.lconst 0, 1) := by decide +kernel
theorem dX12_spill_8 : decode cX12_spill 8 = .ok (.aload_n 0, 1) := by decide +kernel
theorem dX12_spill_9 : decode cX12_spill 9 = .ok (.getfield 137, 3) := by decide +kernel
theorem dX12_spill_12 : decode cX12_spill 12 = .ok (.iconst 1, 1) := by decide +kernel
theorem dX12_spill_13 : decode cX12_spill 13 = .ok (.isub, 1) := by decide +kernel
theorem dX12_spill_14 : decode cX12_spill 14 = .ok (.i2l, 1) := by decide +kernel
theorem dX12_spill_15 : decode cX12_spill 15 = .ok (.invokestatic 140, 3) := by decide +kernel
theorem dX12_spill_18 : decode cX12_spill 18 = .ok (.ifCond .ne 62, 3) := by decide +kernel
theorem dX12_spill_21 : decode cX12_spill 21 = .ok (.iload_n 2, 1) := by decide +kernel
theorem dX12_spill_22 : decode cX12_spill 22 = .ok (.i2l, 1) := by decide +kernel
theorem dX12_spill_23 : decode cX12_spill 23 = .ok (.ldc2_w 290, 3) := by decide +kernel
theorem dX12_spill_26 : decode cX12_spill 26 = .ok (.bipush 99, 2) := by decide +kernel
theorem dX12_spill_28 : decode cX12_spill 28 = .ok (.aload_n 0, 1) := by decide +kernel
theorem dX12_spill_29 : decode cX12_spill 29 = .ok (.getfield 169, 3) := by decide +kernel
theorem dX12_spill_32 : decode cX12_spill 32 = .ok (.iadd, 1) := by decide +kernel
theorem dX12_spill_33 : decode cX12_spill 33 = .ok (.i2l, 1) := by decide +kernel
theorem dX12_spill_34 : decode cX12_spill 34 = .ok (.invokestatic 140, 3) := by decide +kernel
theorem dX12_spill_37 : decode cX12_spill 37 = .ok (.ifCond .ne 43, 3) := by decide +kernel
theorem dX12_spill_40 : decode cX12_spill 40 = .ok (.iload_n 2, 1) := by decide +kernel
theorem dX12_spill_41 : decode cX12_spill 41 = .ok (.i2l, 1) := by decide +kernel
theorem dX12_spill_42 : decode cX12_spill 42 = .ok (.ldc2_w 292, 3) := by decide +kernel
theorem dX12_spill_45 : decode cX12_spill 45 = .ok (.sipush 199, 3) := by decide +kernel
theorem dX12_spill_48 : decode cX12_spill 48 = .ok (.aload_n 0, 1) := by decide +kernel
theorem dX12_spill_49 : decode cX12_spill 49 = .ok (.getfield 172, 3) := by decide +kernel
theorem dX12_spill_52 : decode cX12_spill 52 = .ok (.iadd, 1) := by decide +kernel
theorem dX12_spill_53 : decode cX12_spill 53 = .ok (.i2l, 1) := by decide +kernel
theorem dX12_spill_54 : decode cX12_spill 54 = .ok (.invokestatic 140, 3) := by decide +kernel
theorem dX12_spill_57 : decode cX12_spill 57 = .ok (.ifCond .ne 23, 3) := by decide +kernel
theorem dX12_spill_60 : decode cX12_spill 60 = .ok (.iload_n 2, 1) := by decide +kernel
theorem dX12_spill_61 : decode cX12_spill 61 = .ok (.i2l, 1) := by decide +kernel
theorem dX12_spill_62 : decode cX12_spill 62 = .ok (.ldc2_w 294, 3) := by decide +kernel
theorem dX12_spill_65 : decode cX12_spill 65 = .ok (.sipush 299, 3) := by decide +kernel
theorem dX12_spill_68 : decode cX12_spill 68 = .ok (.aload_n 0, 1) := by decide +kernel
theorem dX12_spill_69 : decode cX12_spill 69 = .ok (.getfield 144, 3) := by decide +kernel
theorem dX12_spill_72 : decode cX12_spill 72 = .ok (.iadd, 1) := by decide +kernel
theorem dX12_spill_73 : decode cX12_spill 73 = .ok (.i2l, 1) := by decide +kernel
theorem dX12_spill_74 : decode cX12_spill 74 = .ok (.invokestatic 140, 3) := by decide +kernel
theorem dX12_spill_77 : decode cX12_spill 77 = .ok (.ifCond .eq 7, 3) := by decide +kernel
theorem dX12_spill_80 : decode cX12_spill 80 = .ok (.iconst 1, 1) := by decide +kernel
theorem dX12_spill_81 : decode cX12_spill 81 = .ok (.goto 4, 3) := by decide +kernel
theorem dX12_spill_84 : decode cX12_spill 84 = .ok (.iconst 0, 1) := by decide +kernel
theorem dX12_spill_85 : decode cX12_spill 85 = .ok (.istore_n 3, 1) := by decide +kernel
theorem dX12_spill_86 : decode cX12_spill 86 = .ok (.aload_n 0, 1) := by decide +kernel
theorem dX12_spill_87 : decode cX12_spill 87 = .ok (.iload_n 1, 1) := by decide +kernel
theorem dX12_spill_88 : decode cX12_spill 88 = .ok (.invokevirtual 155, 3) := by decide +kernel
theorem dX12_spill_91 : decode cX12_spill 91 = .ok (.ifCond .ne 7, 3) := by decide +kernel
theorem dX12_spill_94 : decode cX12_spill 94 = .ok (.iload_n 3, 1) := by decide +kernel
theorem dX12_spill_95 : decode cX12_spill 95 = .ok (.ifCond .ne 6, 3) := by decide +kernel
theorem dX12_spill_98 : decode cX12_spill 98 = .ok (.ldc 159, 2) := by decide +kernel
theorem dX12_spill_100 : decode cX12_spill 100 = .ok (.ireturn, 1) := by decide +kernel
theorem dX12_spill_101 : decode cX12_spill 101 = .ok (.aload_n 0, 1) := by decide +kernel
theorem dX12_spill_102 : decode cX12_spill 102 = .ok (.invokevirtual 229, 3) := by decide +kernel
theorem dX12_spill_105 : decode cX12_spill 105 = .ok (.ifCond .ne 6, 3) := by decide +kernel
theorem dX12_spill_108 : decode cX12_spill 108 = .ok (.ldc 163, 2) := by decide +kernel
theorem dX12_spill_110 : decode cX12_spill 110 = .ok (.ireturn, 1) := by decide +kernel
theorem dX12_spill_111 : decode cX12_spill 111 = .ok (.iconst 0, 1) := by decide +kernel
theorem dX12_spill_112 : decode cX12_spill 112 = .ok (.istore 4, 2) := by decide +kernel
theorem dX12_spill_114 : decode cX12_spill 114 = .ok (.iload 4, 2) := by decide +kernel
theorem dX12_spill_116 : decode cX12_spill 116 = .ok (.bipush 6, 2) := by decide +kernel
theorem dX12_spill_118 : decode cX12_spill 118 = .ok (.if_icmp .ge 29, 3) := by decide +kernel
theorem dX12_spill_121 : decode cX12_spill 121 = .ok (.aload_n 0, 1) := by decide +kernel
theorem dX12_spill_122 : decode cX12_spill 122 = .ok (.getfield 129, 3) := by decide +kernel
theorem dX12_spill_125 : decode cX12_spill 125 = .ok (.iload 4, 2) := by decide +kernel
theorem dX12_spill_127 : decode cX12_spill 127 = .ok (.iload 4, 2) := by decide +kernel
theorem dX12_spill_129 : decode cX12_spill 129 = .ok (.iload_n 1, 1) := by decide +kernel
theorem dX12_spill_130 : decode cX12_spill 130 = .ok (.if_icmp .ne 9, 3) := by decide +kernel
theorem dX12_spill_133 : decode cX12_spill 133 = .ok (.ldc_w 296, 3) := by decide +kernel
theorem dX12_spill_136 : decode cX12_spill 136 = .ok (.goto 4, 3) := by decide +kernel
theorem dX12_spill_139 : decode cX12_spill 139 = .ok (.iconst 0, 1) := by decide +kernel
theorem dX12_spill_140 : decode cX12_spill 140 = .ok (.iastore, 1) := by decide +kernel
theorem dX12_spill_141 : decode cX12_spill 141 = .ok (.iinc 4 1, 3) := by decide +kernel
theorem dX12_spill_144 : decode cX12_spill 144 = .ok (.goto (-30), 3) := by decide +kernel
theorem dX12_spill_147 : decode cX12_spill 147 = .ok (.iconst 0, 1) := by decide +kernel
theorem dX12_spill_148 : decode cX12_spill 148 = .ok (.istore 4, 2) := by decide +kernel
theorem dX12_spill_150 : decode cX12_spill 150 = .ok (.iconst 0, 1) := by decide +kernel
theorem dX12_spill_151 : decode cX12_spill 151 = .ok (.istore 5, 2) := by decide +kernel
theorem dX12_spill_153 : decode cX12_spill 153 = .ok (.iconst 0, 1) := by decide +kernel
theorem dX12_spill_154 : decode cX12_spill 154 = .ok (.istore 6, 2) := by decide +kernel
theorem dX12_spill_156 : decode cX12_spill 156 = .ok (.iload 6, 2) := by decide +kernel
theorem dX12_spill_158 : decode cX12_spill 158 = .ok (.aload_n 0, 1) := by decide +kernel
theorem dX12_spill_159 : decode cX12_spill 159 = .ok (.getfield 137, 3) := by decide +kernel
theorem dX12_spill_162 : decode cX12_spill 162 = .ok (.if_icmp .ge 268, 3) := by decide +kernel
theorem dX12_spill_165 : decode cX12_spill 165 = .ok (.ldc 132, 2) := by decide +kernel
theorem dX12_spill_167 : decode cX12_spill 167 = .ok (.istore 7, 2) := by decide +kernel
theorem dX12_spill_169 : decode cX12_spill 169 = .ok (.iconst 0, 1) := by decide +kernel
theorem dX12_spill_170 : decode cX12_spill 170 = .ok (.istore 8, 2) := by decide +kernel
theorem dX12_spill_172 : decode cX12_spill 172 = .ok (.iload 8, 2) := by decide +kernel
theorem dX12_spill_174 : decode cX12_spill 174 = .ok (.aload_n 0, 1) := by decide +kernel
theorem dX12_spill_175 : decode cX12_spill 175 = .ok (.getfield 137, 3) := by decide +kernel
theorem dX12_spill_178 : decode cX12_spill 178 = .ok (.if_icmp .ge 53, 3) := by decide +kernel
theorem dX12_spill_181 : decode cX12_spill 181 = .ok (.iload 4, 2) := by decide +kernel
theorem dX12_spill_183 : decode cX12_spill 183 = .ok (.iload 8, 2) := by decide +kernel
theorem dX12_spill_185 : decode cX12_spill 185 = .ok (.ishr, 1) := by decide +kernel
theorem dX12_spill_186 : decode cX12_spill 186 = .ok (.iconst 1, 1) := by decide +kernel
theorem dX12_spill_187 : decode cX12_spill 187 = .ok (.iand, 1) := by decide +kernel
theorem dX12_spill_188 : decode cX12_spill 188 = .ok (.ifCond .ne 33, 3) := by decide +kernel
theorem dX12_spill_191 : decode cX12_spill 191 = .ok (.iload 7, 2) := by decide +kernel
theorem dX12_spill_193 : decode cX12_spill 193 = .ok (.ldc 132, 2) := by decide +kernel
theorem dX12_spill_195 : decode cX12_spill 195 = .ok (.if_icmp .eq 21, 3) := by decide +kernel
theorem dX12_spill_198 : decode cX12_spill 198 = .ok (.aload_n 0, 1) := by decide +kernel
theorem dX12_spill_199 : decode cX12_spill 199 = .ok (.getfield 61, 3) := by decide +kernel
theorem dX12_spill_202 : decode cX12_spill 202 = .ok (.iload 8, 2) := by decide +kernel
theorem dX12_spill_204 : decode cX12_spill 204 = .ok (.laload, 1) := by decide +kernel
theorem dX12_spill_205 : decode cX12_spill 205 = .ok (.aload_n 0, 1) := by decide +kernel
theorem dX12_spill_206 : decode cX12_spill 206 = .ok (.getfield 61, 3) := by decide +kernel
theorem dX12_spill_209 : decode cX12_spill 209 = .ok (.iload 7, 2) := by decide +kernel
theorem dX12_spill_211 : decode cX12_spill 211 = .ok (.laload, 1) := by decide +kernel
theorem dX12_spill_212 : decode cX12_spill 212 = .ok (.lcmp, 1) := by decide +kernel
theorem dX12_spill_213 : decode cX12_spill 213 = .ok (.ifCond .le 8, 3) := by decide +kernel
theorem dX12_spill_216 : decode cX12_spill 216 = .ok (.iload 8, 2) := by decide +kernel
theorem dX12_spill_218 : decode cX12_spill 218 = .ok (.goto 5, 3) := by decide +kernel
theorem dX12_spill_221 : decode cX12_spill 221 = .ok (.iload 7, 2) := by decide +kernel
theorem dX12_spill_223 : decode cX12_spill 223 = .ok (.istore 7, 2) := by decide +kernel
theorem dX12_spill_225 : decode cX12_spill 225 = .ok (.iinc 8 1, 3) := by decide +kernel
theorem dX12_spill_228 : decode cX12_spill 228 = .ok (.goto (-56), 3) := by decide +kernel
theorem dX12_spill_231 : decode cX12_spill 231 = .ok (.iload 4, 2) := by decide +kernel
theorem dX12_spill_233 : decode cX12_spill 233 = .ok (.iconst 1, 1) := by decide +kernel
theorem dX12_spill_234 : decode cX12_spill 234 = .ok (.iload 7, 2) := by decide +kernel
theorem dX12_spill_236 : decode cX12_spill 236 = .ok (.ishl, 1) := by decide +kernel
theorem dX12_spill_237 : decode cX12_spill 237 = .ok (.ior, 1) := by decide +kernel
theorem dX12_spill_238 : decode cX12_spill 238 = .ok (.istore 4, 2) := by decide +kernel
theorem dX12_spill_240 : decode cX12_spill 240 = .ok (.aload_n 0, 1) := by decide +kernel
theorem dX12_spill_241 : decode cX12_spill 241 = .ok (.iload 7, 2) := by decide +kernel
theorem dX12_spill_243 : decode cX12_spill 243 = .ok (.invokevirtual 268, 3) := by decide +kernel
theorem dX12_spill_246 : decode cX12_spill 246 = .ok (.aload_n 0, 1) := by decide +kernel
theorem dX12_spill_247 : decode cX12_spill 247 = .ok (.getfield 261, 3) := by decide +kernel
theorem dX12_spill_250 : decode cX12_spill 250 = .ok (.ifCond .le 174, 3) := by decide +kernel
theorem dX12_spill_253 : decode cX12_spill 253 = .ok (.aload_n 0, 1) := by decide +kernel
theorem dX12_spill_254 : decode cX12_spill 254 = .ok (.invokevirtual 286, 3) := by decide +kernel
theorem dX12_spill_257 : decode cX12_spill 257 = .ok (.lstore 8, 2) := by decide +kernel
theorem dX12_spill_259 : decode cX12_spill 259 = .ok (.aload_n 0, 1) := by decide +kernel
theorem dX12_spill_260 : decode cX12_spill 260 = .ok (.getfield 129, 3) := by decide +kernel
theorem dX12_spill_263 : decode cX12_spill 263 = .ok (.iload 7, 2) := by decide +kernel
theorem dX12_spill_265 : decode cX12_spill 265 = .ok (.iaload, 1) := by decide +kernel
theorem dX12_spill_266 : decode cX12_spill 266 = .ok (.istore 10, 2) := by decide +kernel
theorem dX12_spill_268 : decode cX12_spill 268 = .ok (.iload 10, 2) := by decide +kernel
theorem dX12_spill_270 : decode cX12_spill 270 = .ok (.istore 11, 2) := by decide +kernel
theorem dX12_spill_272 : decode cX12_spill 272 = .ok (.iconst 0, 1) := by decide +kernel
theorem dX12_spill_273 : decode cX12_spill 273 = .ok (.istore 12, 2) := by decide +kernel
theorem dX12_spill_275 : decode cX12_spill 275 = .ok (.iload 12, 2) := by decide +kernel
theorem dX12_spill_277 : decode cX12_spill 277 = .ok (.aload_n 0, 1) := by decide +kernel
theorem dX12_spill_278 : decode cX12_spill 278 = .ok (.getfield 261, 3) := by decide +kernel
theorem dX12_spill_281 : decode cX12_spill 281 = .ok (.if_icmp .ge 28, 3) := by decide +kernel
theorem dX12_spill_284 : decode cX12_spill 284 = .ok (.iload 11, 2) := by decide +kernel
theorem dX12_spill_286 : decode cX12_spill 286 = .ok (.iload 10, 2) := by decide +kernel
theorem dX12_spill_288 : decode cX12_spill 288 = .ok (.aload_n 0, 1) := by decide +kernel
theorem dX12_spill_289 : decode cX12_spill 289 = .ok (.getfield 83, 3) := by decide +kernel
theorem dX12_spill_292 : decode cX12_spill 292 = .ok (.iload 12, 2) := by decide +kernel
theorem dX12_spill_294 : decode cX12_spill 294 = .ok (.laload, 1) := by decide +kernel
theorem dX12_spill_295 : decode cX12_spill 295 = .ok (.lload 8, 2) := by decide +kernel
theorem dX12_spill_297 : decode cX12_spill 297 = .ok (.invokestatic 297, 3) := by decide +kernel
theorem dX12_spill_300 : decode cX12_spill 300 = .ok (.isub, 1) := by decide +kernel
theorem dX12_spill_301 : decode cX12_spill 301 = .ok (.istore 11, 2) := by decide +kernel
theorem dX12_spill_303 : decode cX12_spill 303 = .ok (.iinc 12 1, 3) := by decide +kernel
theorem dX12_spill_306 : decode cX12_spill 306 = .ok (.goto (-31), 3) := by decide +kernel
theorem dX12_spill_309 : decode cX12_spill 309 = .ok (.iconst 0, 1) := by decide +kernel
theorem dX12_spill_310 : decode cX12_spill 310 = .ok (.istore 12, 2) := by decide +kernel
theorem dX12_spill_312 : decode cX12_spill 312 = .ok (.iload 12, 2) := by decide +kernel
theorem dX12_spill_314 : decode cX12_spill 314 = .ok (.aload_n 0, 1) := by decide +kernel
theorem dX12_spill_315 : decode cX12_spill 315 = .ok (.getfield 261, 3) := by decide +kernel
theorem dX12_spill_318 : decode cX12_spill 318 = .ok (.if_icmp .ge 98, 3) := by decide +kernel
theorem dX12_spill_321 : decode cX12_spill 321 = .ok (.iload 10, 2) := by decide +kernel
theorem dX12_spill_323 : decode cX12_spill 323 = .ok (.aload_n 0, 1) := by decide +kernel
theorem dX12_spill_324 : decode cX12_spill 324 = .ok (.getfield 83, 3) := by decide +kernel
theorem dX12_spill_327 : decode cX12_spill 327 = .ok (.iload 12, 2) := by decide +kernel
theorem dX12_spill_329 : decode cX12_spill 329 = .ok (.laload, 1) := by decide +kernel
theorem dX12_spill_330 : decode cX12_spill 330 = .ok (.lload 8, 2) := by decide +kernel
theorem dX12_spill_332 : decode cX12_spill 332 = .ok (.invokestatic 297, 3) := by decide +kernel
theorem dX12_spill_335 : decode cX12_spill 335 = .ok (.iload 12, 2) := by decide +kernel
theorem dX12_spill_337 : decode cX12_spill 337 = .ok (.aload_n 0, 1) := by decide +kernel
theorem dX12_spill_338 : decode cX12_spill 338 = .ok (.invokevirtual 271, 3) := by decide +kernel
theorem dX12_spill_341 : decode cX12_spill 341 = .ok (.if_icmp .ne 8, 3) := by decide +kernel
theorem dX12_spill_344 : decode cX12_spill 344 = .ok (.iload 11, 2) := by decide +kernel
theorem dX12_spill_346 : decode cX12_spill 346 = .ok (.goto 4, 3) := by decide +kernel
theorem dX12_spill_349 : decode cX12_spill 349 = .ok (.iconst 0, 1) := by decide +kernel
theorem dX12_spill_350 : decode cX12_spill 350 = .ok (.iadd, 1) := by decide +kernel
theorem dX12_spill_351 : decode cX12_spill 351 = .ok (.istore 13, 2) := by decide +kernel
theorem dX12_spill_353 : decode cX12_spill 353 = .ok (.aload_n 0, 1) := by decide +kernel
theorem dX12_spill_354 : decode cX12_spill 354 = .ok (.getfield 80, 3) := by decide +kernel
theorem dX12_spill_357 : decode cX12_spill 357 = .ok (.iload 12, 2) := by decide +kernel
theorem dX12_spill_359 : decode cX12_spill 359 = .ok (.iaload, 1) := by decide +kernel
theorem dX12_spill_360 : decode cX12_spill 360 = .ok (.bipush 100, 2) := by decide +kernel
theorem dX12_spill_362 : decode cX12_spill 362 = .ok (.if_icmp .ge 20, 3) := by decide +kernel
theorem dX12_spill_365 : decode cX12_spill 365 = .ok (.aload_n 0, 1) := by decide +kernel
theorem dX12_spill_366 : decode cX12_spill 366 = .ok (.getfield 129, 3) := by decide +kernel
theorem dX12_spill_369 : decode cX12_spill 369 = .ok (.aload_n 0, 1) := by decide +kernel
theorem dX12_spill_370 : decode cX12_spill 370 = .ok (.getfield 80, 3) := by decide +kernel
theorem dX12_spill_373 : decode cX12_spill 373 = .ok (.iload 12, 2) := by decide +kernel
theorem dX12_spill_375 : decode cX12_spill 375 = .ok (.iaload, 1) := by decide +kernel
theorem dX12_spill_376 : decode cX12_spill 376 = .ok (.dup2, 1) := by decide +kernel
theorem dX12_spill_377 : decode cX12_spill 377 = .ok (.iaload, 1) := by decide +kernel
theorem dX12_spill_378 : decode cX12_spill 378 = .ok (.iload 13, 2) := by decide +kernel
theorem dX12_spill_380 : decode cX12_spill 380 = .ok (.iadd, 1) := by decide +kernel
theorem dX12_spill_381 : decode cX12_spill 381 = .ok (.iastore, 1) := by decide +kernel
theorem dX12_spill_382 : decode cX12_spill 382 = .ok (.iload 5, 2) := by decide +kernel
theorem dX12_spill_384 : decode cX12_spill 384 = .ok (.aload_n 0, 1) := by decide +kernel
theorem dX12_spill_385 : decode cX12_spill 385 = .ok (.getfield 80, 3) := by decide +kernel
theorem dX12_spill_388 : decode cX12_spill 388 = .ok (.iload 12, 2) := by decide +kernel
theorem dX12_spill_390 : decode cX12_spill 390 = .ok (.iaload, 1) := by decide +kernel
theorem dX12_spill_391 : decode cX12_spill 391 = .ok (.iload_n 2, 1) := by decide +kernel
theorem dX12_spill_392 : decode cX12_spill 392 = .ok (.if_icmp .ne 14, 3) := by decide +kernel
theorem dX12_spill_395 : decode cX12_spill 395 = .ok (.iload_n 2, 1) := by decide +kernel
theorem dX12_spill_396 : decode cX12_spill 396 = .ok (.bipush 100, 2) := by decide +kernel
theorem dX12_spill_398 : decode cX12_spill 398 = .ok (.if_icmp .lt 8, 3) := by decide +kernel
theorem dX12_spill_401 : decode cX12_spill 401 = .ok (.iload 13, 2) := by decide +kernel
theorem dX12_spill_403 : decode cX12_spill 403 = .ok (.goto 4, 3) := by decide +kernel
theorem dX12_spill_406 : decode cX12_spill 406 = .ok (.iconst 0, 1) := by decide +kernel
theorem dX12_spill_407 : decode cX12_spill 407 = .ok (.iadd, 1) := by decide +kernel
theorem dX12_spill_408 : decode cX12_spill 408 = .ok (.istore 5, 2) := by decide +kernel
theorem dX12_spill_410 : decode cX12_spill 410 = .ok (.iinc 12 1, 3) := by decide +kernel
theorem dX12_spill_413 : decode cX12_spill 413 = .ok (.goto (-101), 3) := by decide +kernel
theorem dX12_spill_416 : decode cX12_spill 416 = .ok (.aload_n 0, 1) := by decide +kernel
theorem dX12_spill_417 : decode cX12_spill 417 = .ok (.getfield 129, 3) := by decide +kernel
theorem dX12_spill_420 : decode cX12_spill 420 = .ok (.iload 7, 2) := by decide +kernel
theorem dX12_spill_422 : decode cX12_spill 422 = .ok (.iconst 0, 1) := by decide +kernel
theorem dX12_spill_423 : decode cX12_spill 423 = .ok (.iastore, 1) := by decide +kernel
theorem dX12_spill_424 : decode cX12_spill 424 = .ok (.iinc 6 1, 3) := by decide +kernel
theorem dX12_spill_427 : decode cX12_spill 427 = .ok (.goto (-271), 3) := by decide +kernel
theorem dX12_spill_430 : decode cX12_spill 430 = .ok (.iload_n 2, 1) := by decide +kernel
theorem dX12_spill_431 : decode cX12_spill 431 = .ok (.bipush 100, 2) := by decide +kernel
theorem dX12_spill_433 : decode cX12_spill 433 = .ok (.if_icmp .ge 12, 3) := by decide +kernel
theorem dX12_spill_436 : decode cX12_spill 436 = .ok (.aload_n 0, 1) := by decide +kernel
theorem dX12_spill_437 : decode cX12_spill 437 = .ok (.getfield 129, 3) := by decide +kernel
theorem dX12_spill_440 : decode cX12_spill 440 = .ok (.iload_n 2, 1) := by decide +kernel
theorem dX12_spill_441 : decode cX12_spill 441 = .ok (.iaload, 1) := by decide +kernel
theorem dX12_spill_442 : decode cX12_spill 442 = .ok (.goto 5, 3) := by decide +kernel
theorem dX12_spill_445 : decode cX12_spill 445 = .ok (.iload 5, 2) := by decide +kernel
theorem dX12_spill_447 : decode cX12_spill 447 = .ok (.ireturn, 1) := by decide +kernel
theorem dX12_pour_0 : decode cX12_pour 0 = .ok (.aload_n 0, 1) := by decide +kernel
theorem dX12_pour_1 : decode cX12_pour 1 = .ok (.iconst 0, 1) := by decide +kernel
theorem dX12_pour_2 : decode cX12_pour 2 = .ok (.putfield 133, 3) := by decide +kernel
theorem dX12_pour_5 : decode cX12_pour 5 = .ok (.aload_n 0, 1) := by decide +kernel
theorem dX12_pour_6 : decode cX12_pour 6 = .ok (.iload_n 1, 1) := by decide +kernel
theorem dX12_pour_7 : decode cX12_pour 7 = .ok (.invokevirtual 155, 3) := by decide +kernel
theorem dX12_pour_10 : decode cX12_pour 10 = .ok (.ifCond .eq 6, 3) := by decide +kernel
theorem dX12_pour_13 : decode cX12_pour 13 = .ok (.ldc 159, 2) := by decide +kernel
theorem dX12_pour_15 : decode cX12_pour 15 = .ok (.ireturn, 1) := by decide +kernel
theorem dX12_pour_16 : decode cX12_pour 16 = .ok (.iload_n 2, 1) := by decide +kernel
theorem dX12_pour_17 : decode cX12_pour 17 = .ok (.i2l, 1) := by decide +kernel
theorem dX12_pour_18 : decode cX12_pour 18 = .ok (.lconst 0, 1) := by decide +kernel
theorem dX12_pour_19 : decode cX12_pour 19 = .ok (.ldc2_w 301, 3) := by decide +kernel
theorem dX12_pour_22 : decode cX12_pour 22 = .ok (.invokestatic 140, 3) := by decide +kernel
theorem dX12_pour_25 : decode cX12_pour 25 = .ok (.ifCond .ne 6, 3) := by decide +kernel
theorem dX12_pour_28 : decode cX12_pour 28 = .ok (.ldc 153, 2) := by decide +kernel
theorem dX12_pour_30 : decode cX12_pour 30 = .ok (.ireturn, 1) := by decide +kernel
theorem dX12_pour_31 : decode cX12_pour 31 = .ok (.aload_n 0, 1) := by decide +kernel
theorem dX12_pour_32 : decode cX12_pour 32 = .ok (.getfield 86, 3) := by decide +kernel
theorem dX12_pour_35 : decode cX12_pour 35 = .ok (.iload_n 1, 1) := by decide +kernel
theorem dX12_pour_36 : decode cX12_pour 36 = .ok (.iaload, 1) := by decide +kernel
theorem dX12_pour_37 : decode cX12_pour 37 = .ok (.istore_n 3, 1) := by decide +kernel
theorem dX12_pour_38 : decode cX12_pour 38 = .ok (.aload_n 0, 1) := by decide +kernel
theorem dX12_pour_39 : decode cX12_pour 39 = .ok (.getfield 86, 3) := by decide +kernel
theorem dX12_pour_42 : decode cX12_pour 42 = .ok (.iload_n 1, 1) := by decide +kernel
theorem dX12_pour_43 : decode cX12_pour 43 = .ok (.iload_n 2, 1) := by decide +kernel
theorem dX12_pour_44 : decode cX12_pour 44 = .ok (.iastore, 1) := by decide +kernel
theorem dX12_pour_45 : decode cX12_pour 45 = .ok (.iconst 0, 1) := by decide +kernel
theorem dX12_pour_46 : decode cX12_pour 46 = .ok (.istore 4, 2) := by decide +kernel
theorem dX12_pour_48 : decode cX12_pour 48 = .ok (.iload 4, 2) := by decide +kernel
theorem dX12_pour_50 : decode cX12_pour 50 = .ok (.bipush 6, 2) := by decide +kernel
theorem dX12_pour_52 : decode cX12_pour 52 = .ok (.if_icmp .ge 17, 3) := by decide +kernel
theorem dX12_pour_55 : decode cX12_pour 55 = .ok (.aload_n 0, 1) := by decide +kernel
theorem dX12_pour_56 : decode cX12_pour 56 = .ok (.getfield 92, 3) := by decide +kernel
theorem dX12_pour_59 : decode cX12_pour 59 = .ok (.iload 4, 2) := by decide +kernel
theorem dX12_pour_61 : decode cX12_pour 61 = .ok (.lconst 0, 1) := by decide +kernel
theorem dX12_pour_62 : decode cX12_pour 62 = .ok (.lastore, 1) := by decide +kernel
theorem dX12_pour_63 : decode cX12_pour 63 = .ok (.iinc 4 1, 3) := by decide +kernel
theorem dX12_pour_66 : decode cX12_pour 66 = .ok (.goto (-18), 3) := by decide +kernel
theorem dX12_pour_69 : decode cX12_pour 69 = .ok (.iload_n 3, 1) := by decide +kernel
theorem dX12_pour_70 : decode cX12_pour 70 = .ok (.ireturn, 1) := by decide +kernel
theorem dX12_cups_0 : decode cX12_cups 0 = .ok (.aload_n 0, 1) := by decide +kernel
theorem dX12_cups_1 : decode cX12_cups 1 = .ok (.iconst 0, 1) := by decide +kernel
theorem dX12_cups_2 : decode cX12_cups 2 = .ok (.putfield 133, 3) := by decide +kernel
theorem dX12_cups_5 : decode cX12_cups 5 = .ok (.aload_n 0, 1) := by decide +kernel
theorem dX12_cups_6 : decode cX12_cups 6 = .ok (.iload_n 1, 1) := by decide +kernel
theorem dX12_cups_7 : decode cX12_cups 7 = .ok (.invokevirtual 155, 3) := by decide +kernel
theorem dX12_cups_10 : decode cX12_cups 10 = .ok (.ifCond .eq 8, 3) := by decide +kernel
theorem dX12_cups_13 : decode cX12_cups 13 = .ok (.ldc 159, 2) := by decide +kernel
theorem dX12_cups_15 : decode cX12_cups 15 = .ok (.goto 9, 3) := by decide +kernel
theorem dX12_cups_18 : decode cX12_cups 18 = .ok (.aload_n 0, 1) := by decide +kernel
theorem dX12_cups_19 : decode cX12_cups 19 = .ok (.getfield 86, 3) := by decide +kernel
theorem dX12_cups_22 : decode cX12_cups 22 = .ok (.iload_n 1, 1) := by decide +kernel
theorem dX12_cups_23 : decode cX12_cups 23 = .ok (.iaload, 1) := by decide +kernel
theorem dX12_cups_24 : decode cX12_cups 24 = .ok (.ireturn, 1) := by decide +kernel
theorem dX12_markOf_0 : decode cX12_markOf 0 = .ok (.aload_n 0, 1) := by decide +kernel
theorem dX12_markOf_1 : decode cX12_markOf 1 = .ok (.getfield 86, 3) := by decide +kernel
theorem dX12_markOf_4 : decode cX12_markOf 4 = .ok (.iload_n 1, 1) := by decide +kernel
theorem dX12_markOf_5 : decode cX12_markOf 5 = .ok (.iaload, 1) := by decide +kernel
theorem dX12_markOf_6 : decode cX12_markOf 6 = .ok (.aload_n 0, 1) := by decide +kernel
theorem dX12_markOf_7 : decode cX12_markOf 7 = .ok (.getfield 16, 3) := by decide +kernel
theorem dX12_markOf_10 : decode cX12_markOf 10 = .ok (.iload_n 1, 1) := by decide +kernel
theorem dX12_markOf_11 : decode cX12_markOf 11 = .ok (.iaload, 1) := by decide +kernel
theorem dX12_markOf_12 : decode cX12_markOf 12 = .ok (.idiv, 1) := by decide +kernel
theorem dX12_markOf_13 : decode cX12_markOf 13 = .ok (.aload_n 0, 1) := by decide +kernel
theorem dX12_markOf_14 : decode cX12_markOf 14 = .ok (.getfield 7, 3) := by decide +kernel
theorem dX12_markOf_17 : decode cX12_markOf 17 = .ok (.iload_n 1, 1) := by decide +kernel
theorem dX12_markOf_18 : decode cX12_markOf 18 = .ok (.iaload, 1) := by decide +kernel
theorem dX12_markOf_19 : decode cX12_markOf 19 = .ok (.iadd, 1) := by decide +kernel
theorem dX12_markOf_20 : decode cX12_markOf 20 = .ok (.ireturn, 1) := by decide +kernel
theorem dX12_mark_0 : decode cX12_mark 0 = .ok (.aload_n 0, 1) := by decide +kernel
theorem dX12_mark_1 : decode cX12_mark 1 = .ok (.iconst 0, 1) := by decide +kernel
theorem dX12_mark_2 : decode cX12_mark 2 = .ok (.putfield 133, 3) := by decide +kernel
theorem dX12_mark_5 : decode cX12_mark 5 = .ok (.aload_n 0, 1) := by decide +kernel
theorem dX12_mark_6 : decode cX12_mark 6 = .ok (.iload_n 1, 1) := by decide +kernel
theorem dX12_mark_7 : decode cX12_mark 7 = .ok (.invokevirtual 155, 3) := by decide +kernel
theorem dX12_mark_10 : decode cX12_mark 10 = .ok (.ifCond .eq 8, 3) := by decide +kernel
theorem dX12_mark_13 : decode cX12_mark 13 = .ok (.ldc 159, 2) := by decide +kernel
theorem dX12_mark_15 : decode cX12_mark 15 = .ok (.goto 8, 3) := by decide +kernel
theorem dX12_mark_18 : decode cX12_mark 18 = .ok (.aload_n 0, 1) := by decide +kernel
theorem dX12_mark_19 : decode cX12_mark 19 = .ok (.iload_n 1, 1) := by decide +kernel
theorem dX12_mark_20 : decode cX12_mark 20 = .ok (.invokevirtual 303, 3) := by decide +kernel
theorem dX12_mark_23 : decode cX12_mark 23 = .ok (.ireturn, 1) := by decide +kernel
theorem dX12_leaves_0 : decode cX12_leaves 0 = .ok (.iload_n 2, 1) := by decide +kernel
theorem dX12_leaves_1 : decode cX12_leaves 1 = .ok (.aload_n 0, 1) := by decide +kernel
theorem dX12_leaves_2 : decode cX12_leaves 2 = .ok (.getfield 86, 3) := by decide +kernel
theorem dX12_leaves_5 : decode cX12_leaves 5 = .ok (.iload_n 1, 1) := by decide +kernel
theorem dX12_leaves_6 : decode cX12_leaves 6 = .ok (.iaload, 1) := by decide +kernel
theorem dX12_leaves_7 : decode cX12_leaves 7 = .ok (.if_icmp .ge 7, 3) := by decide +kernel
theorem dX12_leaves_10 : decode cX12_leaves 10 = .ok (.iload_n 2, 1) := by decide +kernel
theorem dX12_leaves_11 : decode cX12_leaves 11 = .ok (.goto 9, 3) := by decide +kernel
theorem dX12_leaves_14 : decode cX12_leaves 14 = .ok (.aload_n 0, 1) := by decide +kernel
theorem dX12_leaves_15 : decode cX12_leaves 15 = .ok (.getfield 86, 3) := by decide +kernel
theorem dX12_leaves_18 : decode cX12_leaves 18 = .ok (.iload_n 1, 1) := by decide +kernel
theorem dX12_leaves_19 : decode cX12_leaves 19 = .ok (.iaload, 1) := by decide +kernel
theorem dX12_leaves_20 : decode cX12_leaves 20 = .ok (.istore_n 3, 1) := by decide +kernel
theorem dX12_leaves_21 : decode cX12_leaves 21 = .ok (.aload_n 0, 1) := by decide +kernel
theorem dX12_leaves_22 : decode cX12_leaves 22 = .ok (.getfield 86, 3) := by decide +kernel
theorem dX12_leaves_25 : decode cX12_leaves 25 = .ok (.iload_n 1, 1) := by decide +kernel
theorem dX12_leaves_26 : decode cX12_leaves 26 = .ok (.dup2, 1) := by decide +kernel
theorem dX12_leaves_27 : decode cX12_leaves 27 = .ok (.iaload, 1) := by decide +kernel
theorem dX12_leaves_28 : decode cX12_leaves 28 = .ok (.iload_n 3, 1) := by decide +kernel
theorem dX12_leaves_29 : decode cX12_leaves 29 = .ok (.isub, 1) := by decide +kernel
theorem dX12_leaves_30 : decode cX12_leaves 30 = .ok (.iastore, 1) := by decide +kernel
theorem dX12_leaves_31 : decode cX12_leaves 31 = .ok (.iload_n 3, 1) := by decide +kernel
theorem dX12_leaves_32 : decode cX12_leaves 32 = .ok (.ireturn, 1) := by decide +kernel
theorem dX12_comes_0 : decode cX12_comes 0 = .ok (.aload_n 0, 1) := by decide +kernel
theorem dX12_comes_1 : decode cX12_comes 1 = .ok (.getfield 86, 3) := by decide +kernel
theorem dX12_comes_4 : decode cX12_comes 4 = .ok (.iload_n 1, 1) := by decide +kernel
theorem dX12_comes_5 : decode cX12_comes 5 = .ok (.dup2, 1) := by decide +kernel
theorem dX12_comes_6 : decode cX12_comes 6 = .ok (.iaload, 1) := by decide +kernel
theorem dX12_comes_7 : decode cX12_comes 7 = .ok (.iload_n 2, 1) := by decide +kernel
theorem dX12_comes_8 : decode cX12_comes 8 = .ok (.iadd, 1) := by decide +kernel
theorem dX12_comes_9 : decode cX12_comes 9 = .ok (.iastore, 1) := by decide +kernel
theorem dX12_comes_10 : decode cX12_comes 10 = .ok (.aload_n 0, 1) := by decide +kernel
theorem dX12_comes_11 : decode cX12_comes 11 = .ok (.getfield 86, 3) := by decide +kernel
theorem dX12_comes_14 : decode cX12_comes 14 = .ok (.iload_n 1, 1) := by decide +kernel
theorem dX12_comes_15 : decode cX12_comes 15 = .ok (.iaload, 1) := by decide +kernel
theorem dX12_comes_16 : decode cX12_comes 16 = .ok (.ldc_w 296, 3) := by decide +kernel
theorem dX12_comes_19 : decode cX12_comes 19 = .ok (.if_icmp .le 32, 3) := by decide +kernel
theorem dX12_comes_22 : decode cX12_comes 22 = .ok (.aload_n 0, 1) := by decide +kernel
theorem dX12_comes_23 : decode cX12_comes 23 = .ok (.getfield 92, 3) := by decide +kernel
theorem dX12_comes_26 : decode cX12_comes 26 = .ok (.iconst 5, 1) := by decide +kernel
theorem dX12_comes_27 : decode cX12_comes 27 = .ok (.dup2, 1) := by decide +kernel
theorem dX12_comes_28 : decode cX12_comes 28 = .ok (.laload, 1) := by decide +kernel
theorem dX12_comes_29 : decode cX12_comes 29 = .ok (.aload_n 0, 1) := by decide +kernel
theorem dX12_comes_30 : decode cX12_comes 30 = .ok (.getfield 86, 3) := by decide +kernel
theorem dX12_comes_33 : decode cX12_comes 33 = .ok (.iload_n 1, 1) := by decide +kernel
theorem dX12_comes_34 : decode cX12_comes 34 = .ok (.iaload, 1) := by decide +kernel
theorem dX12_comes_35 : decode cX12_comes 35 = .ok (.ldc_w 296, 3) := by decide +kernel
theorem dX12_comes_38 : decode cX12_comes 38 = .ok (.isub, 1) := by decide +kernel
theorem dX12_comes_39 : decode cX12_comes 39 = .ok (.i2l, 1) := by decide +kernel
theorem dX12_comes_40 : decode cX12_comes 40 = .ok (.ladd, 1) := by decide +kernel
theorem dX12_comes_41 : decode cX12_comes 41 = .ok (.lastore, 1) := by decide +kernel
theorem dX12_comes_42 : decode cX12_comes 42 = .ok (.aload_n 0, 1) := by decide +kernel
theorem dX12_comes_43 : decode cX12_comes 43 = .ok (.getfield 86, 3) := by decide +kernel
theorem dX12_comes_46 : decode cX12_comes 46 = .ok (.iload_n 1, 1) := by decide +kernel
theorem dX12_comes_47 : decode cX12_comes 47 = .ok (.ldc_w 296, 3) := by decide +kernel
theorem dX12_comes_50 : decode cX12_comes 50 = .ok (.iastore, 1) := by decide +kernel
theorem dX12_comes_51 : decode cX12_comes 51 = .ok (.return_, 1) := by decide +kernel
theorem dX12_goOn_0 : decode cX12_goOn 0 = .ok (.iconst 0, 1) := by decide +kernel
theorem dX12_goOn_1 : decode cX12_goOn 1 = .ok (.istore_n 1, 1) := by decide +kernel
theorem dX12_goOn_2 : decode cX12_goOn 2 = .ok (.iload_n 1, 1) := by decide +kernel
theorem dX12_goOn_3 : decode cX12_goOn 3 = .ok (.aload_n 0, 1) := by decide +kernel
theorem dX12_goOn_4 : decode cX12_goOn 4 = .ok (.getfield 137, 3) := by decide +kernel
theorem dX12_goOn_7 : decode cX12_goOn 7 = .ok (.if_icmp .ge 20, 3) := by decide +kernel
theorem dX12_goOn_10 : decode cX12_goOn 10 = .ok (.aload_n 0, 1) := by decide +kernel
theorem dX12_goOn_11 : decode cX12_goOn 11 = .ok (.getfield 89, 3) := by decide +kernel
theorem dX12_goOn_14 : decode cX12_goOn 14 = .ok (.iload_n 1, 1) := by decide +kernel
theorem dX12_goOn_15 : decode cX12_goOn 15 = .ok (.aload_n 0, 1) := by decide +kernel
theorem dX12_goOn_16 : decode cX12_goOn 16 = .ok (.iload_n 1, 1) := by decide +kernel
theorem dX12_goOn_17 : decode cX12_goOn 17 = .ok (.invokevirtual 303, 3) := by decide +kernel
theorem dX12_goOn_20 : decode cX12_goOn 20 = .ok (.iastore, 1) := by decide +kernel
theorem dX12_goOn_21 : decode cX12_goOn 21 = .ok (.iinc 1 1, 3) := by decide +kernel
theorem dX12_goOn_24 : decode cX12_goOn 24 = .ok (.goto (-22), 3) := by decide +kernel
theorem dX12_goOn_27 : decode cX12_goOn 27 = .ok (.iconst 0, 1) := by decide +kernel
theorem dX12_goOn_28 : decode cX12_goOn 28 = .ok (.istore_n 1, 1) := by decide +kernel
theorem dX12_goOn_29 : decode cX12_goOn 29 = .ok (.iload_n 1, 1) := by decide +kernel
theorem dX12_goOn_30 : decode cX12_goOn 30 = .ok (.aload_n 0, 1) := by decide +kernel
theorem dX12_goOn_31 : decode cX12_goOn 31 = .ok (.getfield 137, 3) := by decide +kernel
theorem dX12_goOn_34 : decode cX12_goOn 34 = .ok (.if_icmp .ge 36, 3) := by decide +kernel
theorem dX12_goOn_37 : decode cX12_goOn 37 = .ok (.aload_n 0, 1) := by decide +kernel
theorem dX12_goOn_38 : decode cX12_goOn 38 = .ok (.iload_n 1, 1) := by decide +kernel
theorem dX12_goOn_39 : decode cX12_goOn 39 = .ok (.aload_n 0, 1) := by decide +kernel
theorem dX12_goOn_40 : decode cX12_goOn 40 = .ok (.getfield 13, 3) := by decide +kernel
theorem dX12_goOn_43 : decode cX12_goOn 43 = .ok (.iload_n 1, 1) := by decide +kernel
theorem dX12_goOn_44 : decode cX12_goOn 44 = .ok (.iaload, 1) := by decide +kernel
theorem dX12_goOn_45 : decode cX12_goOn 45 = .ok (.invokevirtual 306, 3) := by decide +kernel
theorem dX12_goOn_48 : decode cX12_goOn 48 = .ok (.aload_n 0, 1) := by decide +kernel
theorem dX12_goOn_49 : decode cX12_goOn 49 = .ok (.getfield 92, 3) := by decide +kernel
theorem dX12_goOn_52 : decode cX12_goOn 52 = .ok (.iconst 0, 1) := by decide +kernel
theorem dX12_goOn_53 : decode cX12_goOn 53 = .ok (.dup2, 1) := by decide +kernel
theorem dX12_goOn_54 : decode cX12_goOn 54 = .ok (.laload, 1) := by decide +kernel
theorem dX12_goOn_55 : decode cX12_goOn 55 = .ok (.aload_n 0, 1) := by decide +kernel
theorem dX12_goOn_56 : decode cX12_goOn 56 = .ok (.getfield 13, 3) := by decide +kernel
theorem dX12_goOn_59 : decode cX12_goOn 59 = .ok (.iload_n 1, 1) := by decide +kernel
theorem dX12_goOn_60 : decode cX12_goOn 60 = .ok (.iaload, 1) := by decide +kernel
theorem dX12_goOn_61 : decode cX12_goOn 61 = .ok (.i2l, 1) := by decide +kernel
theorem dX12_goOn_62 : decode cX12_goOn 62 = .ok (.ladd, 1) := by decide +kernel
theorem dX12_goOn_63 : decode cX12_goOn 63 = .ok (.lastore, 1) := by decide +kernel
theorem dX12_goOn_64 : decode cX12_goOn 64 = .ok (.iinc 1 1, 3) := by decide +kernel
theorem dX12_goOn_67 : decode cX12_goOn 67 = .ok (.goto (-38), 3) := by decide +kernel
theorem dX12_goOn_70 : decode cX12_goOn 70 = .ok (.iconst 0, 1) := by decide +kernel
theorem dX12_goOn_71 : decode cX12_goOn 71 = .ok (.istore_n 1, 1) := by decide +kernel
theorem dX12_goOn_72 : decode cX12_goOn 72 = .ok (.iload_n 1, 1) := by decide +kernel
theorem dX12_goOn_73 : decode cX12_goOn 73 = .ok (.aload_n 0, 1) := by decide +kernel
theorem dX12_goOn_74 : decode cX12_goOn 74 = .ok (.getfield 169, 3) := by decide +kernel
theorem dX12_goOn_77 : decode cX12_goOn 77 = .ok (.if_icmp .ge 105, 3) := by decide +kernel
theorem dX12_goOn_80 : decode cX12_goOn 80 = .ok (.aload_n 0, 1) := by decide +kernel
theorem dX12_goOn_81 : decode cX12_goOn 81 = .ok (.getfield 28, 3) := by decide +kernel
theorem dX12_goOn_84 : decode cX12_goOn 84 = .ok (.iload_n 1, 1) := by decide +kernel
theorem dX12_goOn_85 : decode cX12_goOn 85 = .ok (.iaload, 1) := by decide +kernel
theorem dX12_goOn_86 : decode cX12_goOn 86 = .ok (.istore_n 2, 1) := by decide +kernel
theorem dX12_goOn_87 : decode cX12_goOn 87 = .ok (.aload_n 0, 1) := by decide +kernel
theorem dX12_goOn_88 : decode cX12_goOn 88 = .ok (.getfield 37, 3) := by decide +kernel
theorem dX12_goOn_91 : decode cX12_goOn 91 = .ok (.iload_n 1, 1) := by decide +kernel
theorem dX12_goOn_92 : decode cX12_goOn 92 = .ok (.iaload, 1) := by decide +kernel
theorem dX12_goOn_93 : decode cX12_goOn 93 = .ok (.aload_n 0, 1) := by decide +kernel
theorem dX12_goOn_94 : decode cX12_goOn 94 = .ok (.getfield 31, 3) := by decide +kernel
theorem dX12_goOn_97 : decode cX12_goOn 97 = .ok (.iload_n 1, 1) := by decide +kernel
theorem dX12_goOn_98 : decode cX12_goOn 98 = .ok (.iaload, 1) := by decide +kernel
theorem dX12_goOn_99 : decode cX12_goOn 99 = .ok (.aload_n 0, 1) := by decide +kernel
theorem dX12_goOn_100 : decode cX12_goOn 100 = .ok (.getfield 89, 3) := by decide +kernel
theorem dX12_goOn_103 : decode cX12_goOn 103 = .ok (.iload_n 2, 1) := by decide +kernel
theorem dX12_goOn_104 : decode cX12_goOn 104 = .ok (.iaload, 1) := by decide +kernel
theorem dX12_goOn_105 : decode cX12_goOn 105 = .ok (.aload_n 0, 1) := by decide +kernel
theorem dX12_goOn_106 : decode cX12_goOn 106 = .ok (.getfield 34, 3) := by decide +kernel
theorem dX12_goOn_109 : decode cX12_goOn 109 = .ok (.iload_n 1, 1) := by decide +kernel
theorem dX12_goOn_110 : decode cX12_goOn 110 = .ok (.iaload, 1) := by decide +kernel
theorem dX12_goOn_111 : decode cX12_goOn 111 = .ok (.if_icmp .ge 12, 3) := by decide +kernel
theorem dX12_goOn_114 : decode cX12_goOn 114 = .ok (.aload_n 0, 1) := by decide +kernel
theorem dX12_goOn_115 : decode cX12_goOn 115 = .ok (.getfield 34, 3) := by decide +kernel
theorem dX12_goOn_118 : decode cX12_goOn 118 = .ok (.iload_n 1, 1) := by decide +kernel
theorem dX12_goOn_119 : decode cX12_goOn 119 = .ok (.iaload, 1) := by decide +kernel
theorem dX12_goOn_120 : decode cX12_goOn 120 = .ok (.goto 9, 3) := by decide +kernel
theorem dX12_goOn_123 : decode cX12_goOn 123 = .ok (.aload_n 0, 1) := by decide +kernel
theorem dX12_goOn_124 : decode cX12_goOn 124 = .ok (.getfield 89, 3) := by decide +kernel
theorem dX12_goOn_127 : decode cX12_goOn 127 = .ok (.iload_n 2, 1) := by decide +kernel
theorem dX12_goOn_128 : decode cX12_goOn 128 = .ok (.iaload, 1) := by decide +kernel
theorem dX12_goOn_129 : decode cX12_goOn 129 = .ok (.isub, 1) := by decide +kernel
theorem dX12_goOn_130 : decode cX12_goOn 130 = .ok (.imul, 1) := by decide +kernel
theorem dX12_goOn_131 : decode cX12_goOn 131 = .ok (.bipush 100, 2) := by decide +kernel
theorem dX12_goOn_133 : decode cX12_goOn 133 = .ok (.idiv, 1) := by decide +kernel
theorem dX12_goOn_134 : decode cX12_goOn 134 = .ok (.istore_n 3, 1) := by decide +kernel
theorem dX12_goOn_135 : decode cX12_goOn 135 = .ok (.iload_n 3, 1) := by decide +kernel
theorem dX12_goOn_136 : decode cX12_goOn 136 = .ok (.ifCond .lt 23, 3) := by decide +kernel
theorem dX12_goOn_139 : decode cX12_goOn 139 = .ok (.aload_n 0, 1) := by decide +kernel
theorem dX12_goOn_140 : decode cX12_goOn 140 = .ok (.iload_n 2, 1) := by decide +kernel
theorem dX12_goOn_141 : decode cX12_goOn 141 = .ok (.iload_n 3, 1) := by decide +kernel
theorem dX12_goOn_142 : decode cX12_goOn 142 = .ok (.invokevirtual 306, 3) := by decide +kernel
theorem dX12_goOn_145 : decode cX12_goOn 145 = .ok (.aload_n 0, 1) := by decide +kernel
theorem dX12_goOn_146 : decode cX12_goOn 146 = .ok (.getfield 92, 3) := by decide +kernel
theorem dX12_goOn_149 : decode cX12_goOn 149 = .ok (.iconst 1, 1) := by decide +kernel
theorem dX12_goOn_150 : decode cX12_goOn 150 = .ok (.dup2, 1) := by decide +kernel
theorem dX12_goOn_151 : decode cX12_goOn 151 = .ok (.laload, 1) := by decide +kernel
theorem dX12_goOn_152 : decode cX12_goOn 152 = .ok (.iload_n 3, 1) := by decide +kernel
theorem dX12_goOn_153 : decode cX12_goOn 153 = .ok (.i2l, 1) := by decide +kernel
theorem dX12_goOn_154 : decode cX12_goOn 154 = .ok (.ladd, 1) := by decide +kernel
theorem dX12_goOn_155 : decode cX12_goOn 155 = .ok (.lastore, 1) := by decide +kernel
theorem dX12_goOn_156 : decode cX12_goOn 156 = .ok (.goto 20, 3) := by decide +kernel
theorem dX12_goOn_159 : decode cX12_goOn 159 = .ok (.aload_n 0, 1) := by decide +kernel
theorem dX12_goOn_160 : decode cX12_goOn 160 = .ok (.getfield 92, 3) := by decide +kernel
theorem dX12_goOn_163 : decode cX12_goOn 163 = .ok (.iconst 2, 1) := by decide +kernel
theorem dX12_goOn_164 : decode cX12_goOn 164 = .ok (.dup2, 1) := by decide +kernel
theorem dX12_goOn_165 : decode cX12_goOn 165 = .ok (.laload, 1) := by decide +kernel
theorem dX12_goOn_166 : decode cX12_goOn 166 = .ok (.aload_n 0, 1) := by decide +kernel
theorem dX12_goOn_167 : decode cX12_goOn 167 = .ok (.iload_n 2, 1) := by decide +kernel
theorem dX12_goOn_168 : decode cX12_goOn 168 = .ok (.iload_n 3, 1) := by decide +kernel
theorem dX12_goOn_169 : decode cX12_goOn 169 = .ok (.ineg, 1) := by decide +kernel
theorem dX12_goOn_170 : decode cX12_goOn 170 = .ok (.invokevirtual 310, 3) := by decide +kernel
theorem dX12_goOn_173 : decode cX12_goOn 173 = .ok (.i2l, 1) := by decide +kernel
theorem dX12_goOn_174 : decode cX12_goOn 174 = .ok (.ladd, 1) := by decide +kernel
theorem dX12_goOn_175 : decode cX12_goOn 175 = .ok (.lastore, 1) := by decide +kernel
theorem dX12_goOn_176 : decode cX12_goOn 176 = .ok (.iinc 1 1, 3) := by decide +kernel
theorem dX12_goOn_179 : decode cX12_goOn 179 = .ok (.goto (-107), 3) := by decide +kernel
theorem dX12_goOn_182 : decode cX12_goOn 182 = .ok (.iconst 0, 1) := by decide +kernel
theorem dX12_goOn_183 : decode cX12_goOn 183 = .ok (.istore_n 1, 1) := by decide +kernel
theorem dX12_goOn_184 : decode cX12_goOn 184 = .ok (.iload_n 1, 1) := by decide +kernel
theorem dX12_goOn_185 : decode cX12_goOn 185 = .ok (.aload_n 0, 1) := by decide +kernel
theorem dX12_goOn_186 : decode cX12_goOn 186 = .ok (.getfield 164, 3) := by decide +kernel
theorem dX12_goOn_189 : decode cX12_goOn 189 = .ok (.if_icmp .ge 93, 3) := by decide +kernel
theorem dX12_goOn_192 : decode cX12_goOn 192 = .ok (.aload_n 0, 1) := by decide +kernel
theorem dX12_goOn_193 : decode cX12_goOn 193 = .ok (.getfield 25, 3) := by decide +kernel
theorem dX12_goOn_196 : decode cX12_goOn 196 = .ok (.iload_n 1, 1) := by decide +kernel
theorem dX12_goOn_197 : decode cX12_goOn 197 = .ok (.iaload, 1) := by decide +kernel
theorem dX12_goOn_198 : decode cX12_goOn 198 = .ok (.aload_n 0, 1) := by decide +kernel
theorem dX12_goOn_199 : decode cX12_goOn 199 = .ok (.getfield 89, 3) := by decide +kernel
theorem dX12_goOn_202 : decode cX12_goOn 202 = .ok (.aload_n 0, 1) := by decide +kernel
theorem dX12_goOn_203 : decode cX12_goOn 203 = .ok (.getfield 19, 3) := by decide +kernel
theorem dX12_goOn_206 : decode cX12_goOn 206 = .ok (.iload_n 1, 1) := by decide +kernel
theorem dX12_goOn_207 : decode cX12_goOn 207 = .ok (.iaload, 1) := by decide +kernel
theorem dX12_goOn_208 : decode cX12_goOn 208 = .ok (.iaload, 1) := by decide +kernel
theorem dX12_goOn_209 : decode cX12_goOn 209 = .ok (.aload_n 0, 1) := by decide +kernel
theorem dX12_goOn_210 : decode cX12_goOn 210 = .ok (.getfield 89, 3) := by decide +kernel
theorem dX12_goOn_213 : decode cX12_goOn 213 = .ok (.aload_n 0, 1) := by decide +kernel
theorem dX12_goOn_214 : decode cX12_goOn 214 = .ok (.getfield 22, 3) := by decide +kernel
theorem dX12_goOn_217 : decode cX12_goOn 217 = .ok (.iload_n 1, 1) := by decide +kernel
theorem dX12_goOn_218 : decode cX12_goOn 218 = .ok (.iaload, 1) := by decide +kernel
theorem dX12_goOn_219 : decode cX12_goOn 219 = .ok (.iaload, 1) := by decide +kernel
theorem dX12_goOn_220 : decode cX12_goOn 220 = .ok (.isub, 1) := by decide +kernel
theorem dX12_goOn_221 : decode cX12_goOn 221 = .ok (.imul, 1) := by decide +kernel
theorem dX12_goOn_222 : decode cX12_goOn 222 = .ok (.bipush 100, 2) := by decide +kernel
theorem dX12_goOn_224 : decode cX12_goOn 224 = .ok (.idiv, 1) := by decide +kernel
theorem dX12_goOn_225 : decode cX12_goOn 225 = .ok (.istore_n 2, 1) := by decide +kernel
theorem dX12_goOn_226 : decode cX12_goOn 226 = .ok (.iload_n 2, 1) := by decide +kernel
theorem dX12_goOn_227 : decode cX12_goOn 227 = .ok (.ifCond .lt 27, 3) := by decide +kernel
theorem dX12_goOn_230 : decode cX12_goOn 230 = .ok (.aload_n 0, 1) := by decide +kernel
theorem dX12_goOn_231 : decode cX12_goOn 231 = .ok (.aload_n 0, 1) := by decide +kernel
theorem dX12_goOn_232 : decode cX12_goOn 232 = .ok (.getfield 22, 3) := by decide +kernel
theorem dX12_goOn_235 : decode cX12_goOn 235 = .ok (.iload_n 1, 1) := by decide +kernel
theorem dX12_goOn_236 : decode cX12_goOn 236 = .ok (.iaload, 1) := by decide +kernel
theorem dX12_goOn_237 : decode cX12_goOn 237 = .ok (.aload_n 0, 1) := by decide +kernel
theorem dX12_goOn_238 : decode cX12_goOn 238 = .ok (.aload_n 0, 1) := by decide +kernel
theorem dX12_goOn_239 : decode cX12_goOn 239 = .ok (.getfield 19, 3) := by decide +kernel
theorem dX12_goOn_242 : decode cX12_goOn 242 = .ok (.iload_n 1, 1) := by decide +kernel
theorem dX12_goOn_243 : decode cX12_goOn 243 = .ok (.iaload, 1) := by decide +kernel
theorem dX12_goOn_244 : decode cX12_goOn 244 = .ok (.iload_n 2, 1) := by decide +kernel
theorem dX12_goOn_245 : decode cX12_goOn 245 = .ok (.invokevirtual 310, 3) := by decide +kernel
theorem dX12_goOn_248 : decode cX12_goOn 248 = .ok (.invokevirtual 306, 3) := by decide +kernel
theorem dX12_goOn_251 : decode cX12_goOn 251 = .ok (.goto 25, 3) := by decide +kernel
theorem dX12_goOn_254 : decode cX12_goOn 254 = .ok (.aload_n 0, 1) := by decide +kernel
theorem dX12_goOn_255 : decode cX12_goOn 255 = .ok (.aload_n 0, 1) := by decide +kernel
theorem dX12_goOn_256 : decode cX12_goOn 256 = .ok (.getfield 19, 3) := by decide +kernel
theorem dX12_goOn_259 : decode cX12_goOn 259 = .ok (.iload_n 1, 1) := by decide +kernel
theorem dX12_goOn_260 : decode cX12_goOn 260 = .ok (.iaload, 1) := by decide +kernel
theorem dX12_goOn_261 : decode cX12_goOn 261 = .ok (.aload_n 0, 1) := by decide +kernel
theorem dX12_goOn_262 : decode cX12_goOn 262 = .ok (.aload_n 0, 1) := by decide +kernel
theorem dX12_goOn_263 : decode cX12_goOn 263 = .ok (.getfield 22, 3) := by decide +kernel
theorem dX12_goOn_266 : decode cX12_goOn 266 = .ok (.iload_n 1, 1) := by decide +kernel
theorem dX12_goOn_267 : decode cX12_goOn 267 = .ok (.iaload, 1) := by decide +kernel
theorem dX12_goOn_268 : decode cX12_goOn 268 = .ok (.iload_n 2, 1) := by decide +kernel
theorem dX12_goOn_269 : decode cX12_goOn 269 = .ok (.ineg, 1) := by decide +kernel
theorem dX12_goOn_270 : decode cX12_goOn 270 = .ok (.invokevirtual 310, 3) := by decide +kernel
theorem dX12_goOn_273 : decode cX12_goOn 273 = .ok (.invokevirtual 306, 3) := by decide +kernel
theorem dX12_goOn_276 : decode cX12_goOn 276 = .ok (.iinc 1 1, 3) := by decide +kernel
theorem dX12_goOn_279 : decode cX12_goOn 279 = .ok (.goto (-95), 3) := by decide +kernel
theorem dX12_goOn_282 : decode cX12_goOn 282 = .ok (.iconst 0, 1) := by decide +kernel
theorem dX12_goOn_283 : decode cX12_goOn 283 = .ok (.istore_n 1, 1) := by decide +kernel
theorem dX12_goOn_284 : decode cX12_goOn 284 = .ok (.iload_n 1, 1) := by decide +kernel
theorem dX12_goOn_285 : decode cX12_goOn 285 = .ok (.aload_n 0, 1) := by decide +kernel
theorem dX12_goOn_286 : decode cX12_goOn 286 = .ok (.getfield 172, 3) := by decide +kernel
theorem dX12_goOn_289 : decode cX12_goOn 289 = .ok (.if_icmp .ge 67, 3) := by decide +kernel
theorem dX12_goOn_292 : decode cX12_goOn 292 = .ok (.aload_n 0, 1) := by decide +kernel
theorem dX12_goOn_293 : decode cX12_goOn 293 = .ok (.getfield 89, 3) := by decide +kernel
theorem dX12_goOn_296 : decode cX12_goOn 296 = .ok (.aload_n 0, 1) := by decide +kernel
theorem dX12_goOn_297 : decode cX12_goOn 297 = .ok (.getfield 40, 3) := by decide +kernel
theorem dX12_goOn_300 : decode cX12_goOn 300 = .ok (.iload_n 1, 1) := by decide +kernel
theorem dX12_goOn_301 : decode cX12_goOn 301 = .ok (.iaload, 1) := by decide +kernel
theorem dX12_goOn_302 : decode cX12_goOn 302 = .ok (.iaload, 1) := by decide +kernel
theorem dX12_goOn_303 : decode cX12_goOn 303 = .ok (.aload_n 0, 1) := by decide +kernel
theorem dX12_goOn_304 : decode cX12_goOn 304 = .ok (.getfield 43, 3) := by decide +kernel
theorem dX12_goOn_307 : decode cX12_goOn 307 = .ok (.iload_n 1, 1) := by decide +kernel
theorem dX12_goOn_308 : decode cX12_goOn 308 = .ok (.iaload, 1) := by decide +kernel
theorem dX12_goOn_309 : decode cX12_goOn 309 = .ok (.isub, 1) := by decide +kernel
theorem dX12_goOn_310 : decode cX12_goOn 310 = .ok (.istore_n 2, 1) := by decide +kernel
theorem dX12_goOn_311 : decode cX12_goOn 311 = .ok (.aload_n 0, 1) := by decide +kernel
theorem dX12_goOn_312 : decode cX12_goOn 312 = .ok (.getfield 92, 3) := by decide +kernel
theorem dX12_goOn_315 : decode cX12_goOn 315 = .ok (.iconst 3, 1) := by decide +kernel
theorem dX12_goOn_316 : decode cX12_goOn 316 = .ok (.dup2, 1) := by decide +kernel
theorem dX12_goOn_317 : decode cX12_goOn 317 = .ok (.laload, 1) := by decide +kernel
theorem dX12_goOn_318 : decode cX12_goOn 318 = .ok (.aload_n 0, 1) := by decide +kernel
theorem dX12_goOn_319 : decode cX12_goOn 319 = .ok (.aload_n 0, 1) := by decide +kernel
theorem dX12_goOn_320 : decode cX12_goOn 320 = .ok (.getfield 40, 3) := by decide +kernel
theorem dX12_goOn_323 : decode cX12_goOn 323 = .ok (.iload_n 1, 1) := by decide +kernel
theorem dX12_goOn_324 : decode cX12_goOn 324 = .ok (.iaload, 1) := by decide +kernel
theorem dX12_goOn_325 : decode cX12_goOn 325 = .ok (.iload_n 2, 1) := by decide +kernel
theorem dX12_goOn_326 : decode cX12_goOn 326 = .ok (.ifCond .le 17, 3) := by decide +kernel
theorem dX12_goOn_329 : decode cX12_goOn 329 = .ok (.aload_n 0, 1) := by decide +kernel
theorem dX12_goOn_330 : decode cX12_goOn 330 = .ok (.getfield 46, 3) := by decide +kernel
theorem dX12_goOn_333 : decode cX12_goOn 333 = .ok (.iload_n 1, 1) := by decide +kernel
theorem dX12_goOn_334 : decode cX12_goOn 334 = .ok (.iaload, 1) := by decide +kernel
theorem dX12_goOn_335 : decode cX12_goOn 335 = .ok (.iload_n 2, 1) := by decide +kernel
theorem dX12_goOn_336 : decode cX12_goOn 336 = .ok (.imul, 1) := by decide +kernel
theorem dX12_goOn_337 : decode cX12_goOn 337 = .ok (.bipush 100, 2) := by decide +kernel
theorem dX12_goOn_339 : decode cX12_goOn 339 = .ok (.idiv, 1) := by decide +kernel
theorem dX12_goOn_340 : decode cX12_goOn 340 = .ok (.goto 4, 3) := by decide +kernel
theorem dX12_goOn_343 : decode cX12_goOn 343 = .ok (.iconst 0, 1) := by decide +kernel
theorem dX12_goOn_344 : decode cX12_goOn 344 = .ok (.invokevirtual 310, 3) := by decide +kernel
theorem dX12_goOn_347 : decode cX12_goOn 347 = .ok (.i2l, 1) := by decide +kernel
theorem dX12_goOn_348 : decode cX12_goOn 348 = .ok (.ladd, 1) := by decide +kernel
theorem dX12_goOn_349 : decode cX12_goOn 349 = .ok (.lastore, 1) := by decide +kernel
theorem dX12_goOn_350 : decode cX12_goOn 350 = .ok (.iinc 1 1, 3) := by decide +kernel
theorem dX12_goOn_353 : decode cX12_goOn 353 = .ok (.goto (-69), 3) := by decide +kernel
theorem dX12_goOn_356 : decode cX12_goOn 356 = .ok (.iconst 0, 1) := by decide +kernel
theorem dX12_goOn_357 : decode cX12_goOn 357 = .ok (.istore_n 1, 1) := by decide +kernel
theorem dX12_goOn_358 : decode cX12_goOn 358 = .ok (.iload_n 1, 1) := by decide +kernel
theorem dX12_goOn_359 : decode cX12_goOn 359 = .ok (.aload_n 0, 1) := by decide +kernel
theorem dX12_goOn_360 : decode cX12_goOn 360 = .ok (.getfield 144, 3) := by decide +kernel
theorem dX12_goOn_363 : decode cX12_goOn 363 = .ok (.if_icmp .ge 35, 3) := by decide +kernel
theorem dX12_goOn_366 : decode cX12_goOn 366 = .ok (.aload_n 0, 1) := by decide +kernel
theorem dX12_goOn_367 : decode cX12_goOn 367 = .ok (.getfield 92, 3) := by decide +kernel
theorem dX12_goOn_370 : decode cX12_goOn 370 = .ok (.iconst 4, 1) := by decide +kernel
theorem dX12_goOn_371 : decode cX12_goOn 371 = .ok (.dup2, 1) := by decide +kernel
theorem dX12_goOn_372 : decode cX12_goOn 372 = .ok (.laload, 1) := by decide +kernel
theorem dX12_goOn_373 : decode cX12_goOn 373 = .ok (.aload_n 0, 1) := by decide +kernel
theorem dX12_goOn_374 : decode cX12_goOn 374 = .ok (.aload_n 0, 1) := by decide +kernel
theorem dX12_goOn_375 : decode cX12_goOn 375 = .ok (.getfield 49, 3) := by decide +kernel
theorem dX12_goOn_378 : decode cX12_goOn 378 = .ok (.iload_n 1, 1) := by decide +kernel
theorem dX12_goOn_379 : decode cX12_goOn 379 = .ok (.iaload, 1) := by decide +kernel
theorem dX12_goOn_380 : decode cX12_goOn 380 = .ok (.aload_n 0, 1) := by decide +kernel
theorem dX12_goOn_381 : decode cX12_goOn 381 = .ok (.getfield 58, 3) := by decide +kernel
theorem dX12_goOn_384 : decode cX12_goOn 384 = .ok (.iload_n 1, 1) := by decide +kernel
theorem dX12_goOn_385 : decode cX12_goOn 385 = .ok (.iaload, 1) := by decide +kernel
theorem dX12_goOn_386 : decode cX12_goOn 386 = .ok (.invokevirtual 310, 3) := by decide +kernel
theorem dX12_goOn_389 : decode cX12_goOn 389 = .ok (.i2l, 1) := by decide +kernel
theorem dX12_goOn_390 : decode cX12_goOn 390 = .ok (.ladd, 1) := by decide +kernel
theorem dX12_goOn_391 : decode cX12_goOn 391 = .ok (.lastore, 1) := by decide +kernel
theorem dX12_goOn_392 : decode cX12_goOn 392 = .ok (.iinc 1 1, 3) := by decide +kernel
theorem dX12_goOn_395 : decode cX12_goOn 395 = .ok (.goto (-37), 3) := by decide +kernel
theorem dX12_goOn_398 : decode cX12_goOn 398 = .ok (.return_, 1) := by decide +kernel
theorem dX12_tick_0 : decode cX12_tick 0 = .ok (.aload_n 0, 1) := by decide +kernel
theorem dX12_tick_1 : decode cX12_tick 1 = .ok (.iconst 0, 1) := by decide +kernel
theorem dX12_tick_2 : decode cX12_tick 2 = .ok (.putfield 133, 3) := by decide +kernel
theorem dX12_tick_5 : decode cX12_tick 5 = .ok (.iload_n 1, 1) := by decide +kernel
theorem dX12_tick_6 : decode cX12_tick 6 = .ok (.i2l, 1) := by decide +kernel
theorem dX12_tick_7 : decode cX12_tick 7 = .ok (.lconst 1, 1) := by decide +kernel
theorem dX12_tick_8 : decode cX12_tick 8 = .ok (.ldc2_w 290, 3) := by decide +kernel
theorem dX12_tick_11 : decode cX12_tick 11 = .ok (.invokestatic 140, 3) := by decide +kernel
theorem dX12_tick_14 : decode cX12_tick 14 = .ok (.ifCond .ne 6, 3) := by decide +kernel
theorem dX12_tick_17 : decode cX12_tick 17 = .ok (.ldc 153, 2) := by decide +kernel
theorem dX12_tick_19 : decode cX12_tick 19 = .ok (.ireturn, 1) := by decide +kernel
theorem dX12_tick_20 : decode cX12_tick 20 = .ok (.iconst 0, 1) := by decide +kernel
theorem dX12_tick_21 : decode cX12_tick 21 = .ok (.istore_n 2, 1) := by decide +kernel
theorem dX12_tick_22 : decode cX12_tick 22 = .ok (.iload_n 2, 1) := by decide +kernel
theorem dX12_tick_23 : decode cX12_tick 23 = .ok (.iload_n 1, 1) := by decide +kernel
theorem dX12_tick_24 : decode cX12_tick 24 = .ok (.if_icmp .ge 13, 3) := by decide +kernel
theorem dX12_tick_27 : decode cX12_tick 27 = .ok (.aload_n 0, 1) := by decide +kernel
theorem dX12_tick_28 : decode cX12_tick 28 = .ok (.invokevirtual 314, 3) := by decide +kernel
theorem dX12_tick_31 : decode cX12_tick 31 = .ok (.iinc 2 1, 3) := by decide +kernel
theorem dX12_tick_34 : decode cX12_tick 34 = .ok (.goto (-12), 3) := by decide +kernel
theorem dX12_tick_37 : decode cX12_tick 37 = .ok (.iconst 0, 1) := by decide +kernel
theorem dX12_tick_38 : decode cX12_tick 38 = .ok (.istore_n 2, 1) := by decide +kernel
theorem dX12_tick_39 : decode cX12_tick 39 = .ok (.iconst 0, 1) := by decide +kernel
theorem dX12_tick_40 : decode cX12_tick 40 = .ok (.istore_n 3, 1) := by decide +kernel
theorem dX12_tick_41 : decode cX12_tick 41 = .ok (.iload_n 3, 1) := by decide +kernel
theorem dX12_tick_42 : decode cX12_tick 42 = .ok (.aload_n 0, 1) := by decide +kernel
theorem dX12_tick_43 : decode cX12_tick 43 = .ok (.getfield 137, 3) := by decide +kernel
theorem dX12_tick_46 : decode cX12_tick 46 = .ok (.if_icmp .ge 18, 3) := by decide +kernel
theorem dX12_tick_49 : decode cX12_tick 49 = .ok (.iload_n 2, 1) := by decide +kernel
theorem dX12_tick_50 : decode cX12_tick 50 = .ok (.aload_n 0, 1) := by decide +kernel
theorem dX12_tick_51 : decode cX12_tick 51 = .ok (.getfield 86, 3) := by decide +kernel
theorem dX12_tick_54 : decode cX12_tick 54 = .ok (.iload_n 3, 1) := by decide +kernel
theorem dX12_tick_55 : decode cX12_tick 55 = .ok (.iaload, 1) := by decide +kernel
theorem dX12_tick_56 : decode cX12_tick 56 = .ok (.iadd, 1) := by decide +kernel
theorem dX12_tick_57 : decode cX12_tick 57 = .ok (.istore_n 2, 1) := by decide +kernel
theorem dX12_tick_58 : decode cX12_tick 58 = .ok (.iinc 3 1, 3) := by decide +kernel
theorem dX12_tick_61 : decode cX12_tick 61 = .ok (.goto (-20), 3) := by decide +kernel
theorem dX12_tick_64 : decode cX12_tick 64 = .ok (.iload_n 2, 1) := by decide +kernel
theorem dX12_tick_65 : decode cX12_tick 65 = .ok (.ireturn, 1) := by decide +kernel
theorem dX12_book_0 : decode cX12_book 0 = .ok (.aload_n 0, 1) := by decide +kernel
theorem dX12_book_1 : decode cX12_book 1 = .ok (.iconst 0, 1) := by decide +kernel
theorem dX12_book_2 : decode cX12_book 2 = .ok (.putfield 133, 3) := by decide +kernel
theorem dX12_book_5 : decode cX12_book 5 = .ok (.iload_n 1, 1) := by decide +kernel
theorem dX12_book_6 : decode cX12_book 6 = .ok (.i2l, 1) := by decide +kernel
theorem dX12_book_7 : decode cX12_book 7 = .ok (.lconst 0, 1) := by decide +kernel
theorem dX12_book_8 : decode cX12_book 8 = .ok (.ldc2_w 275, 3) := by decide +kernel
theorem dX12_book_11 : decode cX12_book 11 = .ok (.invokestatic 140, 3) := by decide +kernel
theorem dX12_book_14 : decode cX12_book 14 = .ok (.ifCond .eq 12, 3) := by decide +kernel
theorem dX12_book_17 : decode cX12_book 17 = .ok (.aload_n 0, 1) := by decide +kernel
theorem dX12_book_18 : decode cX12_book 18 = .ok (.getfield 92, 3) := by decide +kernel
theorem dX12_book_21 : decode cX12_book 21 = .ok (.iload_n 1, 1) := by decide +kernel
theorem dX12_book_22 : decode cX12_book 22 = .ok (.laload, 1) := by decide +kernel
theorem dX12_book_23 : decode cX12_book 23 = .ok (.goto 6, 3) := by decide +kernel
theorem dX12_book_26 : decode cX12_book 26 = .ok (.ldc2_w 317, 3) := by decide +kernel
theorem dX12_book_29 : decode cX12_book 29 = .ok (.lreturn, 1) := by decide +kernel
theorem dX12_world_0 : decode cX12_world 0 = .ok (.aload_n 0, 1) := by decide +kernel
theorem dX12_world_1 : decode cX12_world 1 = .ok (.iconst 0, 1) := by decide +kernel
theorem dX12_world_2 : decode cX12_world 2 = .ok (.putfield 133, 3) := by decide +kernel
theorem dX12_world_5 : decode cX12_world 5 = .ok (.iload_n 1, 1) := by decide +kernel
theorem dX12_world_6 : decode cX12_world 6 = .ok (.i2l, 1) := by decide +kernel
theorem dX12_world_7 : decode cX12_world 7 = .ok (.lconst 0, 1) := by decide +kernel
theorem dX12_world_8 : decode cX12_world 8 = .ok (.aload_n 0, 1) := by decide +kernel
theorem dX12_world_9 : decode cX12_world 9 = .ok (.getfield 164, 3) := by decide +kernel
theorem dX12_world_12 : decode cX12_world 12 = .ok (.iconst 1, 1) := by decide +kernel
theorem dX12_world_13 : decode cX12_world 13 = .ok (.isub, 1) := by decide +kernel
theorem dX12_world_14 : decode cX12_world 14 = .ok (.i2l, 1) := by decide +kernel
theorem dX12_world_15 : decode cX12_world 15 = .ok (.invokestatic 140, 3) := by decide +kernel
theorem dX12_world_18 : decode cX12_world 18 = .ok (.ifCond .ne 6, 3) := by decide +kernel
theorem dX12_world_21 : decode cX12_world 21 = .ok (.ldc 159, 2) := by decide +kernel
theorem dX12_world_23 : decode cX12_world 23 = .ok (.ireturn, 1) := by decide +kernel
theorem dX12_world_24 : decode cX12_world 24 = .ok (.iload_n 2, 1) := by decide +kernel
theorem dX12_world_25 : decode cX12_world 25 = .ok (.invokestatic 160, 3) := by decide +kernel
theorem dX12_world_28 : decode cX12_world 28 = .ok (.ifCond .eq 6, 3) := by decide +kernel
theorem dX12_world_31 : decode cX12_world 31 = .ok (.ldc 153, 2) := by decide +kernel
theorem dX12_world_33 : decode cX12_world 33 = .ok (.ireturn, 1) := by decide +kernel
theorem dX12_world_34 : decode cX12_world 34 = .ok (.aload_n 0, 1) := by decide +kernel
theorem dX12_world_35 : decode cX12_world 35 = .ok (.getfield 319, 3) := by decide +kernel
theorem dX12_world_38 : decode cX12_world 38 = .ok (.iconst 5, 1) := by decide +kernel
theorem dX12_world_39 : decode cX12_world 39 = .ok (.if_icmp .ne 6, 3) := by decide +kernel
theorem dX12_world_42 : decode cX12_world 42 = .ok (.ldc 154, 2) := by decide +kernel
theorem dX12_world_44 : decode cX12_world 44 = .ok (.ireturn, 1) := by decide +kernel
theorem dX12_world_45 : decode cX12_world 45 = .ok (.aload_n 0, 1) := by decide +kernel
theorem dX12_world_46 : decode cX12_world 46 = .ok (.getfield 95, 3) := by decide +kernel
theorem dX12_world_49 : decode cX12_world 49 = .ok (.aload_n 0, 1) := by decide +kernel
theorem dX12_world_50 : decode cX12_world 50 = .ok (.getfield 319, 3) := by decide +kernel
theorem dX12_world_53 : decode cX12_world 53 = .ok (.iload_n 1, 1) := by decide +kernel
theorem dX12_world_54 : decode cX12_world 54 = .ok (.iastore, 1) := by decide +kernel
theorem dX12_world_55 : decode cX12_world 55 = .ok (.aload_n 0, 1) := by decide +kernel
theorem dX12_world_56 : decode cX12_world 56 = .ok (.getfield 98, 3) := by decide +kernel
theorem dX12_world_59 : decode cX12_world 59 = .ok (.aload_n 0, 1) := by decide +kernel
theorem dX12_world_60 : decode cX12_world 60 = .ok (.getfield 319, 3) := by decide +kernel
theorem dX12_world_63 : decode cX12_world 63 = .ok (.iload_n 2, 1) := by decide +kernel
theorem dX12_world_64 : decode cX12_world 64 = .ok (.iastore, 1) := by decide +kernel
theorem dX12_world_65 : decode cX12_world 65 = .ok (.aload_n 0, 1) := by decide +kernel
theorem dX12_world_66 : decode cX12_world 66 = .ok (.dup, 1) := by decide +kernel
theorem dX12_world_67 : decode cX12_world 67 = .ok (.getfield 319, 3) := by decide +kernel
theorem dX12_world_70 : decode cX12_world 70 = .ok (.iconst 1, 1) := by decide +kernel
theorem dX12_world_71 : decode cX12_world 71 = .ok (.iadd, 1) := by decide +kernel
theorem dX12_world_72 : decode cX12_world 72 = .ok (.putfield 319, 3) := by decide +kernel
theorem dX12_world_75 : decode cX12_world 75 = .ok (.aload_n 0, 1) := by decide +kernel
theorem dX12_world_76 : decode cX12_world 76 = .ok (.getfield 319, 3) := by decide +kernel
theorem dX12_world_79 : decode cX12_world 79 = .ok (.iconst 1, 1) := by decide +kernel
theorem dX12_world_80 : decode cX12_world 80 = .ok (.isub, 1) := by decide +kernel
theorem dX12_world_81 : decode cX12_world 81 = .ok (.ireturn, 1) := by decide +kernel
theorem dX12_see_0 : decode cX12_see 0 = .ok (.aload_n 0, 1) := by decide +kernel
theorem dX12_see_1 : decode cX12_see 1 = .ok (.iconst 0, 1) := by decide +kernel
theorem dX12_see_2 : decode cX12_see 2 = .ok (.putfield 133, 3) := by decide +kernel
theorem dX12_see_5 : decode cX12_see 5 = .ok (.aload_n 0, 1) := by decide +kernel
theorem dX12_see_6 : decode cX12_see 6 = .ok (.iload_n 1, 1) := by decide +kernel
theorem dX12_see_7 : decode cX12_see 7 = .ok (.invokevirtual 155, 3) := by decide +kernel
theorem dX12_see_10 : decode cX12_see 10 = .ok (.ifCond .eq 6, 3) := by decide +kernel
theorem dX12_see_13 : decode cX12_see 13 = .ok (.ldc 159, 2) := by decide +kernel
theorem dX12_see_15 : decode cX12_see 15 = .ok (.ireturn, 1) := by decide +kernel
theorem dX12_see_16 : decode cX12_see 16 = .ok (.iload_n 2, 1) := by decide +kernel
theorem dX12_see_17 : decode cX12_see 17 = .ok (.i2l, 1) := by decide +kernel
theorem dX12_see_18 : decode cX12_see 18 = .ok (.ldc2_w 322, 3) := by decide +kernel
theorem dX12_see_21 : decode cX12_see 21 = .ok (.ldc2_w 324, 3) := by decide +kernel
theorem dX12_see_24 : decode cX12_see 24 = .ok (.invokestatic 140, 3) := by decide +kernel
theorem dX12_see_27 : decode cX12_see 27 = .ok (.ifCond .eq 10, 3) := by decide +kernel
theorem dX12_see_30 : decode cX12_see 30 = .ok (.iload_n 3, 1) := by decide +kernel
theorem dX12_see_31 : decode cX12_see 31 = .ok (.ldc_w 326, 3) := by decide +kernel
theorem dX12_see_34 : decode cX12_see 34 = .ok (.if_icmp .le 6, 3) := by decide +kernel
theorem dX12_see_37 : decode cX12_see 37 = .ok (.ldc 153, 2) := by decide +kernel
theorem dX12_see_39 : decode cX12_see 39 = .ok (.ireturn, 1) := by decide +kernel
theorem dX12_see_40 : decode cX12_see 40 = .ok (.aload_n 0, 1) := by decide +kernel
theorem dX12_see_41 : decode cX12_see 41 = .ok (.getfield 101, 3) := by decide +kernel
theorem dX12_see_44 : decode cX12_see 44 = .ok (.iload_n 1, 1) := by decide +kernel
theorem dX12_see_45 : decode cX12_see 45 = .ok (.iload_n 3, 1) := by decide +kernel
theorem dX12_see_46 : decode cX12_see 46 = .ok (.ifCond .lt 7, 3) := by decide +kernel
theorem dX12_see_49 : decode cX12_see 49 = .ok (.iconst 1, 1) := by decide +kernel
theorem dX12_see_50 : decode cX12_see 50 = .ok (.goto 4, 3) := by decide +kernel
theorem dX12_see_53 : decode cX12_see 53 = .ok (.iconst 0, 1) := by decide +kernel
theorem dX12_see_54 : decode cX12_see 54 = .ok (.bastore, 1) := by decide +kernel
theorem dX12_see_55 : decode cX12_see 55 = .ok (.aload_n 0, 1) := by decide +kernel
theorem dX12_see_56 : decode cX12_see 56 = .ok (.getfield 105, 3) := by decide +kernel
theorem dX12_see_59 : decode cX12_see 59 = .ok (.iload_n 1, 1) := by decide +kernel
theorem dX12_see_60 : decode cX12_see 60 = .ok (.iload_n 2, 1) := by decide +kernel
theorem dX12_see_61 : decode cX12_see 61 = .ok (.iastore, 1) := by decide +kernel
theorem dX12_see_62 : decode cX12_see 62 = .ok (.aload_n 0, 1) := by decide +kernel
theorem dX12_see_63 : decode cX12_see 63 = .ok (.getfield 108, 3) := by decide +kernel
theorem dX12_see_66 : decode cX12_see 66 = .ok (.iload_n 1, 1) := by decide +kernel
theorem dX12_see_67 : decode cX12_see 67 = .ok (.iload_n 3, 1) := by decide +kernel
theorem dX12_see_68 : decode cX12_see 68 = .ok (.iastore, 1) := by decide +kernel
theorem dX12_see_69 : decode cX12_see 69 = .ok (.iload_n 3, 1) := by decide +kernel
theorem dX12_see_70 : decode cX12_see 70 = .ok (.ifCond .lt 7, 3) := by decide +kernel
theorem dX12_see_73 : decode cX12_see 73 = .ok (.iconst 1, 1) := by decide +kernel
theorem dX12_see_74 : decode cX12_see 74 = .ok (.goto 4, 3) := by decide +kernel
theorem dX12_see_77 : decode cX12_see 77 = .ok (.iconst 0, 1) := by decide +kernel
theorem dX12_see_78 : decode cX12_see 78 = .ok (.ireturn, 1) := by decide +kernel
theorem dX12_restsIn_0 : decode cX12_restsIn 0 = .ok (.aload_n 0, 1) := by decide +kernel
theorem dX12_restsIn_1 : decode cX12_restsIn 1 = .ok (.invokevirtual 218, 3) := by decide +kernel
theorem dX12_restsIn_4 : decode cX12_restsIn 4 = .ok (.aload_n 0, 1) := by decide +kernel
theorem dX12_restsIn_5 : decode cX12_restsIn 5 = .ok (.getfield 65, 3) := by decide +kernel
theorem dX12_restsIn_8 : decode cX12_restsIn 8 = .ok (.aload_n 0, 1) := by decide +kernel
theorem dX12_restsIn_9 : decode cX12_restsIn 9 = .ok (.getfield 95, 3) := by decide +kernel
theorem dX12_restsIn_12 : decode cX12_restsIn 12 = .ok (.iload_n 1, 1) := by decide +kernel
theorem dX12_restsIn_13 : decode cX12_restsIn 13 = .ok (.iaload, 1) := by decide +kernel
theorem dX12_restsIn_14 : decode cX12_restsIn 14 = .ok (.aload_n 0, 1) := by decide +kernel
theorem dX12_restsIn_15 : decode cX12_restsIn 15 = .ok (.getfield 98, 3) := by decide +kernel
theorem dX12_restsIn_18 : decode cX12_restsIn 18 = .ok (.iload_n 1, 1) := by decide +kernel
theorem dX12_restsIn_19 : decode cX12_restsIn 19 = .ok (.iaload, 1) := by decide +kernel
theorem dX12_restsIn_20 : decode cX12_restsIn 20 = .ok (.iastore, 1) := by decide +kernel
theorem dX12_restsIn_21 : decode cX12_restsIn 21 = .ok (.aload_n 0, 1) := by decide +kernel
theorem dX12_restsIn_22 : decode cX12_restsIn 22 = .ok (.invokevirtual 221, 3) := by decide +kernel
theorem dX12_restsIn_25 : decode cX12_restsIn 25 = .ok (.ireturn, 1) := by decide +kernel
theorem dX12_leftOf_0 : decode cX12_leftOf 0 = .ok (.iconst 0, 1) := by decide +kernel
theorem dX12_leftOf_1 : decode cX12_leftOf 1 = .ok (.istore_n 1, 1) := by decide +kernel
theorem dX12_leftOf_2 : decode cX12_leftOf 2 = .ok (.iconst 0, 1) := by decide +kernel
theorem dX12_leftOf_3 : decode cX12_leftOf 3 = .ok (.istore_n 2, 1) := by decide +kernel
theorem dX12_leftOf_4 : decode cX12_leftOf 4 = .ok (.iload_n 2, 1) := by decide +kernel
theorem dX12_leftOf_5 : decode cX12_leftOf 5 = .ok (.aload_n 0, 1) := by decide +kernel
theorem dX12_leftOf_6 : decode cX12_leftOf 6 = .ok (.getfield 319, 3) := by decide +kernel
theorem dX12_leftOf_9 : decode cX12_leftOf 9 = .ok (.if_icmp .ge 129, 3) := by decide +kernel
theorem dX12_leftOf_12 : decode cX12_leftOf 12 = .ok (.aload_n 0, 1) := by decide +kernel
theorem dX12_leftOf_13 : decode cX12_leftOf 13 = .ok (.iload_n 2, 1) := by decide +kernel
theorem dX12_leftOf_14 : decode cX12_leftOf 14 = .ok (.invokevirtual 327, 3) := by decide +kernel
theorem dX12_leftOf_17 : decode cX12_leftOf 17 = .ok (.istore_n 3, 1) := by decide +kernel
theorem dX12_leftOf_18 : decode cX12_leftOf 18 = .ok (.iconst 0, 1) := by decide +kernel
theorem dX12_leftOf_19 : decode cX12_leftOf 19 = .ok (.istore 4, 2) := by decide +kernel
theorem dX12_leftOf_21 : decode cX12_leftOf 21 = .ok (.iload 4, 2) := by decide +kernel
theorem dX12_leftOf_23 : decode cX12_leftOf 23 = .ok (.aload_n 0, 1) := by decide +kernel
theorem dX12_leftOf_24 : decode cX12_leftOf 24 = .ok (.getfield 137, 3) := by decide +kernel
theorem dX12_leftOf_27 : decode cX12_leftOf 27 = .ok (.if_icmp .ge 91, 3) := by decide +kernel
theorem dX12_leftOf_30 : decode cX12_leftOf 30 = .ok (.iload_n 3, 1) := by decide +kernel
theorem dX12_leftOf_31 : decode cX12_leftOf 31 = .ok (.ifCond .eq 87, 3) := by decide +kernel
theorem dX12_leftOf_34 : decode cX12_leftOf 34 = .ok (.aload_n 0, 1) := by decide +kernel
theorem dX12_leftOf_35 : decode cX12_leftOf 35 = .ok (.aload_n 0, 1) := by decide +kernel
theorem dX12_leftOf_36 : decode cX12_leftOf 36 = .ok (.getfield 61, 3) := by decide +kernel
theorem dX12_leftOf_39 : decode cX12_leftOf 39 = .ok (.iload 4, 2) := by decide +kernel
theorem dX12_leftOf_41 : decode cX12_leftOf 41 = .ok (.laload, 1) := by decide +kernel
theorem dX12_leftOf_42 : decode cX12_leftOf 42 = .ok (.invokevirtual 243, 3) := by decide +kernel
theorem dX12_leftOf_45 : decode cX12_leftOf 45 = .ok (.istore 5, 2) := by decide +kernel
theorem dX12_leftOf_47 : decode cX12_leftOf 47 = .ok (.aload_n 0, 1) := by decide +kernel
theorem dX12_leftOf_48 : decode cX12_leftOf 48 = .ok (.getfield 111, 3) := by decide +kernel
theorem dX12_leftOf_51 : decode cX12_leftOf 51 = .ok (.bipush 6, 2) := by decide +kernel
theorem dX12_leftOf_53 : decode cX12_leftOf 53 = .ok (.iload_n 2, 1) := by decide +kernel
theorem dX12_leftOf_54 : decode cX12_leftOf 54 = .ok (.imul, 1) := by decide +kernel
theorem dX12_leftOf_55 : decode cX12_leftOf 55 = .ok (.iload 4, 2) := by decide +kernel
theorem dX12_leftOf_57 : decode cX12_leftOf 57 = .ok (.iadd, 1) := by decide +kernel
theorem dX12_leftOf_58 : decode cX12_leftOf 58 = .ok (.iload 5, 2) := by decide +kernel
theorem dX12_leftOf_60 : decode cX12_leftOf 60 = .ok (.iastore, 1) := by decide +kernel
theorem dX12_leftOf_61 : decode cX12_leftOf 61 = .ok (.iload 5, 2) := by decide +kernel
theorem dX12_leftOf_63 : decode cX12_leftOf 63 = .ok (.aload_n 0, 1) := by decide +kernel
theorem dX12_leftOf_64 : decode cX12_leftOf 64 = .ok (.getfield 105, 3) := by decide +kernel
theorem dX12_leftOf_67 : decode cX12_leftOf 67 = .ok (.iload 4, 2) := by decide +kernel
theorem dX12_leftOf_69 : decode cX12_leftOf 69 = .ok (.iaload, 1) := by decide +kernel
theorem dX12_leftOf_70 : decode cX12_leftOf 70 = .ok (.isub, 1) := by decide +kernel
theorem dX12_leftOf_71 : decode cX12_leftOf 71 = .ok (.istore 6, 2) := by decide +kernel
theorem dX12_leftOf_73 : decode cX12_leftOf 73 = .ok (.aload_n 0, 1) := by decide +kernel
theorem dX12_leftOf_74 : decode cX12_leftOf 74 = .ok (.getfield 101, 3) := by decide +kernel
theorem dX12_leftOf_77 : decode cX12_leftOf 77 = .ok (.iload 4, 2) := by decide +kernel
theorem dX12_leftOf_79 : decode cX12_leftOf 79 = .ok (.baload, 1) := by decide +kernel
theorem dX12_leftOf_80 : decode cX12_leftOf 80 = .ok (.ifCond .eq 26, 3) := by decide +kernel
theorem dX12_leftOf_83 : decode cX12_leftOf 83 = .ok (.iload 6, 2) := by decide +kernel
theorem dX12_leftOf_85 : decode cX12_leftOf 85 = .ok (.ifCond .ge 9, 3) := by decide +kernel
theorem dX12_leftOf_88 : decode cX12_leftOf 88 = .ok (.iload 6, 2) := by decide +kernel
theorem dX12_leftOf_90 : decode cX12_leftOf 90 = .ok (.ineg, 1) := by decide +kernel
theorem dX12_leftOf_91 : decode cX12_leftOf 91 = .ok (.goto 5, 3) := by decide +kernel
theorem dX12_leftOf_94 : decode cX12_leftOf 94 = .ok (.iload 6, 2) := by decide +kernel
theorem dX12_leftOf_96 : decode cX12_leftOf 96 = .ok (.aload_n 0, 1) := by decide +kernel
theorem dX12_leftOf_97 : decode cX12_leftOf 97 = .ok (.getfield 108, 3) := by decide +kernel
theorem dX12_leftOf_100 : decode cX12_leftOf 100 = .ok (.iload 4, 2) := by decide +kernel
theorem dX12_leftOf_102 : decode cX12_leftOf 102 = .ok (.iaload, 1) := by decide +kernel
theorem dX12_leftOf_103 : decode cX12_leftOf 103 = .ok (.if_icmp .gt 7, 3) := by decide +kernel
theorem dX12_leftOf_106 : decode cX12_leftOf 106 = .ok (.iconst 1, 1) := by decide +kernel
theorem dX12_leftOf_107 : decode cX12_leftOf 107 = .ok (.goto 4, 3) := by decide +kernel
theorem dX12_leftOf_110 : decode cX12_leftOf 110 = .ok (.iconst 0, 1) := by decide +kernel
theorem dX12_leftOf_111 : decode cX12_leftOf 111 = .ok (.istore_n 3, 1) := by decide +kernel
theorem dX12_leftOf_112 : decode cX12_leftOf 112 = .ok (.iinc 4 1, 3) := by decide +kernel
theorem dX12_leftOf_115 : decode cX12_leftOf 115 = .ok (.goto (-94), 3) := by decide +kernel
theorem dX12_leftOf_118 : decode cX12_leftOf 118 = .ok (.iload_n 1, 1) := by decide +kernel
theorem dX12_leftOf_119 : decode cX12_leftOf 119 = .ok (.iload_n 3, 1) := by decide +kernel
theorem dX12_leftOf_120 : decode cX12_leftOf 120 = .ok (.ifCond .eq 9, 3) := by decide +kernel
theorem dX12_leftOf_123 : decode cX12_leftOf 123 = .ok (.iconst 1, 1) := by decide +kernel
theorem dX12_leftOf_124 : decode cX12_leftOf 124 = .ok (.iload_n 2, 1) := by decide +kernel
theorem dX12_leftOf_125 : decode cX12_leftOf 125 = .ok (.ishl, 1) := by decide +kernel
theorem dX12_leftOf_126 : decode cX12_leftOf 126 = .ok (.goto 4, 3) := by decide +kernel
theorem dX12_leftOf_129 : decode cX12_leftOf 129 = .ok (.iconst 0, 1) := by decide +kernel
theorem dX12_leftOf_130 : decode cX12_leftOf 130 = .ok (.ior, 1) := by decide +kernel
theorem dX12_leftOf_131 : decode cX12_leftOf 131 = .ok (.istore_n 1, 1) := by decide +kernel
theorem dX12_leftOf_132 : decode cX12_leftOf 132 = .ok (.iinc 2 1, 3) := by decide +kernel
theorem dX12_leftOf_135 : decode cX12_leftOf 135 = .ok (.goto (-131), 3) := by decide +kernel
theorem dX12_leftOf_138 : decode cX12_leftOf 138 = .ok (.iload_n 1, 1) := by decide +kernel
theorem dX12_leftOf_139 : decode cX12_leftOf 139 = .ok (.ireturn, 1) := by decide +kernel
theorem dX12_left_0 : decode cX12_left 0 = .ok (.aload_n 0, 1) := by decide +kernel
theorem dX12_left_1 : decode cX12_left 1 = .ok (.iconst 0, 1) := by decide +kernel
theorem dX12_left_2 : decode cX12_left 2 = .ok (.putfield 133, 3) := by decide +kernel
theorem dX12_left_5 : decode cX12_left 5 = .ok (.aload_n 0, 1) := by decide +kernel
theorem dX12_left_6 : decode cX12_left 6 = .ok (.invokevirtual 330, 3) := by decide +kernel
theorem dX12_left_9 : decode cX12_left 9 = .ok (.ireturn, 1) := by decide +kernel
theorem dX12_inWorld_0 : decode cX12_inWorld 0 = .ok (.aload_n 0, 1) := by decide +kernel
theorem dX12_inWorld_1 : decode cX12_inWorld 1 = .ok (.iconst 0, 1) := by decide +kernel
theorem dX12_inWorld_2 : decode cX12_inWorld 2 = .ok (.putfield 133, 3) := by decide +kernel
theorem dX12_inWorld_5 : decode cX12_inWorld 5 = .ok (.iload_n 1, 1) := by decide +kernel
theorem dX12_inWorld_6 : decode cX12_inWorld 6 = .ok (.i2l, 1) := by decide +kernel
theorem dX12_inWorld_7 : decode cX12_inWorld 7 = .ok (.lconst 0, 1) := by decide +kernel
theorem dX12_inWorld_8 : decode cX12_inWorld 8 = .ok (.aload_n 0, 1) := by decide +kernel
theorem dX12_inWorld_9 : decode cX12_inWorld 9 = .ok (.getfield 319, 3) := by decide +kernel
theorem dX12_inWorld_12 : decode cX12_inWorld 12 = .ok (.iconst 1, 1) := by decide +kernel
theorem dX12_inWorld_13 : decode cX12_inWorld 13 = .ok (.isub, 1) := by decide +kernel
theorem dX12_inWorld_14 : decode cX12_inWorld 14 = .ok (.i2l, 1) := by decide +kernel
theorem dX12_inWorld_15 : decode cX12_inWorld 15 = .ok (.invokestatic 140, 3) := by decide +kernel
theorem dX12_inWorld_18 : decode cX12_inWorld 18 = .ok (.ifCond .eq 11, 3) := by decide +kernel
theorem dX12_inWorld_21 : decode cX12_inWorld 21 = .ok (.aload_n 0, 1) := by decide +kernel
theorem dX12_inWorld_22 : decode cX12_inWorld 22 = .ok (.iload_n 2, 1) := by decide +kernel
theorem dX12_inWorld_23 : decode cX12_inWorld 23 = .ok (.invokevirtual 155, 3) := by decide +kernel
theorem dX12_inWorld_26 : decode cX12_inWorld 26 = .ok (.ifCond .eq 6, 3) := by decide +kernel
theorem dX12_inWorld_29 : decode cX12_inWorld 29 = .ok (.ldc 159, 2) := by decide +kernel
theorem dX12_inWorld_31 : decode cX12_inWorld 31 = .ok (.ireturn, 1) := by decide +kernel
theorem dX12_inWorld_32 : decode cX12_inWorld 32 = .ok (.aload_n 0, 1) := by decide +kernel
theorem dX12_inWorld_33 : decode cX12_inWorld 33 = .ok (.iload_n 1, 1) := by decide +kernel
theorem dX12_inWorld_34 : decode cX12_inWorld 34 = .ok (.invokevirtual 327, 3) := by decide +kernel
theorem dX12_inWorld_37 : decode cX12_inWorld 37 = .ok (.ifCond .eq 16, 3) := by decide +kernel
theorem dX12_inWorld_40 : decode cX12_inWorld 40 = .ok (.aload_n 0, 1) := by decide +kernel
theorem dX12_inWorld_41 : decode cX12_inWorld 41 = .ok (.aload_n 0, 1) := by decide +kernel
theorem dX12_inWorld_42 : decode cX12_inWorld 42 = .ok (.getfield 61, 3) := by decide +kernel
theorem dX12_inWorld_45 : decode cX12_inWorld 45 = .ok (.iload_n 2, 1) := by decide +kernel
theorem dX12_inWorld_46 : decode cX12_inWorld 46 = .ok (.laload, 1) := by decide +kernel
theorem dX12_inWorld_47 : decode cX12_inWorld 47 = .ok (.invokevirtual 243, 3) := by decide +kernel
theorem dX12_inWorld_50 : decode cX12_inWorld 50 = .ok (.goto 5, 3) := by decide +kernel
theorem dX12_inWorld_53 : decode cX12_inWorld 53 = .ok (.ldc 163, 2) := by decide +kernel
theorem dX12_inWorld_55 : decode cX12_inWorld 55 = .ok (.ireturn, 1) := by decide +kernel
theorem dX12_alikeOf_0 : decode cX12_alikeOf 0 = .ok (.iconst 0, 1) := by decide +kernel
theorem dX12_alikeOf_1 : decode cX12_alikeOf 1 = .ok (.istore_n 3, 1) := by decide +kernel
theorem dX12_alikeOf_2 : decode cX12_alikeOf 2 = .ok (.iconst 0, 1) := by decide +kernel
theorem dX12_alikeOf_3 : decode cX12_alikeOf 3 = .ok (.istore 4, 2) := by decide +kernel
theorem dX12_alikeOf_5 : decode cX12_alikeOf 5 = .ok (.iload 4, 2) := by decide +kernel
theorem dX12_alikeOf_7 : decode cX12_alikeOf 7 = .ok (.aload_n 0, 1) := by decide +kernel
theorem dX12_alikeOf_8 : decode cX12_alikeOf 8 = .ok (.getfield 319, 3) := by decide +kernel
theorem dX12_alikeOf_11 : decode cX12_alikeOf 11 = .ok (.if_icmp .ge 95, 3) := by decide +kernel
theorem dX12_alikeOf_14 : decode cX12_alikeOf 14 = .ok (.iconst 0, 1) := by decide +kernel
theorem dX12_alikeOf_15 : decode cX12_alikeOf 15 = .ok (.istore 5, 2) := by decide +kernel
theorem dX12_alikeOf_17 : decode cX12_alikeOf 17 = .ok (.iconst 0, 1) := by decide +kernel
theorem dX12_alikeOf_18 : decode cX12_alikeOf 18 = .ok (.istore 6, 2) := by decide +kernel
theorem dX12_alikeOf_20 : decode cX12_alikeOf 20 = .ok (.iload 6, 2) := by decide +kernel
theorem dX12_alikeOf_22 : decode cX12_alikeOf 22 = .ok (.aload_n 0, 1) := by decide +kernel
theorem dX12_alikeOf_23 : decode cX12_alikeOf 23 = .ok (.getfield 319, 3) := by decide +kernel
theorem dX12_alikeOf_26 : decode cX12_alikeOf 26 = .ok (.if_icmp .ge 61, 3) := by decide +kernel
theorem dX12_alikeOf_29 : decode cX12_alikeOf 29 = .ok (.iload 5, 2) := by decide +kernel
theorem dX12_alikeOf_31 : decode cX12_alikeOf 31 = .ok (.iload_n 1, 1) := by decide +kernel
theorem dX12_alikeOf_32 : decode cX12_alikeOf 32 = .ok (.iload 4, 2) := by decide +kernel
theorem dX12_alikeOf_34 : decode cX12_alikeOf 34 = .ok (.ishr, 1) := by decide +kernel
theorem dX12_alikeOf_35 : decode cX12_alikeOf 35 = .ok (.iload_n 1, 1) := by decide +kernel
theorem dX12_alikeOf_36 : decode cX12_alikeOf 36 = .ok (.iload 6, 2) := by decide +kernel
theorem dX12_alikeOf_38 : decode cX12_alikeOf 38 = .ok (.ishr, 1) := by decide +kernel
theorem dX12_alikeOf_39 : decode cX12_alikeOf 39 = .ok (.iand, 1) := by decide +kernel
theorem dX12_alikeOf_40 : decode cX12_alikeOf 40 = .ok (.iconst 1, 1) := by decide +kernel
theorem dX12_alikeOf_41 : decode cX12_alikeOf 41 = .ok (.iand, 1) := by decide +kernel
theorem dX12_alikeOf_42 : decode cX12_alikeOf 42 = .ok (.iconst 1, 1) := by decide +kernel
theorem dX12_alikeOf_43 : decode cX12_alikeOf 43 = .ok (.if_icmp .ne 34, 3) := by decide +kernel
theorem dX12_alikeOf_46 : decode cX12_alikeOf 46 = .ok (.aload_n 0, 1) := by decide +kernel
theorem dX12_alikeOf_47 : decode cX12_alikeOf 47 = .ok (.getfield 111, 3) := by decide +kernel
theorem dX12_alikeOf_50 : decode cX12_alikeOf 50 = .ok (.bipush 6, 2) := by decide +kernel
theorem dX12_alikeOf_52 : decode cX12_alikeOf 52 = .ok (.iload 4, 2) := by decide +kernel
theorem dX12_alikeOf_54 : decode cX12_alikeOf 54 = .ok (.imul, 1) := by decide +kernel
theorem dX12_alikeOf_55 : decode cX12_alikeOf 55 = .ok (.iload_n 2, 1) := by decide +kernel
theorem dX12_alikeOf_56 : decode cX12_alikeOf 56 = .ok (.iadd, 1) := by decide +kernel
theorem dX12_alikeOf_57 : decode cX12_alikeOf 57 = .ok (.iaload, 1) := by decide +kernel
theorem dX12_alikeOf_58 : decode cX12_alikeOf 58 = .ok (.aload_n 0, 1) := by decide +kernel
theorem dX12_alikeOf_59 : decode cX12_alikeOf 59 = .ok (.getfield 111, 3) := by decide +kernel
theorem dX12_alikeOf_62 : decode cX12_alikeOf 62 = .ok (.bipush 6, 2) := by decide +kernel
theorem dX12_alikeOf_64 : decode cX12_alikeOf 64 = .ok (.iload 6, 2) := by decide +kernel
theorem dX12_alikeOf_66 : decode cX12_alikeOf 66 = .ok (.imul, 1) := by decide +kernel
theorem dX12_alikeOf_67 : decode cX12_alikeOf 67 = .ok (.iload_n 2, 1) := by decide +kernel
theorem dX12_alikeOf_68 : decode cX12_alikeOf 68 = .ok (.iadd, 1) := by decide +kernel
theorem dX12_alikeOf_69 : decode cX12_alikeOf 69 = .ok (.iaload, 1) := by decide +kernel
theorem dX12_alikeOf_70 : decode cX12_alikeOf 70 = .ok (.if_icmp .ne 7, 3) := by decide +kernel
theorem dX12_alikeOf_73 : decode cX12_alikeOf 73 = .ok (.iconst 1, 1) := by decide +kernel
theorem dX12_alikeOf_74 : decode cX12_alikeOf 74 = .ok (.goto 4, 3) := by decide +kernel
theorem dX12_alikeOf_77 : decode cX12_alikeOf 77 = .ok (.iconst 0, 1) := by decide +kernel
theorem dX12_alikeOf_78 : decode cX12_alikeOf 78 = .ok (.iadd, 1) := by decide +kernel
theorem dX12_alikeOf_79 : decode cX12_alikeOf 79 = .ok (.istore 5, 2) := by decide +kernel
theorem dX12_alikeOf_81 : decode cX12_alikeOf 81 = .ok (.iinc 6 1, 3) := by decide +kernel
theorem dX12_alikeOf_84 : decode cX12_alikeOf 84 = .ok (.goto (-64), 3) := by decide +kernel
theorem dX12_alikeOf_87 : decode cX12_alikeOf 87 = .ok (.iload 5, 2) := by decide +kernel
theorem dX12_alikeOf_89 : decode cX12_alikeOf 89 = .ok (.iload_n 3, 1) := by decide +kernel
theorem dX12_alikeOf_90 : decode cX12_alikeOf 90 = .ok (.if_icmp .le 8, 3) := by decide +kernel
theorem dX12_alikeOf_93 : decode cX12_alikeOf 93 = .ok (.iload 5, 2) := by decide +kernel
theorem dX12_alikeOf_95 : decode cX12_alikeOf 95 = .ok (.goto 4, 3) := by decide +kernel
theorem dX12_alikeOf_98 : decode cX12_alikeOf 98 = .ok (.iload_n 3, 1) := by decide +kernel
theorem dX12_alikeOf_99 : decode cX12_alikeOf 99 = .ok (.istore_n 3, 1) := by decide +kernel
theorem dX12_alikeOf_100 : decode cX12_alikeOf 100 = .ok (.iinc 4 1, 3) := by decide +kernel
theorem dX12_alikeOf_103 : decode cX12_alikeOf 103 = .ok (.goto (-98), 3) := by decide +kernel
theorem dX12_alikeOf_106 : decode cX12_alikeOf 106 = .ok (.iload_n 3, 1) := by decide +kernel
theorem dX12_alikeOf_107 : decode cX12_alikeOf 107 = .ok (.ireturn, 1) := by decide +kernel
theorem dX12_next_0 : decode cX12_next 0 = .ok (.aload_n 0, 1) := by decide +kernel
theorem dX12_next_1 : decode cX12_next 1 = .ok (.iconst 0, 1) := by decide +kernel
theorem dX12_next_2 : decode cX12_next 2 = .ok (.putfield 133, 3) := by decide +kernel
theorem dX12_next_5 : decode cX12_next 5 = .ok (.aload_n 0, 1) := by decide +kernel
theorem dX12_next_6 : decode cX12_next 6 = .ok (.invokevirtual 330, 3) := by decide +kernel
theorem dX12_next_9 : decode cX12_next 9 = .ok (.istore_n 1, 1) := by decide +kernel
theorem dX12_next_10 : decode cX12_next 10 = .ok (.ldc 132, 2) := by decide +kernel
theorem dX12_next_12 : decode cX12_next 12 = .ok (.istore_n 2, 1) := by decide +kernel
theorem dX12_next_13 : decode cX12_next 13 = .ok (.iconst 0, 1) := by decide +kernel
theorem dX12_next_14 : decode cX12_next 14 = .ok (.istore_n 3, 1) := by decide +kernel
theorem dX12_next_15 : decode cX12_next 15 = .ok (.iload_n 3, 1) := by decide +kernel
theorem dX12_next_16 : decode cX12_next 16 = .ok (.aload_n 0, 1) := by decide +kernel
theorem dX12_next_17 : decode cX12_next 17 = .ok (.getfield 137, 3) := by decide +kernel
theorem dX12_next_20 : decode cX12_next 20 = .ok (.if_icmp .ge 49, 3) := by decide +kernel
theorem dX12_next_23 : decode cX12_next 23 = .ok (.iload_n 1, 1) := by decide +kernel
theorem dX12_next_24 : decode cX12_next 24 = .ok (.ifCond .eq 45, 3) := by decide +kernel
theorem dX12_next_27 : decode cX12_next 27 = .ok (.aload_n 0, 1) := by decide +kernel
theorem dX12_next_28 : decode cX12_next 28 = .ok (.getfield 101, 3) := by decide +kernel
theorem dX12_next_31 : decode cX12_next 31 = .ok (.iload_n 3, 1) := by decide +kernel
theorem dX12_next_32 : decode cX12_next 32 = .ok (.baload, 1) := by decide +kernel
theorem dX12_next_33 : decode cX12_next 33 = .ok (.ifCond .ne 28, 3) := by decide +kernel
theorem dX12_next_36 : decode cX12_next 36 = .ok (.iload_n 2, 1) := by decide +kernel
theorem dX12_next_37 : decode cX12_next 37 = .ok (.ldc 132, 2) := by decide +kernel
theorem dX12_next_39 : decode cX12_next 39 = .ok (.if_icmp .eq 18, 3) := by decide +kernel
theorem dX12_next_42 : decode cX12_next 42 = .ok (.aload_n 0, 1) := by decide +kernel
theorem dX12_next_43 : decode cX12_next 43 = .ok (.iload_n 1, 1) := by decide +kernel
theorem dX12_next_44 : decode cX12_next 44 = .ok (.iload_n 3, 1) := by decide +kernel
theorem dX12_next_45 : decode cX12_next 45 = .ok (.invokevirtual 333, 3) := by decide +kernel
theorem dX12_next_48 : decode cX12_next 48 = .ok (.aload_n 0, 1) := by decide +kernel
theorem dX12_next_49 : decode cX12_next 49 = .ok (.iload_n 1, 1) := by decide +kernel
theorem dX12_next_50 : decode cX12_next 50 = .ok (.iload_n 2, 1) := by decide +kernel
theorem dX12_next_51 : decode cX12_next 51 = .ok (.invokevirtual 333, 3) := by decide +kernel
theorem dX12_next_54 : decode cX12_next 54 = .ok (.if_icmp .ge 7, 3) := by decide +kernel
theorem dX12_next_57 : decode cX12_next 57 = .ok (.iload_n 3, 1) := by decide +kernel
theorem dX12_next_58 : decode cX12_next 58 = .ok (.goto 4, 3) := by decide +kernel
theorem dX12_next_61 : decode cX12_next 61 = .ok (.iload_n 2, 1) := by decide +kernel
theorem dX12_next_62 : decode cX12_next 62 = .ok (.istore_n 2, 1) := by decide +kernel
theorem dX12_next_63 : decode cX12_next 63 = .ok (.iinc 3 1, 3) := by decide +kernel
theorem dX12_next_66 : decode cX12_next 66 = .ok (.goto (-51), 3) := by decide +kernel
theorem dX12_next_69 : decode cX12_next 69 = .ok (.iload_n 2, 1) := by decide +kernel
theorem dX12_next_70 : decode cX12_next 70 = .ok (.ireturn, 1) := by decide +kernel
theorem dX12_alike_0 : decode cX12_alike 0 = .ok (.aload_n 0, 1) := by decide +kernel
theorem dX12_alike_1 : decode cX12_alike 1 = .ok (.iconst 0, 1) := by decide +kernel
theorem dX12_alike_2 : decode cX12_alike 2 = .ok (.putfield 133, 3) := by decide +kernel
theorem dX12_alike_5 : decode cX12_alike 5 = .ok (.aload_n 0, 1) := by decide +kernel
theorem dX12_alike_6 : decode cX12_alike 6 = .ok (.iload_n 1, 1) := by decide +kernel
theorem dX12_alike_7 : decode cX12_alike 7 = .ok (.invokevirtual 155, 3) := by decide +kernel
theorem dX12_alike_10 : decode cX12_alike 10 = .ok (.ifCond .eq 8, 3) := by decide +kernel
theorem dX12_alike_13 : decode cX12_alike 13 = .ok (.ldc 159, 2) := by decide +kernel
theorem dX12_alike_15 : decode cX12_alike 15 = .ok (.goto 12, 3) := by decide +kernel
theorem dX12_alike_18 : decode cX12_alike 18 = .ok (.aload_n 0, 1) := by decide +kernel
theorem dX12_alike_19 : decode cX12_alike 19 = .ok (.aload_n 0, 1) := by decide +kernel
theorem dX12_alike_20 : decode cX12_alike 20 = .ok (.invokevirtual 330, 3) := by decide +kernel
theorem dX12_alike_23 : decode cX12_alike 23 = .ok (.iload_n 1, 1) := by decide +kernel
theorem dX12_alike_24 : decode cX12_alike 24 = .ok (.invokevirtual 333, 3) := by decide +kernel
theorem dX12_alike_27 : decode cX12_alike 27 = .ok (.ireturn, 1) := by decide +kernel
theorem dX12_sign_0 : decode cX12_sign 0 = .ok (.aload_n 0, 1) := by decide +kernel
theorem dX12_sign_1 : decode cX12_sign 1 = .ok (.iconst 0, 1) := by decide +kernel
theorem dX12_sign_2 : decode cX12_sign 2 = .ok (.putfield 133, 3) := by decide +kernel
theorem dX12_sign_5 : decode cX12_sign 5 = .ok (.iload_n 1, 1) := by decide +kernel
theorem dX12_sign_6 : decode cX12_sign 6 = .ok (.i2l, 1) := by decide +kernel
theorem dX12_sign_7 : decode cX12_sign 7 = .ok (.ldc2_w 336, 3) := by decide +kernel
theorem dX12_sign_10 : decode cX12_sign 10 = .ok (.ldc2_w 338, 3) := by decide +kernel
theorem dX12_sign_13 : decode cX12_sign 13 = .ok (.invokestatic 140, 3) := by decide +kernel
theorem dX12_sign_16 : decode cX12_sign 16 = .ok (.ifCond .ne 6, 3) := by decide +kernel
theorem dX12_sign_19 : decode cX12_sign 19 = .ok (.ldc 153, 2) := by decide +kernel
theorem dX12_sign_21 : decode cX12_sign 21 = .ok (.ireturn, 1) := by decide +kernel
theorem dX12_sign_22 : decode cX12_sign 22 = .ok (.aload_n 0, 1) := by decide +kernel
theorem dX12_sign_23 : decode cX12_sign 23 = .ok (.getfield 340, 3) := by decide +kernel
theorem dX12_sign_26 : decode cX12_sign 26 = .ok (.sipush 200, 3) := by decide +kernel
theorem dX12_sign_29 : decode cX12_sign 29 = .ok (.if_icmp .ne 6, 3) := by decide +kernel
theorem dX12_sign_32 : decode cX12_sign 32 = .ok (.ldc 154, 2) := by decide +kernel
theorem dX12_sign_34 : decode cX12_sign 34 = .ok (.ireturn, 1) := by decide +kernel
theorem dX12_sign_35 : decode cX12_sign 35 = .ok (.aload_n 0, 1) := by decide +kernel
theorem dX12_sign_36 : decode cX12_sign 36 = .ok (.getfield 114, 3) := by decide +kernel
theorem dX12_sign_39 : decode cX12_sign 39 = .ok (.aload_n 0, 1) := by decide +kernel
theorem dX12_sign_40 : decode cX12_sign 40 = .ok (.getfield 340, 3) := by decide +kernel
theorem dX12_sign_43 : decode cX12_sign 43 = .ok (.iload_n 1, 1) := by decide +kernel
theorem dX12_sign_44 : decode cX12_sign 44 = .ok (.iastore, 1) := by decide +kernel
theorem dX12_sign_45 : decode cX12_sign 45 = .ok (.aload_n 0, 1) := by decide +kernel
theorem dX12_sign_46 : decode cX12_sign 46 = .ok (.dup, 1) := by decide +kernel
theorem dX12_sign_47 : decode cX12_sign 47 = .ok (.getfield 340, 3) := by decide +kernel
theorem dX12_sign_50 : decode cX12_sign 50 = .ok (.iconst 1, 1) := by decide +kernel
theorem dX12_sign_51 : decode cX12_sign 51 = .ok (.iadd, 1) := by decide +kernel
theorem dX12_sign_52 : decode cX12_sign 52 = .ok (.putfield 340, 3) := by decide +kernel
theorem dX12_sign_55 : decode cX12_sign 55 = .ok (.aload_n 0, 1) := by decide +kernel
theorem dX12_sign_56 : decode cX12_sign 56 = .ok (.getfield 340, 3) := by decide +kernel
theorem dX12_sign_59 : decode cX12_sign 59 = .ok (.ireturn, 1) := by decide +kernel
theorem dX12_wipe_0 : decode cX12_wipe 0 = .ok (.aload_n 0, 1) := by decide +kernel
theorem dX12_wipe_1 : decode cX12_wipe 1 = .ok (.iconst 0, 1) := by decide +kernel
theorem dX12_wipe_2 : decode cX12_wipe 2 = .ok (.putfield 133, 3) := by decide +kernel
theorem dX12_wipe_5 : decode cX12_wipe 5 = .ok (.aload_n 0, 1) := by decide +kernel
theorem dX12_wipe_6 : decode cX12_wipe 6 = .ok (.getfield 340, 3) := by decide +kernel
theorem dX12_wipe_9 : decode cX12_wipe 9 = .ok (.istore_n 1, 1) := by decide +kernel
theorem dX12_wipe_10 : decode cX12_wipe 10 = .ok (.aload_n 0, 1) := by decide +kernel
theorem dX12_wipe_11 : decode cX12_wipe 11 = .ok (.iconst 0, 1) := by decide +kernel
theorem dX12_wipe_12 : decode cX12_wipe 12 = .ok (.putfield 340, 3) := by decide +kernel
theorem dX12_wipe_15 : decode cX12_wipe 15 = .ok (.iload_n 1, 1) := by decide +kernel
theorem dX12_wipe_16 : decode cX12_wipe 16 = .ok (.ireturn, 1) := by decide +kernel
theorem dX12_isDigit_0 : decode cX12_isDigit 0 = .ok (.iload_n 0, 1) := by decide +kernel
theorem dX12_isDigit_1 : decode cX12_isDigit 1 = .ok (.i2l, 1) := by decide +kernel
theorem dX12_isDigit_2 : decode cX12_isDigit 2 = .ok (.ldc2_w 343, 3) := by decide +kernel
theorem dX12_isDigit_5 : decode cX12_isDigit 5 = .ok (.ldc2_w 345, 3) := by decide +kernel
theorem dX12_isDigit_8 : decode cX12_isDigit 8 = .ok (.invokestatic 140, 3) := by decide +kernel
theorem dX12_isDigit_11 : decode cX12_isDigit 11 = .ok (.ireturn, 1) := by decide +kernel
theorem dX12_named_0 : decode cX12_named 0 = .ok (.iload_n 1, 1) := by decide +kernel
theorem dX12_named_1 : decode cX12_named 1 = .ok (.bipush 104, 2) := by decide +kernel
theorem dX12_named_3 : decode cX12_named 3 = .ok (.if_icmp .ne 10, 3) := by decide +kernel
theorem dX12_named_6 : decode cX12_named 6 = .ok (.aload_n 0, 1) := by decide +kernel
theorem dX12_named_7 : decode cX12_named 7 = .ok (.getfield 137, 3) := by decide +kernel
theorem dX12_named_10 : decode cX12_named 10 = .ok (.goto 71, 3) := by decide +kernel
theorem dX12_named_13 : decode cX12_named 13 = .ok (.iload_n 1, 1) := by decide +kernel
theorem dX12_named_14 : decode cX12_named 14 = .ok (.bipush 113, 2) := by decide +kernel
theorem dX12_named_16 : decode cX12_named 16 = .ok (.if_icmp .ne 10, 3) := by decide +kernel
theorem dX12_named_19 : decode cX12_named 19 = .ok (.aload_n 0, 1) := by decide +kernel
theorem dX12_named_20 : decode cX12_named 20 = .ok (.getfield 144, 3) := by decide +kernel
theorem dX12_named_23 : decode cX12_named 23 = .ok (.goto 58, 3) := by decide +kernel
theorem dX12_named_26 : decode cX12_named 26 = .ok (.iload_n 1, 1) := by decide +kernel
theorem dX12_named_27 : decode cX12_named 27 = .ok (.bipush 103, 2) := by decide +kernel
theorem dX12_named_29 : decode cX12_named 29 = .ok (.if_icmp .ne 10, 3) := by decide +kernel
theorem dX12_named_32 : decode cX12_named 32 = .ok (.aload_n 0, 1) := by decide +kernel
theorem dX12_named_33 : decode cX12_named 33 = .ok (.getfield 169, 3) := by decide +kernel
theorem dX12_named_36 : decode cX12_named 36 = .ok (.goto 45, 3) := by decide +kernel
theorem dX12_named_39 : decode cX12_named 39 = .ok (.iload_n 1, 1) := by decide +kernel
theorem dX12_named_40 : decode cX12_named 40 = .ok (.bipush 100, 2) := by decide +kernel
theorem dX12_named_42 : decode cX12_named 42 = .ok (.if_icmp .ne 10, 3) := by decide +kernel
theorem dX12_named_45 : decode cX12_named 45 = .ok (.aload_n 0, 1) := by decide +kernel
theorem dX12_named_46 : decode cX12_named 46 = .ok (.getfield 172, 3) := by decide +kernel
theorem dX12_named_49 : decode cX12_named 49 = .ok (.goto 32, 3) := by decide +kernel
theorem dX12_named_52 : decode cX12_named 52 = .ok (.iload_n 1, 1) := by decide +kernel
theorem dX12_named_53 : decode cX12_named 53 = .ok (.bipush 102, 2) := by decide +kernel
theorem dX12_named_55 : decode cX12_named 55 = .ok (.if_icmp .ne 24, 3) := by decide +kernel
theorem dX12_named_58 : decode cX12_named 58 = .ok (.aload_n 0, 1) := by decide +kernel
theorem dX12_named_59 : decode cX12_named 59 = .ok (.getfield 164, 3) := by decide +kernel
theorem dX12_named_62 : decode cX12_named 62 = .ok (.bipush 10, 2) := by decide +kernel
theorem dX12_named_64 : decode cX12_named 64 = .ok (.if_icmp .ge 10, 3) := by decide +kernel
theorem dX12_named_67 : decode cX12_named 67 = .ok (.aload_n 0, 1) := by decide +kernel
theorem dX12_named_68 : decode cX12_named 68 = .ok (.getfield 164, 3) := by decide +kernel
theorem dX12_named_71 : decode cX12_named 71 = .ok (.goto 10, 3) := by decide +kernel
theorem dX12_named_74 : decode cX12_named 74 = .ok (.bipush 10, 2) := by decide +kernel
theorem dX12_named_76 : decode cX12_named 76 = .ok (.goto 5, 3) := by decide +kernel
theorem dX12_named_79 : decode cX12_named 79 = .ok (.ldc 132, 2) := by decide +kernel
theorem dX12_named_81 : decode cX12_named 81 = .ok (.ireturn, 1) := by decide +kernel
theorem dX12_faultOf_0 : decode cX12_faultOf 0 = .ok (.iconst 0, 1) := by decide +kernel
theorem dX12_faultOf_1 : decode cX12_faultOf 1 = .ok (.istore_n 1, 1) := by decide +kernel
theorem dX12_faultOf_2 : decode cX12_faultOf 2 = .ok (.iconst 0, 1) := by decide +kernel
theorem dX12_faultOf_3 : decode cX12_faultOf 3 = .ok (.istore_n 2, 1) := by decide +kernel
theorem dX12_faultOf_4 : decode cX12_faultOf 4 = .ok (.iconst 0, 1) := by decide +kernel
theorem dX12_faultOf_5 : decode cX12_faultOf 5 = .ok (.istore_n 3, 1) := by decide +kernel
theorem dX12_faultOf_6 : decode cX12_faultOf 6 = .ok (.iconst 0, 1) := by decide +kernel
theorem dX12_faultOf_7 : decode cX12_faultOf 7 = .ok (.istore 4, 2) := by decide +kernel
theorem dX12_faultOf_9 : decode cX12_faultOf 9 = .ok (.iload 4, 2) := by decide +kernel
theorem dX12_faultOf_11 : decode cX12_faultOf 11 = .ok (.aload_n 0, 1) := by decide +kernel
theorem dX12_faultOf_12 : decode cX12_faultOf 12 = .ok (.getfield 340, 3) := by decide +kernel
theorem dX12_faultOf_15 : decode cX12_faultOf 15 = .ok (.if_icmp .ge 283, 3) := by decide +kernel
theorem dX12_faultOf_18 : decode cX12_faultOf 18 = .ok (.aload_n 0, 1) := by decide +kernel
theorem dX12_faultOf_19 : decode cX12_faultOf 19 = .ok (.getfield 114, 3) := by decide +kernel
theorem dX12_faultOf_22 : decode cX12_faultOf 22 = .ok (.iload 4, 2) := by decide +kernel
theorem dX12_faultOf_24 : decode cX12_faultOf 24 = .ok (.iaload, 1) := by decide +kernel
theorem dX12_faultOf_25 : decode cX12_faultOf 25 = .ok (.istore 5, 2) := by decide +kernel
theorem dX12_faultOf_27 : decode cX12_faultOf 27 = .ok (.ldc 132, 2) := by decide +kernel
theorem dX12_faultOf_29 : decode cX12_faultOf 29 = .ok (.istore 6, 2) := by decide +kernel
theorem dX12_faultOf_31 : decode cX12_faultOf 31 = .ok (.iload_n 1, 1) := by decide +kernel
theorem dX12_faultOf_32 : decode cX12_faultOf 32 = .ok (.ifCond .ne 61, 3) := by decide +kernel
theorem dX12_faultOf_35 : decode cX12_faultOf 35 = .ok (.iload_n 2, 1) := by decide +kernel
theorem dX12_faultOf_36 : decode cX12_faultOf 36 = .ok (.iload 5, 2) := by decide +kernel
theorem dX12_faultOf_38 : decode cX12_faultOf 38 = .ok (.bipush 40, 2) := by decide +kernel
theorem dX12_faultOf_40 : decode cX12_faultOf 40 = .ok (.if_icmp .ne 7, 3) := by decide +kernel
theorem dX12_faultOf_43 : decode cX12_faultOf 43 = .ok (.iconst 1, 1) := by decide +kernel
theorem dX12_faultOf_44 : decode cX12_faultOf 44 = .ok (.goto 4, 3) := by decide +kernel
theorem dX12_faultOf_47 : decode cX12_faultOf 47 = .ok (.iconst 0, 1) := by decide +kernel
theorem dX12_faultOf_48 : decode cX12_faultOf 48 = .ok (.iadd, 1) := by decide +kernel
theorem dX12_faultOf_49 : decode cX12_faultOf 49 = .ok (.istore_n 2, 1) := by decide +kernel
theorem dX12_faultOf_50 : decode cX12_faultOf 50 = .ok (.iload 5, 2) := by decide +kernel
theorem dX12_faultOf_52 : decode cX12_faultOf 52 = .ok (.istore_n 3, 1) := by decide +kernel
theorem dX12_faultOf_53 : decode cX12_faultOf 53 = .ok (.iload 5, 2) := by decide +kernel
theorem dX12_faultOf_55 : decode cX12_faultOf 55 = .ok (.bipush 33, 2) := by decide +kernel
theorem dX12_faultOf_57 : decode cX12_faultOf 57 = .ok (.if_icmp .eq 10, 3) := by decide +kernel
theorem dX12_faultOf_60 : decode cX12_faultOf 60 = .ok (.iload 5, 2) := by decide +kernel
theorem dX12_faultOf_62 : decode cX12_faultOf 62 = .ok (.bipush 40, 2) := by decide +kernel
theorem dX12_faultOf_64 : decode cX12_faultOf 64 = .ok (.if_icmp .ne 7, 3) := by decide +kernel
theorem dX12_faultOf_67 : decode cX12_faultOf 67 = .ok (.iconst 0, 1) := by decide +kernel
theorem dX12_faultOf_68 : decode cX12_faultOf 68 = .ok (.goto 20, 3) := by decide +kernel
theorem dX12_faultOf_71 : decode cX12_faultOf 71 = .ok (.aload_n 0, 1) := by decide +kernel
theorem dX12_faultOf_72 : decode cX12_faultOf 72 = .ok (.iload 5, 2) := by decide +kernel
theorem dX12_faultOf_74 : decode cX12_faultOf 74 = .ok (.invokevirtual 347, 3) := by decide +kernel
theorem dX12_faultOf_77 : decode cX12_faultOf 77 = .ok (.ldc 132, 2) := by decide +kernel
theorem dX12_faultOf_79 : decode cX12_faultOf 79 = .ok (.if_icmp .eq 7, 3) := by decide +kernel
theorem dX12_faultOf_82 : decode cX12_faultOf 82 = .ok (.iconst 1, 1) := by decide +kernel
theorem dX12_faultOf_83 : decode cX12_faultOf 83 = .ok (.goto 5, 3) := by decide +kernel
theorem dX12_faultOf_86 : decode cX12_faultOf 86 = .ok (.ldc 132, 2) := by decide +kernel
theorem dX12_faultOf_88 : decode cX12_faultOf 88 = .ok (.istore 6, 2) := by decide +kernel
theorem dX12_faultOf_90 : decode cX12_faultOf 90 = .ok (.goto 189, 3) := by decide +kernel
theorem dX12_faultOf_93 : decode cX12_faultOf 93 = .ok (.iload_n 1, 1) := by decide +kernel
theorem dX12_faultOf_94 : decode cX12_faultOf 94 = .ok (.iconst 1, 1) := by decide +kernel
theorem dX12_faultOf_95 : decode cX12_faultOf 95 = .ok (.if_icmp .ne 35, 3) := by decide +kernel
theorem dX12_faultOf_98 : decode cX12_faultOf 98 = .ok (.iload 5, 2) := by decide +kernel
theorem dX12_faultOf_100 : decode cX12_faultOf 100 = .ok (.invokestatic 350, 3) := by decide +kernel
theorem dX12_faultOf_103 : decode cX12_faultOf 103 = .ok (.ifCond .eq 20, 3) := by decide +kernel
theorem dX12_faultOf_106 : decode cX12_faultOf 106 = .ok (.iload 5, 2) := by decide +kernel
theorem dX12_faultOf_108 : decode cX12_faultOf 108 = .ok (.bipush 48, 2) := by decide +kernel
theorem dX12_faultOf_110 : decode cX12_faultOf 110 = .ok (.isub, 1) := by decide +kernel
theorem dX12_faultOf_111 : decode cX12_faultOf 111 = .ok (.aload_n 0, 1) := by decide +kernel
theorem dX12_faultOf_112 : decode cX12_faultOf 112 = .ok (.iload_n 3, 1) := by decide +kernel
theorem dX12_faultOf_113 : decode cX12_faultOf 113 = .ok (.invokevirtual 347, 3) := by decide +kernel
theorem dX12_faultOf_116 : decode cX12_faultOf 116 = .ok (.if_icmp .ge 7, 3) := by decide +kernel
theorem dX12_faultOf_119 : decode cX12_faultOf 119 = .ok (.iconst 2, 1) := by decide +kernel
theorem dX12_faultOf_120 : decode cX12_faultOf 120 = .ok (.goto 5, 3) := by decide +kernel
theorem dX12_faultOf_123 : decode cX12_faultOf 123 = .ok (.ldc 132, 2) := by decide +kernel
theorem dX12_faultOf_125 : decode cX12_faultOf 125 = .ok (.istore 6, 2) := by decide +kernel
theorem dX12_faultOf_127 : decode cX12_faultOf 127 = .ok (.goto 152, 3) := by decide +kernel
theorem dX12_faultOf_130 : decode cX12_faultOf 130 = .ok (.iload_n 1, 1) := by decide +kernel
theorem dX12_faultOf_131 : decode cX12_faultOf 131 = .ok (.iconst 2, 1) := by decide +kernel
theorem dX12_faultOf_132 : decode cX12_faultOf 132 = .ok (.if_icmp .ne 35, 3) := by decide +kernel
theorem dX12_faultOf_135 : decode cX12_faultOf 135 = .ok (.iload 5, 2) := by decide +kernel
theorem dX12_faultOf_137 : decode cX12_faultOf 137 = .ok (.bipush 60, 2) := by decide +kernel
theorem dX12_faultOf_139 : decode cX12_faultOf 139 = .ok (.if_icmp .eq 17, 3) := by decide +kernel
theorem dX12_faultOf_142 : decode cX12_faultOf 142 = .ok (.iload 5, 2) := by decide +kernel
theorem dX12_faultOf_144 : decode cX12_faultOf 144 = .ok (.bipush 62, 2) := by decide +kernel
theorem dX12_faultOf_146 : decode cX12_faultOf 146 = .ok (.if_icmp .eq 10, 3) := by decide +kernel
theorem dX12_faultOf_149 : decode cX12_faultOf 149 = .ok (.iload 5, 2) := by decide +kernel
theorem dX12_faultOf_151 : decode cX12_faultOf 151 = .ok (.bipush 61, 2) := by decide +kernel
theorem dX12_faultOf_153 : decode cX12_faultOf 153 = .ok (.if_icmp .ne 7, 3) := by decide +kernel
theorem dX12_faultOf_156 : decode cX12_faultOf 156 = .ok (.iconst 3, 1) := by decide +kernel
theorem dX12_faultOf_157 : decode cX12_faultOf 157 = .ok (.goto 5, 3) := by decide +kernel
theorem dX12_faultOf_160 : decode cX12_faultOf 160 = .ok (.ldc 132, 2) := by decide +kernel
theorem dX12_faultOf_162 : decode cX12_faultOf 162 = .ok (.istore 6, 2) := by decide +kernel
theorem dX12_faultOf_164 : decode cX12_faultOf 164 = .ok (.goto 115, 3) := by decide +kernel
theorem dX12_faultOf_167 : decode cX12_faultOf 167 = .ok (.iload_n 1, 1) := by decide +kernel
theorem dX12_faultOf_168 : decode cX12_faultOf 168 = .ok (.iconst 3, 1) := by decide +kernel
theorem dX12_faultOf_169 : decode cX12_faultOf 169 = .ok (.if_icmp .ne 16, 3) := by decide +kernel
theorem dX12_faultOf_172 : decode cX12_faultOf 172 = .ok (.iload 5, 2) := by decide +kernel
theorem dX12_faultOf_174 : decode cX12_faultOf 174 = .ok (.bipush 45, 2) := by decide +kernel
theorem dX12_faultOf_176 : decode cX12_faultOf 176 = .ok (.if_icmp .ne 9, 3) := by decide +kernel
theorem dX12_faultOf_179 : decode cX12_faultOf 179 = .ok (.iconst 4, 1) := by decide +kernel
theorem dX12_faultOf_180 : decode cX12_faultOf 180 = .ok (.istore 6, 2) := by decide +kernel
theorem dX12_faultOf_182 : decode cX12_faultOf 182 = .ok (.goto 97, 3) := by decide +kernel
theorem dX12_faultOf_185 : decode cX12_faultOf 185 = .ok (.iload_n 1, 1) := by decide +kernel
theorem dX12_faultOf_186 : decode cX12_faultOf 186 = .ok (.iconst 3, 1) := by decide +kernel
theorem dX12_faultOf_187 : decode cX12_faultOf 187 = .ok (.if_icmp .eq 8, 3) := by decide +kernel
theorem dX12_faultOf_190 : decode cX12_faultOf 190 = .ok (.iload_n 1, 1) := by decide +kernel
theorem dX12_faultOf_191 : decode cX12_faultOf 191 = .ok (.iconst 4, 1) := by decide +kernel
theorem dX12_faultOf_192 : decode cX12_faultOf 192 = .ok (.if_icmp .ne 22, 3) := by decide +kernel
theorem dX12_faultOf_195 : decode cX12_faultOf 195 = .ok (.iload 5, 2) := by decide +kernel
theorem dX12_faultOf_197 : decode cX12_faultOf 197 = .ok (.invokestatic 350, 3) := by decide +kernel
theorem dX12_faultOf_200 : decode cX12_faultOf 200 = .ok (.ifCond .eq 7, 3) := by decide +kernel
theorem dX12_faultOf_203 : decode cX12_faultOf 203 = .ok (.iconst 5, 1) := by decide +kernel
theorem dX12_faultOf_204 : decode cX12_faultOf 204 = .ok (.goto 5, 3) := by decide +kernel
theorem dX12_faultOf_207 : decode cX12_faultOf 207 = .ok (.ldc 132, 2) := by decide +kernel
theorem dX12_faultOf_209 : decode cX12_faultOf 209 = .ok (.istore 6, 2) := by decide +kernel
theorem dX12_faultOf_211 : decode cX12_faultOf 211 = .ok (.goto 68, 3) := by decide +kernel
theorem dX12_faultOf_214 : decode cX12_faultOf 214 = .ok (.iload 5, 2) := by decide +kernel
theorem dX12_faultOf_216 : decode cX12_faultOf 216 = .ok (.invokestatic 350, 3) := by decide +kernel
theorem dX12_faultOf_219 : decode cX12_faultOf 219 = .ok (.ifCond .eq 22, 3) := by decide +kernel
theorem dX12_faultOf_222 : decode cX12_faultOf 222 = .ok (.iload_n 1, 1) := by decide +kernel
theorem dX12_faultOf_223 : decode cX12_faultOf 223 = .ok (.iconst 5, 1) := by decide +kernel
theorem dX12_faultOf_224 : decode cX12_faultOf 224 = .ok (.if_icmp .lt 17, 3) := by decide +kernel
theorem dX12_faultOf_227 : decode cX12_faultOf 227 = .ok (.iload_n 1, 1) := by decide +kernel
theorem dX12_faultOf_228 : decode cX12_faultOf 228 = .ok (.bipush 11, 2) := by decide +kernel
theorem dX12_faultOf_230 : decode cX12_faultOf 230 = .ok (.if_icmp .ge 11, 3) := by decide +kernel
theorem dX12_faultOf_233 : decode cX12_faultOf 233 = .ok (.iload_n 1, 1) := by decide +kernel
theorem dX12_faultOf_234 : decode cX12_faultOf 234 = .ok (.iconst 1, 1) := by decide +kernel
theorem dX12_faultOf_235 : decode cX12_faultOf 235 = .ok (.iadd, 1) := by decide +kernel
theorem dX12_faultOf_236 : decode cX12_faultOf 236 = .ok (.istore 6, 2) := by decide +kernel
theorem dX12_faultOf_238 : decode cX12_faultOf 238 = .ok (.goto 41, 3) := by decide +kernel
theorem dX12_faultOf_241 : decode cX12_faultOf 241 = .ok (.iload 5, 2) := by decide +kernel
theorem dX12_faultOf_243 : decode cX12_faultOf 243 = .ok (.bipush 38, 2) := by decide +kernel
theorem dX12_faultOf_245 : decode cX12_faultOf 245 = .ok (.if_icmp .eq 10, 3) := by decide +kernel
theorem dX12_faultOf_248 : decode cX12_faultOf 248 = .ok (.iload 5, 2) := by decide +kernel
theorem dX12_faultOf_250 : decode cX12_faultOf 250 = .ok (.bipush 124, 2) := by decide +kernel
theorem dX12_faultOf_252 : decode cX12_faultOf 252 = .ok (.if_icmp .ne 9, 3) := by decide +kernel
theorem dX12_faultOf_255 : decode cX12_faultOf 255 = .ok (.iconst 0, 1) := by decide +kernel
theorem dX12_faultOf_256 : decode cX12_faultOf 256 = .ok (.istore 6, 2) := by decide +kernel
theorem dX12_faultOf_258 : decode cX12_faultOf 258 = .ok (.goto 21, 3) := by decide +kernel
theorem dX12_faultOf_261 : decode cX12_faultOf 261 = .ok (.iload 5, 2) := by decide +kernel
theorem dX12_faultOf_263 : decode cX12_faultOf 263 = .ok (.bipush 41, 2) := by decide +kernel
theorem dX12_faultOf_265 : decode cX12_faultOf 265 = .ok (.if_icmp .ne 14, 3) := by decide +kernel
theorem dX12_faultOf_268 : decode cX12_faultOf 268 = .ok (.iload_n 2, 1) := by decide +kernel
theorem dX12_faultOf_269 : decode cX12_faultOf 269 = .ok (.ifCond .le 10, 3) := by decide +kernel
theorem dX12_faultOf_272 : decode cX12_faultOf 272 = .ok (.iinc 2 (-1), 3) := by decide +kernel
theorem dX12_faultOf_275 : decode cX12_faultOf 275 = .ok (.bipush 20, 2) := by decide +kernel
theorem dX12_faultOf_277 : decode cX12_faultOf 277 = .ok (.istore 6, 2) := by decide +kernel
theorem dX12_faultOf_279 : decode cX12_faultOf 279 = .ok (.iload 6, 2) := by decide +kernel
theorem dX12_faultOf_281 : decode cX12_faultOf 281 = .ok (.ldc 132, 2) := by decide +kernel
theorem dX12_faultOf_283 : decode cX12_faultOf 283 = .ok (.if_icmp .ne 6, 3) := by decide +kernel
theorem dX12_faultOf_286 : decode cX12_faultOf 286 = .ok (.iload 4, 2) := by decide +kernel
theorem dX12_faultOf_288 : decode cX12_faultOf 288 = .ok (.ireturn, 1) := by decide +kernel
theorem dX12_faultOf_289 : decode cX12_faultOf 289 = .ok (.iload 6, 2) := by decide +kernel
theorem dX12_faultOf_291 : decode cX12_faultOf 291 = .ok (.istore_n 1, 1) := by decide +kernel
theorem dX12_faultOf_292 : decode cX12_faultOf 292 = .ok (.iinc 4 1, 3) := by decide +kernel
theorem dX12_faultOf_295 : decode cX12_faultOf 295 = .ok (.goto (-286), 3) := by decide +kernel
theorem dX12_faultOf_298 : decode cX12_faultOf 298 = .ok (.aload_n 0, 1) := by decide +kernel
theorem dX12_faultOf_299 : decode cX12_faultOf 299 = .ok (.getfield 340, 3) := by decide +kernel
theorem dX12_faultOf_302 : decode cX12_faultOf 302 = .ok (.ifCond .eq 12, 3) := by decide +kernel
theorem dX12_faultOf_305 : decode cX12_faultOf 305 = .ok (.iload_n 1, 1) := by decide +kernel
theorem dX12_faultOf_306 : decode cX12_faultOf 306 = .ok (.iconst 5, 1) := by decide +kernel
theorem dX12_faultOf_307 : decode cX12_faultOf 307 = .ok (.if_icmp .lt 12, 3) := by decide +kernel
theorem dX12_faultOf_310 : decode cX12_faultOf 310 = .ok (.iload_n 2, 1) := by decide +kernel
theorem dX12_faultOf_311 : decode cX12_faultOf 311 = .ok (.ifCond .ne 8, 3) := by decide +kernel
theorem dX12_faultOf_314 : decode cX12_faultOf 314 = .ok (.ldc 132, 2) := by decide +kernel
theorem dX12_faultOf_316 : decode cX12_faultOf 316 = .ok (.goto 7, 3) := by decide +kernel
theorem dX12_faultOf_319 : decode cX12_faultOf 319 = .ok (.aload_n 0, 1) := by decide +kernel
theorem dX12_faultOf_320 : decode cX12_faultOf 320 = .ok (.getfield 340, 3) := by decide +kernel
theorem dX12_faultOf_323 : decode cX12_faultOf 323 = .ok (.ireturn, 1) := by decide +kernel
theorem dX12_fault_0 : decode cX12_fault 0 = .ok (.aload_n 0, 1) := by decide +kernel
theorem dX12_fault_1 : decode cX12_fault 1 = .ok (.iconst 0, 1) := by decide +kernel
theorem dX12_fault_2 : decode cX12_fault 2 = .ok (.putfield 133, 3) := by decide +kernel
theorem dX12_fault_5 : decode cX12_fault 5 = .ok (.aload_n 0, 1) := by decide +kernel
theorem dX12_fault_6 : decode cX12_fault 6 = .ok (.invokevirtual 353, 3) := by decide +kernel
theorem dX12_fault_9 : decode cX12_fault 9 = .ok (.ireturn, 1) := by decide +kernel
theorem dX12_asked_0 : decode cX12_asked 0 = .ok (.iload_n 1, 1) := by decide +kernel
theorem dX12_asked_1 : decode cX12_asked 1 = .ok (.lookupswitch 81 #[(100, 71), (103, 61), (104, 43), (113, 54)], 43) := by decide +kernel
theorem dX12_asked_44 : decode cX12_asked 44 = .ok (.aload_n 0, 1) := by decide +kernel
theorem dX12_asked_45 : decode cX12_asked 45 = .ok (.aload_n 0, 1) := by decide +kernel
theorem dX12_asked_46 : decode cX12_asked 46 = .ok (.getfield 61, 3) := by decide +kernel
theorem dX12_asked_49 : decode cX12_asked 49 = .ok (.iload_n 2, 1) := by decide +kernel
theorem dX12_asked_50 : decode cX12_asked 50 = .ok (.laload, 1) := by decide +kernel
theorem dX12_asked_51 : decode cX12_asked 51 = .ok (.invokevirtual 243, 3) := by decide +kernel
theorem dX12_asked_54 : decode cX12_asked 54 = .ok (.ireturn, 1) := by decide +kernel
theorem dX12_asked_55 : decode cX12_asked 55 = .ok (.aload_n 0, 1) := by decide +kernel
theorem dX12_asked_56 : decode cX12_asked 56 = .ok (.getfield 68, 3) := by decide +kernel
theorem dX12_asked_59 : decode cX12_asked 59 = .ok (.iload_n 2, 1) := by decide +kernel
theorem dX12_asked_60 : decode cX12_asked 60 = .ok (.iaload, 1) := by decide +kernel
theorem dX12_asked_61 : decode cX12_asked 61 = .ok (.ireturn, 1) := by decide +kernel
theorem dX12_asked_62 : decode cX12_asked 62 = .ok (.aload_n 0, 1) := by decide +kernel
theorem dX12_asked_63 : decode cX12_asked 63 = .ok (.aload_n 0, 1) := by decide +kernel
theorem dX12_asked_64 : decode cX12_asked 64 = .ok (.iload_n 2, 1) := by decide +kernel
theorem dX12_asked_65 : decode cX12_asked 65 = .ok (.invokevirtual 250, 3) := by decide +kernel
theorem dX12_asked_68 : decode cX12_asked 68 = .ok (.invokevirtual 243, 3) := by decide +kernel
theorem dX12_asked_71 : decode cX12_asked 71 = .ok (.ireturn, 1) := by decide +kernel
theorem dX12_asked_72 : decode cX12_asked 72 = .ok (.aload_n 0, 1) := by decide +kernel
theorem dX12_asked_73 : decode cX12_asked 73 = .ok (.aload_n 0, 1) := by decide +kernel
theorem dX12_asked_74 : decode cX12_asked 74 = .ok (.iload_n 2, 1) := by decide +kernel
theorem dX12_asked_75 : decode cX12_asked 75 = .ok (.invokevirtual 253, 3) := by decide +kernel
theorem dX12_asked_78 : decode cX12_asked 78 = .ok (.invokevirtual 243, 3) := by decide +kernel
theorem dX12_asked_81 : decode cX12_asked 81 = .ok (.ireturn, 1) := by decide +kernel
theorem dX12_asked_82 : decode cX12_asked 82 = .ok (.aload_n 0, 1) := by decide +kernel
theorem dX12_asked_83 : decode cX12_asked 83 = .ok (.aload_n 0, 1) := by decide +kernel
theorem dX12_asked_84 : decode cX12_asked 84 = .ok (.iload_n 2, 1) := by decide +kernel
theorem dX12_asked_85 : decode cX12_asked 85 = .ok (.invokevirtual 247, 3) := by decide +kernel
theorem dX12_asked_88 : decode cX12_asked 88 = .ok (.invokevirtual 243, 3) := by decide +kernel
theorem dX12_asked_91 : decode cX12_asked 91 = .ok (.ireturn, 1) := by decide +kernel
theorem dX12_came_0 : decode cX12_came 0 = .ok (.aload_n 0, 1) := by decide +kernel
theorem dX12_came_1 : decode cX12_came 1 = .ok (.getfield 120, 3) := by decide +kernel
theorem dX12_came_4 : decode cX12_came 4 = .ok (.iload_n 1, 1) := by decide +kernel
theorem dX12_came_5 : decode cX12_came 5 = .ok (.aload_n 0, 1) := by decide +kernel
theorem dX12_came_6 : decode cX12_came 6 = .ok (.getfield 120, 3) := by decide +kernel
theorem dX12_came_9 : decode cX12_came 9 = .ok (.iload_n 1, 1) := by decide +kernel
theorem dX12_came_10 : decode cX12_came 10 = .ok (.baload, 1) := by decide +kernel
theorem dX12_came_11 : decode cX12_came 11 = .ok (.ifCond .eq 29, 3) := by decide +kernel
theorem dX12_came_14 : decode cX12_came 14 = .ok (.aload_n 0, 1) := by decide +kernel
theorem dX12_came_15 : decode cX12_came 15 = .ok (.getfield 123, 3) := by decide +kernel
theorem dX12_came_18 : decode cX12_came 18 = .ok (.iload_n 1, 1) := by decide +kernel
theorem dX12_came_19 : decode cX12_came 19 = .ok (.iaload, 1) := by decide +kernel
theorem dX12_came_20 : decode cX12_came 20 = .ok (.iconst 2, 1) := by decide +kernel
theorem dX12_came_21 : decode cX12_came 21 = .ok (.irem, 1) := by decide +kernel
theorem dX12_came_22 : decode cX12_came 22 = .ok (.ifCond .ne 10, 3) := by decide +kernel
theorem dX12_came_25 : decode cX12_came 25 = .ok (.iload_n 2, 1) := by decide +kernel
theorem dX12_came_26 : decode cX12_came 26 = .ok (.ifCond .eq 14, 3) := by decide +kernel
theorem dX12_came_29 : decode cX12_came 29 = .ok (.goto 7, 3) := by decide +kernel
theorem dX12_came_32 : decode cX12_came 32 = .ok (.iload_n 2, 1) := by decide +kernel
theorem dX12_came_33 : decode cX12_came 33 = .ok (.ifCond .ne 7, 3) := by decide +kernel
theorem dX12_came_36 : decode cX12_came 36 = .ok (.iconst 1, 1) := by decide +kernel
theorem dX12_came_37 : decode cX12_came 37 = .ok (.goto 4, 3) := by decide +kernel
theorem dX12_came_40 : decode cX12_came 40 = .ok (.iconst 0, 1) := by decide +kernel
theorem dX12_came_41 : decode cX12_came 41 = .ok (.bastore, 1) := by decide +kernel
theorem dX12_came_42 : decode cX12_came 42 = .ok (.aload_n 0, 1) := by decide +kernel
theorem dX12_came_43 : decode cX12_came 43 = .ok (.getfield 123, 3) := by decide +kernel
theorem dX12_came_46 : decode cX12_came 46 = .ok (.iload_n 1, 1) := by decide +kernel
theorem dX12_came_47 : decode cX12_came 47 = .ok (.iconst 0, 1) := by decide +kernel
theorem dX12_came_48 : decode cX12_came 48 = .ok (.iastore, 1) := by decide +kernel
theorem dX12_came_49 : decode cX12_came 49 = .ok (.return_, 1) := by decide +kernel
theorem dX12_begin_0 : decode cX12_begin 0 = .ok (.aload_n 0, 1) := by decide +kernel
theorem dX12_begin_1 : decode cX12_begin 1 = .ok (.getfield 117, 3) := by decide +kernel
theorem dX12_begin_4 : decode cX12_begin 4 = .ok (.iload_n 1, 1) := by decide +kernel
theorem dX12_begin_5 : decode cX12_begin 5 = .ok (.iconst 0, 1) := by decide +kernel
theorem dX12_begin_6 : decode cX12_begin 6 = .ok (.bastore, 1) := by decide +kernel
theorem dX12_begin_7 : decode cX12_begin 7 = .ok (.aload_n 0, 1) := by decide +kernel
theorem dX12_begin_8 : decode cX12_begin 8 = .ok (.getfield 120, 3) := by decide +kernel
theorem dX12_begin_11 : decode cX12_begin 11 = .ok (.iload_n 1, 1) := by decide +kernel
theorem dX12_begin_12 : decode cX12_begin 12 = .ok (.iconst 1, 1) := by decide +kernel
theorem dX12_begin_13 : decode cX12_begin 13 = .ok (.bastore, 1) := by decide +kernel
theorem dX12_begin_14 : decode cX12_begin 14 = .ok (.aload_n 0, 1) := by decide +kernel
theorem dX12_begin_15 : decode cX12_begin 15 = .ok (.getfield 123, 3) := by decide +kernel
theorem dX12_begin_18 : decode cX12_begin 18 = .ok (.iload_n 1, 1) := by decide +kernel
theorem dX12_begin_19 : decode cX12_begin 19 = .ok (.iconst 0, 1) := by decide +kernel
theorem dX12_begin_20 : decode cX12_begin 20 = .ok (.iastore, 1) := by decide +kernel
theorem dX12_begin_21 : decode cX12_begin 21 = .ok (.return_, 1) := by decide +kernel
theorem dX12_isHeld_0 : decode cX12_isHeld 0 = .ok (.iconst 0, 1) := by decide +kernel
theorem dX12_isHeld_1 : decode cX12_isHeld 1 = .ok (.istore_n 1, 1) := by decide +kernel
theorem dX12_isHeld_2 : decode cX12_isHeld 2 = .ok (.aload_n 0, 1) := by decide +kernel
theorem dX12_isHeld_3 : decode cX12_isHeld 3 = .ok (.iconst 0, 1) := by decide +kernel
theorem dX12_isHeld_4 : decode cX12_isHeld 4 = .ok (.invokevirtual 356, 3) := by decide +kernel
theorem dX12_isHeld_7 : decode cX12_isHeld 7 = .ok (.iconst 0, 1) := by decide +kernel
theorem dX12_isHeld_8 : decode cX12_isHeld 8 = .ok (.istore_n 2, 1) := by decide +kernel
theorem dX12_isHeld_9 : decode cX12_isHeld 9 = .ok (.iload_n 2, 1) := by decide +kernel
theorem dX12_isHeld_10 : decode cX12_isHeld 10 = .ok (.aload_n 0, 1) := by decide +kernel
theorem dX12_isHeld_11 : decode cX12_isHeld 11 = .ok (.getfield 340, 3) := by decide +kernel
theorem dX12_isHeld_14 : decode cX12_isHeld 14 = .ok (.if_icmp .ge 329, 3) := by decide +kernel
theorem dX12_isHeld_17 : decode cX12_isHeld 17 = .ok (.aload_n 0, 1) := by decide +kernel
theorem dX12_isHeld_18 : decode cX12_isHeld 18 = .ok (.getfield 114, 3) := by decide +kernel
theorem dX12_isHeld_21 : decode cX12_isHeld 21 = .ok (.iload_n 2, 1) := by decide +kernel
theorem dX12_isHeld_22 : decode cX12_isHeld 22 = .ok (.iaload, 1) := by decide +kernel
theorem dX12_isHeld_23 : decode cX12_isHeld 23 = .ok (.istore_n 3, 1) := by decide +kernel
theorem dX12_isHeld_24 : decode cX12_isHeld 24 = .ok (.iinc 2 1, 3) := by decide +kernel
theorem dX12_isHeld_27 : decode cX12_isHeld 27 = .ok (.iload_n 3, 1) := by decide +kernel
theorem dX12_isHeld_28 : decode cX12_isHeld 28 = .ok (.bipush 33, 2) := by decide +kernel
theorem dX12_isHeld_30 : decode cX12_isHeld 30 = .ok (.if_icmp .ne 16, 3) := by decide +kernel
theorem dX12_isHeld_33 : decode cX12_isHeld 33 = .ok (.aload_n 0, 1) := by decide +kernel
theorem dX12_isHeld_34 : decode cX12_isHeld 34 = .ok (.getfield 123, 3) := by decide +kernel
theorem dX12_isHeld_37 : decode cX12_isHeld 37 = .ok (.iload_n 1, 1) := by decide +kernel
theorem dX12_isHeld_38 : decode cX12_isHeld 38 = .ok (.dup2, 1) := by decide +kernel
theorem dX12_isHeld_39 : decode cX12_isHeld 39 = .ok (.iaload, 1) := by decide +kernel
theorem dX12_isHeld_40 : decode cX12_isHeld 40 = .ok (.iconst 1, 1) := by decide +kernel
theorem dX12_isHeld_41 : decode cX12_isHeld 41 = .ok (.iadd, 1) := by decide +kernel
theorem dX12_isHeld_42 : decode cX12_isHeld 42 = .ok (.iastore, 1) := by decide +kernel
theorem dX12_isHeld_43 : decode cX12_isHeld 43 = .ok (.goto 297, 3) := by decide +kernel
theorem dX12_isHeld_46 : decode cX12_isHeld 46 = .ok (.iload_n 3, 1) := by decide +kernel
theorem dX12_isHeld_47 : decode cX12_isHeld 47 = .ok (.bipush 40, 2) := by decide +kernel
theorem dX12_isHeld_49 : decode cX12_isHeld 49 = .ok (.if_icmp .ne 14, 3) := by decide +kernel
theorem dX12_isHeld_52 : decode cX12_isHeld 52 = .ok (.iinc 1 1, 3) := by decide +kernel
theorem dX12_isHeld_55 : decode cX12_isHeld 55 = .ok (.aload_n 0, 1) := by decide +kernel
theorem dX12_isHeld_56 : decode cX12_isHeld 56 = .ok (.iload_n 1, 1) := by decide +kernel
theorem dX12_isHeld_57 : decode cX12_isHeld 57 = .ok (.invokevirtual 356, 3) := by decide +kernel
theorem dX12_isHeld_60 : decode cX12_isHeld 60 = .ok (.goto 280, 3) := by decide +kernel
theorem dX12_isHeld_63 : decode cX12_isHeld 63 = .ok (.iload_n 3, 1) := by decide +kernel
theorem dX12_isHeld_64 : decode cX12_isHeld 64 = .ok (.bipush 41, 2) := by decide +kernel
theorem dX12_isHeld_66 : decode cX12_isHeld 66 = .ok (.if_icmp .ne 41, 3) := by decide +kernel
theorem dX12_isHeld_69 : decode cX12_isHeld 69 = .ok (.aload_n 0, 1) := by decide +kernel
theorem dX12_isHeld_70 : decode cX12_isHeld 70 = .ok (.getfield 117, 3) := by decide +kernel
theorem dX12_isHeld_73 : decode cX12_isHeld 73 = .ok (.iload_n 1, 1) := by decide +kernel
theorem dX12_isHeld_74 : decode cX12_isHeld 74 = .ok (.baload, 1) := by decide +kernel
theorem dX12_isHeld_75 : decode cX12_isHeld 75 = .ok (.ifCond .ne 12, 3) := by decide +kernel
theorem dX12_isHeld_78 : decode cX12_isHeld 78 = .ok (.aload_n 0, 1) := by decide +kernel
theorem dX12_isHeld_79 : decode cX12_isHeld 79 = .ok (.getfield 120, 3) := by decide +kernel
theorem dX12_isHeld_82 : decode cX12_isHeld 82 = .ok (.iload_n 1, 1) := by decide +kernel
theorem dX12_isHeld_83 : decode cX12_isHeld 83 = .ok (.baload, 1) := by decide +kernel
theorem dX12_isHeld_84 : decode cX12_isHeld 84 = .ok (.ifCond .eq 7, 3) := by decide +kernel
theorem dX12_isHeld_87 : decode cX12_isHeld 87 = .ok (.iconst 1, 1) := by decide +kernel
theorem dX12_isHeld_88 : decode cX12_isHeld 88 = .ok (.goto 4, 3) := by decide +kernel
theorem dX12_isHeld_91 : decode cX12_isHeld 91 = .ok (.iconst 0, 1) := by decide +kernel
theorem dX12_isHeld_92 : decode cX12_isHeld 92 = .ok (.istore 4, 2) := by decide +kernel
theorem dX12_isHeld_94 : decode cX12_isHeld 94 = .ok (.iinc 1 (-1), 3) := by decide +kernel
theorem dX12_isHeld_97 : decode cX12_isHeld 97 = .ok (.aload_n 0, 1) := by decide +kernel
theorem dX12_isHeld_98 : decode cX12_isHeld 98 = .ok (.iload_n 1, 1) := by decide +kernel
theorem dX12_isHeld_99 : decode cX12_isHeld 99 = .ok (.iload 4, 2) := by decide +kernel
theorem dX12_isHeld_101 : decode cX12_isHeld 101 = .ok (.invokevirtual 359, 3) := by decide +kernel
theorem dX12_isHeld_104 : decode cX12_isHeld 104 = .ok (.goto 236, 3) := by decide +kernel
theorem dX12_isHeld_107 : decode cX12_isHeld 107 = .ok (.iload_n 3, 1) := by decide +kernel
theorem dX12_isHeld_108 : decode cX12_isHeld 108 = .ok (.bipush 124, 2) := by decide +kernel
theorem dX12_isHeld_110 : decode cX12_isHeld 110 = .ok (.if_icmp .ne 42, 3) := by decide +kernel
theorem dX12_isHeld_113 : decode cX12_isHeld 113 = .ok (.aload_n 0, 1) := by decide +kernel
theorem dX12_isHeld_114 : decode cX12_isHeld 114 = .ok (.getfield 117, 3) := by decide +kernel
theorem dX12_isHeld_117 : decode cX12_isHeld 117 = .ok (.iload_n 1, 1) := by decide +kernel
theorem dX12_isHeld_118 : decode cX12_isHeld 118 = .ok (.aload_n 0, 1) := by decide +kernel
theorem dX12_isHeld_119 : decode cX12_isHeld 119 = .ok (.getfield 117, 3) := by decide +kernel
theorem dX12_isHeld_122 : decode cX12_isHeld 122 = .ok (.iload_n 1, 1) := by decide +kernel
theorem dX12_isHeld_123 : decode cX12_isHeld 123 = .ok (.baload, 1) := by decide +kernel
theorem dX12_isHeld_124 : decode cX12_isHeld 124 = .ok (.ifCond .ne 12, 3) := by decide +kernel
theorem dX12_isHeld_127 : decode cX12_isHeld 127 = .ok (.aload_n 0, 1) := by decide +kernel
theorem dX12_isHeld_128 : decode cX12_isHeld 128 = .ok (.getfield 120, 3) := by decide +kernel
theorem dX12_isHeld_131 : decode cX12_isHeld 131 = .ok (.iload_n 1, 1) := by decide +kernel
theorem dX12_isHeld_132 : decode cX12_isHeld 132 = .ok (.baload, 1) := by decide +kernel
theorem dX12_isHeld_133 : decode cX12_isHeld 133 = .ok (.ifCond .eq 7, 3) := by decide +kernel
theorem dX12_isHeld_136 : decode cX12_isHeld 136 = .ok (.iconst 1, 1) := by decide +kernel
theorem dX12_isHeld_137 : decode cX12_isHeld 137 = .ok (.goto 4, 3) := by decide +kernel
theorem dX12_isHeld_140 : decode cX12_isHeld 140 = .ok (.iconst 0, 1) := by decide +kernel
theorem dX12_isHeld_141 : decode cX12_isHeld 141 = .ok (.bastore, 1) := by decide +kernel
theorem dX12_isHeld_142 : decode cX12_isHeld 142 = .ok (.aload_n 0, 1) := by decide +kernel
theorem dX12_isHeld_143 : decode cX12_isHeld 143 = .ok (.getfield 120, 3) := by decide +kernel
theorem dX12_isHeld_146 : decode cX12_isHeld 146 = .ok (.iload_n 1, 1) := by decide +kernel
theorem dX12_isHeld_147 : decode cX12_isHeld 147 = .ok (.iconst 1, 1) := by decide +kernel
theorem dX12_isHeld_148 : decode cX12_isHeld 148 = .ok (.bastore, 1) := by decide +kernel
theorem dX12_isHeld_149 : decode cX12_isHeld 149 = .ok (.goto 191, 3) := by decide +kernel
theorem dX12_isHeld_152 : decode cX12_isHeld 152 = .ok (.iload_n 3, 1) := by decide +kernel
theorem dX12_isHeld_153 : decode cX12_isHeld 153 = .ok (.bipush 38, 2) := by decide +kernel
theorem dX12_isHeld_155 : decode cX12_isHeld 155 = .ok (.if_icmp .eq 185, 3) := by decide +kernel
theorem dX12_isHeld_158 : decode cX12_isHeld 158 = .ok (.aload_n 0, 1) := by decide +kernel
theorem dX12_isHeld_159 : decode cX12_isHeld 159 = .ok (.iload_n 3, 1) := by decide +kernel
theorem dX12_isHeld_160 : decode cX12_isHeld 160 = .ok (.aload_n 0, 1) := by decide +kernel
theorem dX12_isHeld_161 : decode cX12_isHeld 161 = .ok (.getfield 114, 3) := by decide +kernel
theorem dX12_isHeld_164 : decode cX12_isHeld 164 = .ok (.iload_n 2, 1) := by decide +kernel
theorem dX12_isHeld_165 : decode cX12_isHeld 165 = .ok (.iaload, 1) := by decide +kernel
theorem dX12_isHeld_166 : decode cX12_isHeld 166 = .ok (.bipush 48, 2) := by decide +kernel
theorem dX12_isHeld_168 : decode cX12_isHeld 168 = .ok (.isub, 1) := by decide +kernel
theorem dX12_isHeld_169 : decode cX12_isHeld 169 = .ok (.invokevirtual 363, 3) := by decide +kernel
theorem dX12_isHeld_172 : decode cX12_isHeld 172 = .ok (.istore 4, 2) := by decide +kernel
theorem dX12_isHeld_174 : decode cX12_isHeld 174 = .ok (.aload_n 0, 1) := by decide +kernel
theorem dX12_isHeld_175 : decode cX12_isHeld 175 = .ok (.getfield 114, 3) := by decide +kernel
theorem dX12_isHeld_178 : decode cX12_isHeld 178 = .ok (.iload_n 2, 1) := by decide +kernel
theorem dX12_isHeld_179 : decode cX12_isHeld 179 = .ok (.iconst 1, 1) := by decide +kernel
theorem dX12_isHeld_180 : decode cX12_isHeld 180 = .ok (.iadd, 1) := by decide +kernel
theorem dX12_isHeld_181 : decode cX12_isHeld 181 = .ok (.iaload, 1) := by decide +kernel
theorem dX12_isHeld_182 : decode cX12_isHeld 182 = .ok (.istore 5, 2) := by decide +kernel
theorem dX12_isHeld_184 : decode cX12_isHeld 184 = .ok (.iinc 2 2, 3) := by decide +kernel
theorem dX12_isHeld_187 : decode cX12_isHeld 187 = .ok (.aload_n 0, 1) := by decide +kernel
theorem dX12_isHeld_188 : decode cX12_isHeld 188 = .ok (.getfield 114, 3) := by decide +kernel
theorem dX12_isHeld_191 : decode cX12_isHeld 191 = .ok (.iload_n 2, 1) := by decide +kernel
theorem dX12_isHeld_192 : decode cX12_isHeld 192 = .ok (.iaload, 1) := by decide +kernel
theorem dX12_isHeld_193 : decode cX12_isHeld 193 = .ok (.bipush 45, 2) := by decide +kernel
theorem dX12_isHeld_195 : decode cX12_isHeld 195 = .ok (.if_icmp .ne 7, 3) := by decide +kernel
theorem dX12_isHeld_198 : decode cX12_isHeld 198 = .ok (.iconst 1, 1) := by decide +kernel
theorem dX12_isHeld_199 : decode cX12_isHeld 199 = .ok (.goto 4, 3) := by decide +kernel
theorem dX12_isHeld_202 : decode cX12_isHeld 202 = .ok (.iconst 0, 1) := by decide +kernel
theorem dX12_isHeld_203 : decode cX12_isHeld 203 = .ok (.istore 6, 2) := by decide +kernel
theorem dX12_isHeld_205 : decode cX12_isHeld 205 = .ok (.iload_n 2, 1) := by decide +kernel
theorem dX12_isHeld_206 : decode cX12_isHeld 206 = .ok (.iload 6, 2) := by decide +kernel
theorem dX12_isHeld_208 : decode cX12_isHeld 208 = .ok (.ifCond .eq 7, 3) := by decide +kernel
theorem dX12_isHeld_211 : decode cX12_isHeld 211 = .ok (.iconst 1, 1) := by decide +kernel
theorem dX12_isHeld_212 : decode cX12_isHeld 212 = .ok (.goto 4, 3) := by decide +kernel
theorem dX12_isHeld_215 : decode cX12_isHeld 215 = .ok (.iconst 0, 1) := by decide +kernel
theorem dX12_isHeld_216 : decode cX12_isHeld 216 = .ok (.iadd, 1) := by decide +kernel
theorem dX12_isHeld_217 : decode cX12_isHeld 217 = .ok (.istore_n 2, 1) := by decide +kernel
theorem dX12_isHeld_218 : decode cX12_isHeld 218 = .ok (.iconst 0, 1) := by decide +kernel
theorem dX12_isHeld_219 : decode cX12_isHeld 219 = .ok (.istore 7, 2) := by decide +kernel
theorem dX12_isHeld_221 : decode cX12_isHeld 221 = .ok (.iload_n 2, 1) := by decide +kernel
theorem dX12_isHeld_222 : decode cX12_isHeld 222 = .ok (.aload_n 0, 1) := by decide +kernel
theorem dX12_isHeld_223 : decode cX12_isHeld 223 = .ok (.getfield 340, 3) := by decide +kernel
theorem dX12_isHeld_226 : decode cX12_isHeld 226 = .ok (.if_icmp .ge 38, 3) := by decide +kernel
theorem dX12_isHeld_229 : decode cX12_isHeld 229 = .ok (.aload_n 0, 1) := by decide +kernel
theorem dX12_isHeld_230 : decode cX12_isHeld 230 = .ok (.getfield 114, 3) := by decide +kernel
theorem dX12_isHeld_233 : decode cX12_isHeld 233 = .ok (.iload_n 2, 1) := by decide +kernel
theorem dX12_isHeld_234 : decode cX12_isHeld 234 = .ok (.iaload, 1) := by decide +kernel
theorem dX12_isHeld_235 : decode cX12_isHeld 235 = .ok (.invokestatic 350, 3) := by decide +kernel
theorem dX12_isHeld_238 : decode cX12_isHeld 238 = .ok (.ifCond .eq 26, 3) := by decide +kernel
theorem dX12_isHeld_241 : decode cX12_isHeld 241 = .ok (.bipush 10, 2) := by decide +kernel
theorem dX12_isHeld_243 : decode cX12_isHeld 243 = .ok (.iload 7, 2) := by decide +kernel
theorem dX12_isHeld_245 : decode cX12_isHeld 245 = .ok (.imul, 1) := by decide +kernel
theorem dX12_isHeld_246 : decode cX12_isHeld 246 = .ok (.aload_n 0, 1) := by decide +kernel
theorem dX12_isHeld_247 : decode cX12_isHeld 247 = .ok (.getfield 114, 3) := by decide +kernel
theorem dX12_isHeld_250 : decode cX12_isHeld 250 = .ok (.iload_n 2, 1) := by decide +kernel
theorem dX12_isHeld_251 : decode cX12_isHeld 251 = .ok (.iaload, 1) := by decide +kernel
theorem dX12_isHeld_252 : decode cX12_isHeld 252 = .ok (.iadd, 1) := by decide +kernel
theorem dX12_isHeld_253 : decode cX12_isHeld 253 = .ok (.bipush 48, 2) := by decide +kernel
theorem dX12_isHeld_255 : decode cX12_isHeld 255 = .ok (.isub, 1) := by decide +kernel
theorem dX12_isHeld_256 : decode cX12_isHeld 256 = .ok (.istore 7, 2) := by decide +kernel
theorem dX12_isHeld_258 : decode cX12_isHeld 258 = .ok (.iinc 2 1, 3) := by decide +kernel
theorem dX12_isHeld_261 : decode cX12_isHeld 261 = .ok (.goto (-40), 3) := by decide +kernel
theorem dX12_isHeld_264 : decode cX12_isHeld 264 = .ok (.iload 6, 2) := by decide +kernel
theorem dX12_isHeld_266 : decode cX12_isHeld 266 = .ok (.ifCond .eq 9, 3) := by decide +kernel
theorem dX12_isHeld_269 : decode cX12_isHeld 269 = .ok (.iload 7, 2) := by decide +kernel
theorem dX12_isHeld_271 : decode cX12_isHeld 271 = .ok (.ineg, 1) := by decide +kernel
theorem dX12_isHeld_272 : decode cX12_isHeld 272 = .ok (.goto 5, 3) := by decide +kernel
theorem dX12_isHeld_275 : decode cX12_isHeld 275 = .ok (.iload 7, 2) := by decide +kernel
theorem dX12_isHeld_277 : decode cX12_isHeld 277 = .ok (.istore 7, 2) := by decide +kernel
theorem dX12_isHeld_279 : decode cX12_isHeld 279 = .ok (.aload_n 0, 1) := by decide +kernel
theorem dX12_isHeld_280 : decode cX12_isHeld 280 = .ok (.iload_n 1, 1) := by decide +kernel
theorem dX12_isHeld_281 : decode cX12_isHeld 281 = .ok (.iload 5, 2) := by decide +kernel
theorem dX12_isHeld_283 : decode cX12_isHeld 283 = .ok (.bipush 60, 2) := by decide +kernel
theorem dX12_isHeld_285 : decode cX12_isHeld 285 = .ok (.if_icmp .ne 18, 3) := by decide +kernel
theorem dX12_isHeld_288 : decode cX12_isHeld 288 = .ok (.iload 4, 2) := by decide +kernel
theorem dX12_isHeld_290 : decode cX12_isHeld 290 = .ok (.iload 7, 2) := by decide +kernel
theorem dX12_isHeld_292 : decode cX12_isHeld 292 = .ok (.if_icmp .ge 7, 3) := by decide +kernel
theorem dX12_isHeld_295 : decode cX12_isHeld 295 = .ok (.iconst 1, 1) := by decide +kernel
theorem dX12_isHeld_296 : decode cX12_isHeld 296 = .ok (.goto 41, 3) := by decide +kernel
theorem dX12_isHeld_299 : decode cX12_isHeld 299 = .ok (.iconst 0, 1) := by decide +kernel
theorem dX12_isHeld_300 : decode cX12_isHeld 300 = .ok (.goto 37, 3) := by decide +kernel
theorem dX12_isHeld_303 : decode cX12_isHeld 303 = .ok (.iload 5, 2) := by decide +kernel
theorem dX12_isHeld_305 : decode cX12_isHeld 305 = .ok (.bipush 62, 2) := by decide +kernel
theorem dX12_isHeld_307 : decode cX12_isHeld 307 = .ok (.if_icmp .ne 18, 3) := by decide +kernel
theorem dX12_isHeld_310 : decode cX12_isHeld 310 = .ok (.iload 4, 2) := by decide +kernel
theorem dX12_isHeld_312 : decode cX12_isHeld 312 = .ok (.iload 7, 2) := by decide +kernel
theorem dX12_isHeld_314 : decode cX12_isHeld 314 = .ok (.if_icmp .le 7, 3) := by decide +kernel
theorem dX12_isHeld_317 : decode cX12_isHeld 317 = .ok (.iconst 1, 1) := by decide +kernel
theorem dX12_isHeld_318 : decode cX12_isHeld 318 = .ok (.goto 19, 3) := by decide +kernel
theorem dX12_isHeld_321 : decode cX12_isHeld 321 = .ok (.iconst 0, 1) := by decide +kernel
theorem dX12_isHeld_322 : decode cX12_isHeld 322 = .ok (.goto 15, 3) := by decide +kernel
theorem dX12_isHeld_325 : decode cX12_isHeld 325 = .ok (.iload 4, 2) := by decide +kernel
theorem dX12_isHeld_327 : decode cX12_isHeld 327 = .ok (.iload 7, 2) := by decide +kernel
theorem dX12_isHeld_329 : decode cX12_isHeld 329 = .ok (.if_icmp .ne 7, 3) := by decide +kernel
theorem dX12_isHeld_332 : decode cX12_isHeld 332 = .ok (.iconst 1, 1) := by decide +kernel
theorem dX12_isHeld_333 : decode cX12_isHeld 333 = .ok (.goto 4, 3) := by decide +kernel
theorem dX12_isHeld_336 : decode cX12_isHeld 336 = .ok (.iconst 0, 1) := by decide +kernel
theorem dX12_isHeld_337 : decode cX12_isHeld 337 = .ok (.invokevirtual 359, 3) := by decide +kernel
theorem dX12_isHeld_340 : decode cX12_isHeld 340 = .ok (.goto (-331), 3) := by decide +kernel
theorem dX12_isHeld_343 : decode cX12_isHeld 343 = .ok (.aload_n 0, 1) := by decide +kernel
theorem dX12_isHeld_344 : decode cX12_isHeld 344 = .ok (.getfield 117, 3) := by decide +kernel
theorem dX12_isHeld_347 : decode cX12_isHeld 347 = .ok (.iconst 0, 1) := by decide +kernel
theorem dX12_isHeld_348 : decode cX12_isHeld 348 = .ok (.baload, 1) := by decide +kernel
theorem dX12_isHeld_349 : decode cX12_isHeld 349 = .ok (.ifCond .ne 12, 3) := by decide +kernel
theorem dX12_isHeld_352 : decode cX12_isHeld 352 = .ok (.aload_n 0, 1) := by decide +kernel
theorem dX12_isHeld_353 : decode cX12_isHeld 353 = .ok (.getfield 120, 3) := by decide +kernel
theorem dX12_isHeld_356 : decode cX12_isHeld 356 = .ok (.iconst 0, 1) := by decide +kernel
theorem dX12_isHeld_357 : decode cX12_isHeld 357 = .ok (.baload, 1) := by decide +kernel
theorem dX12_isHeld_358 : decode cX12_isHeld 358 = .ok (.ifCond .eq 7, 3) := by decide +kernel
theorem dX12_isHeld_361 : decode cX12_isHeld 361 = .ok (.iconst 1, 1) := by decide +kernel
theorem dX12_isHeld_362 : decode cX12_isHeld 362 = .ok (.goto 4, 3) := by decide +kernel
theorem dX12_isHeld_365 : decode cX12_isHeld 365 = .ok (.iconst 0, 1) := by decide +kernel
theorem dX12_isHeld_366 : decode cX12_isHeld 366 = .ok (.ireturn, 1) := by decide +kernel
theorem dX12_holds_0 : decode cX12_holds 0 = .ok (.aload_n 0, 1) := by decide +kernel
theorem dX12_holds_1 : decode cX12_holds 1 = .ok (.iconst 0, 1) := by decide +kernel
theorem dX12_holds_2 : decode cX12_holds 2 = .ok (.putfield 133, 3) := by decide +kernel
theorem dX12_holds_5 : decode cX12_holds 5 = .ok (.aload_n 0, 1) := by decide +kernel
theorem dX12_holds_6 : decode cX12_holds 6 = .ok (.getfield 340, 3) := by decide +kernel
theorem dX12_holds_9 : decode cX12_holds 9 = .ok (.ifCond .eq 19, 3) := by decide +kernel
theorem dX12_holds_12 : decode cX12_holds 12 = .ok (.aload_n 0, 1) := by decide +kernel
theorem dX12_holds_13 : decode cX12_holds 13 = .ok (.invokevirtual 353, 3) := by decide +kernel
theorem dX12_holds_16 : decode cX12_holds 16 = .ok (.ldc 132, 2) := by decide +kernel
theorem dX12_holds_18 : decode cX12_holds 18 = .ok (.if_icmp .ne 10, 3) := by decide +kernel
theorem dX12_holds_21 : decode cX12_holds 21 = .ok (.aload_n 0, 1) := by decide +kernel
theorem dX12_holds_22 : decode cX12_holds 22 = .ok (.invokevirtual 229, 3) := by decide +kernel
theorem dX12_holds_25 : decode cX12_holds 25 = .ok (.ifCond .ne 6, 3) := by decide +kernel
theorem dX12_holds_28 : decode cX12_holds 28 = .ok (.ldc 163, 2) := by decide +kernel
theorem dX12_holds_30 : decode cX12_holds 30 = .ok (.ireturn, 1) := by decide +kernel
theorem dX12_holds_31 : decode cX12_holds 31 = .ok (.aload_n 0, 1) := by decide +kernel
theorem dX12_holds_32 : decode cX12_holds 32 = .ok (.invokevirtual 366, 3) := by decide +kernel
theorem dX12_holds_35 : decode cX12_holds 35 = .ok (.ifCond .eq 7, 3) := by decide +kernel
theorem dX12_holds_38 : decode cX12_holds 38 = .ok (.iconst 1, 1) := by decide +kernel
theorem dX12_holds_39 : decode cX12_holds 39 = .ok (.goto 4, 3) := by decide +kernel
theorem dX12_holds_42 : decode cX12_holds 42 = .ok (.iconst 0, 1) := by decide +kernel
theorem dX12_holds_43 : decode cX12_holds 43 = .ok (.ireturn, 1) := by decide +kernel
theorem dX12_limit_0 : decode cX12_limit 0 = .ok (.aload_n 0, 1) := by decide +kernel
theorem dX12_limit_1 : decode cX12_limit 1 = .ok (.iconst 0, 1) := by decide +kernel
theorem dX12_limit_2 : decode cX12_limit 2 = .ok (.putfield 133, 3) := by decide +kernel
theorem dX12_limit_5 : decode cX12_limit 5 = .ok (.aload_n 0, 1) := by decide +kernel
theorem dX12_limit_6 : decode cX12_limit 6 = .ok (.iload_n 1, 1) := by decide +kernel
theorem dX12_limit_7 : decode cX12_limit 7 = .ok (.invokevirtual 155, 3) := by decide +kernel
theorem dX12_limit_10 : decode cX12_limit 10 = .ok (.ifCond .eq 6, 3) := by decide +kernel
theorem dX12_limit_13 : decode cX12_limit 13 = .ok (.ldc 159, 2) := by decide +kernel
theorem dX12_limit_15 : decode cX12_limit 15 = .ok (.ireturn, 1) := by decide +kernel
theorem dX12_limit_16 : decode cX12_limit 16 = .ok (.iload_n 2, 1) := by decide +kernel
theorem dX12_limit_17 : decode cX12_limit 17 = .ok (.ldc 132, 2) := by decide +kernel
theorem dX12_limit_19 : decode cX12_limit 19 = .ok (.if_icmp .eq 18, 3) := by decide +kernel
theorem dX12_limit_22 : decode cX12_limit 22 = .ok (.iload_n 2, 1) := by decide +kernel
theorem dX12_limit_23 : decode cX12_limit 23 = .ok (.i2l, 1) := by decide +kernel
theorem dX12_limit_24 : decode cX12_limit 24 = .ok (.lconst 0, 1) := by decide +kernel
theorem dX12_limit_25 : decode cX12_limit 25 = .ok (.ldc2_w 369, 3) := by decide +kernel
theorem dX12_limit_28 : decode cX12_limit 28 = .ok (.invokestatic 140, 3) := by decide +kernel
theorem dX12_limit_31 : decode cX12_limit 31 = .ok (.ifCond .ne 6, 3) := by decide +kernel
theorem dX12_limit_34 : decode cX12_limit 34 = .ok (.ldc 153, 2) := by decide +kernel
theorem dX12_limit_36 : decode cX12_limit 36 = .ok (.ireturn, 1) := by decide +kernel
theorem dX12_limit_37 : decode cX12_limit 37 = .ok (.aload_n 0, 1) := by decide +kernel
theorem dX12_limit_38 : decode cX12_limit 38 = .ok (.getfield 126, 3) := by decide +kernel
theorem dX12_limit_41 : decode cX12_limit 41 = .ok (.iload_n 1, 1) := by decide +kernel
theorem dX12_limit_42 : decode cX12_limit 42 = .ok (.iaload, 1) := by decide +kernel
theorem dX12_limit_43 : decode cX12_limit 43 = .ok (.istore_n 3, 1) := by decide +kernel
theorem dX12_limit_44 : decode cX12_limit 44 = .ok (.aload_n 0, 1) := by decide +kernel
theorem dX12_limit_45 : decode cX12_limit 45 = .ok (.getfield 126, 3) := by decide +kernel
theorem dX12_limit_48 : decode cX12_limit 48 = .ok (.iload_n 1, 1) := by decide +kernel
theorem dX12_limit_49 : decode cX12_limit 49 = .ok (.iload_n 2, 1) := by decide +kernel
theorem dX12_limit_50 : decode cX12_limit 50 = .ok (.iastore, 1) := by decide +kernel
theorem dX12_limit_51 : decode cX12_limit 51 = .ok (.iload_n 3, 1) := by decide +kernel
theorem dX12_limit_52 : decode cX12_limit 52 = .ok (.ireturn, 1) := by decide +kernel
theorem dX12_draws_0 : decode cX12_draws 0 = .ok (.iload_n 1, 1) := by decide +kernel
theorem dX12_draws_1 : decode cX12_draws 1 = .ok (.istore_n 2, 1) := by decide +kernel
theorem dX12_draws_2 : decode cX12_draws 2 = .ok (.iconst 2, 1) := by decide +kernel
theorem dX12_draws_3 : decode cX12_draws 3 = .ok (.istore_n 3, 1) := by decide +kernel
theorem dX12_draws_4 : decode cX12_draws 4 = .ok (.iload_n 3, 1) := by decide +kernel
theorem dX12_draws_5 : decode cX12_draws 5 = .ok (.ifCond .lt 31, 3) := by decide +kernel
theorem dX12_draws_8 : decode cX12_draws 8 = .ok (.aload_n 0, 1) := by decide +kernel
theorem dX12_draws_9 : decode cX12_draws 9 = .ok (.getfield 68, 3) := by decide +kernel
theorem dX12_draws_12 : decode cX12_draws 12 = .ok (.iload_n 3, 1) := by decide +kernel
theorem dX12_draws_13 : decode cX12_draws 13 = .ok (.aload_n 0, 1) := by decide +kernel
theorem dX12_draws_14 : decode cX12_draws 14 = .ok (.getfield 52, 3) := by decide +kernel
theorem dX12_draws_17 : decode cX12_draws 17 = .ok (.iload_n 3, 1) := by decide +kernel
theorem dX12_draws_18 : decode cX12_draws 18 = .ok (.iaload, 1) := by decide +kernel
theorem dX12_draws_19 : decode cX12_draws 19 = .ok (.iload_n 2, 1) := by decide +kernel
theorem dX12_draws_20 : decode cX12_draws 20 = .ok (.iconst 5, 1) := by decide +kernel
theorem dX12_draws_21 : decode cX12_draws 21 = .ok (.irem, 1) := by decide +kernel
theorem dX12_draws_22 : decode cX12_draws 22 = .ok (.imul, 1) := by decide +kernel
theorem dX12_draws_23 : decode cX12_draws 23 = .ok (.iconst 4, 1) := by decide +kernel
theorem dX12_draws_24 : decode cX12_draws 24 = .ok (.idiv, 1) := by decide +kernel
theorem dX12_draws_25 : decode cX12_draws 25 = .ok (.iastore, 1) := by decide +kernel
theorem dX12_draws_26 : decode cX12_draws 26 = .ok (.iload_n 2, 1) := by decide +kernel
theorem dX12_draws_27 : decode cX12_draws 27 = .ok (.iconst 5, 1) := by decide +kernel
theorem dX12_draws_28 : decode cX12_draws 28 = .ok (.idiv, 1) := by decide +kernel
theorem dX12_draws_29 : decode cX12_draws 29 = .ok (.istore_n 2, 1) := by decide +kernel
theorem dX12_draws_30 : decode cX12_draws 30 = .ok (.iinc 3 (-1), 3) := by decide +kernel
theorem dX12_draws_33 : decode cX12_draws 33 = .ok (.goto (-29), 3) := by decide +kernel
theorem dX12_draws_36 : decode cX12_draws 36 = .ok (.return_, 1) := by decide +kernel
theorem dX12_mayBe_0 : decode cX12_mayBe 0 = .ok (.aload_n 0, 1) := by decide +kernel
theorem dX12_mayBe_1 : decode cX12_mayBe 1 = .ok (.invokevirtual 221, 3) := by decide +kernel
theorem dX12_mayBe_4 : decode cX12_mayBe 4 = .ok (.istore_n 2, 1) := by decide +kernel
theorem dX12_mayBe_5 : decode cX12_mayBe 5 = .ok (.iconst 0, 1) := by decide +kernel
theorem dX12_mayBe_6 : decode cX12_mayBe 6 = .ok (.istore_n 3, 1) := by decide +kernel
theorem dX12_mayBe_7 : decode cX12_mayBe 7 = .ok (.iload_n 3, 1) := by decide +kernel
theorem dX12_mayBe_8 : decode cX12_mayBe 8 = .ok (.aload_n 0, 1) := by decide +kernel
theorem dX12_mayBe_9 : decode cX12_mayBe 9 = .ok (.getfield 137, 3) := by decide +kernel
theorem dX12_mayBe_12 : decode cX12_mayBe 12 = .ok (.if_icmp .ge 57, 3) := by decide +kernel
theorem dX12_mayBe_15 : decode cX12_mayBe 15 = .ok (.iload_n 2, 1) := by decide +kernel
theorem dX12_mayBe_16 : decode cX12_mayBe 16 = .ok (.ifCond .eq 53, 3) := by decide +kernel
theorem dX12_mayBe_19 : decode cX12_mayBe 19 = .ok (.aload_n 0, 1) := by decide +kernel
theorem dX12_mayBe_20 : decode cX12_mayBe 20 = .ok (.iload_n 3, 1) := by decide +kernel
theorem dX12_mayBe_21 : decode cX12_mayBe 21 = .ok (.invokevirtual 256, 3) := by decide +kernel
theorem dX12_mayBe_24 : decode cX12_mayBe 24 = .ok (.ifCond .ne 37, 3) := by decide +kernel
theorem dX12_mayBe_27 : decode cX12_mayBe 27 = .ok (.aload_n 0, 1) := by decide +kernel
theorem dX12_mayBe_28 : decode cX12_mayBe 28 = .ok (.getfield 126, 3) := by decide +kernel
theorem dX12_mayBe_31 : decode cX12_mayBe 31 = .ok (.iload_n 3, 1) := by decide +kernel
theorem dX12_mayBe_32 : decode cX12_mayBe 32 = .ok (.iaload, 1) := by decide +kernel
theorem dX12_mayBe_33 : decode cX12_mayBe 33 = .ok (.ldc 132, 2) := by decide +kernel
theorem dX12_mayBe_35 : decode cX12_mayBe 35 = .ok (.if_icmp .eq 22, 3) := by decide +kernel
theorem dX12_mayBe_38 : decode cX12_mayBe 38 = .ok (.aload_n 0, 1) := by decide +kernel
theorem dX12_mayBe_39 : decode cX12_mayBe 39 = .ok (.aload_n 0, 1) := by decide +kernel
theorem dX12_mayBe_40 : decode cX12_mayBe 40 = .ok (.getfield 61, 3) := by decide +kernel
theorem dX12_mayBe_43 : decode cX12_mayBe 43 = .ok (.iload_n 3, 1) := by decide +kernel
theorem dX12_mayBe_44 : decode cX12_mayBe 44 = .ok (.laload, 1) := by decide +kernel
theorem dX12_mayBe_45 : decode cX12_mayBe 45 = .ok (.invokevirtual 243, 3) := by decide +kernel
theorem dX12_mayBe_48 : decode cX12_mayBe 48 = .ok (.aload_n 0, 1) := by decide +kernel
theorem dX12_mayBe_49 : decode cX12_mayBe 49 = .ok (.getfield 126, 3) := by decide +kernel
theorem dX12_mayBe_52 : decode cX12_mayBe 52 = .ok (.iload_n 3, 1) := by decide +kernel
theorem dX12_mayBe_53 : decode cX12_mayBe 53 = .ok (.iaload, 1) := by decide +kernel
theorem dX12_mayBe_54 : decode cX12_mayBe 54 = .ok (.if_icmp .lt 7, 3) := by decide +kernel
theorem dX12_mayBe_57 : decode cX12_mayBe 57 = .ok (.iconst 1, 1) := by decide +kernel
theorem dX12_mayBe_58 : decode cX12_mayBe 58 = .ok (.goto 4, 3) := by decide +kernel
theorem dX12_mayBe_61 : decode cX12_mayBe 61 = .ok (.iconst 0, 1) := by decide +kernel
theorem dX12_mayBe_62 : decode cX12_mayBe 62 = .ok (.istore_n 2, 1) := by decide +kernel
theorem dX12_mayBe_63 : decode cX12_mayBe 63 = .ok (.iinc 3 1, 3) := by decide +kernel
theorem dX12_mayBe_66 : decode cX12_mayBe 66 = .ok (.goto (-59), 3) := by decide +kernel
theorem dX12_mayBe_69 : decode cX12_mayBe 69 = .ok (.iload_n 2, 1) := by decide +kernel
theorem dX12_mayBe_70 : decode cX12_mayBe 70 = .ok (.ifCond .eq 18, 3) := by decide +kernel
theorem dX12_mayBe_73 : decode cX12_mayBe 73 = .ok (.iload_n 1, 1) := by decide +kernel
theorem dX12_mayBe_74 : decode cX12_mayBe 74 = .ok (.ifCond .eq 10, 3) := by decide +kernel
theorem dX12_mayBe_77 : decode cX12_mayBe 77 = .ok (.aload_n 0, 1) := by decide +kernel
theorem dX12_mayBe_78 : decode cX12_mayBe 78 = .ok (.invokevirtual 366, 3) := by decide +kernel
theorem dX12_mayBe_81 : decode cX12_mayBe 81 = .ok (.ifCond .eq 7, 3) := by decide +kernel
theorem dX12_mayBe_84 : decode cX12_mayBe 84 = .ok (.iconst 1, 1) := by decide +kernel
theorem dX12_mayBe_85 : decode cX12_mayBe 85 = .ok (.goto 4, 3) := by decide +kernel
theorem dX12_mayBe_88 : decode cX12_mayBe 88 = .ok (.iconst 0, 1) := by decide +kernel
theorem dX12_mayBe_89 : decode cX12_mayBe 89 = .ok (.ireturn, 1) := by decide +kernel
theorem dX12_plan_0 : decode cX12_plan 0 = .ok (.aload_n 0, 1) := by decide +kernel
theorem dX12_plan_1 : decode cX12_plan 1 = .ok (.invokevirtual 218, 3) := by decide +kernel
theorem dX12_plan_4 : decode cX12_plan 4 = .ok (.aload_n 0, 1) := by decide +kernel
theorem dX12_plan_5 : decode cX12_plan 5 = .ok (.getfield 340, 3) := by decide +kernel
theorem dX12_plan_8 : decode cX12_plan 8 = .ok (.ifCond .le 16, 3) := by decide +kernel
theorem dX12_plan_11 : decode cX12_plan 11 = .ok (.aload_n 0, 1) := by decide +kernel
theorem dX12_plan_12 : decode cX12_plan 12 = .ok (.invokevirtual 353, 3) := by decide +kernel
theorem dX12_plan_15 : decode cX12_plan 15 = .ok (.ldc 132, 2) := by decide +kernel
theorem dX12_plan_17 : decode cX12_plan 17 = .ok (.if_icmp .ne 7, 3) := by decide +kernel
theorem dX12_plan_20 : decode cX12_plan 20 = .ok (.iconst 1, 1) := by decide +kernel
theorem dX12_plan_21 : decode cX12_plan 21 = .ok (.goto 4, 3) := by decide +kernel
theorem dX12_plan_24 : decode cX12_plan 24 = .ok (.iconst 0, 1) := by decide +kernel
theorem dX12_plan_25 : decode cX12_plan 25 = .ok (.istore_n 1, 1) := by decide +kernel
theorem dX12_plan_26 : decode cX12_plan 26 = .ok (.aload_n 0, 1) := by decide +kernel
theorem dX12_plan_27 : decode cX12_plan 27 = .ok (.ldc 132, 2) := by decide +kernel
theorem dX12_plan_29 : decode cX12_plan 29 = .ok (.putfield 371, 3) := by decide +kernel
theorem dX12_plan_32 : decode cX12_plan 32 = .ok (.aload_n 0, 1) := by decide +kernel
theorem dX12_plan_33 : decode cX12_plan 33 = .ok (.iconst 0, 1) := by decide +kernel
theorem dX12_plan_34 : decode cX12_plan 34 = .ok (.putfield 374, 3) := by decide +kernel
theorem dX12_plan_37 : decode cX12_plan 37 = .ok (.aload_n 0, 1) := by decide +kernel
theorem dX12_plan_38 : decode cX12_plan 38 = .ok (.ldc 132, 2) := by decide +kernel
theorem dX12_plan_40 : decode cX12_plan 40 = .ok (.putfield 377, 3) := by decide +kernel
theorem dX12_plan_43 : decode cX12_plan 43 = .ok (.iconst 0, 1) := by decide +kernel
theorem dX12_plan_44 : decode cX12_plan 44 = .ok (.istore_n 2, 1) := by decide +kernel
theorem dX12_plan_45 : decode cX12_plan 45 = .ok (.iload_n 2, 1) := by decide +kernel
theorem dX12_plan_46 : decode cX12_plan 46 = .ok (.bipush 125, 2) := by decide +kernel
theorem dX12_plan_48 : decode cX12_plan 48 = .ok (.if_icmp .ge 184, 3) := by decide +kernel
theorem dX12_plan_51 : decode cX12_plan 51 = .ok (.aload_n 0, 1) := by decide +kernel
theorem dX12_plan_52 : decode cX12_plan 52 = .ok (.getfield 144, 3) := by decide +kernel
theorem dX12_plan_55 : decode cX12_plan 55 = .ok (.ifCond .gt 9, 3) := by decide +kernel
theorem dX12_plan_58 : decode cX12_plan 58 = .ok (.iload_n 2, 1) := by decide +kernel
theorem dX12_plan_59 : decode cX12_plan 59 = .ok (.bipush 25, 2) := by decide +kernel
theorem dX12_plan_61 : decode cX12_plan 61 = .ok (.if_icmp .ge 37, 3) := by decide +kernel
theorem dX12_plan_64 : decode cX12_plan 64 = .ok (.aload_n 0, 1) := by decide +kernel
theorem dX12_plan_65 : decode cX12_plan 65 = .ok (.getfield 144, 3) := by decide +kernel
theorem dX12_plan_68 : decode cX12_plan 68 = .ok (.iconst 1, 1) := by decide +kernel
theorem dX12_plan_69 : decode cX12_plan 69 = .ok (.if_icmp .gt 11, 3) := by decide +kernel
theorem dX12_plan_72 : decode cX12_plan 72 = .ok (.iload_n 2, 1) := by decide +kernel
theorem dX12_plan_73 : decode cX12_plan 73 = .ok (.iconst 5, 1) := by decide +kernel
theorem dX12_plan_74 : decode cX12_plan 74 = .ok (.idiv, 1) := by decide +kernel
theorem dX12_plan_75 : decode cX12_plan 75 = .ok (.iconst 5, 1) := by decide +kernel
theorem dX12_plan_76 : decode cX12_plan 76 = .ok (.irem, 1) := by decide +kernel
theorem dX12_plan_77 : decode cX12_plan 77 = .ok (.ifCond .ne 21, 3) := by decide +kernel
theorem dX12_plan_80 : decode cX12_plan 80 = .ok (.aload_n 0, 1) := by decide +kernel
theorem dX12_plan_81 : decode cX12_plan 81 = .ok (.getfield 144, 3) := by decide +kernel
theorem dX12_plan_84 : decode cX12_plan 84 = .ok (.iconst 2, 1) := by decide +kernel
theorem dX12_plan_85 : decode cX12_plan 85 = .ok (.if_icmp .gt 9, 3) := by decide +kernel
theorem dX12_plan_88 : decode cX12_plan 88 = .ok (.iload_n 2, 1) := by decide +kernel
theorem dX12_plan_89 : decode cX12_plan 89 = .ok (.iconst 5, 1) := by decide +kernel
theorem dX12_plan_90 : decode cX12_plan 90 = .ok (.irem, 1) := by decide +kernel
theorem dX12_plan_91 : decode cX12_plan 91 = .ok (.ifCond .ne 7, 3) := by decide +kernel
theorem dX12_plan_94 : decode cX12_plan 94 = .ok (.iconst 1, 1) := by decide +kernel
theorem dX12_plan_95 : decode cX12_plan 95 = .ok (.goto 4, 3) := by decide +kernel
theorem dX12_plan_98 : decode cX12_plan 98 = .ok (.iconst 0, 1) := by decide +kernel
theorem dX12_plan_99 : decode cX12_plan 99 = .ok (.istore_n 3, 1) := by decide +kernel
theorem dX12_plan_100 : decode cX12_plan 100 = .ok (.iload_n 3, 1) := by decide +kernel
theorem dX12_plan_101 : decode cX12_plan 101 = .ok (.ifCond .eq 125, 3) := by decide +kernel
theorem dX12_plan_104 : decode cX12_plan 104 = .ok (.aload_n 0, 1) := by decide +kernel
theorem dX12_plan_105 : decode cX12_plan 105 = .ok (.iload_n 2, 1) := by decide +kernel
theorem dX12_plan_106 : decode cX12_plan 106 = .ok (.invokevirtual 380, 3) := by decide +kernel
theorem dX12_plan_109 : decode cX12_plan 109 = .ok (.iconst 0, 1) := by decide +kernel
theorem dX12_plan_110 : decode cX12_plan 110 = .ok (.istore 4, 2) := by decide +kernel
theorem dX12_plan_112 : decode cX12_plan 112 = .ok (.iconst 0, 1) := by decide +kernel
theorem dX12_plan_113 : decode cX12_plan 113 = .ok (.istore 5, 2) := by decide +kernel
theorem dX12_plan_115 : decode cX12_plan 115 = .ok (.iconst 0, 1) := by decide +kernel
theorem dX12_plan_116 : decode cX12_plan 116 = .ok (.istore 6, 2) := by decide +kernel
theorem dX12_plan_118 : decode cX12_plan 118 = .ok (.iload 6, 2) := by decide +kernel
theorem dX12_plan_120 : decode cX12_plan 120 = .ok (.aload_n 0, 1) := by decide +kernel
theorem dX12_plan_121 : decode cX12_plan 121 = .ok (.getfield 144, 3) := by decide +kernel
theorem dX12_plan_124 : decode cX12_plan 124 = .ok (.if_icmp .ge 41, 3) := by decide +kernel
theorem dX12_plan_127 : decode cX12_plan 127 = .ok (.iload 4, 2) := by decide +kernel
theorem dX12_plan_129 : decode cX12_plan 129 = .ok (.aload_n 0, 1) := by decide +kernel
theorem dX12_plan_130 : decode cX12_plan 130 = .ok (.getfield 68, 3) := by decide +kernel
theorem dX12_plan_133 : decode cX12_plan 133 = .ok (.iload 6, 2) := by decide +kernel
theorem dX12_plan_135 : decode cX12_plan 135 = .ok (.iaload, 1) := by decide +kernel
theorem dX12_plan_136 : decode cX12_plan 136 = .ok (.aload_n 0, 1) := by decide +kernel
theorem dX12_plan_137 : decode cX12_plan 137 = .ok (.getfield 55, 3) := by decide +kernel
theorem dX12_plan_140 : decode cX12_plan 140 = .ok (.iload 6, 2) := by decide +kernel
theorem dX12_plan_142 : decode cX12_plan 142 = .ok (.iaload, 1) := by decide +kernel
theorem dX12_plan_143 : decode cX12_plan 143 = .ok (.imul, 1) := by decide +kernel
theorem dX12_plan_144 : decode cX12_plan 144 = .ok (.iadd, 1) := by decide +kernel
theorem dX12_plan_145 : decode cX12_plan 145 = .ok (.istore 4, 2) := by decide +kernel
theorem dX12_plan_147 : decode cX12_plan 147 = .ok (.iload 5, 2) := by decide +kernel
theorem dX12_plan_149 : decode cX12_plan 149 = .ok (.aload_n 0, 1) := by decide +kernel
theorem dX12_plan_150 : decode cX12_plan 150 = .ok (.getfield 68, 3) := by decide +kernel
theorem dX12_plan_153 : decode cX12_plan 153 = .ok (.iload 6, 2) := by decide +kernel
theorem dX12_plan_155 : decode cX12_plan 155 = .ok (.iaload, 1) := by decide +kernel
theorem dX12_plan_156 : decode cX12_plan 156 = .ok (.iadd, 1) := by decide +kernel
theorem dX12_plan_157 : decode cX12_plan 157 = .ok (.istore 5, 2) := by decide +kernel
theorem dX12_plan_159 : decode cX12_plan 159 = .ok (.iinc 6 1, 3) := by decide +kernel
theorem dX12_plan_162 : decode cX12_plan 162 = .ok (.goto (-44), 3) := by decide +kernel
theorem dX12_plan_165 : decode cX12_plan 165 = .ok (.aload_n 0, 1) := by decide +kernel
theorem dX12_plan_166 : decode cX12_plan 166 = .ok (.getfield 371, 3) := by decide +kernel
theorem dX12_plan_169 : decode cX12_plan 169 = .ok (.ldc 132, 2) := by decide +kernel
theorem dX12_plan_171 : decode cX12_plan 171 = .ok (.if_icmp .eq 30, 3) := by decide +kernel
theorem dX12_plan_174 : decode cX12_plan 174 = .ok (.iload 4, 2) := by decide +kernel
theorem dX12_plan_176 : decode cX12_plan 176 = .ok (.aload_n 0, 1) := by decide +kernel
theorem dX12_plan_177 : decode cX12_plan 177 = .ok (.getfield 371, 3) := by decide +kernel
theorem dX12_plan_180 : decode cX12_plan 180 = .ok (.if_icmp .gt 21, 3) := by decide +kernel
theorem dX12_plan_183 : decode cX12_plan 183 = .ok (.iload 4, 2) := by decide +kernel
theorem dX12_plan_185 : decode cX12_plan 185 = .ok (.aload_n 0, 1) := by decide +kernel
theorem dX12_plan_186 : decode cX12_plan 186 = .ok (.getfield 371, 3) := by decide +kernel
theorem dX12_plan_189 : decode cX12_plan 189 = .ok (.if_icmp .ne 37, 3) := by decide +kernel
theorem dX12_plan_192 : decode cX12_plan 192 = .ok (.iload 5, 2) := by decide +kernel
theorem dX12_plan_194 : decode cX12_plan 194 = .ok (.aload_n 0, 1) := by decide +kernel
theorem dX12_plan_195 : decode cX12_plan 195 = .ok (.getfield 374, 3) := by decide +kernel
theorem dX12_plan_198 : decode cX12_plan 198 = .ok (.if_icmp .ge 28, 3) := by decide +kernel
theorem dX12_plan_201 : decode cX12_plan 201 = .ok (.aload_n 0, 1) := by decide +kernel
theorem dX12_plan_202 : decode cX12_plan 202 = .ok (.iload_n 1, 1) := by decide +kernel
theorem dX12_plan_203 : decode cX12_plan 203 = .ok (.invokevirtual 383, 3) := by decide +kernel
theorem dX12_plan_206 : decode cX12_plan 206 = .ok (.ifCond .eq 20, 3) := by decide +kernel
theorem dX12_plan_209 : decode cX12_plan 209 = .ok (.aload_n 0, 1) := by decide +kernel
theorem dX12_plan_210 : decode cX12_plan 210 = .ok (.iload 4, 2) := by decide +kernel
theorem dX12_plan_212 : decode cX12_plan 212 = .ok (.putfield 371, 3) := by decide +kernel
theorem dX12_plan_215 : decode cX12_plan 215 = .ok (.aload_n 0, 1) := by decide +kernel
theorem dX12_plan_216 : decode cX12_plan 216 = .ok (.iload 5, 2) := by decide +kernel
theorem dX12_plan_218 : decode cX12_plan 218 = .ok (.putfield 374, 3) := by decide +kernel
theorem dX12_plan_221 : decode cX12_plan 221 = .ok (.aload_n 0, 1) := by decide +kernel
theorem dX12_plan_222 : decode cX12_plan 222 = .ok (.iload_n 2, 1) := by decide +kernel
theorem dX12_plan_223 : decode cX12_plan 223 = .ok (.putfield 377, 3) := by decide +kernel
theorem dX12_plan_226 : decode cX12_plan 226 = .ok (.iinc 2 1, 3) := by decide +kernel
theorem dX12_plan_229 : decode cX12_plan 229 = .ok (.goto (-184), 3) := by decide +kernel
theorem dX12_plan_232 : decode cX12_plan 232 = .ok (.return_, 1) := by decide +kernel
theorem dX12_worth_0 : decode cX12_worth 0 = .ok (.aload_n 0, 1) := by decide +kernel
theorem dX12_worth_1 : decode cX12_worth 1 = .ok (.iconst 0, 1) := by decide +kernel
theorem dX12_worth_2 : decode cX12_worth 2 = .ok (.putfield 133, 3) := by decide +kernel
theorem dX12_worth_5 : decode cX12_worth 5 = .ok (.aload_n 0, 1) := by decide +kernel
theorem dX12_worth_6 : decode cX12_worth 6 = .ok (.invokevirtual 387, 3) := by decide +kernel
theorem dX12_worth_9 : decode cX12_worth 9 = .ok (.aload_n 0, 1) := by decide +kernel
theorem dX12_worth_10 : decode cX12_worth 10 = .ok (.getfield 371, 3) := by decide +kernel
theorem dX12_worth_13 : decode cX12_worth 13 = .ok (.ireturn, 1) := by decide +kernel
theorem dX12_level_0 : decode cX12_level 0 = .ok (.aload_n 0, 1) := by decide +kernel
theorem dX12_level_1 : decode cX12_level 1 = .ok (.iconst 0, 1) := by decide +kernel
theorem dX12_level_2 : decode cX12_level 2 = .ok (.putfield 133, 3) := by decide +kernel
theorem dX12_level_5 : decode cX12_level 5 = .ok (.aload_n 0, 1) := by decide +kernel
theorem dX12_level_6 : decode cX12_level 6 = .ok (.iload_n 1, 1) := by decide +kernel
theorem dX12_level_7 : decode cX12_level 7 = .ok (.invokevirtual 175, 3) := by decide +kernel
theorem dX12_level_10 : decode cX12_level 10 = .ok (.ifCond .eq 6, 3) := by decide +kernel
theorem dX12_level_13 : decode cX12_level 13 = .ok (.ldc 159, 2) := by decide +kernel
theorem dX12_level_15 : decode cX12_level 15 = .ok (.ireturn, 1) := by decide +kernel
theorem dX12_level_16 : decode cX12_level 16 = .ok (.aload_n 0, 1) := by decide +kernel
theorem dX12_level_17 : decode cX12_level 17 = .ok (.invokevirtual 387, 3) := by decide +kernel
theorem dX12_level_20 : decode cX12_level 20 = .ok (.aload_n 0, 1) := by decide +kernel
theorem dX12_level_21 : decode cX12_level 21 = .ok (.getfield 371, 3) := by decide +kernel
theorem dX12_level_24 : decode cX12_level 24 = .ok (.ldc 132, 2) := by decide +kernel
theorem dX12_level_26 : decode cX12_level 26 = .ok (.if_icmp .ne 8, 3) := by decide +kernel
theorem dX12_level_29 : decode cX12_level 29 = .ok (.ldc 132, 2) := by decide +kernel
theorem dX12_level_31 : decode cX12_level 31 = .ok (.goto 39, 3) := by decide +kernel
theorem dX12_level_34 : decode cX12_level 34 = .ok (.iload_n 1, 1) := by decide +kernel
theorem dX12_level_35 : decode cX12_level 35 = .ok (.ifCond .ne 13, 3) := by decide +kernel
theorem dX12_level_38 : decode cX12_level 38 = .ok (.aload_n 0, 1) := by decide +kernel
theorem dX12_level_39 : decode cX12_level 39 = .ok (.getfield 377, 3) := by decide +kernel
theorem dX12_level_42 : decode cX12_level 42 = .ok (.bipush 25, 2) := by decide +kernel
theorem dX12_level_44 : decode cX12_level 44 = .ok (.idiv, 1) := by decide +kernel
theorem dX12_level_45 : decode cX12_level 45 = .ok (.goto 25, 3) := by decide +kernel
theorem dX12_level_48 : decode cX12_level 48 = .ok (.iload_n 1, 1) := by decide +kernel
theorem dX12_level_49 : decode cX12_level 49 = .ok (.iconst 1, 1) := by decide +kernel
theorem dX12_level_50 : decode cX12_level 50 = .ok (.if_icmp .ne 14, 3) := by decide +kernel
theorem dX12_level_53 : decode cX12_level 53 = .ok (.aload_n 0, 1) := by decide +kernel
theorem dX12_level_54 : decode cX12_level 54 = .ok (.getfield 377, 3) := by decide +kernel
theorem dX12_level_57 : decode cX12_level 57 = .ok (.iconst 5, 1) := by decide +kernel
theorem dX12_level_58 : decode cX12_level 58 = .ok (.idiv, 1) := by decide +kernel
theorem dX12_level_59 : decode cX12_level 59 = .ok (.iconst 5, 1) := by decide +kernel
theorem dX12_level_60 : decode cX12_level 60 = .ok (.irem, 1) := by decide +kernel
theorem dX12_level_61 : decode cX12_level 61 = .ok (.goto 9, 3) := by decide +kernel
theorem dX12_level_64 : decode cX12_level 64 = .ok (.aload_n 0, 1) := by decide +kernel
theorem dX12_level_65 : decode cX12_level 65 = .ok (.getfield 377, 3) := by decide +kernel
theorem dX12_level_68 : decode cX12_level 68 = .ok (.iconst 5, 1) := by decide +kernel
theorem dX12_level_69 : decode cX12_level 69 = .ok (.irem, 1) := by decide +kernel
theorem dX12_level_70 : decode cX12_level 70 = .ok (.ireturn, 1) := by decide +kernel
theorem dX12_draw_0 : decode cX12_draw 0 = .ok (.aload_n 0, 1) := by decide +kernel
theorem dX12_draw_1 : decode cX12_draw 1 = .ok (.iconst 0, 1) := by decide +kernel
theorem dX12_draw_2 : decode cX12_draw 2 = .ok (.putfield 133, 3) := by decide +kernel
theorem dX12_draw_5 : decode cX12_draw 5 = .ok (.aload_n 0, 1) := by decide +kernel
theorem dX12_draw_6 : decode cX12_draw 6 = .ok (.invokevirtual 387, 3) := by decide +kernel
theorem dX12_draw_9 : decode cX12_draw 9 = .ok (.aload_n 0, 1) := by decide +kernel
theorem dX12_draw_10 : decode cX12_draw 10 = .ok (.getfield 371, 3) := by decide +kernel
theorem dX12_draw_13 : decode cX12_draw 13 = .ok (.ldc 132, 2) := by decide +kernel
theorem dX12_draw_15 : decode cX12_draw 15 = .ok (.if_icmp .ne 6, 3) := by decide +kernel
theorem dX12_draw_18 : decode cX12_draw 18 = .ok (.ldc 132, 2) := by decide +kernel
theorem dX12_draw_20 : decode cX12_draw 20 = .ok (.ireturn, 1) := by decide +kernel
theorem dX12_draw_21 : decode cX12_draw 21 = .ok (.aload_n 0, 1) := by decide +kernel
theorem dX12_draw_22 : decode cX12_draw 22 = .ok (.aload_n 0, 1) := by decide +kernel
theorem dX12_draw_23 : decode cX12_draw 23 = .ok (.getfield 377, 3) := by decide +kernel
theorem dX12_draw_26 : decode cX12_draw 26 = .ok (.invokevirtual 380, 3) := by decide +kernel
theorem dX12_draw_29 : decode cX12_draw 29 = .ok (.iconst 0, 1) := by decide +kernel
theorem dX12_draw_30 : decode cX12_draw 30 = .ok (.istore_n 1, 1) := by decide +kernel
theorem dX12_draw_31 : decode cX12_draw 31 = .ok (.iload_n 1, 1) := by decide +kernel
theorem dX12_draw_32 : decode cX12_draw 32 = .ok (.aload_n 0, 1) := by decide +kernel
theorem dX12_draw_33 : decode cX12_draw 33 = .ok (.getfield 144, 3) := by decide +kernel
theorem dX12_draw_36 : decode cX12_draw 36 = .ok (.if_icmp .ge 21, 3) := by decide +kernel
theorem dX12_draw_39 : decode cX12_draw 39 = .ok (.aload_n 0, 1) := by decide +kernel
theorem dX12_draw_40 : decode cX12_draw 40 = .ok (.getfield 58, 3) := by decide +kernel
theorem dX12_draw_43 : decode cX12_draw 43 = .ok (.iload_n 1, 1) := by decide +kernel
theorem dX12_draw_44 : decode cX12_draw 44 = .ok (.aload_n 0, 1) := by decide +kernel
theorem dX12_draw_45 : decode cX12_draw 45 = .ok (.getfield 68, 3) := by decide +kernel
theorem dX12_draw_48 : decode cX12_draw 48 = .ok (.iload_n 1, 1) := by decide +kernel
theorem dX12_draw_49 : decode cX12_draw 49 = .ok (.iaload, 1) := by decide +kernel
theorem dX12_draw_50 : decode cX12_draw 50 = .ok (.iastore, 1) := by decide +kernel
theorem dX12_draw_51 : decode cX12_draw 51 = .ok (.iinc 1 1, 3) := by decide +kernel
theorem dX12_draw_54 : decode cX12_draw 54 = .ok (.goto (-23), 3) := by decide +kernel
theorem dX12_draw_57 : decode cX12_draw 57 = .ok (.aload_n 0, 1) := by decide +kernel
theorem dX12_draw_58 : decode cX12_draw 58 = .ok (.getfield 371, 3) := by decide +kernel
theorem dX12_draw_61 : decode cX12_draw 61 = .ok (.ireturn, 1) := by decide +kernel
theorem dX12_price_0 : decode cX12_price 0 = .ok (.aload_n 0, 1) := by decide +kernel
theorem dX12_price_1 : decode cX12_price 1 = .ok (.iconst 0, 1) := by decide +kernel
theorem dX12_price_2 : decode cX12_price 2 = .ok (.putfield 133, 3) := by decide +kernel
theorem dX12_price_5 : decode cX12_price 5 = .ok (.aload_n 0, 1) := by decide +kernel
theorem dX12_price_6 : decode cX12_price 6 = .ok (.iload_n 1, 1) := by decide +kernel
theorem dX12_price_7 : decode cX12_price 7 = .ok (.invokevirtual 155, 3) := by decide +kernel
theorem dX12_price_10 : decode cX12_price 10 = .ok (.ifCond .eq 6, 3) := by decide +kernel
theorem dX12_price_13 : decode cX12_price 13 = .ok (.ldc 159, 2) := by decide +kernel
theorem dX12_price_15 : decode cX12_price 15 = .ok (.ireturn, 1) := by decide +kernel
theorem dX12_price_16 : decode cX12_price 16 = .ok (.aload_n 0, 1) := by decide +kernel
theorem dX12_price_17 : decode cX12_price 17 = .ok (.getfield 126, 3) := by decide +kernel
theorem dX12_price_20 : decode cX12_price 20 = .ok (.iload_n 1, 1) := by decide +kernel
theorem dX12_price_21 : decode cX12_price 21 = .ok (.iaload, 1) := by decide +kernel
theorem dX12_price_22 : decode cX12_price 22 = .ok (.ldc 132, 2) := by decide +kernel
theorem dX12_price_24 : decode cX12_price 24 = .ok (.if_icmp .ne 5, 3) := by decide +kernel
theorem dX12_price_27 : decode cX12_price 27 = .ok (.iconst 0, 1) := by decide +kernel
theorem dX12_price_28 : decode cX12_price 28 = .ok (.ireturn, 1) := by decide +kernel
theorem dX12_price_29 : decode cX12_price 29 = .ok (.aload_n 0, 1) := by decide +kernel
theorem dX12_price_30 : decode cX12_price 30 = .ok (.invokevirtual 387, 3) := by decide +kernel
theorem dX12_price_33 : decode cX12_price 33 = .ok (.aload_n 0, 1) := by decide +kernel
theorem dX12_price_34 : decode cX12_price 34 = .ok (.getfield 371, 3) := by decide +kernel
theorem dX12_price_37 : decode cX12_price 37 = .ok (.ldc 132, 2) := by decide +kernel
theorem dX12_price_39 : decode cX12_price 39 = .ok (.if_icmp .ne 6, 3) := by decide +kernel
theorem dX12_price_42 : decode cX12_price 42 = .ok (.ldc 132, 2) := by decide +kernel
theorem dX12_price_44 : decode cX12_price 44 = .ok (.ireturn, 1) := by decide +kernel
theorem dX12_price_45 : decode cX12_price 45 = .ok (.aload_n 0, 1) := by decide +kernel
theorem dX12_price_46 : decode cX12_price 46 = .ok (.getfield 371, 3) := by decide +kernel
theorem dX12_price_49 : decode cX12_price 49 = .ok (.istore_n 2, 1) := by decide +kernel
theorem dX12_price_50 : decode cX12_price 50 = .ok (.aload_n 0, 1) := by decide +kernel
theorem dX12_price_51 : decode cX12_price 51 = .ok (.getfield 126, 3) := by decide +kernel
theorem dX12_price_54 : decode cX12_price 54 = .ok (.iload_n 1, 1) := by decide +kernel
theorem dX12_price_55 : decode cX12_price 55 = .ok (.iaload, 1) := by decide +kernel
theorem dX12_price_56 : decode cX12_price 56 = .ok (.istore_n 3, 1) := by decide +kernel
theorem dX12_price_57 : decode cX12_price 57 = .ok (.aload_n 0, 1) := by decide +kernel
theorem dX12_price_58 : decode cX12_price 58 = .ok (.getfield 126, 3) := by decide +kernel
theorem dX12_price_61 : decode cX12_price 61 = .ok (.iload_n 1, 1) := by decide +kernel
theorem dX12_price_62 : decode cX12_price 62 = .ok (.ldc 132, 2) := by decide +kernel
theorem dX12_price_64 : decode cX12_price 64 = .ok (.iastore, 1) := by decide +kernel
theorem dX12_price_65 : decode cX12_price 65 = .ok (.aload_n 0, 1) := by decide +kernel
theorem dX12_price_66 : decode cX12_price 66 = .ok (.invokevirtual 387, 3) := by decide +kernel
theorem dX12_price_69 : decode cX12_price 69 = .ok (.aload_n 0, 1) := by decide +kernel
theorem dX12_price_70 : decode cX12_price 70 = .ok (.getfield 126, 3) := by decide +kernel
theorem dX12_price_73 : decode cX12_price 73 = .ok (.iload_n 1, 1) := by decide +kernel
theorem dX12_price_74 : decode cX12_price 74 = .ok (.iload_n 3, 1) := by decide +kernel
theorem dX12_price_75 : decode cX12_price 75 = .ok (.iastore, 1) := by decide +kernel
theorem dX12_price_76 : decode cX12_price 76 = .ok (.aload_n 0, 1) := by decide +kernel
theorem dX12_price_77 : decode cX12_price 77 = .ok (.getfield 371, 3) := by decide +kernel
theorem dX12_price_80 : decode cX12_price 80 = .ok (.iload_n 2, 1) := by decide +kernel
theorem dX12_price_81 : decode cX12_price 81 = .ok (.isub, 1) := by decide +kernel
theorem dX12_price_82 : decode cX12_price 82 = .ok (.ireturn, 1) := by decide +kernel
theorem dX12_drawn_0 : decode cX12_drawn 0 = .ok (.aload_n 0, 1) := by decide +kernel
theorem dX12_drawn_1 : decode cX12_drawn 1 = .ok (.invokevirtual 218, 3) := by decide +kernel
theorem dX12_drawn_4 : decode cX12_drawn 4 = .ok (.iconst 0, 1) := by decide +kernel
theorem dX12_drawn_5 : decode cX12_drawn 5 = .ok (.istore_n 3, 1) := by decide +kernel
theorem dX12_drawn_6 : decode cX12_drawn 6 = .ok (.iload_n 3, 1) := by decide +kernel
theorem dX12_drawn_7 : decode cX12_drawn 7 = .ok (.aload_n 0, 1) := by decide +kernel
theorem dX12_drawn_8 : decode cX12_drawn 8 = .ok (.getfield 144, 3) := by decide +kernel
theorem dX12_drawn_11 : decode cX12_drawn 11 = .ok (.if_icmp .ge 34, 3) := by decide +kernel
theorem dX12_drawn_14 : decode cX12_drawn 14 = .ok (.aload_n 0, 1) := by decide +kernel
theorem dX12_drawn_15 : decode cX12_drawn 15 = .ok (.getfield 68, 3) := by decide +kernel
theorem dX12_drawn_18 : decode cX12_drawn 18 = .ok (.iload_n 3, 1) := by decide +kernel
theorem dX12_drawn_19 : decode cX12_drawn 19 = .ok (.iload_n 2, 1) := by decide +kernel
theorem dX12_drawn_20 : decode cX12_drawn 20 = .ok (.iload_n 3, 1) := by decide +kernel
theorem dX12_drawn_21 : decode cX12_drawn 21 = .ok (.ishr, 1) := by decide +kernel
theorem dX12_drawn_22 : decode cX12_drawn 22 = .ok (.iconst 1, 1) := by decide +kernel
theorem dX12_drawn_23 : decode cX12_drawn 23 = .ok (.iand, 1) := by decide +kernel
theorem dX12_drawn_24 : decode cX12_drawn 24 = .ok (.iconst 1, 1) := by decide +kernel
theorem dX12_drawn_25 : decode cX12_drawn 25 = .ok (.if_icmp .ne 12, 3) := by decide +kernel
theorem dX12_drawn_28 : decode cX12_drawn 28 = .ok (.aload_n 0, 1) := by decide +kernel
theorem dX12_drawn_29 : decode cX12_drawn 29 = .ok (.getfield 58, 3) := by decide +kernel
theorem dX12_drawn_32 : decode cX12_drawn 32 = .ok (.iload_n 3, 1) := by decide +kernel
theorem dX12_drawn_33 : decode cX12_drawn 33 = .ok (.iaload, 1) := by decide +kernel
theorem dX12_drawn_34 : decode cX12_drawn 34 = .ok (.goto 4, 3) := by decide +kernel
theorem dX12_drawn_37 : decode cX12_drawn 37 = .ok (.iconst 0, 1) := by decide +kernel
theorem dX12_drawn_38 : decode cX12_drawn 38 = .ok (.iastore, 1) := by decide +kernel
theorem dX12_drawn_39 : decode cX12_drawn 39 = .ok (.iinc 3 1, 3) := by decide +kernel
theorem dX12_drawn_42 : decode cX12_drawn 42 = .ok (.goto (-36), 3) := by decide +kernel
theorem dX12_drawn_45 : decode cX12_drawn 45 = .ok (.aload_n 0, 1) := by decide +kernel
theorem dX12_drawn_46 : decode cX12_drawn 46 = .ok (.invokevirtual 221, 3) := by decide +kernel
theorem dX12_drawn_49 : decode cX12_drawn 49 = .ok (.ifCond .eq 16, 3) := by decide +kernel
theorem dX12_drawn_52 : decode cX12_drawn 52 = .ok (.aload_n 0, 1) := by decide +kernel
theorem dX12_drawn_53 : decode cX12_drawn 53 = .ok (.aload_n 0, 1) := by decide +kernel
theorem dX12_drawn_54 : decode cX12_drawn 54 = .ok (.getfield 61, 3) := by decide +kernel
theorem dX12_drawn_57 : decode cX12_drawn 57 = .ok (.iload_n 1, 1) := by decide +kernel
theorem dX12_drawn_58 : decode cX12_drawn 58 = .ok (.laload, 1) := by decide +kernel
theorem dX12_drawn_59 : decode cX12_drawn 59 = .ok (.invokevirtual 243, 3) := by decide +kernel
theorem dX12_drawn_62 : decode cX12_drawn 62 = .ok (.goto 5, 3) := by decide +kernel
theorem dX12_drawn_65 : decode cX12_drawn 65 = .ok (.ldc 163, 2) := by decide +kernel
theorem dX12_drawn_67 : decode cX12_drawn 67 = .ok (.ireturn, 1) := by decide +kernel
theorem dX12_harm_0 : decode cX12_harm 0 = .ok (.aload_n 0, 1) := by decide +kernel
theorem dX12_harm_1 : decode cX12_harm 1 = .ok (.iconst 0, 1) := by decide +kernel
theorem dX12_harm_2 : decode cX12_harm 2 = .ok (.putfield 133, 3) := by decide +kernel
theorem dX12_harm_5 : decode cX12_harm 5 = .ok (.aload_n 0, 1) := by decide +kernel
theorem dX12_harm_6 : decode cX12_harm 6 = .ok (.iload_n 1, 1) := by decide +kernel
theorem dX12_harm_7 : decode cX12_harm 7 = .ok (.invokevirtual 155, 3) := by decide +kernel
theorem dX12_harm_10 : decode cX12_harm 10 = .ok (.ifCond .eq 6, 3) := by decide +kernel
theorem dX12_harm_13 : decode cX12_harm 13 = .ok (.ldc 159, 2) := by decide +kernel
theorem dX12_harm_15 : decode cX12_harm 15 = .ok (.ireturn, 1) := by decide +kernel
theorem dX12_harm_16 : decode cX12_harm 16 = .ok (.aload_n 0, 1) := by decide +kernel
theorem dX12_harm_17 : decode cX12_harm 17 = .ok (.iload_n 1, 1) := by decide +kernel
theorem dX12_harm_18 : decode cX12_harm 18 = .ok (.iconst 0, 1) := by decide +kernel
theorem dX12_harm_19 : decode cX12_harm 19 = .ok (.invokevirtual 390, 3) := by decide +kernel
theorem dX12_harm_22 : decode cX12_harm 22 = .ok (.istore_n 2, 1) := by decide +kernel
theorem dX12_harm_23 : decode cX12_harm 23 = .ok (.aload_n 0, 1) := by decide +kernel
theorem dX12_harm_24 : decode cX12_harm 24 = .ok (.iload_n 1, 1) := by decide +kernel
theorem dX12_harm_25 : decode cX12_harm 25 = .ok (.bipush 7, 2) := by decide +kernel
theorem dX12_harm_27 : decode cX12_harm 27 = .ok (.invokevirtual 390, 3) := by decide +kernel
theorem dX12_harm_30 : decode cX12_harm 30 = .ok (.istore_n 3, 1) := by decide +kernel
theorem dX12_harm_31 : decode cX12_harm 31 = .ok (.iload_n 2, 1) := by decide +kernel
theorem dX12_harm_32 : decode cX12_harm 32 = .ok (.ldc 163, 2) := by decide +kernel
theorem dX12_harm_34 : decode cX12_harm 34 = .ok (.if_icmp .eq 9, 3) := by decide +kernel
theorem dX12_harm_37 : decode cX12_harm 37 = .ok (.iload_n 3, 1) := by decide +kernel
theorem dX12_harm_38 : decode cX12_harm 38 = .ok (.ldc 163, 2) := by decide +kernel
theorem dX12_harm_40 : decode cX12_harm 40 = .ok (.if_icmp .ne 8, 3) := by decide +kernel
theorem dX12_harm_43 : decode cX12_harm 43 = .ok (.ldc 163, 2) := by decide +kernel
theorem dX12_harm_45 : decode cX12_harm 45 = .ok (.goto 6, 3) := by decide +kernel
theorem dX12_harm_48 : decode cX12_harm 48 = .ok (.iload_n 2, 1) := by decide +kernel
theorem dX12_harm_49 : decode cX12_harm 49 = .ok (.iload_n 3, 1) := by decide +kernel
theorem dX12_harm_50 : decode cX12_harm 50 = .ok (.isub, 1) := by decide +kernel
theorem dX12_harm_51 : decode cX12_harm 51 = .ok (.ireturn, 1) := by decide +kernel
theorem dX12_share_0 : decode cX12_share 0 = .ok (.aload_n 0, 1) := by decide +kernel
theorem dX12_share_1 : decode cX12_share 1 = .ok (.iconst 0, 1) := by decide +kernel
theorem dX12_share_2 : decode cX12_share 2 = .ok (.putfield 133, 3) := by decide +kernel
theorem dX12_share_5 : decode cX12_share 5 = .ok (.aload_n 0, 1) := by decide +kernel
theorem dX12_share_6 : decode cX12_share 6 = .ok (.iload_n 1, 1) := by decide +kernel
theorem dX12_share_7 : decode cX12_share 7 = .ok (.invokevirtual 155, 3) := by decide +kernel
theorem dX12_share_10 : decode cX12_share 10 = .ok (.ifCond .ne 11, 3) := by decide +kernel
theorem dX12_share_13 : decode cX12_share 13 = .ok (.aload_n 0, 1) := by decide +kernel
theorem dX12_share_14 : decode cX12_share 14 = .ok (.iload_n 2, 1) := by decide +kernel
theorem dX12_share_15 : decode cX12_share 15 = .ok (.invokevirtual 175, 3) := by decide +kernel
theorem dX12_share_18 : decode cX12_share 18 = .ok (.ifCond .eq 6, 3) := by decide +kernel
theorem dX12_share_21 : decode cX12_share 21 = .ok (.ldc 159, 2) := by decide +kernel
theorem dX12_share_23 : decode cX12_share 23 = .ok (.ireturn, 1) := by decide +kernel
theorem dX12_share_24 : decode cX12_share 24 = .ok (.iconst 0, 1) := by decide +kernel
theorem dX12_share_25 : decode cX12_share 25 = .ok (.istore_n 3, 1) := by decide +kernel
theorem dX12_share_26 : decode cX12_share 26 = .ok (.iconst 0, 1) := by decide +kernel
theorem dX12_share_27 : decode cX12_share 27 = .ok (.istore 4, 2) := by decide +kernel
theorem dX12_share_29 : decode cX12_share 29 = .ok (.iload 4, 2) := by decide +kernel
theorem dX12_share_31 : decode cX12_share 31 = .ok (.iconst 1, 1) := by decide +kernel
theorem dX12_share_32 : decode cX12_share 32 = .ok (.aload_n 0, 1) := by decide +kernel
theorem dX12_share_33 : decode cX12_share 33 = .ok (.getfield 144, 3) := by decide +kernel
theorem dX12_share_36 : decode cX12_share 36 = .ok (.ishl, 1) := by decide +kernel
theorem dX12_share_37 : decode cX12_share 37 = .ok (.if_icmp .ge 141, 3) := by decide +kernel
theorem dX12_share_40 : decode cX12_share 40 = .ok (.aload_n 0, 1) := by decide +kernel
theorem dX12_share_41 : decode cX12_share 41 = .ok (.iload_n 1, 1) := by decide +kernel
theorem dX12_share_42 : decode cX12_share 42 = .ok (.iload 4, 2) := by decide +kernel
theorem dX12_share_44 : decode cX12_share 44 = .ok (.invokevirtual 390, 3) := by decide +kernel
theorem dX12_share_47 : decode cX12_share 47 = .ok (.istore 5, 2) := by decide +kernel
theorem dX12_share_49 : decode cX12_share 49 = .ok (.iload 5, 2) := by decide +kernel
theorem dX12_share_51 : decode cX12_share 51 = .ok (.ldc 163, 2) := by decide +kernel
theorem dX12_share_53 : decode cX12_share 53 = .ok (.if_icmp .ne 6, 3) := by decide +kernel
theorem dX12_share_56 : decode cX12_share 56 = .ok (.ldc 163, 2) := by decide +kernel
theorem dX12_share_58 : decode cX12_share 58 = .ok (.ireturn, 1) := by decide +kernel
theorem dX12_share_59 : decode cX12_share 59 = .ok (.iload 4, 2) := by decide +kernel
theorem dX12_share_61 : decode cX12_share 61 = .ok (.iconst 1, 1) := by decide +kernel
theorem dX12_share_62 : decode cX12_share 62 = .ok (.iand, 1) := by decide +kernel
theorem dX12_share_63 : decode cX12_share 63 = .ok (.iload 4, 2) := by decide +kernel
theorem dX12_share_65 : decode cX12_share 65 = .ok (.iconst 1, 1) := by decide +kernel
theorem dX12_share_66 : decode cX12_share 66 = .ok (.ishr, 1) := by decide +kernel
theorem dX12_share_67 : decode cX12_share 67 = .ok (.iconst 1, 1) := by decide +kernel
theorem dX12_share_68 : decode cX12_share 68 = .ok (.iand, 1) := by decide +kernel
theorem dX12_share_69 : decode cX12_share 69 = .ok (.iadd, 1) := by decide +kernel
theorem dX12_share_70 : decode cX12_share 70 = .ok (.iload 4, 2) := by decide +kernel
theorem dX12_share_72 : decode cX12_share 72 = .ok (.iconst 2, 1) := by decide +kernel
theorem dX12_share_73 : decode cX12_share 73 = .ok (.ishr, 1) := by decide +kernel
theorem dX12_share_74 : decode cX12_share 74 = .ok (.iconst 1, 1) := by decide +kernel
theorem dX12_share_75 : decode cX12_share 75 = .ok (.iand, 1) := by decide +kernel
theorem dX12_share_76 : decode cX12_share 76 = .ok (.iadd, 1) := by decide +kernel
theorem dX12_share_77 : decode cX12_share 77 = .ok (.istore 6, 2) := by decide +kernel
theorem dX12_share_79 : decode cX12_share 79 = .ok (.iload 4, 2) := by decide +kernel
theorem dX12_share_81 : decode cX12_share 81 = .ok (.iload_n 2, 1) := by decide +kernel
theorem dX12_share_82 : decode cX12_share 82 = .ok (.ishr, 1) := by decide +kernel
theorem dX12_share_83 : decode cX12_share 83 = .ok (.iconst 1, 1) := by decide +kernel
theorem dX12_share_84 : decode cX12_share 84 = .ok (.iand, 1) := by decide +kernel
theorem dX12_share_85 : decode cX12_share 85 = .ok (.iconst 1, 1) := by decide +kernel
theorem dX12_share_86 : decode cX12_share 86 = .ok (.if_icmp .ne 7, 3) := by decide +kernel
theorem dX12_share_89 : decode cX12_share 89 = .ok (.iconst 1, 1) := by decide +kernel
theorem dX12_share_90 : decode cX12_share 90 = .ok (.goto 4, 3) := by decide +kernel
theorem dX12_share_93 : decode cX12_share 93 = .ok (.iconst 0, 1) := by decide +kernel
theorem dX12_share_94 : decode cX12_share 94 = .ok (.istore 7, 2) := by decide +kernel
theorem dX12_share_96 : decode cX12_share 96 = .ok (.iload 7, 2) := by decide +kernel
theorem dX12_share_98 : decode cX12_share 98 = .ok (.ifCond .eq 10, 3) := by decide +kernel
theorem dX12_share_101 : decode cX12_share 101 = .ok (.iload 6, 2) := by decide +kernel
theorem dX12_share_103 : decode cX12_share 103 = .ok (.iconst 1, 1) := by decide +kernel
theorem dX12_share_104 : decode cX12_share 104 = .ok (.isub, 1) := by decide +kernel
theorem dX12_share_105 : decode cX12_share 105 = .ok (.goto 5, 3) := by decide +kernel
theorem dX12_share_108 : decode cX12_share 108 = .ok (.iload 6, 2) := by decide +kernel
theorem dX12_share_110 : decode cX12_share 110 = .ok (.istore 8, 2) := by decide +kernel
theorem dX12_share_112 : decode cX12_share 112 = .ok (.aload_n 0, 1) := by decide +kernel
theorem dX12_share_113 : decode cX12_share 113 = .ok (.getfield 144, 3) := by decide +kernel
theorem dX12_share_116 : decode cX12_share 116 = .ok (.iconst 1, 1) := by decide +kernel
theorem dX12_share_117 : decode cX12_share 117 = .ok (.if_icmp .ne 8, 3) := by decide +kernel
theorem dX12_share_120 : decode cX12_share 120 = .ok (.bipush 6, 2) := by decide +kernel
theorem dX12_share_122 : decode cX12_share 122 = .ok (.goto 26, 3) := by decide +kernel
theorem dX12_share_125 : decode cX12_share 125 = .ok (.aload_n 0, 1) := by decide +kernel
theorem dX12_share_126 : decode cX12_share 126 = .ok (.getfield 144, 3) := by decide +kernel
theorem dX12_share_129 : decode cX12_share 129 = .ok (.iconst 2, 1) := by decide +kernel
theorem dX12_share_130 : decode cX12_share 130 = .ok (.if_icmp .ne 7, 3) := by decide +kernel
theorem dX12_share_133 : decode cX12_share 133 = .ok (.iconst 3, 1) := by decide +kernel
theorem dX12_share_134 : decode cX12_share 134 = .ok (.goto 14, 3) := by decide +kernel
theorem dX12_share_137 : decode cX12_share 137 = .ok (.iload 8, 2) := by decide +kernel
theorem dX12_share_139 : decode cX12_share 139 = .ok (.iconst 1, 1) := by decide +kernel
theorem dX12_share_140 : decode cX12_share 140 = .ok (.if_icmp .ne 7, 3) := by decide +kernel
theorem dX12_share_143 : decode cX12_share 143 = .ok (.iconst 1, 1) := by decide +kernel
theorem dX12_share_144 : decode cX12_share 144 = .ok (.goto 4, 3) := by decide +kernel
theorem dX12_share_147 : decode cX12_share 147 = .ok (.iconst 2, 1) := by decide +kernel
theorem dX12_share_148 : decode cX12_share 148 = .ok (.istore 9, 2) := by decide +kernel
theorem dX12_share_150 : decode cX12_share 150 = .ok (.iload_n 3, 1) := by decide +kernel
theorem dX12_share_151 : decode cX12_share 151 = .ok (.iload 7, 2) := by decide +kernel
theorem dX12_share_153 : decode cX12_share 153 = .ok (.ifCond .eq 12, 3) := by decide +kernel
theorem dX12_share_156 : decode cX12_share 156 = .ok (.iload 9, 2) := by decide +kernel
theorem dX12_share_158 : decode cX12_share 158 = .ok (.ineg, 1) := by decide +kernel
theorem dX12_share_159 : decode cX12_share 159 = .ok (.iload 5, 2) := by decide +kernel
theorem dX12_share_161 : decode cX12_share 161 = .ok (.imul, 1) := by decide +kernel
theorem dX12_share_162 : decode cX12_share 162 = .ok (.goto 8, 3) := by decide +kernel
theorem dX12_share_165 : decode cX12_share 165 = .ok (.iload 9, 2) := by decide +kernel
theorem dX12_share_167 : decode cX12_share 167 = .ok (.iload 5, 2) := by decide +kernel
theorem dX12_share_169 : decode cX12_share 169 = .ok (.imul, 1) := by decide +kernel
theorem dX12_share_170 : decode cX12_share 170 = .ok (.iadd, 1) := by decide +kernel
theorem dX12_share_171 : decode cX12_share 171 = .ok (.istore_n 3, 1) := by decide +kernel
theorem dX12_share_172 : decode cX12_share 172 = .ok (.iinc 4 1, 3) := by decide +kernel
theorem dX12_share_175 : decode cX12_share 175 = .ok (.goto (-146), 3) := by decide +kernel
theorem dX12_share_178 : decode cX12_share 178 = .ok (.iload_n 3, 1) := by decide +kernel
theorem dX12_share_179 : decode cX12_share 179 = .ok (.ireturn, 1) := by decide +kernel
theorem dX12_count_0 : decode cX12_count 0 = .ok (.aload_n 0, 1) := by decide +kernel
theorem dX12_count_1 : decode cX12_count 1 = .ok (.iconst 0, 1) := by decide +kernel
theorem dX12_count_2 : decode cX12_count 2 = .ok (.putfield 133, 3) := by decide +kernel
theorem dX12_count_5 : decode cX12_count 5 = .ok (.iconst 0, 1) := by decide +kernel
theorem dX12_count_6 : decode cX12_count 6 = .ok (.istore_n 2, 1) := by decide +kernel
theorem dX12_count_7 : decode cX12_count 7 = .ok (.iconst 0, 1) := by decide +kernel
theorem dX12_count_8 : decode cX12_count 8 = .ok (.istore_n 3, 1) := by decide +kernel
theorem dX12_count_9 : decode cX12_count 9 = .ok (.iconst 0, 1) := by decide +kernel
theorem dX12_count_10 : decode cX12_count 10 = .ok (.istore 4, 2) := by decide +kernel
theorem dX12_count_12 : decode cX12_count 12 = .ok (.iload 4, 2) := by decide +kernel
theorem dX12_count_14 : decode cX12_count 14 = .ok (.aload_n 0, 1) := by decide +kernel
theorem dX12_count_15 : decode cX12_count 15 = .ok (.getfield 137, 3) := by decide +kernel
theorem dX12_count_18 : decode cX12_count 18 = .ok (.if_icmp .ge 27, 3) := by decide +kernel
theorem dX12_count_21 : decode cX12_count 21 = .ok (.iload_n 2, 1) := by decide +kernel
theorem dX12_count_22 : decode cX12_count 22 = .ok (.aload_n 0, 1) := by decide +kernel
theorem dX12_count_23 : decode cX12_count 23 = .ok (.getfield 101, 3) := by decide +kernel
theorem dX12_count_26 : decode cX12_count 26 = .ok (.iload 4, 2) := by decide +kernel
theorem dX12_count_28 : decode cX12_count 28 = .ok (.baload, 1) := by decide +kernel
theorem dX12_count_29 : decode cX12_count 29 = .ok (.ifCond .eq 7, 3) := by decide +kernel
theorem dX12_count_32 : decode cX12_count 32 = .ok (.iconst 1, 1) := by decide +kernel
theorem dX12_count_33 : decode cX12_count 33 = .ok (.goto 4, 3) := by decide +kernel
theorem dX12_count_36 : decode cX12_count 36 = .ok (.iconst 0, 1) := by decide +kernel
theorem dX12_count_37 : decode cX12_count 37 = .ok (.iadd, 1) := by decide +kernel
theorem dX12_count_38 : decode cX12_count 38 = .ok (.istore_n 2, 1) := by decide +kernel
theorem dX12_count_39 : decode cX12_count 39 = .ok (.iinc 4 1, 3) := by decide +kernel
theorem dX12_count_42 : decode cX12_count 42 = .ok (.goto (-30), 3) := by decide +kernel
theorem dX12_count_45 : decode cX12_count 45 = .ok (.iconst 0, 1) := by decide +kernel
theorem dX12_count_46 : decode cX12_count 46 = .ok (.istore 4, 2) := by decide +kernel
theorem dX12_count_48 : decode cX12_count 48 = .ok (.iload 4, 2) := by decide +kernel
theorem dX12_count_50 : decode cX12_count 50 = .ok (.aload_n 0, 1) := by decide +kernel
theorem dX12_count_51 : decode cX12_count 51 = .ok (.getfield 144, 3) := by decide +kernel
theorem dX12_count_54 : decode cX12_count 54 = .ok (.if_icmp .ge 19, 3) := by decide +kernel
theorem dX12_count_57 : decode cX12_count 57 = .ok (.iload_n 3, 1) := by decide +kernel
theorem dX12_count_58 : decode cX12_count 58 = .ok (.aload_n 0, 1) := by decide +kernel
theorem dX12_count_59 : decode cX12_count 59 = .ok (.getfield 58, 3) := by decide +kernel
theorem dX12_count_62 : decode cX12_count 62 = .ok (.iload 4, 2) := by decide +kernel
theorem dX12_count_64 : decode cX12_count 64 = .ok (.iaload, 1) := by decide +kernel
theorem dX12_count_65 : decode cX12_count 65 = .ok (.iadd, 1) := by decide +kernel
theorem dX12_count_66 : decode cX12_count 66 = .ok (.istore_n 3, 1) := by decide +kernel
theorem dX12_count_67 : decode cX12_count 67 = .ok (.iinc 4 1, 3) := by decide +kernel
theorem dX12_count_70 : decode cX12_count 70 = .ok (.goto (-22), 3) := by decide +kernel
theorem dX12_count_73 : decode cX12_count 73 = .ok (.iload_n 1, 1) := by decide +kernel
theorem dX12_count_74 : decode cX12_count 74 = .ok (.tableswitch 89 0 8 #[50, 55, 60, 65, 70, 75, 80, 85, 87], 50) := by decide +kernel
theorem dX12_count_124 : decode cX12_count 124 = .ok (.aload_n 0, 1) := by decide +kernel
theorem dX12_count_125 : decode cX12_count 125 = .ok (.getfield 137, 3) := by decide +kernel
theorem dX12_count_128 : decode cX12_count 128 = .ok (.ireturn, 1) := by decide +kernel
theorem dX12_count_129 : decode cX12_count 129 = .ok (.aload_n 0, 1) := by decide +kernel
theorem dX12_count_130 : decode cX12_count 130 = .ok (.getfield 164, 3) := by decide +kernel
theorem dX12_count_133 : decode cX12_count 133 = .ok (.ireturn, 1) := by decide +kernel
theorem dX12_count_134 : decode cX12_count 134 = .ok (.aload_n 0, 1) := by decide +kernel
theorem dX12_count_135 : decode cX12_count 135 = .ok (.getfield 169, 3) := by decide +kernel
theorem dX12_count_138 : decode cX12_count 138 = .ok (.ireturn, 1) := by decide +kernel
theorem dX12_count_139 : decode cX12_count 139 = .ok (.aload_n 0, 1) := by decide +kernel
theorem dX12_count_140 : decode cX12_count 140 = .ok (.getfield 172, 3) := by decide +kernel
theorem dX12_count_143 : decode cX12_count 143 = .ok (.ireturn, 1) := by decide +kernel
theorem dX12_count_144 : decode cX12_count 144 = .ok (.aload_n 0, 1) := by decide +kernel
theorem dX12_count_145 : decode cX12_count 145 = .ok (.getfield 144, 3) := by decide +kernel
theorem dX12_count_148 : decode cX12_count 148 = .ok (.ireturn, 1) := by decide +kernel
theorem dX12_count_149 : decode cX12_count 149 = .ok (.aload_n 0, 1) := by decide +kernel
theorem dX12_count_150 : decode cX12_count 150 = .ok (.getfield 319, 3) := by decide +kernel
theorem dX12_count_153 : decode cX12_count 153 = .ok (.ireturn, 1) := by decide +kernel
theorem dX12_count_154 : decode cX12_count 154 = .ok (.aload_n 0, 1) := by decide +kernel
theorem dX12_count_155 : decode cX12_count 155 = .ok (.getfield 340, 3) := by decide +kernel
theorem dX12_count_158 : decode cX12_count 158 = .ok (.ireturn, 1) := by decide +kernel
theorem dX12_count_159 : decode cX12_count 159 = .ok (.iload_n 2, 1) := by decide +kernel
theorem dX12_count_160 : decode cX12_count 160 = .ok (.ireturn, 1) := by decide +kernel
theorem dX12_count_161 : decode cX12_count 161 = .ok (.iload_n 3, 1) := by decide +kernel
theorem dX12_count_162 : decode cX12_count 162 = .ok (.ireturn, 1) := by decide +kernel
theorem dX12_count_163 : decode cX12_count 163 = .ok (.ldc 153, 2) := by decide +kernel
theorem dX12_count_165 : decode cX12_count 165 = .ok (.ireturn, 1) := by decide +kernel
