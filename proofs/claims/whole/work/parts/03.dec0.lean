theorem dX0_init_0 : decode cX0_init 0 = .ok (.aload_n 0, 1) := by decide +kernel
theorem dX0_init_1 : decode cX0_init 1 = .ok (.invokespecial 3, 3) := by decide +kernel
theorem dX0_init_4 : decode cX0_init 4 = .ok (.aload_n 0, 1) := by decide +kernel
theorem dX0_init_5 : decode cX0_init 5 = .ok (.bipush 6, 2) := by decide +kernel
theorem dX0_init_7 : decode cX0_init 7 = .ok (.newarray .int, 2) := by decide +kernel
theorem dX0_init_9 : decode cX0_init 9 = .ok (.putfield 9, 3) := by decide +kernel
theorem dX0_init_12 : decode cX0_init 12 = .ok (.aload_n 0, 1) := by decide +kernel
theorem dX0_init_13 : decode cX0_init 13 = .ok (.bipush 6, 2) := by decide +kernel
theorem dX0_init_15 : decode cX0_init 15 = .ok (.newarray .long, 2) := by decide +kernel
theorem dX0_init_17 : decode cX0_init 17 = .ok (.putfield 15, 3) := by decide +kernel
theorem dX0_init_20 : decode cX0_init 20 = .ok (.aload_n 0, 1) := by decide +kernel
theorem dX0_init_21 : decode cX0_init 21 = .ok (.bipush 6, 2) := by decide +kernel
theorem dX0_init_23 : decode cX0_init 23 = .ok (.newarray .int, 2) := by decide +kernel
theorem dX0_init_25 : decode cX0_init 25 = .ok (.putfield 19, 3) := by decide +kernel
theorem dX0_init_28 : decode cX0_init 28 = .ok (.aload_n 0, 1) := by decide +kernel
theorem dX0_init_29 : decode cX0_init 29 = .ok (.aload_n 1, 1) := by decide +kernel
theorem dX0_init_30 : decode cX0_init 30 = .ok (.putfield 22, 3) := by decide +kernel
theorem dX0_init_33 : decode cX0_init 33 = .ok (.return_, 1) := by decide +kernel
theorem dX0_beginBooks_0 : decode cX0_beginBooks 0 = .ok (.aload_n 0, 1) := by decide +kernel
theorem dX0_beginBooks_1 : decode cX0_beginBooks 1 = .ok (.getfield 15, 3) := by decide +kernel
theorem dX0_beginBooks_4 : decode cX0_beginBooks 4 = .ok (.lconst 0, 1) := by decide +kernel
theorem dX0_beginBooks_5 : decode cX0_beginBooks 5 = .ok (.invokestatic 26, 3) := by decide +kernel
theorem dX0_beginBooks_8 : decode cX0_beginBooks 8 = .ok (.return_, 1) := by decide +kernel
theorem dX0_markOf_0 : decode cX0_markOf 0 = .ok (.aload_n 0, 1) := by decide +kernel
theorem dX0_markOf_1 : decode cX0_markOf 1 = .ok (.getfield 22, 3) := by decide +kernel
theorem dX0_markOf_4 : decode cX0_markOf 4 = .ok (.getfield 32, 3) := by decide +kernel
theorem dX0_markOf_7 : decode cX0_markOf 7 = .ok (.iload_n 1, 1) := by decide +kernel
theorem dX0_markOf_8 : decode cX0_markOf 8 = .ok (.iaload, 1) := by decide +kernel
theorem dX0_markOf_9 : decode cX0_markOf 9 = .ok (.istore_n 2, 1) := by decide +kernel
theorem dX0_markOf_10 : decode cX0_markOf 10 = .ok (.iload_n 2, 1) := by decide +kernel
theorem dX0_markOf_11 : decode cX0_markOf 11 = .ok (.iconst 1, 1) := by decide +kernel
theorem dX0_markOf_12 : decode cX0_markOf 12 = .ok (.if_icmp .ge 15, 3) := by decide +kernel
theorem dX0_markOf_15 : decode cX0_markOf 15 = .ok (.aload_n 0, 1) := by decide +kernel
theorem dX0_markOf_16 : decode cX0_markOf 16 = .ok (.getfield 22, 3) := by decide +kernel
theorem dX0_markOf_19 : decode cX0_markOf 19 = .ok (.getfield 37, 3) := by decide +kernel
theorem dX0_markOf_22 : decode cX0_markOf 22 = .ok (.iload_n 1, 1) := by decide +kernel
theorem dX0_markOf_23 : decode cX0_markOf 23 = .ok (.iaload, 1) := by decide +kernel
theorem dX0_markOf_24 : decode cX0_markOf 24 = .ok (.goto 21, 3) := by decide +kernel
theorem dX0_markOf_27 : decode cX0_markOf 27 = .ok (.aload_n 0, 1) := by decide +kernel
theorem dX0_markOf_28 : decode cX0_markOf 28 = .ok (.getfield 9, 3) := by decide +kernel
theorem dX0_markOf_31 : decode cX0_markOf 31 = .ok (.iload_n 1, 1) := by decide +kernel
theorem dX0_markOf_32 : decode cX0_markOf 32 = .ok (.iaload, 1) := by decide +kernel
theorem dX0_markOf_33 : decode cX0_markOf 33 = .ok (.iload_n 2, 1) := by decide +kernel
theorem dX0_markOf_34 : decode cX0_markOf 34 = .ok (.idiv, 1) := by decide +kernel
theorem dX0_markOf_35 : decode cX0_markOf 35 = .ok (.aload_n 0, 1) := by decide +kernel
theorem dX0_markOf_36 : decode cX0_markOf 36 = .ok (.getfield 22, 3) := by decide +kernel
theorem dX0_markOf_39 : decode cX0_markOf 39 = .ok (.getfield 37, 3) := by decide +kernel
theorem dX0_markOf_42 : decode cX0_markOf 42 = .ok (.iload_n 1, 1) := by decide +kernel
theorem dX0_markOf_43 : decode cX0_markOf 43 = .ok (.iaload, 1) := by decide +kernel
theorem dX0_markOf_44 : decode cX0_markOf 44 = .ok (.iadd, 1) := by decide +kernel
theorem dX0_markOf_45 : decode cX0_markOf 45 = .ok (.ireturn, 1) := by decide +kernel
theorem dX0_allHeld_0 : decode cX0_allHeld 0 = .ok (.iconst 0, 1) := by decide +kernel
theorem dX0_allHeld_1 : decode cX0_allHeld 1 = .ok (.istore_n 1, 1) := by decide +kernel
theorem dX0_allHeld_2 : decode cX0_allHeld 2 = .ok (.iconst 0, 1) := by decide +kernel
theorem dX0_allHeld_3 : decode cX0_allHeld 3 = .ok (.istore_n 2, 1) := by decide +kernel
theorem dX0_allHeld_4 : decode cX0_allHeld 4 = .ok (.iload_n 2, 1) := by decide +kernel
theorem dX0_allHeld_5 : decode cX0_allHeld 5 = .ok (.aload_n 0, 1) := by decide +kernel
theorem dX0_allHeld_6 : decode cX0_allHeld 6 = .ok (.getfield 22, 3) := by decide +kernel
theorem dX0_allHeld_9 : decode cX0_allHeld 9 = .ok (.getfield 40, 3) := by decide +kernel
theorem dX0_allHeld_12 : decode cX0_allHeld 12 = .ok (.if_icmp .ge 18, 3) := by decide +kernel
theorem dX0_allHeld_15 : decode cX0_allHeld 15 = .ok (.iload_n 1, 1) := by decide +kernel
theorem dX0_allHeld_16 : decode cX0_allHeld 16 = .ok (.aload_n 0, 1) := by decide +kernel
theorem dX0_allHeld_17 : decode cX0_allHeld 17 = .ok (.getfield 9, 3) := by decide +kernel
theorem dX0_allHeld_20 : decode cX0_allHeld 20 = .ok (.iload_n 2, 1) := by decide +kernel
theorem dX0_allHeld_21 : decode cX0_allHeld 21 = .ok (.iaload, 1) := by decide +kernel
theorem dX0_allHeld_22 : decode cX0_allHeld 22 = .ok (.iadd, 1) := by decide +kernel
theorem dX0_allHeld_23 : decode cX0_allHeld 23 = .ok (.istore_n 1, 1) := by decide +kernel
theorem dX0_allHeld_24 : decode cX0_allHeld 24 = .ok (.iinc 2 1, 3) := by decide +kernel
theorem dX0_allHeld_27 : decode cX0_allHeld 27 = .ok (.goto (-23), 3) := by decide +kernel
theorem dX0_allHeld_30 : decode cX0_allHeld 30 = .ok (.iload_n 1, 1) := by decide +kernel
theorem dX0_allHeld_31 : decode cX0_allHeld 31 = .ok (.ireturn, 1) := by decide +kernel
theorem dX0_passTick_0 : decode cX0_passTick 0 = .ok (.iconst 0, 1) := by decide +kernel
theorem dX0_passTick_1 : decode cX0_passTick 1 = .ok (.istore_n 1, 1) := by decide +kernel
theorem dX0_passTick_2 : decode cX0_passTick 2 = .ok (.iload_n 1, 1) := by decide +kernel
theorem dX0_passTick_3 : decode cX0_passTick 3 = .ok (.aload_n 0, 1) := by decide +kernel
theorem dX0_passTick_4 : decode cX0_passTick 4 = .ok (.getfield 22, 3) := by decide +kernel
theorem dX0_passTick_7 : decode cX0_passTick 7 = .ok (.getfield 40, 3) := by decide +kernel
theorem dX0_passTick_10 : decode cX0_passTick 10 = .ok (.if_icmp .ge 20, 3) := by decide +kernel
theorem dX0_passTick_13 : decode cX0_passTick 13 = .ok (.aload_n 0, 1) := by decide +kernel
theorem dX0_passTick_14 : decode cX0_passTick 14 = .ok (.getfield 19, 3) := by decide +kernel
theorem dX0_passTick_17 : decode cX0_passTick 17 = .ok (.iload_n 1, 1) := by decide +kernel
theorem dX0_passTick_18 : decode cX0_passTick 18 = .ok (.aload_n 0, 1) := by decide +kernel
theorem dX0_passTick_19 : decode cX0_passTick 19 = .ok (.iload_n 1, 1) := by decide +kernel
theorem dX0_passTick_20 : decode cX0_passTick 20 = .ok (.invokevirtual 44, 3) := by decide +kernel
theorem dX0_passTick_23 : decode cX0_passTick 23 = .ok (.iastore, 1) := by decide +kernel
theorem dX0_passTick_24 : decode cX0_passTick 24 = .ok (.iinc 1 1, 3) := by decide +kernel
theorem dX0_passTick_27 : decode cX0_passTick 27 = .ok (.goto (-25), 3) := by decide +kernel
theorem dX0_passTick_30 : decode cX0_passTick 30 = .ok (.iconst 0, 1) := by decide +kernel
theorem dX0_passTick_31 : decode cX0_passTick 31 = .ok (.istore_n 1, 1) := by decide +kernel
theorem dX0_passTick_32 : decode cX0_passTick 32 = .ok (.iload_n 1, 1) := by decide +kernel
theorem dX0_passTick_33 : decode cX0_passTick 33 = .ok (.aload_n 0, 1) := by decide +kernel
theorem dX0_passTick_34 : decode cX0_passTick 34 = .ok (.getfield 22, 3) := by decide +kernel
theorem dX0_passTick_37 : decode cX0_passTick 37 = .ok (.getfield 40, 3) := by decide +kernel
theorem dX0_passTick_40 : decode cX0_passTick 40 = .ok (.if_icmp .ge 42, 3) := by decide +kernel
theorem dX0_passTick_43 : decode cX0_passTick 43 = .ok (.aload_n 0, 1) := by decide +kernel
theorem dX0_passTick_44 : decode cX0_passTick 44 = .ok (.getfield 15, 3) := by decide +kernel
theorem dX0_passTick_47 : decode cX0_passTick 47 = .ok (.iconst 0, 1) := by decide +kernel
theorem dX0_passTick_48 : decode cX0_passTick 48 = .ok (.dup2, 1) := by decide +kernel
theorem dX0_passTick_49 : decode cX0_passTick 49 = .ok (.laload, 1) := by decide +kernel
theorem dX0_passTick_50 : decode cX0_passTick 50 = .ok (.aload_n 0, 1) := by decide +kernel
theorem dX0_passTick_51 : decode cX0_passTick 51 = .ok (.getfield 22, 3) := by decide +kernel
theorem dX0_passTick_54 : decode cX0_passTick 54 = .ok (.getfield 48, 3) := by decide +kernel
theorem dX0_passTick_57 : decode cX0_passTick 57 = .ok (.iload_n 1, 1) := by decide +kernel
theorem dX0_passTick_58 : decode cX0_passTick 58 = .ok (.iaload, 1) := by decide +kernel
theorem dX0_passTick_59 : decode cX0_passTick 59 = .ok (.i2l, 1) := by decide +kernel
theorem dX0_passTick_60 : decode cX0_passTick 60 = .ok (.ladd, 1) := by decide +kernel
theorem dX0_passTick_61 : decode cX0_passTick 61 = .ok (.lastore, 1) := by decide +kernel
theorem dX0_passTick_62 : decode cX0_passTick 62 = .ok (.aload_n 0, 1) := by decide +kernel
theorem dX0_passTick_63 : decode cX0_passTick 63 = .ok (.iload_n 1, 1) := by decide +kernel
theorem dX0_passTick_64 : decode cX0_passTick 64 = .ok (.aload_n 0, 1) := by decide +kernel
theorem dX0_passTick_65 : decode cX0_passTick 65 = .ok (.getfield 22, 3) := by decide +kernel
theorem dX0_passTick_68 : decode cX0_passTick 68 = .ok (.getfield 48, 3) := by decide +kernel
theorem dX0_passTick_71 : decode cX0_passTick 71 = .ok (.iload_n 1, 1) := by decide +kernel
theorem dX0_passTick_72 : decode cX0_passTick 72 = .ok (.iaload, 1) := by decide +kernel
theorem dX0_passTick_73 : decode cX0_passTick 73 = .ok (.invokevirtual 51, 3) := by decide +kernel
theorem dX0_passTick_76 : decode cX0_passTick 76 = .ok (.iinc 1 1, 3) := by decide +kernel
theorem dX0_passTick_79 : decode cX0_passTick 79 = .ok (.goto (-47), 3) := by decide +kernel
theorem dX0_passTick_82 : decode cX0_passTick 82 = .ok (.iconst 0, 1) := by decide +kernel
theorem dX0_passTick_83 : decode cX0_passTick 83 = .ok (.istore_n 1, 1) := by decide +kernel
theorem dX0_passTick_84 : decode cX0_passTick 84 = .ok (.iload_n 1, 1) := by decide +kernel
theorem dX0_passTick_85 : decode cX0_passTick 85 = .ok (.aload_n 0, 1) := by decide +kernel
theorem dX0_passTick_86 : decode cX0_passTick 86 = .ok (.getfield 22, 3) := by decide +kernel
theorem dX0_passTick_89 : decode cX0_passTick 89 = .ok (.getfield 55, 3) := by decide +kernel
theorem dX0_passTick_92 : decode cX0_passTick 92 = .ok (.getfield 59, 3) := by decide +kernel
theorem dX0_passTick_95 : decode cX0_passTick 95 = .ok (.if_icmp .ge 14, 3) := by decide +kernel
theorem dX0_passTick_98 : decode cX0_passTick 98 = .ok (.aload_n 0, 1) := by decide +kernel
theorem dX0_passTick_99 : decode cX0_passTick 99 = .ok (.iload_n 1, 1) := by decide +kernel
theorem dX0_passTick_100 : decode cX0_passTick 100 = .ok (.invokevirtual 64, 3) := by decide +kernel
theorem dX0_passTick_103 : decode cX0_passTick 103 = .ok (.iinc 1 1, 3) := by decide +kernel
theorem dX0_passTick_106 : decode cX0_passTick 106 = .ok (.goto (-22), 3) := by decide +kernel
theorem dX0_passTick_109 : decode cX0_passTick 109 = .ok (.iconst 0, 1) := by decide +kernel
theorem dX0_passTick_110 : decode cX0_passTick 110 = .ok (.istore_n 1, 1) := by decide +kernel
theorem dX0_passTick_111 : decode cX0_passTick 111 = .ok (.iload_n 1, 1) := by decide +kernel
theorem dX0_passTick_112 : decode cX0_passTick 112 = .ok (.aload_n 0, 1) := by decide +kernel
theorem dX0_passTick_113 : decode cX0_passTick 113 = .ok (.getfield 22, 3) := by decide +kernel
theorem dX0_passTick_116 : decode cX0_passTick 116 = .ok (.getfield 68, 3) := by decide +kernel
theorem dX0_passTick_119 : decode cX0_passTick 119 = .ok (.getfield 72, 3) := by decide +kernel
theorem dX0_passTick_122 : decode cX0_passTick 122 = .ok (.if_icmp .ge 14, 3) := by decide +kernel
theorem dX0_passTick_125 : decode cX0_passTick 125 = .ok (.aload_n 0, 1) := by decide +kernel
theorem dX0_passTick_126 : decode cX0_passTick 126 = .ok (.iload_n 1, 1) := by decide +kernel
theorem dX0_passTick_127 : decode cX0_passTick 127 = .ok (.invokevirtual 75, 3) := by decide +kernel
theorem dX0_passTick_130 : decode cX0_passTick 130 = .ok (.iinc 1 1, 3) := by decide +kernel
theorem dX0_passTick_133 : decode cX0_passTick 133 = .ok (.goto (-22), 3) := by decide +kernel
theorem dX0_passTick_136 : decode cX0_passTick 136 = .ok (.iconst 0, 1) := by decide +kernel
theorem dX0_passTick_137 : decode cX0_passTick 137 = .ok (.istore_n 1, 1) := by decide +kernel
theorem dX0_passTick_138 : decode cX0_passTick 138 = .ok (.iload_n 1, 1) := by decide +kernel
theorem dX0_passTick_139 : decode cX0_passTick 139 = .ok (.aload_n 0, 1) := by decide +kernel
theorem dX0_passTick_140 : decode cX0_passTick 140 = .ok (.getfield 22, 3) := by decide +kernel
theorem dX0_passTick_143 : decode cX0_passTick 143 = .ok (.getfield 78, 3) := by decide +kernel
theorem dX0_passTick_146 : decode cX0_passTick 146 = .ok (.getfield 82, 3) := by decide +kernel
theorem dX0_passTick_149 : decode cX0_passTick 149 = .ok (.if_icmp .ge 78, 3) := by decide +kernel
theorem dX0_passTick_152 : decode cX0_passTick 152 = .ok (.aload_n 0, 1) := by decide +kernel
theorem dX0_passTick_153 : decode cX0_passTick 153 = .ok (.getfield 22, 3) := by decide +kernel
theorem dX0_passTick_156 : decode cX0_passTick 156 = .ok (.getfield 78, 3) := by decide +kernel
theorem dX0_passTick_159 : decode cX0_passTick 159 = .ok (.getfield 85, 3) := by decide +kernel
theorem dX0_passTick_162 : decode cX0_passTick 162 = .ok (.iload_n 1, 1) := by decide +kernel
theorem dX0_passTick_163 : decode cX0_passTick 163 = .ok (.iaload, 1) := by decide +kernel
theorem dX0_passTick_164 : decode cX0_passTick 164 = .ok (.istore_n 2, 1) := by decide +kernel
theorem dX0_passTick_165 : decode cX0_passTick 165 = .ok (.iconst 0, 1) := by decide +kernel
theorem dX0_passTick_166 : decode cX0_passTick 166 = .ok (.aload_n 0, 1) := by decide +kernel
theorem dX0_passTick_167 : decode cX0_passTick 167 = .ok (.getfield 19, 3) := by decide +kernel
theorem dX0_passTick_170 : decode cX0_passTick 170 = .ok (.iload_n 2, 1) := by decide +kernel
theorem dX0_passTick_171 : decode cX0_passTick 171 = .ok (.iaload, 1) := by decide +kernel
theorem dX0_passTick_172 : decode cX0_passTick 172 = .ok (.aload_n 0, 1) := by decide +kernel
theorem dX0_passTick_173 : decode cX0_passTick 173 = .ok (.getfield 22, 3) := by decide +kernel
theorem dX0_passTick_176 : decode cX0_passTick 176 = .ok (.getfield 78, 3) := by decide +kernel
theorem dX0_passTick_179 : decode cX0_passTick 179 = .ok (.getfield 88, 3) := by decide +kernel
theorem dX0_passTick_182 : decode cX0_passTick 182 = .ok (.iload_n 1, 1) := by decide +kernel
theorem dX0_passTick_183 : decode cX0_passTick 183 = .ok (.iaload, 1) := by decide +kernel
theorem dX0_passTick_184 : decode cX0_passTick 184 = .ok (.isub, 1) := by decide +kernel
theorem dX0_passTick_185 : decode cX0_passTick 185 = .ok (.invokestatic 91, 3) := by decide +kernel
theorem dX0_passTick_188 : decode cX0_passTick 188 = .ok (.istore_n 3, 1) := by decide +kernel
theorem dX0_passTick_189 : decode cX0_passTick 189 = .ok (.aload_n 0, 1) := by decide +kernel
theorem dX0_passTick_190 : decode cX0_passTick 190 = .ok (.getfield 15, 3) := by decide +kernel
theorem dX0_passTick_193 : decode cX0_passTick 193 = .ok (.iconst 3, 1) := by decide +kernel
theorem dX0_passTick_194 : decode cX0_passTick 194 = .ok (.dup2, 1) := by decide +kernel
theorem dX0_passTick_195 : decode cX0_passTick 195 = .ok (.laload, 1) := by decide +kernel
theorem dX0_passTick_196 : decode cX0_passTick 196 = .ok (.aload_n 0, 1) := by decide +kernel
theorem dX0_passTick_197 : decode cX0_passTick 197 = .ok (.iload_n 2, 1) := by decide +kernel
theorem dX0_passTick_198 : decode cX0_passTick 198 = .ok (.aload_n 0, 1) := by decide +kernel
theorem dX0_passTick_199 : decode cX0_passTick 199 = .ok (.getfield 22, 3) := by decide +kernel
theorem dX0_passTick_202 : decode cX0_passTick 202 = .ok (.getfield 78, 3) := by decide +kernel
theorem dX0_passTick_205 : decode cX0_passTick 205 = .ok (.getfield 97, 3) := by decide +kernel
theorem dX0_passTick_208 : decode cX0_passTick 208 = .ok (.iload_n 1, 1) := by decide +kernel
theorem dX0_passTick_209 : decode cX0_passTick 209 = .ok (.iaload, 1) := by decide +kernel
theorem dX0_passTick_210 : decode cX0_passTick 210 = .ok (.iload_n 3, 1) := by decide +kernel
theorem dX0_passTick_211 : decode cX0_passTick 211 = .ok (.imul, 1) := by decide +kernel
theorem dX0_passTick_212 : decode cX0_passTick 212 = .ok (.bipush 100, 2) := by decide +kernel
theorem dX0_passTick_214 : decode cX0_passTick 214 = .ok (.idiv, 1) := by decide +kernel
theorem dX0_passTick_215 : decode cX0_passTick 215 = .ok (.invokevirtual 100, 3) := by decide +kernel
theorem dX0_passTick_218 : decode cX0_passTick 218 = .ok (.i2l, 1) := by decide +kernel
theorem dX0_passTick_219 : decode cX0_passTick 219 = .ok (.ladd, 1) := by decide +kernel
theorem dX0_passTick_220 : decode cX0_passTick 220 = .ok (.lastore, 1) := by decide +kernel
theorem dX0_passTick_221 : decode cX0_passTick 221 = .ok (.iinc 1 1, 3) := by decide +kernel
theorem dX0_passTick_224 : decode cX0_passTick 224 = .ok (.goto (-86), 3) := by decide +kernel
theorem dX0_passTick_227 : decode cX0_passTick 227 = .ok (.iconst 0, 1) := by decide +kernel
theorem dX0_passTick_228 : decode cX0_passTick 228 = .ok (.istore_n 1, 1) := by decide +kernel
theorem dX0_passTick_229 : decode cX0_passTick 229 = .ok (.iload_n 1, 1) := by decide +kernel
theorem dX0_passTick_230 : decode cX0_passTick 230 = .ok (.aload_n 0, 1) := by decide +kernel
theorem dX0_passTick_231 : decode cX0_passTick 231 = .ok (.getfield 22, 3) := by decide +kernel
theorem dX0_passTick_234 : decode cX0_passTick 234 = .ok (.getfield 103, 3) := by decide +kernel
theorem dX0_passTick_237 : decode cX0_passTick 237 = .ok (.getfield 107, 3) := by decide +kernel
theorem dX0_passTick_240 : decode cX0_passTick 240 = .ok (.if_icmp .ge 47, 3) := by decide +kernel
theorem dX0_passTick_243 : decode cX0_passTick 243 = .ok (.aload_n 0, 1) := by decide +kernel
theorem dX0_passTick_244 : decode cX0_passTick 244 = .ok (.getfield 15, 3) := by decide +kernel
theorem dX0_passTick_247 : decode cX0_passTick 247 = .ok (.iconst 4, 1) := by decide +kernel
theorem dX0_passTick_248 : decode cX0_passTick 248 = .ok (.dup2, 1) := by decide +kernel
theorem dX0_passTick_249 : decode cX0_passTick 249 = .ok (.laload, 1) := by decide +kernel
theorem dX0_passTick_250 : decode cX0_passTick 250 = .ok (.aload_n 0, 1) := by decide +kernel
theorem dX0_passTick_251 : decode cX0_passTick 251 = .ok (.aload_n 0, 1) := by decide +kernel
theorem dX0_passTick_252 : decode cX0_passTick 252 = .ok (.getfield 22, 3) := by decide +kernel
theorem dX0_passTick_255 : decode cX0_passTick 255 = .ok (.getfield 103, 3) := by decide +kernel
theorem dX0_passTick_258 : decode cX0_passTick 258 = .ok (.getfield 110, 3) := by decide +kernel
theorem dX0_passTick_261 : decode cX0_passTick 261 = .ok (.iload_n 1, 1) := by decide +kernel
theorem dX0_passTick_262 : decode cX0_passTick 262 = .ok (.iaload, 1) := by decide +kernel
theorem dX0_passTick_263 : decode cX0_passTick 263 = .ok (.aload_n 0, 1) := by decide +kernel
theorem dX0_passTick_264 : decode cX0_passTick 264 = .ok (.getfield 22, 3) := by decide +kernel
theorem dX0_passTick_267 : decode cX0_passTick 267 = .ok (.getfield 103, 3) := by decide +kernel
theorem dX0_passTick_270 : decode cX0_passTick 270 = .ok (.getfield 111, 3) := by decide +kernel
theorem dX0_passTick_273 : decode cX0_passTick 273 = .ok (.iload_n 1, 1) := by decide +kernel
theorem dX0_passTick_274 : decode cX0_passTick 274 = .ok (.iaload, 1) := by decide +kernel
theorem dX0_passTick_275 : decode cX0_passTick 275 = .ok (.invokevirtual 100, 3) := by decide +kernel
theorem dX0_passTick_278 : decode cX0_passTick 278 = .ok (.i2l, 1) := by decide +kernel
theorem dX0_passTick_279 : decode cX0_passTick 279 = .ok (.ladd, 1) := by decide +kernel
theorem dX0_passTick_280 : decode cX0_passTick 280 = .ok (.lastore, 1) := by decide +kernel
theorem dX0_passTick_281 : decode cX0_passTick 281 = .ok (.iinc 1 1, 3) := by decide +kernel
theorem dX0_passTick_284 : decode cX0_passTick 284 = .ok (.goto (-55), 3) := by decide +kernel
theorem dX0_passTick_287 : decode cX0_passTick 287 = .ok (.return_, 1) := by decide +kernel
theorem dX0_runRiver_0 : decode cX0_runRiver 0 = .ok (.aload_n 0, 1) := by decide +kernel
theorem dX0_runRiver_1 : decode cX0_runRiver 1 = .ok (.getfield 22, 3) := by decide +kernel
theorem dX0_runRiver_4 : decode cX0_runRiver 4 = .ok (.getfield 55, 3) := by decide +kernel
theorem dX0_runRiver_7 : decode cX0_runRiver 7 = .ok (.astore_n 2, 1) := by decide +kernel
theorem dX0_runRiver_8 : decode cX0_runRiver 8 = .ok (.aload_n 2, 1) := by decide +kernel
theorem dX0_runRiver_9 : decode cX0_runRiver 9 = .ok (.getfield 114, 3) := by decide +kernel
theorem dX0_runRiver_12 : decode cX0_runRiver 12 = .ok (.iload_n 1, 1) := by decide +kernel
theorem dX0_runRiver_13 : decode cX0_runRiver 13 = .ok (.iaload, 1) := by decide +kernel
theorem dX0_runRiver_14 : decode cX0_runRiver 14 = .ok (.istore_n 3, 1) := by decide +kernel
theorem dX0_runRiver_15 : decode cX0_runRiver 15 = .ok (.aload_n 2, 1) := by decide +kernel
theorem dX0_runRiver_16 : decode cX0_runRiver 16 = .ok (.getfield 115, 3) := by decide +kernel
theorem dX0_runRiver_19 : decode cX0_runRiver 19 = .ok (.iload_n 1, 1) := by decide +kernel
theorem dX0_runRiver_20 : decode cX0_runRiver 20 = .ok (.iaload, 1) := by decide +kernel
theorem dX0_runRiver_21 : decode cX0_runRiver 21 = .ok (.aload_n 2, 1) := by decide +kernel
theorem dX0_runRiver_22 : decode cX0_runRiver 22 = .ok (.getfield 116, 3) := by decide +kernel
theorem dX0_runRiver_25 : decode cX0_runRiver 25 = .ok (.iload_n 1, 1) := by decide +kernel
theorem dX0_runRiver_26 : decode cX0_runRiver 26 = .ok (.iaload, 1) := by decide +kernel
theorem dX0_runRiver_27 : decode cX0_runRiver 27 = .ok (.aload_n 0, 1) := by decide +kernel
theorem dX0_runRiver_28 : decode cX0_runRiver 28 = .ok (.getfield 19, 3) := by decide +kernel
theorem dX0_runRiver_31 : decode cX0_runRiver 31 = .ok (.iload_n 3, 1) := by decide +kernel
theorem dX0_runRiver_32 : decode cX0_runRiver 32 = .ok (.iaload, 1) := by decide +kernel
theorem dX0_runRiver_33 : decode cX0_runRiver 33 = .ok (.aload_n 2, 1) := by decide +kernel
theorem dX0_runRiver_34 : decode cX0_runRiver 34 = .ok (.getfield 119, 3) := by decide +kernel
theorem dX0_runRiver_37 : decode cX0_runRiver 37 = .ok (.iload_n 1, 1) := by decide +kernel
theorem dX0_runRiver_38 : decode cX0_runRiver 38 = .ok (.iaload, 1) := by decide +kernel
theorem dX0_runRiver_39 : decode cX0_runRiver 39 = .ok (.invokestatic 91, 3) := by decide +kernel
theorem dX0_runRiver_42 : decode cX0_runRiver 42 = .ok (.isub, 1) := by decide +kernel
theorem dX0_runRiver_43 : decode cX0_runRiver 43 = .ok (.imul, 1) := by decide +kernel
theorem dX0_runRiver_44 : decode cX0_runRiver 44 = .ok (.bipush 100, 2) := by decide +kernel
theorem dX0_runRiver_46 : decode cX0_runRiver 46 = .ok (.idiv, 1) := by decide +kernel
theorem dX0_runRiver_47 : decode cX0_runRiver 47 = .ok (.istore 4, 2) := by decide +kernel
theorem dX0_runRiver_49 : decode cX0_runRiver 49 = .ok (.iload 4, 2) := by decide +kernel
theorem dX0_runRiver_51 : decode cX0_runRiver 51 = .ok (.ifCond .ge 24, 3) := by decide +kernel
theorem dX0_runRiver_54 : decode cX0_runRiver 54 = .ok (.aload_n 0, 1) := by decide +kernel
theorem dX0_runRiver_55 : decode cX0_runRiver 55 = .ok (.getfield 15, 3) := by decide +kernel
theorem dX0_runRiver_58 : decode cX0_runRiver 58 = .ok (.iconst 2, 1) := by decide +kernel
theorem dX0_runRiver_59 : decode cX0_runRiver 59 = .ok (.dup2, 1) := by decide +kernel
theorem dX0_runRiver_60 : decode cX0_runRiver 60 = .ok (.laload, 1) := by decide +kernel
theorem dX0_runRiver_61 : decode cX0_runRiver 61 = .ok (.aload_n 0, 1) := by decide +kernel
theorem dX0_runRiver_62 : decode cX0_runRiver 62 = .ok (.iload_n 3, 1) := by decide +kernel
theorem dX0_runRiver_63 : decode cX0_runRiver 63 = .ok (.iload 4, 2) := by decide +kernel
theorem dX0_runRiver_65 : decode cX0_runRiver 65 = .ok (.ineg, 1) := by decide +kernel
theorem dX0_runRiver_66 : decode cX0_runRiver 66 = .ok (.invokevirtual 100, 3) := by decide +kernel
theorem dX0_runRiver_69 : decode cX0_runRiver 69 = .ok (.i2l, 1) := by decide +kernel
theorem dX0_runRiver_70 : decode cX0_runRiver 70 = .ok (.ladd, 1) := by decide +kernel
theorem dX0_runRiver_71 : decode cX0_runRiver 71 = .ok (.lastore, 1) := by decide +kernel
theorem dX0_runRiver_72 : decode cX0_runRiver 72 = .ok (.goto 22, 3) := by decide +kernel
theorem dX0_runRiver_75 : decode cX0_runRiver 75 = .ok (.aload_n 0, 1) := by decide +kernel
theorem dX0_runRiver_76 : decode cX0_runRiver 76 = .ok (.getfield 15, 3) := by decide +kernel
theorem dX0_runRiver_79 : decode cX0_runRiver 79 = .ok (.iconst 1, 1) := by decide +kernel
theorem dX0_runRiver_80 : decode cX0_runRiver 80 = .ok (.dup2, 1) := by decide +kernel
theorem dX0_runRiver_81 : decode cX0_runRiver 81 = .ok (.laload, 1) := by decide +kernel
theorem dX0_runRiver_82 : decode cX0_runRiver 82 = .ok (.iload 4, 2) := by decide +kernel
theorem dX0_runRiver_84 : decode cX0_runRiver 84 = .ok (.i2l, 1) := by decide +kernel
theorem dX0_runRiver_85 : decode cX0_runRiver 85 = .ok (.ladd, 1) := by decide +kernel
theorem dX0_runRiver_86 : decode cX0_runRiver 86 = .ok (.lastore, 1) := by decide +kernel
theorem dX0_runRiver_87 : decode cX0_runRiver 87 = .ok (.aload_n 0, 1) := by decide +kernel
theorem dX0_runRiver_88 : decode cX0_runRiver 88 = .ok (.iload_n 3, 1) := by decide +kernel
theorem dX0_runRiver_89 : decode cX0_runRiver 89 = .ok (.iload 4, 2) := by decide +kernel
theorem dX0_runRiver_91 : decode cX0_runRiver 91 = .ok (.invokevirtual 51, 3) := by decide +kernel
theorem dX0_runRiver_94 : decode cX0_runRiver 94 = .ok (.return_, 1) := by decide +kernel
theorem dX0_runLink_0 : decode cX0_runLink 0 = .ok (.aload_n 0, 1) := by decide +kernel
theorem dX0_runLink_1 : decode cX0_runLink 1 = .ok (.getfield 22, 3) := by decide +kernel
theorem dX0_runLink_4 : decode cX0_runLink 4 = .ok (.getfield 68, 3) := by decide +kernel
theorem dX0_runLink_7 : decode cX0_runLink 7 = .ok (.getfield 122, 3) := by decide +kernel
theorem dX0_runLink_10 : decode cX0_runLink 10 = .ok (.iload_n 1, 1) := by decide +kernel
theorem dX0_runLink_11 : decode cX0_runLink 11 = .ok (.iaload, 1) := by decide +kernel
theorem dX0_runLink_12 : decode cX0_runLink 12 = .ok (.istore_n 2, 1) := by decide +kernel
theorem dX0_runLink_13 : decode cX0_runLink 13 = .ok (.aload_n 0, 1) := by decide +kernel
theorem dX0_runLink_14 : decode cX0_runLink 14 = .ok (.getfield 22, 3) := by decide +kernel
theorem dX0_runLink_17 : decode cX0_runLink 17 = .ok (.getfield 68, 3) := by decide +kernel
theorem dX0_runLink_20 : decode cX0_runLink 20 = .ok (.getfield 125, 3) := by decide +kernel
theorem dX0_runLink_23 : decode cX0_runLink 23 = .ok (.iload_n 1, 1) := by decide +kernel
theorem dX0_runLink_24 : decode cX0_runLink 24 = .ok (.iaload, 1) := by decide +kernel
theorem dX0_runLink_25 : decode cX0_runLink 25 = .ok (.istore_n 3, 1) := by decide +kernel
theorem dX0_runLink_26 : decode cX0_runLink 26 = .ok (.aload_n 0, 1) := by decide +kernel
theorem dX0_runLink_27 : decode cX0_runLink 27 = .ok (.getfield 22, 3) := by decide +kernel
theorem dX0_runLink_30 : decode cX0_runLink 30 = .ok (.getfield 68, 3) := by decide +kernel
theorem dX0_runLink_33 : decode cX0_runLink 33 = .ok (.getfield 128, 3) := by decide +kernel
theorem dX0_runLink_36 : decode cX0_runLink 36 = .ok (.iload_n 1, 1) := by decide +kernel
theorem dX0_runLink_37 : decode cX0_runLink 37 = .ok (.iaload, 1) := by decide +kernel
theorem dX0_runLink_38 : decode cX0_runLink 38 = .ok (.aload_n 0, 1) := by decide +kernel
theorem dX0_runLink_39 : decode cX0_runLink 39 = .ok (.getfield 19, 3) := by decide +kernel
theorem dX0_runLink_42 : decode cX0_runLink 42 = .ok (.iload_n 2, 1) := by decide +kernel
theorem dX0_runLink_43 : decode cX0_runLink 43 = .ok (.iaload, 1) := by decide +kernel
theorem dX0_runLink_44 : decode cX0_runLink 44 = .ok (.aload_n 0, 1) := by decide +kernel
theorem dX0_runLink_45 : decode cX0_runLink 45 = .ok (.getfield 19, 3) := by decide +kernel
theorem dX0_runLink_48 : decode cX0_runLink 48 = .ok (.iload_n 3, 1) := by decide +kernel
theorem dX0_runLink_49 : decode cX0_runLink 49 = .ok (.iaload, 1) := by decide +kernel
theorem dX0_runLink_50 : decode cX0_runLink 50 = .ok (.isub, 1) := by decide +kernel
theorem dX0_runLink_51 : decode cX0_runLink 51 = .ok (.imul, 1) := by decide +kernel
theorem dX0_runLink_52 : decode cX0_runLink 52 = .ok (.bipush 100, 2) := by decide +kernel
theorem dX0_runLink_54 : decode cX0_runLink 54 = .ok (.idiv, 1) := by decide +kernel
theorem dX0_runLink_55 : decode cX0_runLink 55 = .ok (.istore 4, 2) := by decide +kernel
theorem dX0_runLink_57 : decode cX0_runLink 57 = .ok (.iload 4, 2) := by decide +kernel
theorem dX0_runLink_59 : decode cX0_runLink 59 = .ok (.ifCond .ge 19, 3) := by decide +kernel
theorem dX0_runLink_62 : decode cX0_runLink 62 = .ok (.aload_n 0, 1) := by decide +kernel
theorem dX0_runLink_63 : decode cX0_runLink 63 = .ok (.iload_n 2, 1) := by decide +kernel
theorem dX0_runLink_64 : decode cX0_runLink 64 = .ok (.aload_n 0, 1) := by decide +kernel
theorem dX0_runLink_65 : decode cX0_runLink 65 = .ok (.iload_n 3, 1) := by decide +kernel
theorem dX0_runLink_66 : decode cX0_runLink 66 = .ok (.iload 4, 2) := by decide +kernel
theorem dX0_runLink_68 : decode cX0_runLink 68 = .ok (.ineg, 1) := by decide +kernel
theorem dX0_runLink_69 : decode cX0_runLink 69 = .ok (.invokevirtual 100, 3) := by decide +kernel
theorem dX0_runLink_72 : decode cX0_runLink 72 = .ok (.invokevirtual 51, 3) := by decide +kernel
theorem dX0_runLink_75 : decode cX0_runLink 75 = .ok (.goto 15, 3) := by decide +kernel
theorem dX0_runLink_78 : decode cX0_runLink 78 = .ok (.aload_n 0, 1) := by decide +kernel
theorem dX0_runLink_79 : decode cX0_runLink 79 = .ok (.iload_n 3, 1) := by decide +kernel
theorem dX0_runLink_80 : decode cX0_runLink 80 = .ok (.aload_n 0, 1) := by decide +kernel
theorem dX0_runLink_81 : decode cX0_runLink 81 = .ok (.iload_n 2, 1) := by decide +kernel
theorem dX0_runLink_82 : decode cX0_runLink 82 = .ok (.iload 4, 2) := by decide +kernel
theorem dX0_runLink_84 : decode cX0_runLink 84 = .ok (.invokevirtual 100, 3) := by decide +kernel
theorem dX0_runLink_87 : decode cX0_runLink 87 = .ok (.invokevirtual 51, 3) := by decide +kernel
theorem dX0_runLink_90 : decode cX0_runLink 90 = .ok (.return_, 1) := by decide +kernel
theorem dX0_arrive_0 : decode cX0_arrive 0 = .ok (.iconst 0, 1) := by decide +kernel
theorem dX0_arrive_1 : decode cX0_arrive 1 = .ok (.aload_n 0, 1) := by decide +kernel
theorem dX0_arrive_2 : decode cX0_arrive 2 = .ok (.getfield 9, 3) := by decide +kernel
theorem dX0_arrive_5 : decode cX0_arrive 5 = .ok (.iload_n 1, 1) := by decide +kernel
theorem dX0_arrive_6 : decode cX0_arrive 6 = .ok (.iaload, 1) := by decide +kernel
theorem dX0_arrive_7 : decode cX0_arrive 7 = .ok (.iload_n 2, 1) := by decide +kernel
theorem dX0_arrive_8 : decode cX0_arrive 8 = .ok (.iadd, 1) := by decide +kernel
theorem dX0_arrive_9 : decode cX0_arrive 9 = .ok (.ldc 129, 2) := by decide +kernel
theorem dX0_arrive_11 : decode cX0_arrive 11 = .ok (.isub, 1) := by decide +kernel
theorem dX0_arrive_12 : decode cX0_arrive 12 = .ok (.invokestatic 91, 3) := by decide +kernel
theorem dX0_arrive_15 : decode cX0_arrive 15 = .ok (.istore_n 3, 1) := by decide +kernel
theorem dX0_arrive_16 : decode cX0_arrive 16 = .ok (.aload_n 0, 1) := by decide +kernel
theorem dX0_arrive_17 : decode cX0_arrive 17 = .ok (.getfield 9, 3) := by decide +kernel
theorem dX0_arrive_20 : decode cX0_arrive 20 = .ok (.iload_n 1, 1) := by decide +kernel
theorem dX0_arrive_21 : decode cX0_arrive 21 = .ok (.dup2, 1) := by decide +kernel
theorem dX0_arrive_22 : decode cX0_arrive 22 = .ok (.iaload, 1) := by decide +kernel
theorem dX0_arrive_23 : decode cX0_arrive 23 = .ok (.iload_n 2, 1) := by decide +kernel
theorem dX0_arrive_24 : decode cX0_arrive 24 = .ok (.iload_n 3, 1) := by decide +kernel
theorem dX0_arrive_25 : decode cX0_arrive 25 = .ok (.isub, 1) := by decide +kernel
theorem dX0_arrive_26 : decode cX0_arrive 26 = .ok (.iadd, 1) := by decide +kernel
theorem dX0_arrive_27 : decode cX0_arrive 27 = .ok (.iastore, 1) := by decide +kernel
theorem dX0_arrive_28 : decode cX0_arrive 28 = .ok (.aload_n 0, 1) := by decide +kernel
theorem dX0_arrive_29 : decode cX0_arrive 29 = .ok (.getfield 15, 3) := by decide +kernel
theorem dX0_arrive_32 : decode cX0_arrive 32 = .ok (.iconst 5, 1) := by decide +kernel
theorem dX0_arrive_33 : decode cX0_arrive 33 = .ok (.dup2, 1) := by decide +kernel
theorem dX0_arrive_34 : decode cX0_arrive 34 = .ok (.laload, 1) := by decide +kernel
theorem dX0_arrive_35 : decode cX0_arrive 35 = .ok (.iload_n 3, 1) := by decide +kernel
theorem dX0_arrive_36 : decode cX0_arrive 36 = .ok (.i2l, 1) := by decide +kernel
theorem dX0_arrive_37 : decode cX0_arrive 37 = .ok (.ladd, 1) := by decide +kernel
theorem dX0_arrive_38 : decode cX0_arrive 38 = .ok (.lastore, 1) := by decide +kernel
theorem dX0_arrive_39 : decode cX0_arrive 39 = .ok (.return_, 1) := by decide +kernel
theorem dX0_leave_0 : decode cX0_leave 0 = .ok (.iload_n 2, 1) := by decide +kernel
theorem dX0_leave_1 : decode cX0_leave 1 = .ok (.aload_n 0, 1) := by decide +kernel
theorem dX0_leave_2 : decode cX0_leave 2 = .ok (.getfield 9, 3) := by decide +kernel
theorem dX0_leave_5 : decode cX0_leave 5 = .ok (.iload_n 1, 1) := by decide +kernel
theorem dX0_leave_6 : decode cX0_leave 6 = .ok (.iaload, 1) := by decide +kernel
theorem dX0_leave_7 : decode cX0_leave 7 = .ok (.invokestatic 130, 3) := by decide +kernel
theorem dX0_leave_10 : decode cX0_leave 10 = .ok (.istore_n 3, 1) := by decide +kernel
theorem dX0_leave_11 : decode cX0_leave 11 = .ok (.aload_n 0, 1) := by decide +kernel
theorem dX0_leave_12 : decode cX0_leave 12 = .ok (.getfield 9, 3) := by decide +kernel
theorem dX0_leave_15 : decode cX0_leave 15 = .ok (.iload_n 1, 1) := by decide +kernel
theorem dX0_leave_16 : decode cX0_leave 16 = .ok (.dup2, 1) := by decide +kernel
theorem dX0_leave_17 : decode cX0_leave 17 = .ok (.iaload, 1) := by decide +kernel
theorem dX0_leave_18 : decode cX0_leave 18 = .ok (.iload_n 3, 1) := by decide +kernel
theorem dX0_leave_19 : decode cX0_leave 19 = .ok (.isub, 1) := by decide +kernel
theorem dX0_leave_20 : decode cX0_leave 20 = .ok (.iastore, 1) := by decide +kernel
theorem dX0_leave_21 : decode cX0_leave 21 = .ok (.iload_n 3, 1) := by decide +kernel
theorem dX0_leave_22 : decode cX0_leave 22 = .ok (.ireturn, 1) := by decide +kernel
theorem dX1_init_0 : decode cX1_init 0 = .ok (.aload_n 0, 1) := by decide +kernel
theorem dX1_init_1 : decode cX1_init 1 = .ok (.invokespecial 3, 3) := by decide +kernel
theorem dX1_init_4 : decode cX1_init 4 = .ok (.aload_n 0, 1) := by decide +kernel
theorem dX1_init_5 : decode cX1_init 5 = .ok (.iconst 0, 1) := by decide +kernel
theorem dX1_init_6 : decode cX1_init 6 = .ok (.putfield 9, 3) := by decide +kernel
theorem dX1_init_9 : decode cX1_init 9 = .ok (.aload_n 0, 1) := by decide +kernel
theorem dX1_init_10 : decode cX1_init 10 = .ok (.iconst 2, 1) := by decide +kernel
theorem dX1_init_11 : decode cX1_init 11 = .ok (.newarray .int, 2) := by decide +kernel
theorem dX1_init_13 : decode cX1_init 13 = .ok (.putfield 15, 3) := by decide +kernel
theorem dX1_init_16 : decode cX1_init 16 = .ok (.aload_n 0, 1) := by decide +kernel
theorem dX1_init_17 : decode cX1_init 17 = .ok (.iconst 2, 1) := by decide +kernel
theorem dX1_init_18 : decode cX1_init 18 = .ok (.newarray .int, 2) := by decide +kernel
theorem dX1_init_20 : decode cX1_init 20 = .ok (.putfield 19, 3) := by decide +kernel
theorem dX1_init_23 : decode cX1_init 23 = .ok (.aload_n 0, 1) := by decide +kernel
theorem dX1_init_24 : decode cX1_init 24 = .ok (.iconst 2, 1) := by decide +kernel
theorem dX1_init_25 : decode cX1_init 25 = .ok (.newarray .int, 2) := by decide +kernel
theorem dX1_init_27 : decode cX1_init 27 = .ok (.putfield 22, 3) := by decide +kernel
theorem dX1_init_30 : decode cX1_init 30 = .ok (.return_, 1) := by decide +kernel
theorem dX1_has_0 : decode cX1_has 0 = .ok (.iload_n 1, 1) := by decide +kernel
theorem dX1_has_1 : decode cX1_has 1 = .ok (.ifCond .lt 15, 3) := by decide +kernel
theorem dX1_has_4 : decode cX1_has 4 = .ok (.iload_n 1, 1) := by decide +kernel
theorem dX1_has_5 : decode cX1_has 5 = .ok (.aload_n 0, 1) := by decide +kernel
theorem dX1_has_6 : decode cX1_has 6 = .ok (.getfield 9, 3) := by decide +kernel
theorem dX1_has_9 : decode cX1_has 9 = .ok (.if_icmp .ge 7, 3) := by decide +kernel
theorem dX1_has_12 : decode cX1_has 12 = .ok (.iconst 1, 1) := by decide +kernel
theorem dX1_has_13 : decode cX1_has 13 = .ok (.goto 4, 3) := by decide +kernel
theorem dX1_has_16 : decode cX1_has 16 = .ok (.iconst 0, 1) := by decide +kernel
theorem dX1_has_17 : decode cX1_has 17 = .ok (.ireturn, 1) := by decide +kernel
theorem dX1_add_0 : decode cX1_add 0 = .ok (.aload_n 0, 1) := by decide +kernel
theorem dX1_add_1 : decode cX1_add 1 = .ok (.getfield 15, 3) := by decide +kernel
theorem dX1_add_4 : decode cX1_add 4 = .ok (.aload_n 0, 1) := by decide +kernel
theorem dX1_add_5 : decode cX1_add 5 = .ok (.getfield 9, 3) := by decide +kernel
theorem dX1_add_8 : decode cX1_add 8 = .ok (.iload_n 1, 1) := by decide +kernel
theorem dX1_add_9 : decode cX1_add 9 = .ok (.iastore, 1) := by decide +kernel
theorem dX1_add_10 : decode cX1_add 10 = .ok (.aload_n 0, 1) := by decide +kernel
theorem dX1_add_11 : decode cX1_add 11 = .ok (.getfield 19, 3) := by decide +kernel
theorem dX1_add_14 : decode cX1_add 14 = .ok (.aload_n 0, 1) := by decide +kernel
theorem dX1_add_15 : decode cX1_add 15 = .ok (.getfield 9, 3) := by decide +kernel
theorem dX1_add_18 : decode cX1_add 18 = .ok (.iload_n 2, 1) := by decide +kernel
theorem dX1_add_19 : decode cX1_add 19 = .ok (.iastore, 1) := by decide +kernel
theorem dX1_add_20 : decode cX1_add 20 = .ok (.aload_n 0, 1) := by decide +kernel
theorem dX1_add_21 : decode cX1_add 21 = .ok (.getfield 22, 3) := by decide +kernel
theorem dX1_add_24 : decode cX1_add 24 = .ok (.aload_n 0, 1) := by decide +kernel
theorem dX1_add_25 : decode cX1_add 25 = .ok (.getfield 9, 3) := by decide +kernel
theorem dX1_add_28 : decode cX1_add 28 = .ok (.iload_n 3, 1) := by decide +kernel
theorem dX1_add_29 : decode cX1_add 29 = .ok (.iastore, 1) := by decide +kernel
theorem dX1_add_30 : decode cX1_add 30 = .ok (.aload_n 0, 1) := by decide +kernel
theorem dX1_add_31 : decode cX1_add 31 = .ok (.dup, 1) := by decide +kernel
theorem dX1_add_32 : decode cX1_add 32 = .ok (.getfield 9, 3) := by decide +kernel
theorem dX1_add_35 : decode cX1_add 35 = .ok (.dup_x1, 1) := by decide +kernel
theorem dX1_add_36 : decode cX1_add 36 = .ok (.iconst 1, 1) := by decide +kernel
theorem dX1_add_37 : decode cX1_add 37 = .ok (.iadd, 1) := by decide +kernel
theorem dX1_add_38 : decode cX1_add 38 = .ok (.putfield 9, 3) := by decide +kernel
theorem dX1_add_41 : decode cX1_add 41 = .ok (.ireturn, 1) := by decide +kernel
theorem dX2_init_0 : decode cX2_init 0 = .ok (.aload_n 0, 1) := by decide +kernel
theorem dX2_init_1 : decode cX2_init 1 = .ok (.invokespecial 3, 3) := by decide +kernel
theorem dX2_init_4 : decode cX2_init 4 = .ok (.aload_n 0, 1) := by decide +kernel
theorem dX2_init_5 : decode cX2_init 5 = .ok (.iconst 0, 1) := by decide +kernel
theorem dX2_init_6 : decode cX2_init 6 = .ok (.putfield 9, 3) := by decide +kernel
theorem dX2_init_9 : decode cX2_init 9 = .ok (.aload_n 0, 1) := by decide +kernel
theorem dX2_init_10 : decode cX2_init 10 = .ok (.bipush 6, 2) := by decide +kernel
theorem dX2_init_12 : decode cX2_init 12 = .ok (.newarray .int, 2) := by decide +kernel
theorem dX2_init_14 : decode cX2_init 14 = .ok (.putfield 15, 3) := by decide +kernel
theorem dX2_init_17 : decode cX2_init 17 = .ok (.aload_n 0, 1) := by decide +kernel
theorem dX2_init_18 : decode cX2_init 18 = .ok (.bipush 6, 2) := by decide +kernel
theorem dX2_init_20 : decode cX2_init 20 = .ok (.newarray .int, 2) := by decide +kernel
theorem dX2_init_22 : decode cX2_init 22 = .ok (.putfield 19, 3) := by decide +kernel
theorem dX2_init_25 : decode cX2_init 25 = .ok (.aload_n 0, 1) := by decide +kernel
theorem dX2_init_26 : decode cX2_init 26 = .ok (.bipush 6, 2) := by decide +kernel
theorem dX2_init_28 : decode cX2_init 28 = .ok (.newarray .int, 2) := by decide +kernel
theorem dX2_init_30 : decode cX2_init 30 = .ok (.putfield 22, 3) := by decide +kernel
theorem dX2_init_33 : decode cX2_init 33 = .ok (.aload_n 0, 1) := by decide +kernel
theorem dX2_init_34 : decode cX2_init 34 = .ok (.new 25, 3) := by decide +kernel
theorem dX2_init_37 : decode cX2_init 37 = .ok (.dup, 1) := by decide +kernel
theorem dX2_init_38 : decode cX2_init 38 = .ok (.invokespecial 27, 3) := by decide +kernel
theorem dX2_init_41 : decode cX2_init 41 = .ok (.putfield 28, 3) := by decide +kernel
theorem dX2_init_44 : decode cX2_init 44 = .ok (.aload_n 0, 1) := by decide +kernel
theorem dX2_init_45 : decode cX2_init 45 = .ok (.new 32, 3) := by decide +kernel
theorem dX2_init_48 : decode cX2_init 48 = .ok (.dup, 1) := by decide +kernel
theorem dX2_init_49 : decode cX2_init 49 = .ok (.invokespecial 34, 3) := by decide +kernel
theorem dX2_init_52 : decode cX2_init 52 = .ok (.putfield 35, 3) := by decide +kernel
theorem dX2_init_55 : decode cX2_init 55 = .ok (.aload_n 0, 1) := by decide +kernel
theorem dX2_init_56 : decode cX2_init 56 = .ok (.new 39, 3) := by decide +kernel
theorem dX2_init_59 : decode cX2_init 59 = .ok (.dup, 1) := by decide +kernel
theorem dX2_init_60 : decode cX2_init 60 = .ok (.invokespecial 41, 3) := by decide +kernel
theorem dX2_init_63 : decode cX2_init 63 = .ok (.putfield 42, 3) := by decide +kernel
theorem dX2_init_66 : decode cX2_init 66 = .ok (.aload_n 0, 1) := by decide +kernel
theorem dX2_init_67 : decode cX2_init 67 = .ok (.new 46, 3) := by decide +kernel
theorem dX2_init_70 : decode cX2_init 70 = .ok (.dup, 1) := by decide +kernel
theorem dX2_init_71 : decode cX2_init 71 = .ok (.invokespecial 48, 3) := by decide +kernel
theorem dX2_init_74 : decode cX2_init 74 = .ok (.putfield 49, 3) := by decide +kernel
theorem dX2_init_77 : decode cX2_init 77 = .ok (.return_, 1) := by decide +kernel
theorem dX2_hasCell_0 : decode cX2_hasCell 0 = .ok (.iload_n 1, 1) := by decide +kernel
theorem dX2_hasCell_1 : decode cX2_hasCell 1 = .ok (.ifCond .lt 15, 3) := by decide +kernel
theorem dX2_hasCell_4 : decode cX2_hasCell 4 = .ok (.iload_n 1, 1) := by decide +kernel
theorem dX2_hasCell_5 : decode cX2_hasCell 5 = .ok (.aload_n 0, 1) := by decide +kernel
theorem dX2_hasCell_6 : decode cX2_hasCell 6 = .ok (.getfield 9, 3) := by decide +kernel
theorem dX2_hasCell_9 : decode cX2_hasCell 9 = .ok (.if_icmp .ge 7, 3) := by decide +kernel
theorem dX2_hasCell_12 : decode cX2_hasCell 12 = .ok (.iconst 1, 1) := by decide +kernel
theorem dX2_hasCell_13 : decode cX2_hasCell 13 = .ok (.goto 4, 3) := by decide +kernel
theorem dX2_hasCell_16 : decode cX2_hasCell 16 = .ok (.iconst 0, 1) := by decide +kernel
theorem dX2_hasCell_17 : decode cX2_hasCell 17 = .ok (.ireturn, 1) := by decide +kernel
theorem dX2_hasEnd_0 : decode cX2_hasEnd 0 = .ok (.aload_n 0, 1) := by decide +kernel
theorem dX2_hasEnd_1 : decode cX2_hasEnd 1 = .ok (.iload_n 1, 1) := by decide +kernel
theorem dX2_hasEnd_2 : decode cX2_hasEnd 2 = .ok (.invokevirtual 53, 3) := by decide +kernel
theorem dX2_hasEnd_5 : decode cX2_hasEnd 5 = .ok (.ifCond .ne 47, 3) := by decide +kernel
theorem dX2_hasEnd_8 : decode cX2_hasEnd 8 = .ok (.aload_n 0, 1) := by decide +kernel
theorem dX2_hasEnd_9 : decode cX2_hasEnd 9 = .ok (.getfield 35, 3) := by decide +kernel
theorem dX2_hasEnd_12 : decode cX2_hasEnd 12 = .ok (.iload_n 1, 1) := by decide +kernel
theorem dX2_hasEnd_13 : decode cX2_hasEnd 13 = .ok (.bipush 100, 2) := by decide +kernel
theorem dX2_hasEnd_15 : decode cX2_hasEnd 15 = .ok (.isub, 1) := by decide +kernel
theorem dX2_hasEnd_16 : decode cX2_hasEnd 16 = .ok (.invokevirtual 57, 3) := by decide +kernel
theorem dX2_hasEnd_19 : decode cX2_hasEnd 19 = .ok (.ifCond .ne 33, 3) := by decide +kernel
theorem dX2_hasEnd_22 : decode cX2_hasEnd 22 = .ok (.aload_n 0, 1) := by decide +kernel
theorem dX2_hasEnd_23 : decode cX2_hasEnd 23 = .ok (.getfield 42, 3) := by decide +kernel
theorem dX2_hasEnd_26 : decode cX2_hasEnd 26 = .ok (.iload_n 1, 1) := by decide +kernel
theorem dX2_hasEnd_27 : decode cX2_hasEnd 27 = .ok (.sipush 200, 3) := by decide +kernel
theorem dX2_hasEnd_30 : decode cX2_hasEnd 30 = .ok (.isub, 1) := by decide +kernel
theorem dX2_hasEnd_31 : decode cX2_hasEnd 31 = .ok (.invokevirtual 60, 3) := by decide +kernel
theorem dX2_hasEnd_34 : decode cX2_hasEnd 34 = .ok (.ifCond .ne 18, 3) := by decide +kernel
theorem dX2_hasEnd_37 : decode cX2_hasEnd 37 = .ok (.aload_n 0, 1) := by decide +kernel
theorem dX2_hasEnd_38 : decode cX2_hasEnd 38 = .ok (.getfield 49, 3) := by decide +kernel
theorem dX2_hasEnd_41 : decode cX2_hasEnd 41 = .ok (.iload_n 1, 1) := by decide +kernel
theorem dX2_hasEnd_42 : decode cX2_hasEnd 42 = .ok (.sipush 300, 3) := by decide +kernel
theorem dX2_hasEnd_45 : decode cX2_hasEnd 45 = .ok (.isub, 1) := by decide +kernel
theorem dX2_hasEnd_46 : decode cX2_hasEnd 46 = .ok (.invokevirtual 61, 3) := by decide +kernel
theorem dX2_hasEnd_49 : decode cX2_hasEnd 49 = .ok (.ifCond .eq 7, 3) := by decide +kernel
theorem dX2_hasEnd_52 : decode cX2_hasEnd 52 = .ok (.iconst 1, 1) := by decide +kernel
theorem dX2_hasEnd_53 : decode cX2_hasEnd 53 = .ok (.goto 4, 3) := by decide +kernel
theorem dX2_hasEnd_56 : decode cX2_hasEnd 56 = .ok (.iconst 0, 1) := by decide +kernel
theorem dX2_hasEnd_57 : decode cX2_hasEnd 57 = .ok (.ireturn, 1) := by decide +kernel
theorem dX2_addCell_0 : decode cX2_addCell 0 = .ok (.aload_n 0, 1) := by decide +kernel
theorem dX2_addCell_1 : decode cX2_addCell 1 = .ok (.getfield 15, 3) := by decide +kernel
theorem dX2_addCell_4 : decode cX2_addCell 4 = .ok (.aload_n 0, 1) := by decide +kernel
theorem dX2_addCell_5 : decode cX2_addCell 5 = .ok (.getfield 9, 3) := by decide +kernel
theorem dX2_addCell_8 : decode cX2_addCell 8 = .ok (.iload_n 1, 1) := by decide +kernel
theorem dX2_addCell_9 : decode cX2_addCell 9 = .ok (.iastore, 1) := by decide +kernel
theorem dX2_addCell_10 : decode cX2_addCell 10 = .ok (.aload_n 0, 1) := by decide +kernel
theorem dX2_addCell_11 : decode cX2_addCell 11 = .ok (.getfield 19, 3) := by decide +kernel
theorem dX2_addCell_14 : decode cX2_addCell 14 = .ok (.aload_n 0, 1) := by decide +kernel
theorem dX2_addCell_15 : decode cX2_addCell 15 = .ok (.getfield 9, 3) := by decide +kernel
theorem dX2_addCell_18 : decode cX2_addCell 18 = .ok (.iload_n 2, 1) := by decide +kernel
theorem dX2_addCell_19 : decode cX2_addCell 19 = .ok (.iastore, 1) := by decide +kernel
theorem dX2_addCell_20 : decode cX2_addCell 20 = .ok (.aload_n 0, 1) := by decide +kernel
theorem dX2_addCell_21 : decode cX2_addCell 21 = .ok (.getfield 22, 3) := by decide +kernel
theorem dX2_addCell_24 : decode cX2_addCell 24 = .ok (.aload_n 0, 1) := by decide +kernel
theorem dX2_addCell_25 : decode cX2_addCell 25 = .ok (.getfield 9, 3) := by decide +kernel
theorem dX2_addCell_28 : decode cX2_addCell 28 = .ok (.iload_n 3, 1) := by decide +kernel
theorem dX2_addCell_29 : decode cX2_addCell 29 = .ok (.iastore, 1) := by decide +kernel
theorem dX2_addCell_30 : decode cX2_addCell 30 = .ok (.aload_n 0, 1) := by decide +kernel
theorem dX2_addCell_31 : decode cX2_addCell 31 = .ok (.dup, 1) := by decide +kernel
theorem dX2_addCell_32 : decode cX2_addCell 32 = .ok (.getfield 9, 3) := by decide +kernel
theorem dX2_addCell_35 : decode cX2_addCell 35 = .ok (.dup_x1, 1) := by decide +kernel
theorem dX2_addCell_36 : decode cX2_addCell 36 = .ok (.iconst 1, 1) := by decide +kernel
theorem dX2_addCell_37 : decode cX2_addCell 37 = .ok (.iadd, 1) := by decide +kernel
theorem dX2_addCell_38 : decode cX2_addCell 38 = .ok (.putfield 9, 3) := by decide +kernel
theorem dX2_addCell_41 : decode cX2_addCell 41 = .ok (.ireturn, 1) := by decide +kernel
theorem dX2_patternBits_0 : decode cX2_patternBits 0 = .ok (.iconst 1, 1) := by decide +kernel
theorem dX2_patternBits_1 : decode cX2_patternBits 1 = .ok (.aload_n 0, 1) := by decide +kernel
theorem dX2_patternBits_2 : decode cX2_patternBits 2 = .ok (.getfield 35, 3) := by decide +kernel
theorem dX2_patternBits_5 : decode cX2_patternBits 5 = .ok (.getfield 62, 3) := by decide +kernel
theorem dX2_patternBits_8 : decode cX2_patternBits 8 = .ok (.ishl, 1) := by decide +kernel
theorem dX2_patternBits_9 : decode cX2_patternBits 9 = .ok (.iconst 1, 1) := by decide +kernel
theorem dX2_patternBits_10 : decode cX2_patternBits 10 = .ok (.isub, 1) := by decide +kernel
theorem dX2_patternBits_11 : decode cX2_patternBits 11 = .ok (.iconst 1, 1) := by decide +kernel
theorem dX2_patternBits_12 : decode cX2_patternBits 12 = .ok (.aload_n 0, 1) := by decide +kernel
theorem dX2_patternBits_13 : decode cX2_patternBits 13 = .ok (.getfield 42, 3) := by decide +kernel
theorem dX2_patternBits_16 : decode cX2_patternBits 16 = .ok (.getfield 65, 3) := by decide +kernel
theorem dX2_patternBits_19 : decode cX2_patternBits 19 = .ok (.ishl, 1) := by decide +kernel
theorem dX2_patternBits_20 : decode cX2_patternBits 20 = .ok (.iconst 1, 1) := by decide +kernel
theorem dX2_patternBits_21 : decode cX2_patternBits 21 = .ok (.isub, 1) := by decide +kernel
theorem dX2_patternBits_22 : decode cX2_patternBits 22 = .ok (.iconst 3, 1) := by decide +kernel
theorem dX2_patternBits_23 : decode cX2_patternBits 23 = .ok (.ishl, 1) := by decide +kernel
theorem dX2_patternBits_24 : decode cX2_patternBits 24 = .ok (.ior, 1) := by decide +kernel
theorem dX2_patternBits_25 : decode cX2_patternBits 25 = .ok (.ireturn, 1) := by decide +kernel
theorem dX3_init_0 : decode cX3_init 0 = .ok (.aload_n 0, 1) := by decide +kernel
theorem dX3_init_1 : decode cX3_init 1 = .ok (.invokespecial 3, 3) := by decide +kernel
theorem dX3_init_4 : decode cX3_init 4 = .ok (.aload_n 0, 1) := by decide +kernel
theorem dX3_init_5 : decode cX3_init 5 = .ok (.iconst 0, 1) := by decide +kernel
theorem dX3_init_6 : decode cX3_init 6 = .ok (.putfield 9, 3) := by decide +kernel
theorem dX3_init_9 : decode cX3_init 9 = .ok (.aload_n 0, 1) := by decide +kernel
theorem dX3_init_10 : decode cX3_init 10 = .ok (.bipush 12, 2) := by decide +kernel
theorem dX3_init_12 : decode cX3_init 12 = .ok (.newarray .int, 2) := by decide +kernel
theorem dX3_init_14 : decode cX3_init 14 = .ok (.putfield 15, 3) := by decide +kernel
theorem dX3_init_17 : decode cX3_init 17 = .ok (.aload_n 0, 1) := by decide +kernel
theorem dX3_init_18 : decode cX3_init 18 = .ok (.bipush 12, 2) := by decide +kernel
theorem dX3_init_20 : decode cX3_init 20 = .ok (.newarray .int, 2) := by decide +kernel
theorem dX3_init_22 : decode cX3_init 22 = .ok (.putfield 19, 3) := by decide +kernel
theorem dX3_init_25 : decode cX3_init 25 = .ok (.aload_n 0, 1) := by decide +kernel
theorem dX3_init_26 : decode cX3_init 26 = .ok (.bipush 12, 2) := by decide +kernel
theorem dX3_init_28 : decode cX3_init 28 = .ok (.newarray .int, 2) := by decide +kernel
theorem dX3_init_30 : decode cX3_init 30 = .ok (.putfield 22, 3) := by decide +kernel
theorem dX3_init_33 : decode cX3_init 33 = .ok (.return_, 1) := by decide +kernel
theorem dX3_has_0 : decode cX3_has 0 = .ok (.iload_n 1, 1) := by decide +kernel
theorem dX3_has_1 : decode cX3_has 1 = .ok (.ifCond .lt 15, 3) := by decide +kernel
theorem dX3_has_4 : decode cX3_has 4 = .ok (.iload_n 1, 1) := by decide +kernel
theorem dX3_has_5 : decode cX3_has 5 = .ok (.aload_n 0, 1) := by decide +kernel
theorem dX3_has_6 : decode cX3_has 6 = .ok (.getfield 9, 3) := by decide +kernel
theorem dX3_has_9 : decode cX3_has 9 = .ok (.if_icmp .ge 7, 3) := by decide +kernel
theorem dX3_has_12 : decode cX3_has 12 = .ok (.iconst 1, 1) := by decide +kernel
theorem dX3_has_13 : decode cX3_has 13 = .ok (.goto 4, 3) := by decide +kernel
theorem dX3_has_16 : decode cX3_has 16 = .ok (.iconst 0, 1) := by decide +kernel
theorem dX3_has_17 : decode cX3_has 17 = .ok (.ireturn, 1) := by decide +kernel
theorem dX3_add_0 : decode cX3_add 0 = .ok (.aload_n 0, 1) := by decide +kernel
theorem dX3_add_1 : decode cX3_add 1 = .ok (.getfield 15, 3) := by decide +kernel
theorem dX3_add_4 : decode cX3_add 4 = .ok (.aload_n 0, 1) := by decide +kernel
theorem dX3_add_5 : decode cX3_add 5 = .ok (.getfield 9, 3) := by decide +kernel
theorem dX3_add_8 : decode cX3_add 8 = .ok (.iload_n 1, 1) := by decide +kernel
theorem dX3_add_9 : decode cX3_add 9 = .ok (.iastore, 1) := by decide +kernel
theorem dX3_add_10 : decode cX3_add 10 = .ok (.aload_n 0, 1) := by decide +kernel
theorem dX3_add_11 : decode cX3_add 11 = .ok (.getfield 19, 3) := by decide +kernel
theorem dX3_add_14 : decode cX3_add 14 = .ok (.aload_n 0, 1) := by decide +kernel
theorem dX3_add_15 : decode cX3_add 15 = .ok (.getfield 9, 3) := by decide +kernel
theorem dX3_add_18 : decode cX3_add 18 = .ok (.iload_n 2, 1) := by decide +kernel
theorem dX3_add_19 : decode cX3_add 19 = .ok (.iastore, 1) := by decide +kernel
theorem dX3_add_20 : decode cX3_add 20 = .ok (.aload_n 0, 1) := by decide +kernel
theorem dX3_add_21 : decode cX3_add 21 = .ok (.getfield 22, 3) := by decide +kernel
theorem dX3_add_24 : decode cX3_add 24 = .ok (.aload_n 0, 1) := by decide +kernel
theorem dX3_add_25 : decode cX3_add 25 = .ok (.getfield 9, 3) := by decide +kernel
theorem dX3_add_28 : decode cX3_add 28 = .ok (.iload_n 3, 1) := by decide +kernel
theorem dX3_add_29 : decode cX3_add 29 = .ok (.iastore, 1) := by decide +kernel
theorem dX3_add_30 : decode cX3_add 30 = .ok (.aload_n 0, 1) := by decide +kernel
theorem dX3_add_31 : decode cX3_add 31 = .ok (.dup, 1) := by decide +kernel
theorem dX3_add_32 : decode cX3_add 32 = .ok (.getfield 9, 3) := by decide +kernel
theorem dX3_add_35 : decode cX3_add 35 = .ok (.dup_x1, 1) := by decide +kernel
theorem dX3_add_36 : decode cX3_add 36 = .ok (.iconst 1, 1) := by decide +kernel
theorem dX3_add_37 : decode cX3_add 37 = .ok (.iadd, 1) := by decide +kernel
theorem dX3_add_38 : decode cX3_add 38 = .ok (.putfield 9, 3) := by decide +kernel
theorem dX3_add_41 : decode cX3_add 41 = .ok (.ireturn, 1) := by decide +kernel
theorem dX4_init_0 : decode cX4_init 0 = .ok (.aload_n 0, 1) := by decide +kernel
theorem dX4_init_1 : decode cX4_init 1 = .ok (.invokespecial 3, 3) := by decide +kernel
theorem dX4_init_4 : decode cX4_init 4 = .ok (.aload_n 0, 1) := by decide +kernel
theorem dX4_init_5 : decode cX4_init 5 = .ok (.iconst 0, 1) := by decide +kernel
theorem dX4_init_6 : decode cX4_init 6 = .ok (.putfield 9, 3) := by decide +kernel
theorem dX4_init_9 : decode cX4_init 9 = .ok (.aload_n 0, 1) := by decide +kernel
theorem dX4_init_10 : decode cX4_init 10 = .ok (.sipush 200, 3) := by decide +kernel
theorem dX4_init_13 : decode cX4_init 13 = .ok (.newarray .int, 2) := by decide +kernel
theorem dX4_init_15 : decode cX4_init 15 = .ok (.putfield 15, 3) := by decide +kernel
theorem dX4_init_18 : decode cX4_init 18 = .ok (.aload_n 0, 1) := by decide +kernel
theorem dX4_init_19 : decode cX4_init 19 = .ok (.iconst 0, 1) := by decide +kernel
theorem dX4_init_20 : decode cX4_init 20 = .ok (.putfield 19, 3) := by decide +kernel
theorem dX4_init_23 : decode cX4_init 23 = .ok (.aload_n 0, 1) := by decide +kernel
theorem dX4_init_24 : decode cX4_init 24 = .ok (.iconst 0, 1) := by decide +kernel
theorem dX4_init_25 : decode cX4_init 25 = .ok (.putfield 22, 3) := by decide +kernel
theorem dX4_init_28 : decode cX4_init 28 = .ok (.aload_n 0, 1) := by decide +kernel
theorem dX4_init_29 : decode cX4_init 29 = .ok (.iconst 0, 1) := by decide +kernel
theorem dX4_init_30 : decode cX4_init 30 = .ok (.putfield 25, 3) := by decide +kernel
theorem dX4_init_33 : decode cX4_init 33 = .ok (.aload_n 0, 1) := by decide +kernel
theorem dX4_init_34 : decode cX4_init 34 = .ok (.sipush 201, 3) := by decide +kernel
theorem dX4_init_37 : decode cX4_init 37 = .ok (.newarray .boolean, 2) := by decide +kernel
theorem dX4_init_39 : decode cX4_init 39 = .ok (.putfield 28, 3) := by decide +kernel
theorem dX4_init_42 : decode cX4_init 42 = .ok (.aload_n 0, 1) := by decide +kernel
theorem dX4_init_43 : decode cX4_init 43 = .ok (.sipush 201, 3) := by decide +kernel
theorem dX4_init_46 : decode cX4_init 46 = .ok (.newarray .boolean, 2) := by decide +kernel
theorem dX4_init_48 : decode cX4_init 48 = .ok (.putfield 32, 3) := by decide +kernel
theorem dX4_init_51 : decode cX4_init 51 = .ok (.aload_n 0, 1) := by decide +kernel
theorem dX4_init_52 : decode cX4_init 52 = .ok (.sipush 201, 3) := by decide +kernel
theorem dX4_init_55 : decode cX4_init 55 = .ok (.newarray .boolean, 2) := by decide +kernel
theorem dX4_init_57 : decode cX4_init 57 = .ok (.putfield 35, 3) := by decide +kernel
theorem dX4_init_60 : decode cX4_init 60 = .ok (.aload_n 0, 1) := by decide +kernel
theorem dX4_init_61 : decode cX4_init 61 = .ok (.iconst 0, 1) := by decide +kernel
theorem dX4_init_62 : decode cX4_init 62 = .ok (.putfield 38, 3) := by decide +kernel
theorem dX4_init_65 : decode cX4_init 65 = .ok (.aload_n 0, 1) := by decide +kernel
theorem dX4_init_66 : decode cX4_init 66 = .ok (.aload_n 1, 1) := by decide +kernel
theorem dX4_init_67 : decode cX4_init 67 = .ok (.putfield 41, 3) := by decide +kernel
theorem dX4_init_70 : decode cX4_init 70 = .ok (.aload_n 0, 1) := by decide +kernel
theorem dX4_init_71 : decode cX4_init 71 = .ok (.aload_n 2, 1) := by decide +kernel
theorem dX4_init_72 : decode cX4_init 72 = .ok (.putfield 45, 3) := by decide +kernel
theorem dX4_init_75 : decode cX4_init 75 = .ok (.return_, 1) := by decide +kernel
theorem dX4_append_0 : decode cX4_append 0 = .ok (.aload_n 0, 1) := by decide +kernel
theorem dX4_append_1 : decode cX4_append 1 = .ok (.getfield 15, 3) := by decide +kernel
theorem dX4_append_4 : decode cX4_append 4 = .ok (.aload_n 0, 1) := by decide +kernel
theorem dX4_append_5 : decode cX4_append 5 = .ok (.dup, 1) := by decide +kernel
theorem dX4_append_6 : decode cX4_append 6 = .ok (.getfield 9, 3) := by decide +kernel
theorem dX4_append_9 : decode cX4_append 9 = .ok (.dup_x1, 1) := by decide +kernel
theorem dX4_append_10 : decode cX4_append 10 = .ok (.iconst 1, 1) := by decide +kernel
theorem dX4_append_11 : decode cX4_append 11 = .ok (.iadd, 1) := by decide +kernel
theorem dX4_append_12 : decode cX4_append 12 = .ok (.putfield 9, 3) := by decide +kernel
theorem dX4_append_15 : decode cX4_append 15 = .ok (.iload_n 1, 1) := by decide +kernel
theorem dX4_append_16 : decode cX4_append 16 = .ok (.iastore, 1) := by decide +kernel
theorem dX4_append_17 : decode cX4_append 17 = .ok (.aload_n 0, 1) := by decide +kernel
theorem dX4_append_18 : decode cX4_append 18 = .ok (.getfield 9, 3) := by decide +kernel
theorem dX4_append_21 : decode cX4_append 21 = .ok (.ireturn, 1) := by decide +kernel
theorem dX4_isPermit_0 : decode cX4_isPermit 0 = .ok (.aload_n 0, 1) := by decide +kernel
theorem dX4_isPermit_1 : decode cX4_isPermit 1 = .ok (.getfield 9, 3) := by decide +kernel
theorem dX4_isPermit_4 : decode cX4_isPermit 4 = .ok (.ifCond .le 16, 3) := by decide +kernel
theorem dX4_isPermit_7 : decode cX4_isPermit 7 = .ok (.aload_n 0, 1) := by decide +kernel
theorem dX4_isPermit_8 : decode cX4_isPermit 8 = .ok (.invokevirtual 49, 3) := by decide +kernel
theorem dX4_isPermit_11 : decode cX4_isPermit 11 = .ok (.ldc 53, 2) := by decide +kernel
theorem dX4_isPermit_13 : decode cX4_isPermit 13 = .ok (.if_icmp .ne 7, 3) := by decide +kernel
theorem dX4_isPermit_16 : decode cX4_isPermit 16 = .ok (.iconst 1, 1) := by decide +kernel
theorem dX4_isPermit_17 : decode cX4_isPermit 17 = .ok (.goto 4, 3) := by decide +kernel
theorem dX4_isPermit_20 : decode cX4_isPermit 20 = .ok (.iconst 0, 1) := by decide +kernel
theorem dX4_isPermit_21 : decode cX4_isPermit 21 = .ok (.ireturn, 1) := by decide +kernel
theorem dX4_firstFault_0 : decode cX4_firstFault 0 = .ok (.aload_n 0, 1) := by decide +kernel
theorem dX4_firstFault_1 : decode cX4_firstFault 1 = .ok (.getfield 9, 3) := by decide +kernel
theorem dX4_firstFault_4 : decode cX4_firstFault 4 = .ok (.ifCond .ne 6, 3) := by decide +kernel
theorem dX4_firstFault_7 : decode cX4_firstFault 7 = .ok (.ldc 53, 2) := by decide +kernel
theorem dX4_firstFault_9 : decode cX4_firstFault 9 = .ok (.ireturn, 1) := by decide +kernel
theorem dX4_firstFault_10 : decode cX4_firstFault 10 = .ok (.iconst 0, 1) := by decide +kernel
theorem dX4_firstFault_11 : decode cX4_firstFault 11 = .ok (.istore_n 1, 1) := by decide +kernel
theorem dX4_firstFault_12 : decode cX4_firstFault 12 = .ok (.aload_n 0, 1) := by decide +kernel
theorem dX4_firstFault_13 : decode cX4_firstFault 13 = .ok (.iconst 0, 1) := by decide +kernel
theorem dX4_firstFault_14 : decode cX4_firstFault 14 = .ok (.putfield 19, 3) := by decide +kernel
theorem dX4_firstFault_17 : decode cX4_firstFault 17 = .ok (.iconst 0, 1) := by decide +kernel
theorem dX4_firstFault_18 : decode cX4_firstFault 18 = .ok (.istore_n 2, 1) := by decide +kernel
theorem dX4_firstFault_19 : decode cX4_firstFault 19 = .ok (.iload_n 2, 1) := by decide +kernel
theorem dX4_firstFault_20 : decode cX4_firstFault 20 = .ok (.aload_n 0, 1) := by decide +kernel
theorem dX4_firstFault_21 : decode cX4_firstFault 21 = .ok (.getfield 9, 3) := by decide +kernel
theorem dX4_firstFault_24 : decode cX4_firstFault 24 = .ok (.if_icmp .ge 29, 3) := by decide +kernel
theorem dX4_firstFault_27 : decode cX4_firstFault 27 = .ok (.aload_n 0, 1) := by decide +kernel
theorem dX4_firstFault_28 : decode cX4_firstFault 28 = .ok (.iload_n 1, 1) := by decide +kernel
theorem dX4_firstFault_29 : decode cX4_firstFault 29 = .ok (.aload_n 0, 1) := by decide +kernel
theorem dX4_firstFault_30 : decode cX4_firstFault 30 = .ok (.getfield 15, 3) := by decide +kernel
theorem dX4_firstFault_33 : decode cX4_firstFault 33 = .ok (.iload_n 2, 1) := by decide +kernel
theorem dX4_firstFault_34 : decode cX4_firstFault 34 = .ok (.iaload, 1) := by decide +kernel
theorem dX4_firstFault_35 : decode cX4_firstFault 35 = .ok (.invokevirtual 54, 3) := by decide +kernel
theorem dX4_firstFault_38 : decode cX4_firstFault 38 = .ok (.istore_n 1, 1) := by decide +kernel
theorem dX4_firstFault_39 : decode cX4_firstFault 39 = .ok (.iload_n 1, 1) := by decide +kernel
theorem dX4_firstFault_40 : decode cX4_firstFault 40 = .ok (.bipush 7, 2) := by decide +kernel
theorem dX4_firstFault_42 : decode cX4_firstFault 42 = .ok (.if_icmp .ne 5, 3) := by decide +kernel
theorem dX4_firstFault_45 : decode cX4_firstFault 45 = .ok (.iload_n 2, 1) := by decide +kernel
theorem dX4_firstFault_46 : decode cX4_firstFault 46 = .ok (.ireturn, 1) := by decide +kernel
theorem dX4_firstFault_47 : decode cX4_firstFault 47 = .ok (.iinc 2 1, 3) := by decide +kernel
theorem dX4_firstFault_50 : decode cX4_firstFault 50 = .ok (.goto (-31), 3) := by decide +kernel
theorem dX4_firstFault_53 : decode cX4_firstFault 53 = .ok (.iload_n 1, 1) := by decide +kernel
theorem dX4_firstFault_54 : decode cX4_firstFault 54 = .ok (.iconst 5, 1) := by decide +kernel
theorem dX4_firstFault_55 : decode cX4_firstFault 55 = .ok (.if_icmp .eq 9, 3) := by decide +kernel
theorem dX4_firstFault_58 : decode cX4_firstFault 58 = .ok (.iload_n 1, 1) := by decide +kernel
theorem dX4_firstFault_59 : decode cX4_firstFault 59 = .ok (.bipush 6, 2) := by decide +kernel
theorem dX4_firstFault_61 : decode cX4_firstFault 61 = .ok (.if_icmp .ne 15, 3) := by decide +kernel
theorem dX4_firstFault_64 : decode cX4_firstFault 64 = .ok (.aload_n 0, 1) := by decide +kernel
theorem dX4_firstFault_65 : decode cX4_firstFault 65 = .ok (.getfield 19, 3) := by decide +kernel
theorem dX4_firstFault_68 : decode cX4_firstFault 68 = .ok (.ifCond .ne 8, 3) := by decide +kernel
theorem dX4_firstFault_71 : decode cX4_firstFault 71 = .ok (.ldc 53, 2) := by decide +kernel
theorem dX4_firstFault_73 : decode cX4_firstFault 73 = .ok (.goto 7, 3) := by decide +kernel
theorem dX4_firstFault_76 : decode cX4_firstFault 76 = .ok (.aload_n 0, 1) := by decide +kernel
theorem dX4_firstFault_77 : decode cX4_firstFault 77 = .ok (.getfield 9, 3) := by decide +kernel
theorem dX4_firstFault_80 : decode cX4_firstFault 80 = .ok (.ireturn, 1) := by decide +kernel
theorem dX4_after_0 : decode cX4_after 0 = .ok (.iload_n 1, 1) := by decide +kernel
theorem dX4_after_1 : decode cX4_after 1 = .ok (.tableswitch 143 0 5 #[39, 45, 70, 95, 116, 122], 39) := by decide +kernel
theorem dX4_after_40 : decode cX4_after 40 = .ok (.aload_n 0, 1) := by decide +kernel
theorem dX4_after_41 : decode cX4_after 41 = .ok (.iload_n 2, 1) := by decide +kernel
theorem dX4_after_42 : decode cX4_after 42 = .ok (.invokevirtual 58, 3) := by decide +kernel
theorem dX4_after_45 : decode cX4_after 45 = .ok (.ireturn, 1) := by decide +kernel
theorem dX4_after_46 : decode cX4_after 46 = .ok (.iload_n 2, 1) := by decide +kernel
theorem dX4_after_47 : decode cX4_after 47 = .ok (.invokestatic 62, 3) := by decide +kernel
theorem dX4_after_50 : decode cX4_after 50 = .ok (.ifCond .eq 18, 3) := by decide +kernel
theorem dX4_after_53 : decode cX4_after 53 = .ok (.aload_n 0, 1) := by decide +kernel
theorem dX4_after_54 : decode cX4_after 54 = .ok (.iload_n 2, 1) := by decide +kernel
theorem dX4_after_55 : decode cX4_after 55 = .ok (.bipush 48, 2) := by decide +kernel
theorem dX4_after_57 : decode cX4_after 57 = .ok (.isub, 1) := by decide +kernel
theorem dX4_after_58 : decode cX4_after 58 = .ok (.invokevirtual 66, 3) := by decide +kernel
theorem dX4_after_61 : decode cX4_after 61 = .ok (.ifCond .eq 7, 3) := by decide +kernel
theorem dX4_after_64 : decode cX4_after 64 = .ok (.iconst 2, 1) := by decide +kernel
theorem dX4_after_65 : decode cX4_after 65 = .ok (.goto 5, 3) := by decide +kernel
theorem dX4_after_68 : decode cX4_after 68 = .ok (.bipush 7, 2) := by decide +kernel
theorem dX4_after_70 : decode cX4_after 70 = .ok (.ireturn, 1) := by decide +kernel
theorem dX4_after_71 : decode cX4_after 71 = .ok (.iload_n 2, 1) := by decide +kernel
theorem dX4_after_72 : decode cX4_after 72 = .ok (.bipush 60, 2) := by decide +kernel
theorem dX4_after_74 : decode cX4_after 74 = .ok (.if_icmp .eq 15, 3) := by decide +kernel
theorem dX4_after_77 : decode cX4_after 77 = .ok (.iload_n 2, 1) := by decide +kernel
theorem dX4_after_78 : decode cX4_after 78 = .ok (.bipush 62, 2) := by decide +kernel
theorem dX4_after_80 : decode cX4_after 80 = .ok (.if_icmp .eq 9, 3) := by decide +kernel
theorem dX4_after_83 : decode cX4_after 83 = .ok (.iload_n 2, 1) := by decide +kernel
theorem dX4_after_84 : decode cX4_after 84 = .ok (.bipush 61, 2) := by decide +kernel
theorem dX4_after_86 : decode cX4_after 86 = .ok (.if_icmp .ne 7, 3) := by decide +kernel
theorem dX4_after_89 : decode cX4_after 89 = .ok (.iconst 3, 1) := by decide +kernel
theorem dX4_after_90 : decode cX4_after 90 = .ok (.goto 5, 3) := by decide +kernel
theorem dX4_after_93 : decode cX4_after 93 = .ok (.bipush 7, 2) := by decide +kernel
theorem dX4_after_95 : decode cX4_after 95 = .ok (.ireturn, 1) := by decide +kernel
theorem dX4_after_96 : decode cX4_after 96 = .ok (.aload_n 0, 1) := by decide +kernel
theorem dX4_after_97 : decode cX4_after 97 = .ok (.iconst 0, 1) := by decide +kernel
theorem dX4_after_98 : decode cX4_after 98 = .ok (.putfield 22, 3) := by decide +kernel
theorem dX4_after_101 : decode cX4_after 101 = .ok (.iload_n 2, 1) := by decide +kernel
theorem dX4_after_102 : decode cX4_after 102 = .ok (.bipush 45, 2) := by decide +kernel
theorem dX4_after_104 : decode cX4_after 104 = .ok (.if_icmp .ne 7, 3) := by decide +kernel
theorem dX4_after_107 : decode cX4_after 107 = .ok (.iconst 4, 1) := by decide +kernel
theorem dX4_after_108 : decode cX4_after 108 = .ok (.goto 8, 3) := by decide +kernel
theorem dX4_after_111 : decode cX4_after 111 = .ok (.aload_n 0, 1) := by decide +kernel
theorem dX4_after_112 : decode cX4_after 112 = .ok (.iload_n 2, 1) := by decide +kernel
theorem dX4_after_113 : decode cX4_after 113 = .ok (.invokevirtual 69, 3) := by decide +kernel
theorem dX4_after_116 : decode cX4_after 116 = .ok (.ireturn, 1) := by decide +kernel
theorem dX4_after_117 : decode cX4_after 117 = .ok (.aload_n 0, 1) := by decide +kernel
theorem dX4_after_118 : decode cX4_after 118 = .ok (.iload_n 2, 1) := by decide +kernel
theorem dX4_after_119 : decode cX4_after 119 = .ok (.invokevirtual 69, 3) := by decide +kernel
theorem dX4_after_122 : decode cX4_after 122 = .ok (.ireturn, 1) := by decide +kernel
theorem dX4_after_123 : decode cX4_after 123 = .ok (.iload_n 2, 1) := by decide +kernel
theorem dX4_after_124 : decode cX4_after 124 = .ok (.invokestatic 62, 3) := by decide +kernel
theorem dX4_after_127 : decode cX4_after 127 = .ok (.ifCond .eq 11, 3) := by decide +kernel
theorem dX4_after_130 : decode cX4_after 130 = .ok (.aload_n 0, 1) := by decide +kernel
theorem dX4_after_131 : decode cX4_after 131 = .ok (.iload_n 2, 1) := by decide +kernel
theorem dX4_after_132 : decode cX4_after 132 = .ok (.invokevirtual 69, 3) := by decide +kernel
theorem dX4_after_135 : decode cX4_after 135 = .ok (.goto 8, 3) := by decide +kernel
theorem dX4_after_138 : decode cX4_after 138 = .ok (.aload_n 0, 1) := by decide +kernel
theorem dX4_after_139 : decode cX4_after 139 = .ok (.iload_n 2, 1) := by decide +kernel
theorem dX4_after_140 : decode cX4_after 140 = .ok (.invokevirtual 72, 3) := by decide +kernel
theorem dX4_after_143 : decode cX4_after 143 = .ok (.ireturn, 1) := by decide +kernel
theorem dX4_after_144 : decode cX4_after 144 = .ok (.aload_n 0, 1) := by decide +kernel
theorem dX4_after_145 : decode cX4_after 145 = .ok (.iload_n 2, 1) := by decide +kernel
theorem dX4_after_146 : decode cX4_after 146 = .ok (.invokevirtual 72, 3) := by decide +kernel
theorem dX4_after_149 : decode cX4_after 149 = .ok (.ireturn, 1) := by decide +kernel
theorem dX4_afterOne_0 : decode cX4_afterOne 0 = .ok (.iload_n 1, 1) := by decide +kernel
theorem dX4_afterOne_1 : decode cX4_afterOne 1 = .ok (.bipush 33, 2) := by decide +kernel
theorem dX4_afterOne_3 : decode cX4_afterOne 3 = .ok (.if_icmp .ne 5, 3) := by decide +kernel
theorem dX4_afterOne_6 : decode cX4_afterOne 6 = .ok (.iconst 0, 1) := by decide +kernel
theorem dX4_afterOne_7 : decode cX4_afterOne 7 = .ok (.ireturn, 1) := by decide +kernel
theorem dX4_afterOne_8 : decode cX4_afterOne 8 = .ok (.iload_n 1, 1) := by decide +kernel
theorem dX4_afterOne_9 : decode cX4_afterOne 9 = .ok (.bipush 40, 2) := by decide +kernel
theorem dX4_afterOne_11 : decode cX4_afterOne 11 = .ok (.if_icmp .ne 15, 3) := by decide +kernel
theorem dX4_afterOne_14 : decode cX4_afterOne 14 = .ok (.aload_n 0, 1) := by decide +kernel
theorem dX4_afterOne_15 : decode cX4_afterOne 15 = .ok (.dup, 1) := by decide +kernel
theorem dX4_afterOne_16 : decode cX4_afterOne 16 = .ok (.getfield 19, 3) := by decide +kernel
theorem dX4_afterOne_19 : decode cX4_afterOne 19 = .ok (.iconst 1, 1) := by decide +kernel
theorem dX4_afterOne_20 : decode cX4_afterOne 20 = .ok (.iadd, 1) := by decide +kernel
theorem dX4_afterOne_21 : decode cX4_afterOne 21 = .ok (.putfield 19, 3) := by decide +kernel
theorem dX4_afterOne_24 : decode cX4_afterOne 24 = .ok (.iconst 0, 1) := by decide +kernel
theorem dX4_afterOne_25 : decode cX4_afterOne 25 = .ok (.ireturn, 1) := by decide +kernel
theorem dX4_afterOne_26 : decode cX4_afterOne 26 = .ok (.aload_n 0, 1) := by decide +kernel
theorem dX4_afterOne_27 : decode cX4_afterOne 27 = .ok (.iload_n 1, 1) := by decide +kernel
theorem dX4_afterOne_28 : decode cX4_afterOne 28 = .ok (.putfield 25, 3) := by decide +kernel
theorem dX4_afterOne_31 : decode cX4_afterOne 31 = .ok (.iload_n 1, 1) := by decide +kernel
theorem dX4_afterOne_32 : decode cX4_afterOne 32 = .ok (.bipush 104, 2) := by decide +kernel
theorem dX4_afterOne_34 : decode cX4_afterOne 34 = .ok (.if_icmp .eq 27, 3) := by decide +kernel
theorem dX4_afterOne_37 : decode cX4_afterOne 37 = .ok (.iload_n 1, 1) := by decide +kernel
theorem dX4_afterOne_38 : decode cX4_afterOne 38 = .ok (.bipush 113, 2) := by decide +kernel
theorem dX4_afterOne_40 : decode cX4_afterOne 40 = .ok (.if_icmp .eq 21, 3) := by decide +kernel
theorem dX4_afterOne_43 : decode cX4_afterOne 43 = .ok (.iload_n 1, 1) := by decide +kernel
theorem dX4_afterOne_44 : decode cX4_afterOne 44 = .ok (.bipush 103, 2) := by decide +kernel
theorem dX4_afterOne_46 : decode cX4_afterOne 46 = .ok (.if_icmp .eq 15, 3) := by decide +kernel
theorem dX4_afterOne_49 : decode cX4_afterOne 49 = .ok (.iload_n 1, 1) := by decide +kernel
theorem dX4_afterOne_50 : decode cX4_afterOne 50 = .ok (.bipush 100, 2) := by decide +kernel
theorem dX4_afterOne_52 : decode cX4_afterOne 52 = .ok (.if_icmp .eq 9, 3) := by decide +kernel
theorem dX4_afterOne_55 : decode cX4_afterOne 55 = .ok (.iload_n 1, 1) := by decide +kernel
theorem dX4_afterOne_56 : decode cX4_afterOne 56 = .ok (.bipush 102, 2) := by decide +kernel
theorem dX4_afterOne_58 : decode cX4_afterOne 58 = .ok (.if_icmp .ne 7, 3) := by decide +kernel
theorem dX4_afterOne_61 : decode cX4_afterOne 61 = .ok (.iconst 1, 1) := by decide +kernel
theorem dX4_afterOne_62 : decode cX4_afterOne 62 = .ok (.goto 5, 3) := by decide +kernel
theorem dX4_afterOne_65 : decode cX4_afterOne 65 = .ok (.bipush 7, 2) := by decide +kernel
theorem dX4_afterOne_67 : decode cX4_afterOne 67 = .ok (.ireturn, 1) := by decide +kernel
theorem dX4_afterNumber_0 : decode cX4_afterNumber 0 = .ok (.iload_n 1, 1) := by decide +kernel
theorem dX4_afterNumber_1 : decode cX4_afterNumber 1 = .ok (.invokestatic 62, 3) := by decide +kernel
theorem dX4_afterNumber_4 : decode cX4_afterNumber 4 = .ok (.ifCond .eq 12, 3) := by decide +kernel
theorem dX4_afterNumber_7 : decode cX4_afterNumber 7 = .ok (.aload_n 0, 1) := by decide +kernel
theorem dX4_afterNumber_8 : decode cX4_afterNumber 8 = .ok (.getfield 22, 3) := by decide +kernel
theorem dX4_afterNumber_11 : decode cX4_afterNumber 11 = .ok (.bipush 7, 2) := by decide +kernel
theorem dX4_afterNumber_13 : decode cX4_afterNumber 13 = .ok (.if_icmp .lt 6, 3) := by decide +kernel
theorem dX4_afterNumber_16 : decode cX4_afterNumber 16 = .ok (.bipush 7, 2) := by decide +kernel
theorem dX4_afterNumber_18 : decode cX4_afterNumber 18 = .ok (.ireturn, 1) := by decide +kernel
theorem dX4_afterNumber_19 : decode cX4_afterNumber 19 = .ok (.aload_n 0, 1) := by decide +kernel
theorem dX4_afterNumber_20 : decode cX4_afterNumber 20 = .ok (.dup, 1) := by decide +kernel
theorem dX4_afterNumber_21 : decode cX4_afterNumber 21 = .ok (.getfield 22, 3) := by decide +kernel
theorem dX4_afterNumber_24 : decode cX4_afterNumber 24 = .ok (.iconst 1, 1) := by decide +kernel
theorem dX4_afterNumber_25 : decode cX4_afterNumber 25 = .ok (.iadd, 1) := by decide +kernel
theorem dX4_afterNumber_26 : decode cX4_afterNumber 26 = .ok (.putfield 22, 3) := by decide +kernel
theorem dX4_afterNumber_29 : decode cX4_afterNumber 29 = .ok (.iconst 5, 1) := by decide +kernel
theorem dX4_afterNumber_30 : decode cX4_afterNumber 30 = .ok (.ireturn, 1) := by decide +kernel
theorem dX4_afterBehind_0 : decode cX4_afterBehind 0 = .ok (.iload_n 1, 1) := by decide +kernel
theorem dX4_afterBehind_1 : decode cX4_afterBehind 1 = .ok (.bipush 38, 2) := by decide +kernel
theorem dX4_afterBehind_3 : decode cX4_afterBehind 3 = .ok (.if_icmp .eq 9, 3) := by decide +kernel
theorem dX4_afterBehind_6 : decode cX4_afterBehind 6 = .ok (.iload_n 1, 1) := by decide +kernel
theorem dX4_afterBehind_7 : decode cX4_afterBehind 7 = .ok (.bipush 124, 2) := by decide +kernel
theorem dX4_afterBehind_9 : decode cX4_afterBehind 9 = .ok (.if_icmp .ne 5, 3) := by decide +kernel
theorem dX4_afterBehind_12 : decode cX4_afterBehind 12 = .ok (.iconst 0, 1) := by decide +kernel
theorem dX4_afterBehind_13 : decode cX4_afterBehind 13 = .ok (.ireturn, 1) := by decide +kernel
theorem dX4_afterBehind_14 : decode cX4_afterBehind 14 = .ok (.iload_n 1, 1) := by decide +kernel
theorem dX4_afterBehind_15 : decode cX4_afterBehind 15 = .ok (.bipush 41, 2) := by decide +kernel
theorem dX4_afterBehind_17 : decode cX4_afterBehind 17 = .ok (.if_icmp .ne 10, 3) := by decide +kernel
theorem dX4_afterBehind_20 : decode cX4_afterBehind 20 = .ok (.aload_n 0, 1) := by decide +kernel
theorem dX4_afterBehind_21 : decode cX4_afterBehind 21 = .ok (.getfield 19, 3) := by decide +kernel
theorem dX4_afterBehind_24 : decode cX4_afterBehind 24 = .ok (.ifCond .ne 6, 3) := by decide +kernel
theorem dX4_afterBehind_27 : decode cX4_afterBehind 27 = .ok (.bipush 7, 2) := by decide +kernel
theorem dX4_afterBehind_29 : decode cX4_afterBehind 29 = .ok (.ireturn, 1) := by decide +kernel
theorem dX4_afterBehind_30 : decode cX4_afterBehind 30 = .ok (.aload_n 0, 1) := by decide +kernel
theorem dX4_afterBehind_31 : decode cX4_afterBehind 31 = .ok (.dup, 1) := by decide +kernel
theorem dX4_afterBehind_32 : decode cX4_afterBehind 32 = .ok (.getfield 19, 3) := by decide +kernel
theorem dX4_afterBehind_35 : decode cX4_afterBehind 35 = .ok (.iconst 1, 1) := by decide +kernel
theorem dX4_afterBehind_36 : decode cX4_afterBehind 36 = .ok (.isub, 1) := by decide +kernel
theorem dX4_afterBehind_37 : decode cX4_afterBehind 37 = .ok (.putfield 19, 3) := by decide +kernel
theorem dX4_afterBehind_40 : decode cX4_afterBehind 40 = .ok (.bipush 6, 2) := by decide +kernel
theorem dX4_afterBehind_42 : decode cX4_afterBehind 42 = .ok (.ireturn, 1) := by decide +kernel
theorem dX4_isDigit_0 : decode cX4_isDigit 0 = .ok (.iload_n 0, 1) := by decide +kernel
theorem dX4_isDigit_1 : decode cX4_isDigit 1 = .ok (.bipush 48, 2) := by decide +kernel
theorem dX4_isDigit_3 : decode cX4_isDigit 3 = .ok (.if_icmp .lt 13, 3) := by decide +kernel
theorem dX4_isDigit_6 : decode cX4_isDigit 6 = .ok (.iload_n 0, 1) := by decide +kernel
theorem dX4_isDigit_7 : decode cX4_isDigit 7 = .ok (.bipush 57, 2) := by decide +kernel
theorem dX4_isDigit_9 : decode cX4_isDigit 9 = .ok (.if_icmp .gt 7, 3) := by decide +kernel
theorem dX4_isDigit_12 : decode cX4_isDigit 12 = .ok (.iconst 1, 1) := by decide +kernel
theorem dX4_isDigit_13 : decode cX4_isDigit 13 = .ok (.goto 4, 3) := by decide +kernel
theorem dX4_isDigit_16 : decode cX4_isDigit 16 = .ok (.iconst 0, 1) := by decide +kernel
theorem dX4_isDigit_17 : decode cX4_isDigit 17 = .ok (.ireturn, 1) := by decide +kernel
theorem dX4_isThere_0 : decode cX4_isThere 0 = .ok (.aload_n 0, 1) := by decide +kernel
theorem dX4_isThere_1 : decode cX4_isThere 1 = .ok (.getfield 25, 3) := by decide +kernel
theorem dX4_isThere_4 : decode cX4_isThere 4 = .ok (.lookupswitch 89 #[(100, 77), (103, 65), (104, 44), (113, 53)], 44) := by decide +kernel
theorem dX4_isThere_48 : decode cX4_isThere 48 = .ok (.aload_n 0, 1) := by decide +kernel
theorem dX4_isThere_49 : decode cX4_isThere 49 = .ok (.getfield 41, 3) := by decide +kernel
theorem dX4_isThere_52 : decode cX4_isThere 52 = .ok (.iload_n 1, 1) := by decide +kernel
theorem dX4_isThere_53 : decode cX4_isThere 53 = .ok (.invokevirtual 75, 3) := by decide +kernel
theorem dX4_isThere_56 : decode cX4_isThere 56 = .ok (.ireturn, 1) := by decide +kernel
theorem dX4_isThere_57 : decode cX4_isThere 57 = .ok (.aload_n 0, 1) := by decide +kernel
theorem dX4_isThere_58 : decode cX4_isThere 58 = .ok (.getfield 41, 3) := by decide +kernel
theorem dX4_isThere_61 : decode cX4_isThere 61 = .ok (.getfield 80, 3) := by decide +kernel
theorem dX4_isThere_64 : decode cX4_isThere 64 = .ok (.iload_n 1, 1) := by decide +kernel
theorem dX4_isThere_65 : decode cX4_isThere 65 = .ok (.invokevirtual 84, 3) := by decide +kernel
theorem dX4_isThere_68 : decode cX4_isThere 68 = .ok (.ireturn, 1) := by decide +kernel
theorem dX4_isThere_69 : decode cX4_isThere 69 = .ok (.aload_n 0, 1) := by decide +kernel
theorem dX4_isThere_70 : decode cX4_isThere 70 = .ok (.getfield 41, 3) := by decide +kernel
theorem dX4_isThere_73 : decode cX4_isThere 73 = .ok (.getfield 89, 3) := by decide +kernel
theorem dX4_isThere_76 : decode cX4_isThere 76 = .ok (.iload_n 1, 1) := by decide +kernel
theorem dX4_isThere_77 : decode cX4_isThere 77 = .ok (.invokevirtual 93, 3) := by decide +kernel
theorem dX4_isThere_80 : decode cX4_isThere 80 = .ok (.ireturn, 1) := by decide +kernel
theorem dX4_isThere_81 : decode cX4_isThere 81 = .ok (.aload_n 0, 1) := by decide +kernel
theorem dX4_isThere_82 : decode cX4_isThere 82 = .ok (.getfield 41, 3) := by decide +kernel
theorem dX4_isThere_85 : decode cX4_isThere 85 = .ok (.getfield 96, 3) := by decide +kernel
theorem dX4_isThere_88 : decode cX4_isThere 88 = .ok (.iload_n 1, 1) := by decide +kernel
theorem dX4_isThere_89 : decode cX4_isThere 89 = .ok (.invokevirtual 100, 3) := by decide +kernel
theorem dX4_isThere_92 : decode cX4_isThere 92 = .ok (.ireturn, 1) := by decide +kernel
theorem dX4_isThere_93 : decode cX4_isThere 93 = .ok (.aload_n 0, 1) := by decide +kernel
theorem dX4_isThere_94 : decode cX4_isThere 94 = .ok (.getfield 41, 3) := by decide +kernel
theorem dX4_isThere_97 : decode cX4_isThere 97 = .ok (.getfield 103, 3) := by decide +kernel
theorem dX4_isThere_100 : decode cX4_isThere 100 = .ok (.iload_n 1, 1) := by decide +kernel
theorem dX4_isThere_101 : decode cX4_isThere 101 = .ok (.invokevirtual 107, 3) := by decide +kernel
theorem dX4_isThere_104 : decode cX4_isThere 104 = .ok (.ireturn, 1) := by decide +kernel
theorem dX4_holdsWith_0 : decode cX4_holdsWith 0 = .ok (.aload_n 0, 1) := by decide +kernel
theorem dX4_holdsWith_1 : decode cX4_holdsWith 1 = .ok (.iconst 0, 1) := by decide +kernel
theorem dX4_holdsWith_2 : decode cX4_holdsWith 2 = .ok (.putfield 19, 3) := by decide +kernel
theorem dX4_holdsWith_5 : decode cX4_holdsWith 5 = .ok (.aload_n 0, 1) := by decide +kernel
theorem dX4_holdsWith_6 : decode cX4_holdsWith 6 = .ok (.invokevirtual 110, 3) := by decide +kernel
theorem dX4_holdsWith_9 : decode cX4_holdsWith 9 = .ok (.aload_n 0, 1) := by decide +kernel
theorem dX4_holdsWith_10 : decode cX4_holdsWith 10 = .ok (.iconst 0, 1) := by decide +kernel
theorem dX4_holdsWith_11 : decode cX4_holdsWith 11 = .ok (.putfield 38, 3) := by decide +kernel
theorem dX4_holdsWith_14 : decode cX4_holdsWith 14 = .ok (.iconst 0, 1) := by decide +kernel
theorem dX4_holdsWith_15 : decode cX4_holdsWith 15 = .ok (.istore_n 2, 1) := by decide +kernel
theorem dX4_holdsWith_16 : decode cX4_holdsWith 16 = .ok (.iload_n 2, 1) := by decide +kernel
theorem dX4_holdsWith_17 : decode cX4_holdsWith 17 = .ok (.sipush 200, 3) := by decide +kernel
theorem dX4_holdsWith_20 : decode cX4_holdsWith 20 = .ok (.if_icmp .ge 241, 3) := by decide +kernel
theorem dX4_holdsWith_23 : decode cX4_holdsWith 23 = .ok (.aload_n 0, 1) := by decide +kernel
theorem dX4_holdsWith_24 : decode cX4_holdsWith 24 = .ok (.getfield 38, 3) := by decide +kernel
theorem dX4_holdsWith_27 : decode cX4_holdsWith 27 = .ok (.aload_n 0, 1) := by decide +kernel
theorem dX4_holdsWith_28 : decode cX4_holdsWith 28 = .ok (.getfield 9, 3) := by decide +kernel
theorem dX4_holdsWith_31 : decode cX4_holdsWith 31 = .ok (.if_icmp .ge 230, 3) := by decide +kernel
theorem dX4_holdsWith_34 : decode cX4_holdsWith 34 = .ok (.aload_n 0, 1) := by decide +kernel
theorem dX4_holdsWith_35 : decode cX4_holdsWith 35 = .ok (.getfield 15, 3) := by decide +kernel
theorem dX4_holdsWith_38 : decode cX4_holdsWith 38 = .ok (.aload_n 0, 1) := by decide +kernel
theorem dX4_holdsWith_39 : decode cX4_holdsWith 39 = .ok (.dup, 1) := by decide +kernel
theorem dX4_holdsWith_40 : decode cX4_holdsWith 40 = .ok (.getfield 38, 3) := by decide +kernel
theorem dX4_holdsWith_43 : decode cX4_holdsWith 43 = .ok (.dup_x1, 1) := by decide +kernel
theorem dX4_holdsWith_44 : decode cX4_holdsWith 44 = .ok (.iconst 1, 1) := by decide +kernel
theorem dX4_holdsWith_45 : decode cX4_holdsWith 45 = .ok (.iadd, 1) := by decide +kernel
theorem dX4_holdsWith_46 : decode cX4_holdsWith 46 = .ok (.putfield 38, 3) := by decide +kernel
theorem dX4_holdsWith_49 : decode cX4_holdsWith 49 = .ok (.iaload, 1) := by decide +kernel
theorem dX4_holdsWith_50 : decode cX4_holdsWith 50 = .ok (.istore_n 3, 1) := by decide +kernel
theorem dX4_holdsWith_51 : decode cX4_holdsWith 51 = .ok (.iload_n 3, 1) := by decide +kernel
theorem dX4_holdsWith_52 : decode cX4_holdsWith 52 = .ok (.bipush 33, 2) := by decide +kernel
theorem dX4_holdsWith_54 : decode cX4_holdsWith 54 = .ok (.if_icmp .ne 32, 3) := by decide +kernel
theorem dX4_holdsWith_57 : decode cX4_holdsWith 57 = .ok (.aload_n 0, 1) := by decide +kernel
theorem dX4_holdsWith_58 : decode cX4_holdsWith 58 = .ok (.getfield 35, 3) := by decide +kernel
theorem dX4_holdsWith_61 : decode cX4_holdsWith 61 = .ok (.aload_n 0, 1) := by decide +kernel
theorem dX4_holdsWith_62 : decode cX4_holdsWith 62 = .ok (.getfield 19, 3) := by decide +kernel
theorem dX4_holdsWith_65 : decode cX4_holdsWith 65 = .ok (.aload_n 0, 1) := by decide +kernel
theorem dX4_holdsWith_66 : decode cX4_holdsWith 66 = .ok (.getfield 35, 3) := by decide +kernel
theorem dX4_holdsWith_69 : decode cX4_holdsWith 69 = .ok (.aload_n 0, 1) := by decide +kernel
theorem dX4_holdsWith_70 : decode cX4_holdsWith 70 = .ok (.getfield 19, 3) := by decide +kernel
theorem dX4_holdsWith_73 : decode cX4_holdsWith 73 = .ok (.baload, 1) := by decide +kernel
theorem dX4_holdsWith_74 : decode cX4_holdsWith 74 = .ok (.ifCond .ne 7, 3) := by decide +kernel
theorem dX4_holdsWith_77 : decode cX4_holdsWith 77 = .ok (.iconst 1, 1) := by decide +kernel
theorem dX4_holdsWith_78 : decode cX4_holdsWith 78 = .ok (.goto 4, 3) := by decide +kernel
theorem dX4_holdsWith_81 : decode cX4_holdsWith 81 = .ok (.iconst 0, 1) := by decide +kernel
theorem dX4_holdsWith_82 : decode cX4_holdsWith 82 = .ok (.bastore, 1) := by decide +kernel
theorem dX4_holdsWith_83 : decode cX4_holdsWith 83 = .ok (.goto 172, 3) := by decide +kernel
theorem dX4_holdsWith_86 : decode cX4_holdsWith 86 = .ok (.iload_n 3, 1) := by decide +kernel
theorem dX4_holdsWith_87 : decode cX4_holdsWith 87 = .ok (.bipush 40, 2) := by decide +kernel
theorem dX4_holdsWith_89 : decode cX4_holdsWith 89 = .ok (.if_icmp .ne 30, 3) := by decide +kernel
theorem dX4_holdsWith_92 : decode cX4_holdsWith 92 = .ok (.aload_n 0, 1) := by decide +kernel
theorem dX4_holdsWith_93 : decode cX4_holdsWith 93 = .ok (.getfield 19, 3) := by decide +kernel
theorem dX4_holdsWith_96 : decode cX4_holdsWith 96 = .ok (.sipush 200, 3) := by decide +kernel
theorem dX4_holdsWith_99 : decode cX4_holdsWith 99 = .ok (.if_icmp .ge 13, 3) := by decide +kernel
theorem dX4_holdsWith_102 : decode cX4_holdsWith 102 = .ok (.aload_n 0, 1) := by decide +kernel
theorem dX4_holdsWith_103 : decode cX4_holdsWith 103 = .ok (.dup, 1) := by decide +kernel
theorem dX4_holdsWith_104 : decode cX4_holdsWith 104 = .ok (.getfield 19, 3) := by decide +kernel
theorem dX4_holdsWith_107 : decode cX4_holdsWith 107 = .ok (.iconst 1, 1) := by decide +kernel
theorem dX4_holdsWith_108 : decode cX4_holdsWith 108 = .ok (.iadd, 1) := by decide +kernel
theorem dX4_holdsWith_109 : decode cX4_holdsWith 109 = .ok (.putfield 19, 3) := by decide +kernel
theorem dX4_holdsWith_112 : decode cX4_holdsWith 112 = .ok (.aload_n 0, 1) := by decide +kernel
theorem dX4_holdsWith_113 : decode cX4_holdsWith 113 = .ok (.invokevirtual 110, 3) := by decide +kernel
theorem dX4_holdsWith_116 : decode cX4_holdsWith 116 = .ok (.goto 139, 3) := by decide +kernel
theorem dX4_holdsWith_119 : decode cX4_holdsWith 119 = .ok (.iload_n 3, 1) := by decide +kernel
theorem dX4_holdsWith_120 : decode cX4_holdsWith 120 = .ok (.bipush 41, 2) := by decide +kernel
theorem dX4_holdsWith_122 : decode cX4_holdsWith 122 = .ok (.if_icmp .ne 60, 3) := by decide +kernel
theorem dX4_holdsWith_125 : decode cX4_holdsWith 125 = .ok (.aload_n 0, 1) := by decide +kernel
theorem dX4_holdsWith_126 : decode cX4_holdsWith 126 = .ok (.getfield 28, 3) := by decide +kernel
theorem dX4_holdsWith_129 : decode cX4_holdsWith 129 = .ok (.aload_n 0, 1) := by decide +kernel
theorem dX4_holdsWith_130 : decode cX4_holdsWith 130 = .ok (.getfield 19, 3) := by decide +kernel
theorem dX4_holdsWith_133 : decode cX4_holdsWith 133 = .ok (.baload, 1) := by decide +kernel
theorem dX4_holdsWith_134 : decode cX4_holdsWith 134 = .ok (.ifCond .ne 15, 3) := by decide +kernel
theorem dX4_holdsWith_137 : decode cX4_holdsWith 137 = .ok (.aload_n 0, 1) := by decide +kernel
theorem dX4_holdsWith_138 : decode cX4_holdsWith 138 = .ok (.getfield 32, 3) := by decide +kernel
theorem dX4_holdsWith_141 : decode cX4_holdsWith 141 = .ok (.aload_n 0, 1) := by decide +kernel
theorem dX4_holdsWith_142 : decode cX4_holdsWith 142 = .ok (.getfield 19, 3) := by decide +kernel
theorem dX4_holdsWith_145 : decode cX4_holdsWith 145 = .ok (.baload, 1) := by decide +kernel
theorem dX4_holdsWith_146 : decode cX4_holdsWith 146 = .ok (.ifCond .eq 7, 3) := by decide +kernel
theorem dX4_holdsWith_149 : decode cX4_holdsWith 149 = .ok (.iconst 1, 1) := by decide +kernel
theorem dX4_holdsWith_150 : decode cX4_holdsWith 150 = .ok (.goto 4, 3) := by decide +kernel
theorem dX4_holdsWith_153 : decode cX4_holdsWith 153 = .ok (.iconst 0, 1) := by decide +kernel
theorem dX4_holdsWith_154 : decode cX4_holdsWith 154 = .ok (.istore 4, 2) := by decide +kernel
theorem dX4_holdsWith_156 : decode cX4_holdsWith 156 = .ok (.aload_n 0, 1) := by decide +kernel
theorem dX4_holdsWith_157 : decode cX4_holdsWith 157 = .ok (.getfield 19, 3) := by decide +kernel
theorem dX4_holdsWith_160 : decode cX4_holdsWith 160 = .ok (.ifCond .le 13, 3) := by decide +kernel
theorem dX4_holdsWith_163 : decode cX4_holdsWith 163 = .ok (.aload_n 0, 1) := by decide +kernel
theorem dX4_holdsWith_164 : decode cX4_holdsWith 164 = .ok (.dup, 1) := by decide +kernel
theorem dX4_holdsWith_165 : decode cX4_holdsWith 165 = .ok (.getfield 19, 3) := by decide +kernel
theorem dX4_holdsWith_168 : decode cX4_holdsWith 168 = .ok (.iconst 1, 1) := by decide +kernel
theorem dX4_holdsWith_169 : decode cX4_holdsWith 169 = .ok (.isub, 1) := by decide +kernel
theorem dX4_holdsWith_170 : decode cX4_holdsWith 170 = .ok (.putfield 19, 3) := by decide +kernel
theorem dX4_holdsWith_173 : decode cX4_holdsWith 173 = .ok (.aload_n 0, 1) := by decide +kernel
theorem dX4_holdsWith_174 : decode cX4_holdsWith 174 = .ok (.iload 4, 2) := by decide +kernel
theorem dX4_holdsWith_176 : decode cX4_holdsWith 176 = .ok (.invokevirtual 113, 3) := by decide +kernel
theorem dX4_holdsWith_179 : decode cX4_holdsWith 179 = .ok (.goto 76, 3) := by decide +kernel
theorem dX4_holdsWith_182 : decode cX4_holdsWith 182 = .ok (.iload_n 3, 1) := by decide +kernel
theorem dX4_holdsWith_183 : decode cX4_holdsWith 183 = .ok (.bipush 124, 2) := by decide +kernel
theorem dX4_holdsWith_185 : decode cX4_holdsWith 185 = .ok (.if_icmp .ne 54, 3) := by decide +kernel
theorem dX4_holdsWith_188 : decode cX4_holdsWith 188 = .ok (.aload_n 0, 1) := by decide +kernel
theorem dX4_holdsWith_189 : decode cX4_holdsWith 189 = .ok (.getfield 28, 3) := by decide +kernel
theorem dX4_holdsWith_192 : decode cX4_holdsWith 192 = .ok (.aload_n 0, 1) := by decide +kernel
theorem dX4_holdsWith_193 : decode cX4_holdsWith 193 = .ok (.getfield 19, 3) := by decide +kernel
theorem dX4_holdsWith_196 : decode cX4_holdsWith 196 = .ok (.aload_n 0, 1) := by decide +kernel
theorem dX4_holdsWith_197 : decode cX4_holdsWith 197 = .ok (.getfield 28, 3) := by decide +kernel
theorem dX4_holdsWith_200 : decode cX4_holdsWith 200 = .ok (.aload_n 0, 1) := by decide +kernel
theorem dX4_holdsWith_201 : decode cX4_holdsWith 201 = .ok (.getfield 19, 3) := by decide +kernel
theorem dX4_holdsWith_204 : decode cX4_holdsWith 204 = .ok (.baload, 1) := by decide +kernel
theorem dX4_holdsWith_205 : decode cX4_holdsWith 205 = .ok (.ifCond .ne 15, 3) := by decide +kernel
theorem dX4_holdsWith_208 : decode cX4_holdsWith 208 = .ok (.aload_n 0, 1) := by decide +kernel
theorem dX4_holdsWith_209 : decode cX4_holdsWith 209 = .ok (.getfield 32, 3) := by decide +kernel
theorem dX4_holdsWith_212 : decode cX4_holdsWith 212 = .ok (.aload_n 0, 1) := by decide +kernel
theorem dX4_holdsWith_213 : decode cX4_holdsWith 213 = .ok (.getfield 19, 3) := by decide +kernel
theorem dX4_holdsWith_216 : decode cX4_holdsWith 216 = .ok (.baload, 1) := by decide +kernel
theorem dX4_holdsWith_217 : decode cX4_holdsWith 217 = .ok (.ifCond .eq 7, 3) := by decide +kernel
theorem dX4_holdsWith_220 : decode cX4_holdsWith 220 = .ok (.iconst 1, 1) := by decide +kernel
theorem dX4_holdsWith_221 : decode cX4_holdsWith 221 = .ok (.goto 4, 3) := by decide +kernel
theorem dX4_holdsWith_224 : decode cX4_holdsWith 224 = .ok (.iconst 0, 1) := by decide +kernel
theorem dX4_holdsWith_225 : decode cX4_holdsWith 225 = .ok (.bastore, 1) := by decide +kernel
theorem dX4_holdsWith_226 : decode cX4_holdsWith 226 = .ok (.aload_n 0, 1) := by decide +kernel
theorem dX4_holdsWith_227 : decode cX4_holdsWith 227 = .ok (.getfield 32, 3) := by decide +kernel
theorem dX4_holdsWith_230 : decode cX4_holdsWith 230 = .ok (.aload_n 0, 1) := by decide +kernel
theorem dX4_holdsWith_231 : decode cX4_holdsWith 231 = .ok (.getfield 19, 3) := by decide +kernel
theorem dX4_holdsWith_234 : decode cX4_holdsWith 234 = .ok (.iconst 1, 1) := by decide +kernel
theorem dX4_holdsWith_235 : decode cX4_holdsWith 235 = .ok (.bastore, 1) := by decide +kernel
theorem dX4_holdsWith_236 : decode cX4_holdsWith 236 = .ok (.goto 19, 3) := by decide +kernel
theorem dX4_holdsWith_239 : decode cX4_holdsWith 239 = .ok (.iload_n 3, 1) := by decide +kernel
theorem dX4_holdsWith_240 : decode cX4_holdsWith 240 = .ok (.bipush 38, 2) := by decide +kernel
theorem dX4_holdsWith_242 : decode cX4_holdsWith 242 = .ok (.if_icmp .eq 13, 3) := by decide +kernel
theorem dX4_holdsWith_245 : decode cX4_holdsWith 245 = .ok (.aload_n 0, 1) := by decide +kernel
theorem dX4_holdsWith_246 : decode cX4_holdsWith 246 = .ok (.aload_n 0, 1) := by decide +kernel
theorem dX4_holdsWith_247 : decode cX4_holdsWith 247 = .ok (.iload_n 3, 1) := by decide +kernel
theorem dX4_holdsWith_248 : decode cX4_holdsWith 248 = .ok (.aload_n 1, 1) := by decide +kernel
theorem dX4_holdsWith_249 : decode cX4_holdsWith 249 = .ok (.invokevirtual 117, 3) := by decide +kernel
theorem dX4_holdsWith_252 : decode cX4_holdsWith 252 = .ok (.invokevirtual 113, 3) := by decide +kernel
theorem dX4_holdsWith_255 : decode cX4_holdsWith 255 = .ok (.iinc 2 1, 3) := by decide +kernel
theorem dX4_holdsWith_258 : decode cX4_holdsWith 258 = .ok (.goto (-242), 3) := by decide +kernel
theorem dX4_holdsWith_261 : decode cX4_holdsWith 261 = .ok (.aload_n 0, 1) := by decide +kernel
theorem dX4_holdsWith_262 : decode cX4_holdsWith 262 = .ok (.getfield 28, 3) := by decide +kernel
theorem dX4_holdsWith_265 : decode cX4_holdsWith 265 = .ok (.aload_n 0, 1) := by decide +kernel
theorem dX4_holdsWith_266 : decode cX4_holdsWith 266 = .ok (.getfield 19, 3) := by decide +kernel
theorem dX4_holdsWith_269 : decode cX4_holdsWith 269 = .ok (.baload, 1) := by decide +kernel
theorem dX4_holdsWith_270 : decode cX4_holdsWith 270 = .ok (.ifCond .ne 15, 3) := by decide +kernel
theorem dX4_holdsWith_273 : decode cX4_holdsWith 273 = .ok (.aload_n 0, 1) := by decide +kernel
theorem dX4_holdsWith_274 : decode cX4_holdsWith 274 = .ok (.getfield 32, 3) := by decide +kernel
theorem dX4_holdsWith_277 : decode cX4_holdsWith 277 = .ok (.aload_n 0, 1) := by decide +kernel
theorem dX4_holdsWith_278 : decode cX4_holdsWith 278 = .ok (.getfield 19, 3) := by decide +kernel
theorem dX4_holdsWith_281 : decode cX4_holdsWith 281 = .ok (.baload, 1) := by decide +kernel
theorem dX4_holdsWith_282 : decode cX4_holdsWith 282 = .ok (.ifCond .eq 7, 3) := by decide +kernel
theorem dX4_holdsWith_285 : decode cX4_holdsWith 285 = .ok (.iconst 1, 1) := by decide +kernel
theorem dX4_holdsWith_286 : decode cX4_holdsWith 286 = .ok (.goto 4, 3) := by decide +kernel
theorem dX4_holdsWith_289 : decode cX4_holdsWith 289 = .ok (.iconst 0, 1) := by decide +kernel
theorem dX4_holdsWith_290 : decode cX4_holdsWith 290 = .ok (.ireturn, 1) := by decide +kernel
theorem dX4_open_0 : decode cX4_open 0 = .ok (.aload_n 0, 1) := by decide +kernel
theorem dX4_open_1 : decode cX4_open 1 = .ok (.getfield 28, 3) := by decide +kernel
theorem dX4_open_4 : decode cX4_open 4 = .ok (.aload_n 0, 1) := by decide +kernel
theorem dX4_open_5 : decode cX4_open 5 = .ok (.getfield 19, 3) := by decide +kernel
theorem dX4_open_8 : decode cX4_open 8 = .ok (.iconst 0, 1) := by decide +kernel
theorem dX4_open_9 : decode cX4_open 9 = .ok (.bastore, 1) := by decide +kernel
theorem dX4_open_10 : decode cX4_open 10 = .ok (.aload_n 0, 1) := by decide +kernel
theorem dX4_open_11 : decode cX4_open 11 = .ok (.getfield 32, 3) := by decide +kernel
theorem dX4_open_14 : decode cX4_open 14 = .ok (.aload_n 0, 1) := by decide +kernel
theorem dX4_open_15 : decode cX4_open 15 = .ok (.getfield 19, 3) := by decide +kernel
theorem dX4_open_18 : decode cX4_open 18 = .ok (.iconst 1, 1) := by decide +kernel
theorem dX4_open_19 : decode cX4_open 19 = .ok (.bastore, 1) := by decide +kernel
theorem dX4_open_20 : decode cX4_open 20 = .ok (.aload_n 0, 1) := by decide +kernel
theorem dX4_open_21 : decode cX4_open 21 = .ok (.getfield 35, 3) := by decide +kernel
theorem dX4_open_24 : decode cX4_open 24 = .ok (.aload_n 0, 1) := by decide +kernel
theorem dX4_open_25 : decode cX4_open 25 = .ok (.getfield 19, 3) := by decide +kernel
theorem dX4_open_28 : decode cX4_open 28 = .ok (.iconst 0, 1) := by decide +kernel
theorem dX4_open_29 : decode cX4_open 29 = .ok (.bastore, 1) := by decide +kernel
theorem dX4_open_30 : decode cX4_open 30 = .ok (.return_, 1) := by decide +kernel
theorem dX4_put_0 : decode cX4_put 0 = .ok (.iload_n 1, 1) := by decide +kernel
theorem dX4_put_1 : decode cX4_put 1 = .ok (.aload_n 0, 1) := by decide +kernel
theorem dX4_put_2 : decode cX4_put 2 = .ok (.getfield 35, 3) := by decide +kernel
theorem dX4_put_5 : decode cX4_put 5 = .ok (.aload_n 0, 1) := by decide +kernel
theorem dX4_put_6 : decode cX4_put 6 = .ok (.getfield 19, 3) := by decide +kernel
theorem dX4_put_9 : decode cX4_put 9 = .ok (.baload, 1) := by decide +kernel
theorem dX4_put_10 : decode cX4_put 10 = .ok (.if_icmp .ne 13, 3) := by decide +kernel
theorem dX4_put_13 : decode cX4_put 13 = .ok (.aload_n 0, 1) := by decide +kernel
theorem dX4_put_14 : decode cX4_put 14 = .ok (.getfield 32, 3) := by decide +kernel
theorem dX4_put_17 : decode cX4_put 17 = .ok (.aload_n 0, 1) := by decide +kernel
theorem dX4_put_18 : decode cX4_put 18 = .ok (.getfield 19, 3) := by decide +kernel
theorem dX4_put_21 : decode cX4_put 21 = .ok (.iconst 0, 1) := by decide +kernel
theorem dX4_put_22 : decode cX4_put 22 = .ok (.bastore, 1) := by decide +kernel
theorem dX4_put_23 : decode cX4_put 23 = .ok (.aload_n 0, 1) := by decide +kernel
theorem dX4_put_24 : decode cX4_put 24 = .ok (.getfield 35, 3) := by decide +kernel
theorem dX4_put_27 : decode cX4_put 27 = .ok (.aload_n 0, 1) := by decide +kernel
theorem dX4_put_28 : decode cX4_put 28 = .ok (.getfield 19, 3) := by decide +kernel
theorem dX4_put_31 : decode cX4_put 31 = .ok (.iconst 0, 1) := by decide +kernel
theorem dX4_put_32 : decode cX4_put 32 = .ok (.bastore, 1) := by decide +kernel
theorem dX4_put_33 : decode cX4_put 33 = .ok (.return_, 1) := by decide +kernel
theorem dX4_ask_0 : decode cX4_ask 0 = .ok (.aload_n 0, 1) := by decide +kernel
theorem dX4_ask_1 : decode cX4_ask 1 = .ok (.iload_n 1, 1) := by decide +kernel
theorem dX4_ask_2 : decode cX4_ask 2 = .ok (.putfield 25, 3) := by decide +kernel
theorem dX4_ask_5 : decode cX4_ask 5 = .ok (.aload_n 0, 1) := by decide +kernel
theorem dX4_ask_6 : decode cX4_ask 6 = .ok (.invokevirtual 121, 3) := by decide +kernel
theorem dX4_ask_9 : decode cX4_ask 9 = .ok (.bipush 48, 2) := by decide +kernel
theorem dX4_ask_11 : decode cX4_ask 11 = .ok (.isub, 1) := by decide +kernel
theorem dX4_ask_12 : decode cX4_ask 12 = .ok (.istore_n 3, 1) := by decide +kernel
theorem dX4_ask_13 : decode cX4_ask 13 = .ok (.aload_n 0, 1) := by decide +kernel
theorem dX4_ask_14 : decode cX4_ask 14 = .ok (.invokevirtual 121, 3) := by decide +kernel
theorem dX4_ask_17 : decode cX4_ask 17 = .ok (.istore 4, 2) := by decide +kernel
theorem dX4_ask_19 : decode cX4_ask 19 = .ok (.aload_n 0, 1) := by decide +kernel
theorem dX4_ask_20 : decode cX4_ask 20 = .ok (.iload_n 3, 1) := by decide +kernel
theorem dX4_ask_21 : decode cX4_ask 21 = .ok (.invokevirtual 66, 3) := by decide +kernel
theorem dX4_ask_24 : decode cX4_ask 24 = .ok (.ifCond .ne 5, 3) := by decide +kernel
theorem dX4_ask_27 : decode cX4_ask 27 = .ok (.iconst 0, 1) := by decide +kernel
theorem dX4_ask_28 : decode cX4_ask 28 = .ok (.ireturn, 1) := by decide +kernel
theorem dX4_ask_29 : decode cX4_ask 29 = .ok (.aload_n 0, 1) := by decide +kernel
theorem dX4_ask_30 : decode cX4_ask 30 = .ok (.iload_n 3, 1) := by decide +kernel
theorem dX4_ask_31 : decode cX4_ask 31 = .ok (.aload_n 2, 1) := by decide +kernel
theorem dX4_ask_32 : decode cX4_ask 32 = .ok (.invokevirtual 124, 3) := by decide +kernel
theorem dX4_ask_35 : decode cX4_ask 35 = .ok (.istore 5, 2) := by decide +kernel
theorem dX4_ask_37 : decode cX4_ask 37 = .ok (.aload_n 0, 1) := by decide +kernel
theorem dX4_ask_38 : decode cX4_ask 38 = .ok (.invokevirtual 128, 3) := by decide +kernel
theorem dX4_ask_41 : decode cX4_ask 41 = .ok (.istore 6, 2) := by decide +kernel
theorem dX4_ask_43 : decode cX4_ask 43 = .ok (.iload 4, 2) := by decide +kernel
theorem dX4_ask_45 : decode cX4_ask 45 = .ok (.bipush 60, 2) := by decide +kernel
theorem dX4_ask_47 : decode cX4_ask 47 = .ok (.if_icmp .ne 16, 3) := by decide +kernel
theorem dX4_ask_50 : decode cX4_ask 50 = .ok (.iload 5, 2) := by decide +kernel
theorem dX4_ask_52 : decode cX4_ask 52 = .ok (.iload 6, 2) := by decide +kernel
theorem dX4_ask_54 : decode cX4_ask 54 = .ok (.if_icmp .ge 7, 3) := by decide +kernel
theorem dX4_ask_57 : decode cX4_ask 57 = .ok (.iconst 1, 1) := by decide +kernel
theorem dX4_ask_58 : decode cX4_ask 58 = .ok (.goto 4, 3) := by decide +kernel
theorem dX4_ask_61 : decode cX4_ask 61 = .ok (.iconst 0, 1) := by decide +kernel
theorem dX4_ask_62 : decode cX4_ask 62 = .ok (.ireturn, 1) := by decide +kernel
theorem dX4_ask_63 : decode cX4_ask 63 = .ok (.iload 4, 2) := by decide +kernel
theorem dX4_ask_65 : decode cX4_ask 65 = .ok (.bipush 62, 2) := by decide +kernel
theorem dX4_ask_67 : decode cX4_ask 67 = .ok (.if_icmp .ne 16, 3) := by decide +kernel
theorem dX4_ask_70 : decode cX4_ask 70 = .ok (.iload 5, 2) := by decide +kernel
theorem dX4_ask_72 : decode cX4_ask 72 = .ok (.iload 6, 2) := by decide +kernel
theorem dX4_ask_74 : decode cX4_ask 74 = .ok (.if_icmp .le 7, 3) := by decide +kernel
theorem dX4_ask_77 : decode cX4_ask 77 = .ok (.iconst 1, 1) := by decide +kernel
theorem dX4_ask_78 : decode cX4_ask 78 = .ok (.goto 4, 3) := by decide +kernel
theorem dX4_ask_81 : decode cX4_ask 81 = .ok (.iconst 0, 1) := by decide +kernel
theorem dX4_ask_82 : decode cX4_ask 82 = .ok (.ireturn, 1) := by decide +kernel
theorem dX4_ask_83 : decode cX4_ask 83 = .ok (.iload 5, 2) := by decide +kernel
theorem dX4_ask_85 : decode cX4_ask 85 = .ok (.iload 6, 2) := by decide +kernel
theorem dX4_ask_87 : decode cX4_ask 87 = .ok (.if_icmp .ne 7, 3) := by decide +kernel
theorem dX4_ask_90 : decode cX4_ask 90 = .ok (.iconst 1, 1) := by decide +kernel
theorem dX4_ask_91 : decode cX4_ask 91 = .ok (.goto 4, 3) := by decide +kernel
theorem dX4_ask_94 : decode cX4_ask 94 = .ok (.iconst 0, 1) := by decide +kernel
theorem dX4_ask_95 : decode cX4_ask 95 = .ok (.ireturn, 1) := by decide +kernel
theorem dX4_nextSign_0 : decode cX4_nextSign 0 = .ok (.aload_n 0, 1) := by decide +kernel
theorem dX4_nextSign_1 : decode cX4_nextSign 1 = .ok (.getfield 38, 3) := by decide +kernel
theorem dX4_nextSign_4 : decode cX4_nextSign 4 = .ok (.aload_n 0, 1) := by decide +kernel
theorem dX4_nextSign_5 : decode cX4_nextSign 5 = .ok (.getfield 9, 3) := by decide +kernel
theorem dX4_nextSign_8 : decode cX4_nextSign 8 = .ok (.if_icmp .ge 22, 3) := by decide +kernel
theorem dX4_nextSign_11 : decode cX4_nextSign 11 = .ok (.aload_n 0, 1) := by decide +kernel
theorem dX4_nextSign_12 : decode cX4_nextSign 12 = .ok (.getfield 15, 3) := by decide +kernel
theorem dX4_nextSign_15 : decode cX4_nextSign 15 = .ok (.aload_n 0, 1) := by decide +kernel
theorem dX4_nextSign_16 : decode cX4_nextSign 16 = .ok (.dup, 1) := by decide +kernel
theorem dX4_nextSign_17 : decode cX4_nextSign 17 = .ok (.getfield 38, 3) := by decide +kernel
theorem dX4_nextSign_20 : decode cX4_nextSign 20 = .ok (.dup_x1, 1) := by decide +kernel
theorem dX4_nextSign_21 : decode cX4_nextSign 21 = .ok (.iconst 1, 1) := by decide +kernel
theorem dX4_nextSign_22 : decode cX4_nextSign 22 = .ok (.iadd, 1) := by decide +kernel
theorem dX4_nextSign_23 : decode cX4_nextSign 23 = .ok (.putfield 38, 3) := by decide +kernel
theorem dX4_nextSign_26 : decode cX4_nextSign 26 = .ok (.iaload, 1) := by decide +kernel
theorem dX4_nextSign_27 : decode cX4_nextSign 27 = .ok (.goto 4, 3) := by decide +kernel
theorem dX4_nextSign_30 : decode cX4_nextSign 30 = .ok (.iconst 0, 1) := by decide +kernel
theorem dX4_nextSign_31 : decode cX4_nextSign 31 = .ok (.ireturn, 1) := by decide +kernel
theorem dX4_readNumber_0 : decode cX4_readNumber 0 = .ok (.aload_n 0, 1) := by decide +kernel
theorem dX4_readNumber_1 : decode cX4_readNumber 1 = .ok (.getfield 38, 3) := by decide +kernel
theorem dX4_readNumber_4 : decode cX4_readNumber 4 = .ok (.aload_n 0, 1) := by decide +kernel
theorem dX4_readNumber_5 : decode cX4_readNumber 5 = .ok (.getfield 9, 3) := by decide +kernel
theorem dX4_readNumber_8 : decode cX4_readNumber 8 = .ok (.if_icmp .ge 21, 3) := by decide +kernel
theorem dX4_readNumber_11 : decode cX4_readNumber 11 = .ok (.aload_n 0, 1) := by decide +kernel
theorem dX4_readNumber_12 : decode cX4_readNumber 12 = .ok (.getfield 15, 3) := by decide +kernel
theorem dX4_readNumber_15 : decode cX4_readNumber 15 = .ok (.aload_n 0, 1) := by decide +kernel
theorem dX4_readNumber_16 : decode cX4_readNumber 16 = .ok (.getfield 38, 3) := by decide +kernel
theorem dX4_readNumber_19 : decode cX4_readNumber 19 = .ok (.iaload, 1) := by decide +kernel
theorem dX4_readNumber_20 : decode cX4_readNumber 20 = .ok (.bipush 45, 2) := by decide +kernel
theorem dX4_readNumber_22 : decode cX4_readNumber 22 = .ok (.if_icmp .ne 7, 3) := by decide +kernel
theorem dX4_readNumber_25 : decode cX4_readNumber 25 = .ok (.iconst 1, 1) := by decide +kernel
theorem dX4_readNumber_26 : decode cX4_readNumber 26 = .ok (.goto 4, 3) := by decide +kernel
theorem dX4_readNumber_29 : decode cX4_readNumber 29 = .ok (.iconst 0, 1) := by decide +kernel
theorem dX4_readNumber_30 : decode cX4_readNumber 30 = .ok (.istore_n 1, 1) := by decide +kernel
theorem dX4_readNumber_31 : decode cX4_readNumber 31 = .ok (.iload_n 1, 1) := by decide +kernel
theorem dX4_readNumber_32 : decode cX4_readNumber 32 = .ok (.ifCond .eq 13, 3) := by decide +kernel
theorem dX4_readNumber_35 : decode cX4_readNumber 35 = .ok (.aload_n 0, 1) := by decide +kernel
theorem dX4_readNumber_36 : decode cX4_readNumber 36 = .ok (.dup, 1) := by decide +kernel
theorem dX4_readNumber_37 : decode cX4_readNumber 37 = .ok (.getfield 38, 3) := by decide +kernel
theorem dX4_readNumber_40 : decode cX4_readNumber 40 = .ok (.iconst 1, 1) := by decide +kernel
theorem dX4_readNumber_41 : decode cX4_readNumber 41 = .ok (.iadd, 1) := by decide +kernel
theorem dX4_readNumber_42 : decode cX4_readNumber 42 = .ok (.putfield 38, 3) := by decide +kernel
theorem dX4_readNumber_45 : decode cX4_readNumber 45 = .ok (.iconst 0, 1) := by decide +kernel
theorem dX4_readNumber_46 : decode cX4_readNumber 46 = .ok (.istore_n 2, 1) := by decide +kernel
theorem dX4_readNumber_47 : decode cX4_readNumber 47 = .ok (.iconst 0, 1) := by decide +kernel
theorem dX4_readNumber_48 : decode cX4_readNumber 48 = .ok (.istore_n 3, 1) := by decide +kernel
theorem dX4_readNumber_49 : decode cX4_readNumber 49 = .ok (.iload_n 3, 1) := by decide +kernel
theorem dX4_readNumber_50 : decode cX4_readNumber 50 = .ok (.bipush 7, 2) := by decide +kernel
theorem dX4_readNumber_52 : decode cX4_readNumber 52 = .ok (.if_icmp .ge 60, 3) := by decide +kernel
theorem dX4_readNumber_55 : decode cX4_readNumber 55 = .ok (.aload_n 0, 1) := by decide +kernel
theorem dX4_readNumber_56 : decode cX4_readNumber 56 = .ok (.getfield 38, 3) := by decide +kernel
theorem dX4_readNumber_59 : decode cX4_readNumber 59 = .ok (.aload_n 0, 1) := by decide +kernel
theorem dX4_readNumber_60 : decode cX4_readNumber 60 = .ok (.getfield 9, 3) := by decide +kernel
theorem dX4_readNumber_63 : decode cX4_readNumber 63 = .ok (.if_icmp .ge 49, 3) := by decide +kernel
theorem dX4_readNumber_66 : decode cX4_readNumber 66 = .ok (.aload_n 0, 1) := by decide +kernel
theorem dX4_readNumber_67 : decode cX4_readNumber 67 = .ok (.getfield 15, 3) := by decide +kernel
theorem dX4_readNumber_70 : decode cX4_readNumber 70 = .ok (.aload_n 0, 1) := by decide +kernel
theorem dX4_readNumber_71 : decode cX4_readNumber 71 = .ok (.getfield 38, 3) := by decide +kernel
theorem dX4_readNumber_74 : decode cX4_readNumber 74 = .ok (.iaload, 1) := by decide +kernel
theorem dX4_readNumber_75 : decode cX4_readNumber 75 = .ok (.invokestatic 62, 3) := by decide +kernel
theorem dX4_readNumber_78 : decode cX4_readNumber 78 = .ok (.ifCond .eq 34, 3) := by decide +kernel
theorem dX4_readNumber_81 : decode cX4_readNumber 81 = .ok (.iload_n 2, 1) := by decide +kernel
theorem dX4_readNumber_82 : decode cX4_readNumber 82 = .ok (.bipush 10, 2) := by decide +kernel
theorem dX4_readNumber_84 : decode cX4_readNumber 84 = .ok (.imul, 1) := by decide +kernel
theorem dX4_readNumber_85 : decode cX4_readNumber 85 = .ok (.aload_n 0, 1) := by decide +kernel
theorem dX4_readNumber_86 : decode cX4_readNumber 86 = .ok (.getfield 15, 3) := by decide +kernel
theorem dX4_readNumber_89 : decode cX4_readNumber 89 = .ok (.aload_n 0, 1) := by decide +kernel
theorem dX4_readNumber_90 : decode cX4_readNumber 90 = .ok (.dup, 1) := by decide +kernel
theorem dX4_readNumber_91 : decode cX4_readNumber 91 = .ok (.getfield 38, 3) := by decide +kernel
theorem dX4_readNumber_94 : decode cX4_readNumber 94 = .ok (.dup_x1, 1) := by decide +kernel
theorem dX4_readNumber_95 : decode cX4_readNumber 95 = .ok (.iconst 1, 1) := by decide +kernel
theorem dX4_readNumber_96 : decode cX4_readNumber 96 = .ok (.iadd, 1) := by decide +kernel
theorem dX4_readNumber_97 : decode cX4_readNumber 97 = .ok (.putfield 38, 3) := by decide +kernel
theorem dX4_readNumber_100 : decode cX4_readNumber 100 = .ok (.iaload, 1) := by decide +kernel
theorem dX4_readNumber_101 : decode cX4_readNumber 101 = .ok (.iadd, 1) := by decide +kernel
theorem dX4_readNumber_102 : decode cX4_readNumber 102 = .ok (.bipush 48, 2) := by decide +kernel
theorem dX4_readNumber_104 : decode cX4_readNumber 104 = .ok (.isub, 1) := by decide +kernel
theorem dX4_readNumber_105 : decode cX4_readNumber 105 = .ok (.istore_n 2, 1) := by decide +kernel
theorem dX4_readNumber_106 : decode cX4_readNumber 106 = .ok (.iinc 3 1, 3) := by decide +kernel
theorem dX4_readNumber_109 : decode cX4_readNumber 109 = .ok (.goto (-60), 3) := by decide +kernel
theorem dX4_readNumber_112 : decode cX4_readNumber 112 = .ok (.iload_n 1, 1) := by decide +kernel
theorem dX4_readNumber_113 : decode cX4_readNumber 113 = .ok (.ifCond .eq 8, 3) := by decide +kernel
theorem dX4_readNumber_116 : decode cX4_readNumber 116 = .ok (.iload_n 2, 1) := by decide +kernel
theorem dX4_readNumber_117 : decode cX4_readNumber 117 = .ok (.ineg, 1) := by decide +kernel
theorem dX4_readNumber_118 : decode cX4_readNumber 118 = .ok (.goto 4, 3) := by decide +kernel
theorem dX4_readNumber_121 : decode cX4_readNumber 121 = .ok (.iload_n 2, 1) := by decide +kernel
theorem dX4_readNumber_122 : decode cX4_readNumber 122 = .ok (.ireturn, 1) := by decide +kernel
theorem dX4_valueOf_0 : decode cX4_valueOf 0 = .ok (.aload_n 0, 1) := by decide +kernel
theorem dX4_valueOf_1 : decode cX4_valueOf 1 = .ok (.getfield 25, 3) := by decide +kernel
theorem dX4_valueOf_4 : decode cX4_valueOf 4 = .ok (.lookupswitch 106 #[(100, 87), (103, 68), (104, 44), (113, 64)], 44) := by decide +kernel
theorem dX4_valueOf_48 : decode cX4_valueOf 48 = .ok (.aload_n 0, 1) := by decide +kernel
theorem dX4_valueOf_49 : decode cX4_valueOf 49 = .ok (.getfield 45, 3) := by decide +kernel
theorem dX4_valueOf_52 : decode cX4_valueOf 52 = .ok (.getfield 131, 3) := by decide +kernel
theorem dX4_valueOf_55 : decode cX4_valueOf 55 = .ok (.iload_n 1, 1) := by decide +kernel
theorem dX4_valueOf_56 : decode cX4_valueOf 56 = .ok (.laload, 1) := by decide +kernel
theorem dX4_valueOf_57 : decode cX4_valueOf 57 = .ok (.aload_n 0, 1) := by decide +kernel
theorem dX4_valueOf_58 : decode cX4_valueOf 58 = .ok (.getfield 45, 3) := by decide +kernel
theorem dX4_valueOf_61 : decode cX4_valueOf 61 = .ok (.getfield 137, 3) := by decide +kernel
theorem dX4_valueOf_64 : decode cX4_valueOf 64 = .ok (.invokestatic 141, 3) := by decide +kernel
theorem dX4_valueOf_67 : decode cX4_valueOf 67 = .ok (.ireturn, 1) := by decide +kernel
theorem dX4_valueOf_68 : decode cX4_valueOf 68 = .ok (.aload_n 2, 1) := by decide +kernel
theorem dX4_valueOf_69 : decode cX4_valueOf 69 = .ok (.iload_n 1, 1) := by decide +kernel
theorem dX4_valueOf_70 : decode cX4_valueOf 70 = .ok (.iaload, 1) := by decide +kernel
theorem dX4_valueOf_71 : decode cX4_valueOf 71 = .ok (.ireturn, 1) := by decide +kernel
theorem dX4_valueOf_72 : decode cX4_valueOf 72 = .ok (.aload_n 0, 1) := by decide +kernel
theorem dX4_valueOf_73 : decode cX4_valueOf 73 = .ok (.getfield 45, 3) := by decide +kernel
theorem dX4_valueOf_76 : decode cX4_valueOf 76 = .ok (.iload_n 1, 1) := by decide +kernel
theorem dX4_valueOf_77 : decode cX4_valueOf 77 = .ok (.invokevirtual 145, 3) := by decide +kernel
theorem dX4_valueOf_80 : decode cX4_valueOf 80 = .ok (.aload_n 0, 1) := by decide +kernel
theorem dX4_valueOf_81 : decode cX4_valueOf 81 = .ok (.getfield 45, 3) := by decide +kernel
theorem dX4_valueOf_84 : decode cX4_valueOf 84 = .ok (.getfield 137, 3) := by decide +kernel
theorem dX4_valueOf_87 : decode cX4_valueOf 87 = .ok (.invokestatic 141, 3) := by decide +kernel
theorem dX4_valueOf_90 : decode cX4_valueOf 90 = .ok (.ireturn, 1) := by decide +kernel
theorem dX4_valueOf_91 : decode cX4_valueOf 91 = .ok (.aload_n 0, 1) := by decide +kernel
theorem dX4_valueOf_92 : decode cX4_valueOf 92 = .ok (.getfield 45, 3) := by decide +kernel
theorem dX4_valueOf_95 : decode cX4_valueOf 95 = .ok (.iload_n 1, 1) := by decide +kernel
theorem dX4_valueOf_96 : decode cX4_valueOf 96 = .ok (.invokevirtual 149, 3) := by decide +kernel
theorem dX4_valueOf_99 : decode cX4_valueOf 99 = .ok (.aload_n 0, 1) := by decide +kernel
theorem dX4_valueOf_100 : decode cX4_valueOf 100 = .ok (.getfield 45, 3) := by decide +kernel
theorem dX4_valueOf_103 : decode cX4_valueOf 103 = .ok (.getfield 137, 3) := by decide +kernel
theorem dX4_valueOf_106 : decode cX4_valueOf 106 = .ok (.invokestatic 141, 3) := by decide +kernel
theorem dX4_valueOf_109 : decode cX4_valueOf 109 = .ok (.ireturn, 1) := by decide +kernel
theorem dX4_valueOf_110 : decode cX4_valueOf 110 = .ok (.aload_n 0, 1) := by decide +kernel
theorem dX4_valueOf_111 : decode cX4_valueOf 111 = .ok (.getfield 45, 3) := by decide +kernel
theorem dX4_valueOf_114 : decode cX4_valueOf 114 = .ok (.iload_n 1, 1) := by decide +kernel
theorem dX4_valueOf_115 : decode cX4_valueOf 115 = .ok (.invokevirtual 152, 3) := by decide +kernel
theorem dX4_valueOf_118 : decode cX4_valueOf 118 = .ok (.aload_n 0, 1) := by decide +kernel
theorem dX4_valueOf_119 : decode cX4_valueOf 119 = .ok (.getfield 45, 3) := by decide +kernel
theorem dX4_valueOf_122 : decode cX4_valueOf 122 = .ok (.getfield 137, 3) := by decide +kernel
theorem dX4_valueOf_125 : decode cX4_valueOf 125 = .ok (.invokestatic 141, 3) := by decide +kernel
theorem dX4_valueOf_128 : decode cX4_valueOf 128 = .ok (.ireturn, 1) := by decide +kernel
theorem dX5_init_0 : decode cX5_init 0 = .ok (.aload_n 0, 1) := by decide +kernel
theorem dX5_init_1 : decode cX5_init 1 = .ok (.invokespecial 3, 3) := by decide +kernel
theorem dX5_init_4 : decode cX5_init 4 = .ok (.aload_n 0, 1) := by decide +kernel
theorem dX5_init_5 : decode cX5_init 5 = .ok (.bipush 6, 2) := by decide +kernel
theorem dX5_init_7 : decode cX5_init 7 = .ok (.newarray .int, 2) := by decide +kernel
theorem dX5_init_9 : decode cX5_init 9 = .ok (.putfield 9, 3) := by decide +kernel
theorem dX5_init_12 : decode cX5_init 12 = .ok (.aload_n 0, 1) := by decide +kernel
theorem dX5_init_13 : decode cX5_init 13 = .ok (.iconst 3, 1) := by decide +kernel
theorem dX5_init_14 : decode cX5_init 14 = .ok (.newarray .int, 2) := by decide +kernel
theorem dX5_init_16 : decode cX5_init 16 = .ok (.putfield 15, 3) := by decide +kernel
theorem dX5_init_19 : decode cX5_init 19 = .ok (.aload_n 0, 1) := by decide +kernel
theorem dX5_init_20 : decode cX5_init 20 = .ok (.iconst 3, 1) := by decide +kernel
theorem dX5_init_21 : decode cX5_init 21 = .ok (.newarray .int, 2) := by decide +kernel
theorem dX5_init_23 : decode cX5_init 23 = .ok (.putfield 18, 3) := by decide +kernel
theorem dX5_init_26 : decode cX5_init 26 = .ok (.aload_n 0, 1) := by decide +kernel
theorem dX5_init_27 : decode cX5_init 27 = .ok (.iconst 3, 1) := by decide +kernel
theorem dX5_init_28 : decode cX5_init 28 = .ok (.newarray .int, 2) := by decide +kernel
theorem dX5_init_30 : decode cX5_init 30 = .ok (.putfield 21, 3) := by decide +kernel
theorem dX5_init_33 : decode cX5_init 33 = .ok (.aload_n 0, 1) := by decide +kernel
theorem dX5_init_34 : decode cX5_init 34 = .ok (.bipush 8, 2) := by decide +kernel
theorem dX5_init_36 : decode cX5_init 36 = .ok (.newarray .int, 2) := by decide +kernel
theorem dX5_init_38 : decode cX5_init 38 = .ok (.putfield 24, 3) := by decide +kernel
theorem dX5_init_41 : decode cX5_init 41 = .ok (.aload_n 0, 1) := by decide +kernel
theorem dX5_init_42 : decode cX5_init 42 = .ok (.aload_n 1, 1) := by decide +kernel
theorem dX5_init_43 : decode cX5_init 43 = .ok (.putfield 27, 3) := by decide +kernel
theorem dX5_init_46 : decode cX5_init 46 = .ok (.aload_n 0, 1) := by decide +kernel
theorem dX5_init_47 : decode cX5_init 47 = .ok (.aload_n 2, 1) := by decide +kernel
theorem dX5_init_48 : decode cX5_init 48 = .ok (.putfield 31, 3) := by decide +kernel
theorem dX5_init_51 : decode cX5_init 51 = .ok (.aload_n 0, 1) := by decide +kernel
theorem dX5_init_52 : decode cX5_init 52 = .ok (.aload_n 3, 1) := by decide +kernel
theorem dX5_init_53 : decode cX5_init 53 = .ok (.putfield 35, 3) := by decide +kernel
theorem dX5_init_56 : decode cX5_init 56 = .ok (.aload_n 0, 1) := by decide +kernel
theorem dX5_init_57 : decode cX5_init 57 = .ok (.getfield 9, 3) := by decide +kernel
theorem dX5_init_60 : decode cX5_init 60 = .ok (.ldc 39, 2) := by decide +kernel
theorem dX5_init_62 : decode cX5_init 62 = .ok (.invokestatic 40, 3) := by decide +kernel
theorem dX5_init_65 : decode cX5_init 65 = .ok (.return_, 1) := by decide +kernel
theorem dX5_findBest_0 : decode cX5_findBest 0 = .ok (.aload_n 0, 1) := by decide +kernel
theorem dX5_findBest_1 : decode cX5_findBest 1 = .ok (.getfield 35, 3) := by decide +kernel
theorem dX5_findBest_4 : decode cX5_findBest 4 = .ok (.invokevirtual 46, 3) := by decide +kernel
theorem dX5_findBest_7 : decode cX5_findBest 7 = .ok (.istore_n 1, 1) := by decide +kernel
theorem dX5_findBest_8 : decode cX5_findBest 8 = .ok (.ldc 39, 2) := by decide +kernel
theorem dX5_findBest_10 : decode cX5_findBest 10 = .ok (.istore_n 2, 1) := by decide +kernel
theorem dX5_findBest_11 : decode cX5_findBest 11 = .ok (.iconst 0, 1) := by decide +kernel
theorem dX5_findBest_12 : decode cX5_findBest 12 = .ok (.istore_n 3, 1) := by decide +kernel
theorem dX5_findBest_13 : decode cX5_findBest 13 = .ok (.iconst 1, 1) := by decide +kernel
theorem dX5_findBest_14 : decode cX5_findBest 14 = .ok (.istore 4, 2) := by decide +kernel
theorem dX5_findBest_16 : decode cX5_findBest 16 = .ok (.iconst 0, 1) := by decide +kernel
theorem dX5_findBest_17 : decode cX5_findBest 17 = .ok (.istore 5, 2) := by decide +kernel
theorem dX5_findBest_19 : decode cX5_findBest 19 = .ok (.iload 5, 2) := by decide +kernel
theorem dX5_findBest_21 : decode cX5_findBest 21 = .ok (.aload_n 0, 1) := by decide +kernel
theorem dX5_findBest_22 : decode cX5_findBest 22 = .ok (.getfield 27, 3) := by decide +kernel
theorem dX5_findBest_25 : decode cX5_findBest 25 = .ok (.getfield 52, 3) := by decide +kernel
theorem dX5_findBest_28 : decode cX5_findBest 28 = .ok (.getfield 58, 3) := by decide +kernel
theorem dX5_findBest_31 : decode cX5_findBest 31 = .ok (.if_icmp .ge 15, 3) := by decide +kernel
theorem dX5_findBest_34 : decode cX5_findBest 34 = .ok (.iload 4, 2) := by decide +kernel
theorem dX5_findBest_36 : decode cX5_findBest 36 = .ok (.iconst 5, 1) := by decide +kernel
theorem dX5_findBest_37 : decode cX5_findBest 37 = .ok (.imul, 1) := by decide +kernel
theorem dX5_findBest_38 : decode cX5_findBest 38 = .ok (.istore 4, 2) := by decide +kernel
theorem dX5_findBest_40 : decode cX5_findBest 40 = .ok (.iinc 5 1, 3) := by decide +kernel
theorem dX5_findBest_43 : decode cX5_findBest 43 = .ok (.goto (-24), 3) := by decide +kernel
theorem dX5_findBest_46 : decode cX5_findBest 46 = .ok (.iconst 0, 1) := by decide +kernel
theorem dX5_findBest_47 : decode cX5_findBest 47 = .ok (.istore 5, 2) := by decide +kernel
theorem dX5_findBest_49 : decode cX5_findBest 49 = .ok (.iload 5, 2) := by decide +kernel
theorem dX5_findBest_51 : decode cX5_findBest 51 = .ok (.iload 4, 2) := by decide +kernel
theorem dX5_findBest_53 : decode cX5_findBest 53 = .ok (.if_icmp .ge 91, 3) := by decide +kernel
theorem dX5_findBest_56 : decode cX5_findBest 56 = .ok (.aload_n 0, 1) := by decide +kernel
theorem dX5_findBest_57 : decode cX5_findBest 57 = .ok (.iload 5, 2) := by decide +kernel
theorem dX5_findBest_59 : decode cX5_findBest 59 = .ok (.invokevirtual 64, 3) := by decide +kernel
theorem dX5_findBest_62 : decode cX5_findBest 62 = .ok (.aload_n 0, 1) := by decide +kernel
theorem dX5_findBest_63 : decode cX5_findBest 63 = .ok (.invokevirtual 68, 3) := by decide +kernel
theorem dX5_findBest_66 : decode cX5_findBest 66 = .ok (.istore 6, 2) := by decide +kernel
theorem dX5_findBest_68 : decode cX5_findBest 68 = .ok (.aload_n 0, 1) := by decide +kernel
theorem dX5_findBest_69 : decode cX5_findBest 69 = .ok (.invokevirtual 72, 3) := by decide +kernel
theorem dX5_findBest_72 : decode cX5_findBest 72 = .ok (.istore 7, 2) := by decide +kernel
theorem dX5_findBest_74 : decode cX5_findBest 74 = .ok (.iload_n 2, 1) := by decide +kernel
theorem dX5_findBest_75 : decode cX5_findBest 75 = .ok (.ldc 39, 2) := by decide +kernel
theorem dX5_findBest_77 : decode cX5_findBest 77 = .ok (.if_icmp .eq 21, 3) := by decide +kernel
theorem dX5_findBest_80 : decode cX5_findBest 80 = .ok (.iload 6, 2) := by decide +kernel
theorem dX5_findBest_82 : decode cX5_findBest 82 = .ok (.iload_n 2, 1) := by decide +kernel
theorem dX5_findBest_83 : decode cX5_findBest 83 = .ok (.if_icmp .gt 15, 3) := by decide +kernel
theorem dX5_findBest_86 : decode cX5_findBest 86 = .ok (.iload 6, 2) := by decide +kernel
theorem dX5_findBest_88 : decode cX5_findBest 88 = .ok (.iload_n 2, 1) := by decide +kernel
theorem dX5_findBest_89 : decode cX5_findBest 89 = .ok (.if_icmp .ne 13, 3) := by decide +kernel
theorem dX5_findBest_92 : decode cX5_findBest 92 = .ok (.iload 7, 2) := by decide +kernel
theorem dX5_findBest_94 : decode cX5_findBest 94 = .ok (.iload_n 3, 1) := by decide +kernel
theorem dX5_findBest_95 : decode cX5_findBest 95 = .ok (.if_icmp .ge 7, 3) := by decide +kernel
theorem dX5_findBest_98 : decode cX5_findBest 98 = .ok (.iconst 1, 1) := by decide +kernel
theorem dX5_findBest_99 : decode cX5_findBest 99 = .ok (.goto 4, 3) := by decide +kernel
theorem dX5_findBest_102 : decode cX5_findBest 102 = .ok (.iconst 0, 1) := by decide +kernel
theorem dX5_findBest_103 : decode cX5_findBest 103 = .ok (.istore 8, 2) := by decide +kernel
theorem dX5_findBest_105 : decode cX5_findBest 105 = .ok (.iload 8, 2) := by decide +kernel
theorem dX5_findBest_107 : decode cX5_findBest 107 = .ok (.ifCond .eq 31, 3) := by decide +kernel
theorem dX5_findBest_110 : decode cX5_findBest 110 = .ok (.aload_n 0, 1) := by decide +kernel
theorem dX5_findBest_111 : decode cX5_findBest 111 = .ok (.iload_n 1, 1) := by decide +kernel
theorem dX5_findBest_112 : decode cX5_findBest 112 = .ok (.invokevirtual 75, 3) := by decide +kernel
theorem dX5_findBest_115 : decode cX5_findBest 115 = .ok (.ifCond .eq 23, 3) := by decide +kernel
theorem dX5_findBest_118 : decode cX5_findBest 118 = .ok (.iload 6, 2) := by decide +kernel
theorem dX5_findBest_120 : decode cX5_findBest 120 = .ok (.istore_n 2, 1) := by decide +kernel
theorem dX5_findBest_121 : decode cX5_findBest 121 = .ok (.iload 7, 2) := by decide +kernel
theorem dX5_findBest_123 : decode cX5_findBest 123 = .ok (.istore_n 3, 1) := by decide +kernel
theorem dX5_findBest_124 : decode cX5_findBest 124 = .ok (.aload_n 0, 1) := by decide +kernel
theorem dX5_findBest_125 : decode cX5_findBest 125 = .ok (.getfield 18, 3) := by decide +kernel
theorem dX5_findBest_128 : decode cX5_findBest 128 = .ok (.iconst 0, 1) := by decide +kernel
theorem dX5_findBest_129 : decode cX5_findBest 129 = .ok (.aload_n 0, 1) := by decide +kernel
theorem dX5_findBest_130 : decode cX5_findBest 130 = .ok (.getfield 15, 3) := by decide +kernel
theorem dX5_findBest_133 : decode cX5_findBest 133 = .ok (.iconst 0, 1) := by decide +kernel
theorem dX5_findBest_134 : decode cX5_findBest 134 = .ok (.iconst 3, 1) := by decide +kernel
theorem dX5_findBest_135 : decode cX5_findBest 135 = .ok (.invokestatic 79, 3) := by decide +kernel
theorem dX5_findBest_138 : decode cX5_findBest 138 = .ok (.iinc 5 1, 3) := by decide +kernel
theorem dX5_findBest_141 : decode cX5_findBest 141 = .ok (.goto (-92), 3) := by decide +kernel
theorem dX5_findBest_144 : decode cX5_findBest 144 = .ok (.iload_n 2, 1) := by decide +kernel
theorem dX5_findBest_145 : decode cX5_findBest 145 = .ok (.ireturn, 1) := by decide +kernel
theorem dX5_setLevels_0 : decode cX5_setLevels 0 = .ok (.iload_n 1, 1) := by decide +kernel
theorem dX5_setLevels_1 : decode cX5_setLevels 1 = .ok (.istore_n 2, 1) := by decide +kernel
theorem dX5_setLevels_2 : decode cX5_setLevels 2 = .ok (.aload_n 0, 1) := by decide +kernel
theorem dX5_setLevels_3 : decode cX5_setLevels 3 = .ok (.getfield 27, 3) := by decide +kernel
theorem dX5_setLevels_6 : decode cX5_setLevels 6 = .ok (.getfield 52, 3) := by decide +kernel
theorem dX5_setLevels_9 : decode cX5_setLevels 9 = .ok (.getfield 58, 3) := by decide +kernel
theorem dX5_setLevels_12 : decode cX5_setLevels 12 = .ok (.iconst 1, 1) := by decide +kernel
theorem dX5_setLevels_13 : decode cX5_setLevels 13 = .ok (.isub, 1) := by decide +kernel
theorem dX5_setLevels_14 : decode cX5_setLevels 14 = .ok (.istore_n 3, 1) := by decide +kernel
theorem dX5_setLevels_15 : decode cX5_setLevels 15 = .ok (.iload_n 3, 1) := by decide +kernel
theorem dX5_setLevels_16 : decode cX5_setLevels 16 = .ok (.ifCond .lt 45, 3) := by decide +kernel
theorem dX5_setLevels_19 : decode cX5_setLevels 19 = .ok (.aload_n 0, 1) := by decide +kernel
theorem dX5_setLevels_20 : decode cX5_setLevels 20 = .ok (.getfield 18, 3) := by decide +kernel
theorem dX5_setLevels_23 : decode cX5_setLevels 23 = .ok (.iload_n 3, 1) := by decide +kernel
theorem dX5_setLevels_24 : decode cX5_setLevels 24 = .ok (.iload_n 2, 1) := by decide +kernel
theorem dX5_setLevels_25 : decode cX5_setLevels 25 = .ok (.iconst 5, 1) := by decide +kernel
theorem dX5_setLevels_26 : decode cX5_setLevels 26 = .ok (.irem, 1) := by decide +kernel
theorem dX5_setLevels_27 : decode cX5_setLevels 27 = .ok (.iastore, 1) := by decide +kernel
theorem dX5_setLevels_28 : decode cX5_setLevels 28 = .ok (.iload_n 2, 1) := by decide +kernel
theorem dX5_setLevels_29 : decode cX5_setLevels 29 = .ok (.iconst 5, 1) := by decide +kernel
theorem dX5_setLevels_30 : decode cX5_setLevels 30 = .ok (.idiv, 1) := by decide +kernel
theorem dX5_setLevels_31 : decode cX5_setLevels 31 = .ok (.istore_n 2, 1) := by decide +kernel
theorem dX5_setLevels_32 : decode cX5_setLevels 32 = .ok (.aload_n 0, 1) := by decide +kernel
theorem dX5_setLevels_33 : decode cX5_setLevels 33 = .ok (.getfield 21, 3) := by decide +kernel
theorem dX5_setLevels_36 : decode cX5_setLevels 36 = .ok (.iload_n 3, 1) := by decide +kernel
theorem dX5_setLevels_37 : decode cX5_setLevels 37 = .ok (.aload_n 0, 1) := by decide +kernel
theorem dX5_setLevels_38 : decode cX5_setLevels 38 = .ok (.getfield 27, 3) := by decide +kernel
theorem dX5_setLevels_41 : decode cX5_setLevels 41 = .ok (.getfield 52, 3) := by decide +kernel
theorem dX5_setLevels_44 : decode cX5_setLevels 44 = .ok (.iload_n 3, 1) := by decide +kernel
theorem dX5_setLevels_45 : decode cX5_setLevels 45 = .ok (.aload_n 0, 1) := by decide +kernel
theorem dX5_setLevels_46 : decode cX5_setLevels 46 = .ok (.getfield 18, 3) := by decide +kernel
theorem dX5_setLevels_49 : decode cX5_setLevels 49 = .ok (.iload_n 3, 1) := by decide +kernel
theorem dX5_setLevels_50 : decode cX5_setLevels 50 = .ok (.iaload, 1) := by decide +kernel
theorem dX5_setLevels_51 : decode cX5_setLevels 51 = .ok (.invokevirtual 85, 3) := by decide +kernel
theorem dX5_setLevels_54 : decode cX5_setLevels 54 = .ok (.iastore, 1) := by decide +kernel
theorem dX5_setLevels_55 : decode cX5_setLevels 55 = .ok (.iinc 3 (-1), 3) := by decide +kernel
theorem dX5_setLevels_58 : decode cX5_setLevels 58 = .ok (.goto (-43), 3) := by decide +kernel
theorem dX5_setLevels_61 : decode cX5_setLevels 61 = .ok (.return_, 1) := by decide +kernel
theorem dX5_gainOf_0 : decode cX5_gainOf 0 = .ok (.iconst 0, 1) := by decide +kernel
theorem dX5_gainOf_1 : decode cX5_gainOf 1 = .ok (.istore_n 1, 1) := by decide +kernel
theorem dX5_gainOf_2 : decode cX5_gainOf 2 = .ok (.iconst 0, 1) := by decide +kernel
theorem dX5_gainOf_3 : decode cX5_gainOf 3 = .ok (.istore_n 2, 1) := by decide +kernel
theorem dX5_gainOf_4 : decode cX5_gainOf 4 = .ok (.iload_n 2, 1) := by decide +kernel
theorem dX5_gainOf_5 : decode cX5_gainOf 5 = .ok (.aload_n 0, 1) := by decide +kernel
theorem dX5_gainOf_6 : decode cX5_gainOf 6 = .ok (.getfield 27, 3) := by decide +kernel
theorem dX5_gainOf_9 : decode cX5_gainOf 9 = .ok (.getfield 52, 3) := by decide +kernel
theorem dX5_gainOf_12 : decode cX5_gainOf 12 = .ok (.getfield 58, 3) := by decide +kernel
theorem dX5_gainOf_15 : decode cX5_gainOf 15 = .ok (.if_icmp .ge 31, 3) := by decide +kernel
theorem dX5_gainOf_18 : decode cX5_gainOf 18 = .ok (.iload_n 1, 1) := by decide +kernel
theorem dX5_gainOf_19 : decode cX5_gainOf 19 = .ok (.aload_n 0, 1) := by decide +kernel
theorem dX5_gainOf_20 : decode cX5_gainOf 20 = .ok (.getfield 21, 3) := by decide +kernel
theorem dX5_gainOf_23 : decode cX5_gainOf 23 = .ok (.iload_n 2, 1) := by decide +kernel
theorem dX5_gainOf_24 : decode cX5_gainOf 24 = .ok (.iaload, 1) := by decide +kernel
theorem dX5_gainOf_25 : decode cX5_gainOf 25 = .ok (.aload_n 0, 1) := by decide +kernel
theorem dX5_gainOf_26 : decode cX5_gainOf 26 = .ok (.getfield 27, 3) := by decide +kernel
theorem dX5_gainOf_29 : decode cX5_gainOf 29 = .ok (.getfield 52, 3) := by decide +kernel
theorem dX5_gainOf_32 : decode cX5_gainOf 32 = .ok (.getfield 89, 3) := by decide +kernel
theorem dX5_gainOf_35 : decode cX5_gainOf 35 = .ok (.iload_n 2, 1) := by decide +kernel
theorem dX5_gainOf_36 : decode cX5_gainOf 36 = .ok (.iaload, 1) := by decide +kernel
theorem dX5_gainOf_37 : decode cX5_gainOf 37 = .ok (.imul, 1) := by decide +kernel
theorem dX5_gainOf_38 : decode cX5_gainOf 38 = .ok (.iadd, 1) := by decide +kernel
theorem dX5_gainOf_39 : decode cX5_gainOf 39 = .ok (.istore_n 1, 1) := by decide +kernel
theorem dX5_gainOf_40 : decode cX5_gainOf 40 = .ok (.iinc 2 1, 3) := by decide +kernel
theorem dX5_gainOf_43 : decode cX5_gainOf 43 = .ok (.goto (-39), 3) := by decide +kernel
theorem dX5_gainOf_46 : decode cX5_gainOf 46 = .ok (.iload_n 1, 1) := by decide +kernel
theorem dX5_gainOf_47 : decode cX5_gainOf 47 = .ok (.ireturn, 1) := by decide +kernel
theorem dX5_sumOfRates_0 : decode cX5_sumOfRates 0 = .ok (.iconst 0, 1) := by decide +kernel
theorem dX5_sumOfRates_1 : decode cX5_sumOfRates 1 = .ok (.istore_n 1, 1) := by decide +kernel
theorem dX5_sumOfRates_2 : decode cX5_sumOfRates 2 = .ok (.iconst 0, 1) := by decide +kernel
theorem dX5_sumOfRates_3 : decode cX5_sumOfRates 3 = .ok (.istore_n 2, 1) := by decide +kernel
theorem dX5_sumOfRates_4 : decode cX5_sumOfRates 4 = .ok (.iload_n 2, 1) := by decide +kernel
theorem dX5_sumOfRates_5 : decode cX5_sumOfRates 5 = .ok (.aload_n 0, 1) := by decide +kernel
theorem dX5_sumOfRates_6 : decode cX5_sumOfRates 6 = .ok (.getfield 27, 3) := by decide +kernel
theorem dX5_sumOfRates_9 : decode cX5_sumOfRates 9 = .ok (.getfield 52, 3) := by decide +kernel
theorem dX5_sumOfRates_12 : decode cX5_sumOfRates 12 = .ok (.getfield 58, 3) := by decide +kernel
theorem dX5_sumOfRates_15 : decode cX5_sumOfRates 15 = .ok (.if_icmp .ge 18, 3) := by decide +kernel
theorem dX5_sumOfRates_18 : decode cX5_sumOfRates 18 = .ok (.iload_n 1, 1) := by decide +kernel
theorem dX5_sumOfRates_19 : decode cX5_sumOfRates 19 = .ok (.aload_n 0, 1) := by decide +kernel
theorem dX5_sumOfRates_20 : decode cX5_sumOfRates 20 = .ok (.getfield 21, 3) := by decide +kernel
theorem dX5_sumOfRates_23 : decode cX5_sumOfRates 23 = .ok (.iload_n 2, 1) := by decide +kernel
theorem dX5_sumOfRates_24 : decode cX5_sumOfRates 24 = .ok (.iaload, 1) := by decide +kernel
theorem dX5_sumOfRates_25 : decode cX5_sumOfRates 25 = .ok (.iadd, 1) := by decide +kernel
theorem dX5_sumOfRates_26 : decode cX5_sumOfRates 26 = .ok (.istore_n 1, 1) := by decide +kernel
theorem dX5_sumOfRates_27 : decode cX5_sumOfRates 27 = .ok (.iinc 2 1, 3) := by decide +kernel
theorem dX5_sumOfRates_30 : decode cX5_sumOfRates 30 = .ok (.goto (-26), 3) := by decide +kernel
theorem dX5_sumOfRates_33 : decode cX5_sumOfRates 33 = .ok (.iload_n 1, 1) := by decide +kernel
theorem dX5_sumOfRates_34 : decode cX5_sumOfRates 34 = .ok (.ireturn, 1) := by decide +kernel
theorem dX5_mayBe_0 : decode cX5_mayBe 0 = .ok (.aload_n 0, 1) := by decide +kernel
theorem dX5_mayBe_1 : decode cX5_mayBe 1 = .ok (.getfield 31, 3) := by decide +kernel
theorem dX5_mayBe_4 : decode cX5_mayBe 4 = .ok (.aload_n 0, 1) := by decide +kernel
theorem dX5_mayBe_5 : decode cX5_mayBe 5 = .ok (.getfield 21, 3) := by decide +kernel
theorem dX5_mayBe_8 : decode cX5_mayBe 8 = .ok (.invokevirtual 92, 3) := by decide +kernel
theorem dX5_mayBe_11 : decode cX5_mayBe 11 = .ok (.ifCond .ne 5, 3) := by decide +kernel
theorem dX5_mayBe_14 : decode cX5_mayBe 14 = .ok (.iconst 0, 1) := by decide +kernel
theorem dX5_mayBe_15 : decode cX5_mayBe 15 = .ok (.ireturn, 1) := by decide +kernel
theorem dX5_mayBe_16 : decode cX5_mayBe 16 = .ok (.iconst 0, 1) := by decide +kernel
theorem dX5_mayBe_17 : decode cX5_mayBe 17 = .ok (.istore_n 2, 1) := by decide +kernel
theorem dX5_mayBe_18 : decode cX5_mayBe 18 = .ok (.iload_n 2, 1) := by decide +kernel
theorem dX5_mayBe_19 : decode cX5_mayBe 19 = .ok (.aload_n 0, 1) := by decide +kernel
theorem dX5_mayBe_20 : decode cX5_mayBe 20 = .ok (.getfield 27, 3) := by decide +kernel
theorem dX5_mayBe_23 : decode cX5_mayBe 23 = .ok (.getfield 98, 3) := by decide +kernel
theorem dX5_mayBe_26 : decode cX5_mayBe 26 = .ok (.if_icmp .ge 52, 3) := by decide +kernel
theorem dX5_mayBe_29 : decode cX5_mayBe 29 = .ok (.aload_n 0, 1) := by decide +kernel
theorem dX5_mayBe_30 : decode cX5_mayBe 30 = .ok (.getfield 31, 3) := by decide +kernel
theorem dX5_mayBe_33 : decode cX5_mayBe 33 = .ok (.iload_n 2, 1) := by decide +kernel
theorem dX5_mayBe_34 : decode cX5_mayBe 34 = .ok (.invokevirtual 101, 3) := by decide +kernel
theorem dX5_mayBe_37 : decode cX5_mayBe 37 = .ok (.ifCond .eq 5, 3) := by decide +kernel
theorem dX5_mayBe_40 : decode cX5_mayBe 40 = .ok (.iconst 0, 1) := by decide +kernel
theorem dX5_mayBe_41 : decode cX5_mayBe 41 = .ok (.ireturn, 1) := by decide +kernel
theorem dX5_mayBe_42 : decode cX5_mayBe 42 = .ok (.aload_n 0, 1) := by decide +kernel
theorem dX5_mayBe_43 : decode cX5_mayBe 43 = .ok (.getfield 9, 3) := by decide +kernel
theorem dX5_mayBe_46 : decode cX5_mayBe 46 = .ok (.iload_n 2, 1) := by decide +kernel
theorem dX5_mayBe_47 : decode cX5_mayBe 47 = .ok (.iaload, 1) := by decide +kernel
theorem dX5_mayBe_48 : decode cX5_mayBe 48 = .ok (.ldc 39, 2) := by decide +kernel
theorem dX5_mayBe_50 : decode cX5_mayBe 50 = .ok (.if_icmp .eq 22, 3) := by decide +kernel
theorem dX5_mayBe_53 : decode cX5_mayBe 53 = .ok (.aload_n 0, 1) := by decide +kernel
theorem dX5_mayBe_54 : decode cX5_mayBe 54 = .ok (.getfield 31, 3) := by decide +kernel
theorem dX5_mayBe_57 : decode cX5_mayBe 57 = .ok (.iload_n 2, 1) := by decide +kernel
theorem dX5_mayBe_58 : decode cX5_mayBe 58 = .ok (.invokevirtual 105, 3) := by decide +kernel
theorem dX5_mayBe_61 : decode cX5_mayBe 61 = .ok (.aload_n 0, 1) := by decide +kernel
theorem dX5_mayBe_62 : decode cX5_mayBe 62 = .ok (.getfield 9, 3) := by decide +kernel
theorem dX5_mayBe_65 : decode cX5_mayBe 65 = .ok (.iload_n 2, 1) := by decide +kernel
theorem dX5_mayBe_66 : decode cX5_mayBe 66 = .ok (.iaload, 1) := by decide +kernel
theorem dX5_mayBe_67 : decode cX5_mayBe 67 = .ok (.if_icmp .ge 5, 3) := by decide +kernel
theorem dX5_mayBe_70 : decode cX5_mayBe 70 = .ok (.iconst 0, 1) := by decide +kernel
theorem dX5_mayBe_71 : decode cX5_mayBe 71 = .ok (.ireturn, 1) := by decide +kernel
theorem dX5_mayBe_72 : decode cX5_mayBe 72 = .ok (.iinc 2 1, 3) := by decide +kernel
theorem dX5_mayBe_75 : decode cX5_mayBe 75 = .ok (.goto (-57), 3) := by decide +kernel
theorem dX5_mayBe_78 : decode cX5_mayBe 78 = .ok (.iload_n 1, 1) := by decide +kernel
theorem dX5_mayBe_79 : decode cX5_mayBe 79 = .ok (.ifCond .eq 17, 3) := by decide +kernel
theorem dX5_mayBe_82 : decode cX5_mayBe 82 = .ok (.aload_n 0, 1) := by decide +kernel
theorem dX5_mayBe_83 : decode cX5_mayBe 83 = .ok (.getfield 35, 3) := by decide +kernel
theorem dX5_mayBe_86 : decode cX5_mayBe 86 = .ok (.aload_n 0, 1) := by decide +kernel
theorem dX5_mayBe_87 : decode cX5_mayBe 87 = .ok (.getfield 21, 3) := by decide +kernel
theorem dX5_mayBe_90 : decode cX5_mayBe 90 = .ok (.invokevirtual 109, 3) := by decide +kernel
theorem dX5_mayBe_93 : decode cX5_mayBe 93 = .ok (.ifCond .eq 7, 3) := by decide +kernel
theorem dX5_mayBe_96 : decode cX5_mayBe 96 = .ok (.iconst 1, 1) := by decide +kernel
theorem dX5_mayBe_97 : decode cX5_mayBe 97 = .ok (.goto 4, 3) := by decide +kernel
theorem dX5_mayBe_100 : decode cX5_mayBe 100 = .ok (.iconst 0, 1) := by decide +kernel
theorem dX5_mayBe_101 : decode cX5_mayBe 101 = .ok (.ireturn, 1) := by decide +kernel
theorem dX5_milliWith_0 : decode cX5_milliWith 0 = .ok (.iconst 0, 1) := by decide +kernel
theorem dX5_milliWith_1 : decode cX5_milliWith 1 = .ok (.istore_n 3, 1) := by decide +kernel
theorem dX5_milliWith_2 : decode cX5_milliWith 2 = .ok (.iload_n 3, 1) := by decide +kernel
theorem dX5_milliWith_3 : decode cX5_milliWith 3 = .ok (.aload_n 0, 1) := by decide +kernel
theorem dX5_milliWith_4 : decode cX5_milliWith 4 = .ok (.getfield 27, 3) := by decide +kernel
theorem dX5_milliWith_7 : decode cX5_milliWith 7 = .ok (.getfield 52, 3) := by decide +kernel
theorem dX5_milliWith_10 : decode cX5_milliWith 10 = .ok (.getfield 58, 3) := by decide +kernel
theorem dX5_milliWith_13 : decode cX5_milliWith 13 = .ok (.if_icmp .ge 40, 3) := by decide +kernel
theorem dX5_milliWith_16 : decode cX5_milliWith 16 = .ok (.aload_n 0, 1) := by decide +kernel
theorem dX5_milliWith_17 : decode cX5_milliWith 17 = .ok (.getfield 21, 3) := by decide +kernel
theorem dX5_milliWith_20 : decode cX5_milliWith 20 = .ok (.iload_n 3, 1) := by decide +kernel
theorem dX5_milliWith_21 : decode cX5_milliWith 21 = .ok (.iload_n 1, 1) := by decide +kernel
theorem dX5_milliWith_22 : decode cX5_milliWith 22 = .ok (.iload_n 3, 1) := by decide +kernel
theorem dX5_milliWith_23 : decode cX5_milliWith 23 = .ok (.ishr, 1) := by decide +kernel
theorem dX5_milliWith_24 : decode cX5_milliWith 24 = .ok (.iconst 1, 1) := by decide +kernel
theorem dX5_milliWith_25 : decode cX5_milliWith 25 = .ok (.iand, 1) := by decide +kernel
theorem dX5_milliWith_26 : decode cX5_milliWith 26 = .ok (.iconst 1, 1) := by decide +kernel
theorem dX5_milliWith_27 : decode cX5_milliWith 27 = .ok (.if_icmp .ne 18, 3) := by decide +kernel
theorem dX5_milliWith_30 : decode cX5_milliWith 30 = .ok (.aload_n 0, 1) := by decide +kernel
theorem dX5_milliWith_31 : decode cX5_milliWith 31 = .ok (.getfield 27, 3) := by decide +kernel
theorem dX5_milliWith_34 : decode cX5_milliWith 34 = .ok (.getfield 52, 3) := by decide +kernel
theorem dX5_milliWith_37 : decode cX5_milliWith 37 = .ok (.getfield 112, 3) := by decide +kernel
theorem dX5_milliWith_40 : decode cX5_milliWith 40 = .ok (.iload_n 3, 1) := by decide +kernel
theorem dX5_milliWith_41 : decode cX5_milliWith 41 = .ok (.iaload, 1) := by decide +kernel
theorem dX5_milliWith_42 : decode cX5_milliWith 42 = .ok (.goto 4, 3) := by decide +kernel
theorem dX5_milliWith_45 : decode cX5_milliWith 45 = .ok (.iconst 0, 1) := by decide +kernel
theorem dX5_milliWith_46 : decode cX5_milliWith 46 = .ok (.iastore, 1) := by decide +kernel
theorem dX5_milliWith_47 : decode cX5_milliWith 47 = .ok (.iinc 3 1, 3) := by decide +kernel
theorem dX5_milliWith_50 : decode cX5_milliWith 50 = .ok (.goto (-48), 3) := by decide +kernel
theorem dX5_milliWith_53 : decode cX5_milliWith 53 = .ok (.aload_n 0, 1) := by decide +kernel
theorem dX5_milliWith_54 : decode cX5_milliWith 54 = .ok (.getfield 31, 3) := by decide +kernel
theorem dX5_milliWith_57 : decode cX5_milliWith 57 = .ok (.aload_n 0, 1) := by decide +kernel
theorem dX5_milliWith_58 : decode cX5_milliWith 58 = .ok (.getfield 21, 3) := by decide +kernel
theorem dX5_milliWith_61 : decode cX5_milliWith 61 = .ok (.invokevirtual 92, 3) := by decide +kernel
theorem dX5_milliWith_64 : decode cX5_milliWith 64 = .ok (.ifCond .eq 14, 3) := by decide +kernel
theorem dX5_milliWith_67 : decode cX5_milliWith 67 = .ok (.aload_n 0, 1) := by decide +kernel
theorem dX5_milliWith_68 : decode cX5_milliWith 68 = .ok (.getfield 31, 3) := by decide +kernel
theorem dX5_milliWith_71 : decode cX5_milliWith 71 = .ok (.iload_n 2, 1) := by decide +kernel
theorem dX5_milliWith_72 : decode cX5_milliWith 72 = .ok (.invokevirtual 105, 3) := by decide +kernel
theorem dX5_milliWith_75 : decode cX5_milliWith 75 = .ok (.goto 5, 3) := by decide +kernel
theorem dX5_milliWith_78 : decode cX5_milliWith 78 = .ok (.ldc 115, 2) := by decide +kernel
theorem dX5_milliWith_80 : decode cX5_milliWith 80 = .ok (.ireturn, 1) := by decide +kernel
theorem dX5_harmAt_0 : decode cX5_harmAt 0 = .ok (.aload_n 0, 1) := by decide +kernel
theorem dX5_harmAt_1 : decode cX5_harmAt 1 = .ok (.iconst 0, 1) := by decide +kernel
theorem dX5_harmAt_2 : decode cX5_harmAt 2 = .ok (.iload_n 1, 1) := by decide +kernel
theorem dX5_harmAt_3 : decode cX5_harmAt 3 = .ok (.invokevirtual 116, 3) := by decide +kernel
theorem dX5_harmAt_6 : decode cX5_harmAt 6 = .ok (.istore_n 2, 1) := by decide +kernel
theorem dX5_harmAt_7 : decode cX5_harmAt 7 = .ok (.aload_n 0, 1) := by decide +kernel
theorem dX5_harmAt_8 : decode cX5_harmAt 8 = .ok (.iconst 1, 1) := by decide +kernel
theorem dX5_harmAt_9 : decode cX5_harmAt 9 = .ok (.aload_n 0, 1) := by decide +kernel
theorem dX5_harmAt_10 : decode cX5_harmAt 10 = .ok (.getfield 27, 3) := by decide +kernel
theorem dX5_harmAt_13 : decode cX5_harmAt 13 = .ok (.getfield 52, 3) := by decide +kernel
theorem dX5_harmAt_16 : decode cX5_harmAt 16 = .ok (.getfield 58, 3) := by decide +kernel
theorem dX5_harmAt_19 : decode cX5_harmAt 19 = .ok (.ishl, 1) := by decide +kernel
theorem dX5_harmAt_20 : decode cX5_harmAt 20 = .ok (.iconst 1, 1) := by decide +kernel
theorem dX5_harmAt_21 : decode cX5_harmAt 21 = .ok (.isub, 1) := by decide +kernel
theorem dX5_harmAt_22 : decode cX5_harmAt 22 = .ok (.iload_n 1, 1) := by decide +kernel
theorem dX5_harmAt_23 : decode cX5_harmAt 23 = .ok (.invokevirtual 116, 3) := by decide +kernel
theorem dX5_harmAt_26 : decode cX5_harmAt 26 = .ok (.istore_n 3, 1) := by decide +kernel
theorem dX5_harmAt_27 : decode cX5_harmAt 27 = .ok (.iload_n 2, 1) := by decide +kernel
theorem dX5_harmAt_28 : decode cX5_harmAt 28 = .ok (.ldc 115, 2) := by decide +kernel
theorem dX5_harmAt_30 : decode cX5_harmAt 30 = .ok (.if_icmp .eq 9, 3) := by decide +kernel
theorem dX5_harmAt_33 : decode cX5_harmAt 33 = .ok (.iload_n 3, 1) := by decide +kernel
theorem dX5_harmAt_34 : decode cX5_harmAt 34 = .ok (.ldc 115, 2) := by decide +kernel
theorem dX5_harmAt_36 : decode cX5_harmAt 36 = .ok (.if_icmp .ne 8, 3) := by decide +kernel
theorem dX5_harmAt_39 : decode cX5_harmAt 39 = .ok (.ldc 115, 2) := by decide +kernel
theorem dX5_harmAt_41 : decode cX5_harmAt 41 = .ok (.goto 6, 3) := by decide +kernel
theorem dX5_harmAt_44 : decode cX5_harmAt 44 = .ok (.iload_n 2, 1) := by decide +kernel
theorem dX5_harmAt_45 : decode cX5_harmAt 45 = .ok (.iload_n 3, 1) := by decide +kernel
theorem dX5_harmAt_46 : decode cX5_harmAt 46 = .ok (.isub, 1) := by decide +kernel
theorem dX5_harmAt_47 : decode cX5_harmAt 47 = .ok (.ireturn, 1) := by decide +kernel
theorem dX5_shareOf_0 : decode cX5_shareOf 0 = .ok (.aload_n 0, 1) := by decide +kernel
theorem dX5_shareOf_1 : decode cX5_shareOf 1 = .ok (.getfield 27, 3) := by decide +kernel
theorem dX5_shareOf_4 : decode cX5_shareOf 4 = .ok (.getfield 52, 3) := by decide +kernel
theorem dX5_shareOf_7 : decode cX5_shareOf 7 = .ok (.getfield 58, 3) := by decide +kernel
theorem dX5_shareOf_10 : decode cX5_shareOf 10 = .ok (.istore_n 3, 1) := by decide +kernel
theorem dX5_shareOf_11 : decode cX5_shareOf 11 = .ok (.iconst 0, 1) := by decide +kernel
theorem dX5_shareOf_12 : decode cX5_shareOf 12 = .ok (.istore 4, 2) := by decide +kernel
theorem dX5_shareOf_14 : decode cX5_shareOf 14 = .ok (.iload 4, 2) := by decide +kernel
theorem dX5_shareOf_16 : decode cX5_shareOf 16 = .ok (.iconst 1, 1) := by decide +kernel
theorem dX5_shareOf_17 : decode cX5_shareOf 17 = .ok (.iload_n 3, 1) := by decide +kernel
theorem dX5_shareOf_18 : decode cX5_shareOf 18 = .ok (.ishl, 1) := by decide +kernel
theorem dX5_shareOf_19 : decode cX5_shareOf 19 = .ok (.if_icmp .ge 38, 3) := by decide +kernel
theorem dX5_shareOf_22 : decode cX5_shareOf 22 = .ok (.aload_n 0, 1) := by decide +kernel
theorem dX5_shareOf_23 : decode cX5_shareOf 23 = .ok (.getfield 24, 3) := by decide +kernel
theorem dX5_shareOf_26 : decode cX5_shareOf 26 = .ok (.iload 4, 2) := by decide +kernel
theorem dX5_shareOf_28 : decode cX5_shareOf 28 = .ok (.aload_n 0, 1) := by decide +kernel
theorem dX5_shareOf_29 : decode cX5_shareOf 29 = .ok (.iload 4, 2) := by decide +kernel
theorem dX5_shareOf_31 : decode cX5_shareOf 31 = .ok (.iload_n 1, 1) := by decide +kernel
theorem dX5_shareOf_32 : decode cX5_shareOf 32 = .ok (.invokevirtual 116, 3) := by decide +kernel
theorem dX5_shareOf_35 : decode cX5_shareOf 35 = .ok (.iastore, 1) := by decide +kernel
theorem dX5_shareOf_36 : decode cX5_shareOf 36 = .ok (.aload_n 0, 1) := by decide +kernel
theorem dX5_shareOf_37 : decode cX5_shareOf 37 = .ok (.getfield 24, 3) := by decide +kernel
theorem dX5_shareOf_40 : decode cX5_shareOf 40 = .ok (.iload 4, 2) := by decide +kernel
theorem dX5_shareOf_42 : decode cX5_shareOf 42 = .ok (.iaload, 1) := by decide +kernel
theorem dX5_shareOf_43 : decode cX5_shareOf 43 = .ok (.ldc 115, 2) := by decide +kernel
theorem dX5_shareOf_45 : decode cX5_shareOf 45 = .ok (.if_icmp .ne 6, 3) := by decide +kernel
theorem dX5_shareOf_48 : decode cX5_shareOf 48 = .ok (.ldc 115, 2) := by decide +kernel
theorem dX5_shareOf_50 : decode cX5_shareOf 50 = .ok (.ireturn, 1) := by decide +kernel
theorem dX5_shareOf_51 : decode cX5_shareOf 51 = .ok (.iinc 4 1, 3) := by decide +kernel
theorem dX5_shareOf_54 : decode cX5_shareOf 54 = .ok (.goto (-40), 3) := by decide +kernel
theorem dX5_shareOf_57 : decode cX5_shareOf 57 = .ok (.iconst 0, 1) := by decide +kernel
theorem dX5_shareOf_58 : decode cX5_shareOf 58 = .ok (.istore 4, 2) := by decide +kernel
theorem dX5_shareOf_60 : decode cX5_shareOf 60 = .ok (.iconst 0, 1) := by decide +kernel
theorem dX5_shareOf_61 : decode cX5_shareOf 61 = .ok (.istore 5, 2) := by decide +kernel
theorem dX5_shareOf_63 : decode cX5_shareOf 63 = .ok (.iload 5, 2) := by decide +kernel
theorem dX5_shareOf_65 : decode cX5_shareOf 65 = .ok (.iconst 1, 1) := by decide +kernel
theorem dX5_shareOf_66 : decode cX5_shareOf 66 = .ok (.iload_n 3, 1) := by decide +kernel
theorem dX5_shareOf_67 : decode cX5_shareOf 67 = .ok (.ishl, 1) := by decide +kernel
theorem dX5_shareOf_68 : decode cX5_shareOf 68 = .ok (.if_icmp .ge 49, 3) := by decide +kernel
theorem dX5_shareOf_71 : decode cX5_shareOf 71 = .ok (.iload 5, 2) := by decide +kernel
theorem dX5_shareOf_73 : decode cX5_shareOf 73 = .ok (.iload_n 2, 1) := by decide +kernel
theorem dX5_shareOf_74 : decode cX5_shareOf 74 = .ok (.ishr, 1) := by decide +kernel
theorem dX5_shareOf_75 : decode cX5_shareOf 75 = .ok (.iconst 1, 1) := by decide +kernel
theorem dX5_shareOf_76 : decode cX5_shareOf 76 = .ok (.iand, 1) := by decide +kernel
theorem dX5_shareOf_77 : decode cX5_shareOf 77 = .ok (.ifCond .ne 34, 3) := by decide +kernel
theorem dX5_shareOf_80 : decode cX5_shareOf 80 = .ok (.iload 4, 2) := by decide +kernel
theorem dX5_shareOf_82 : decode cX5_shareOf 82 = .ok (.aload_n 0, 1) := by decide +kernel
theorem dX5_shareOf_83 : decode cX5_shareOf 83 = .ok (.iload 5, 2) := by decide +kernel
theorem dX5_shareOf_85 : decode cX5_shareOf 85 = .ok (.invokevirtual 119, 3) := by decide +kernel
theorem dX5_shareOf_88 : decode cX5_shareOf 88 = .ok (.aload_n 0, 1) := by decide +kernel
theorem dX5_shareOf_89 : decode cX5_shareOf 89 = .ok (.getfield 24, 3) := by decide +kernel
theorem dX5_shareOf_92 : decode cX5_shareOf 92 = .ok (.iload 5, 2) := by decide +kernel
theorem dX5_shareOf_94 : decode cX5_shareOf 94 = .ok (.iaload, 1) := by decide +kernel
theorem dX5_shareOf_95 : decode cX5_shareOf 95 = .ok (.aload_n 0, 1) := by decide +kernel
theorem dX5_shareOf_96 : decode cX5_shareOf 96 = .ok (.getfield 24, 3) := by decide +kernel
theorem dX5_shareOf_99 : decode cX5_shareOf 99 = .ok (.iload 5, 2) := by decide +kernel
theorem dX5_shareOf_101 : decode cX5_shareOf 101 = .ok (.iconst 1, 1) := by decide +kernel
theorem dX5_shareOf_102 : decode cX5_shareOf 102 = .ok (.iload_n 2, 1) := by decide +kernel
theorem dX5_shareOf_103 : decode cX5_shareOf 103 = .ok (.ishl, 1) := by decide +kernel
theorem dX5_shareOf_104 : decode cX5_shareOf 104 = .ok (.ior, 1) := by decide +kernel
theorem dX5_shareOf_105 : decode cX5_shareOf 105 = .ok (.iaload, 1) := by decide +kernel
theorem dX5_shareOf_106 : decode cX5_shareOf 106 = .ok (.isub, 1) := by decide +kernel
theorem dX5_shareOf_107 : decode cX5_shareOf 107 = .ok (.imul, 1) := by decide +kernel
theorem dX5_shareOf_108 : decode cX5_shareOf 108 = .ok (.iadd, 1) := by decide +kernel
theorem dX5_shareOf_109 : decode cX5_shareOf 109 = .ok (.istore 4, 2) := by decide +kernel
theorem dX5_shareOf_111 : decode cX5_shareOf 111 = .ok (.iinc 5 1, 3) := by decide +kernel
theorem dX5_shareOf_114 : decode cX5_shareOf 114 = .ok (.goto (-51), 3) := by decide +kernel
theorem dX5_shareOf_117 : decode cX5_shareOf 117 = .ok (.iload 4, 2) := by decide +kernel
theorem dX5_shareOf_119 : decode cX5_shareOf 119 = .ok (.getstatic 122, 3) := by decide +kernel
theorem dX5_shareOf_122 : decode cX5_shareOf 122 = .ok (.iconst 3, 1) := by decide +kernel
theorem dX5_shareOf_123 : decode cX5_shareOf 123 = .ok (.iaload, 1) := by decide +kernel
theorem dX5_shareOf_124 : decode cX5_shareOf 124 = .ok (.getstatic 122, 3) := by decide +kernel
theorem dX5_shareOf_127 : decode cX5_shareOf 127 = .ok (.iload_n 3, 1) := by decide +kernel
theorem dX5_shareOf_128 : decode cX5_shareOf 128 = .ok (.iaload, 1) := by decide +kernel
theorem dX5_shareOf_129 : decode cX5_shareOf 129 = .ok (.idiv, 1) := by decide +kernel
theorem dX5_shareOf_130 : decode cX5_shareOf 130 = .ok (.imul, 1) := by decide +kernel
theorem dX5_shareOf_131 : decode cX5_shareOf 131 = .ok (.ireturn, 1) := by decide +kernel
theorem dX5_ordersBehind_0 : decode cX5_ordersBehind 0 = .ok (.iload_n 1, 1) := by decide +kernel
theorem dX5_ordersBehind_1 : decode cX5_ordersBehind 1 = .ok (.invokestatic 125, 3) := by decide +kernel
theorem dX5_ordersBehind_4 : decode cX5_ordersBehind 4 = .ok (.istore_n 2, 1) := by decide +kernel
theorem dX5_ordersBehind_5 : decode cX5_ordersBehind 5 = .ok (.getstatic 122, 3) := by decide +kernel
theorem dX5_ordersBehind_8 : decode cX5_ordersBehind 8 = .ok (.iload_n 2, 1) := by decide +kernel
theorem dX5_ordersBehind_9 : decode cX5_ordersBehind 9 = .ok (.iaload, 1) := by decide +kernel
theorem dX5_ordersBehind_10 : decode cX5_ordersBehind 10 = .ok (.getstatic 122, 3) := by decide +kernel
theorem dX5_ordersBehind_13 : decode cX5_ordersBehind 13 = .ok (.aload_n 0, 1) := by decide +kernel
theorem dX5_ordersBehind_14 : decode cX5_ordersBehind 14 = .ok (.getfield 27, 3) := by decide +kernel
theorem dX5_ordersBehind_17 : decode cX5_ordersBehind 17 = .ok (.getfield 52, 3) := by decide +kernel
theorem dX5_ordersBehind_20 : decode cX5_ordersBehind 20 = .ok (.getfield 58, 3) := by decide +kernel
theorem dX5_ordersBehind_23 : decode cX5_ordersBehind 23 = .ok (.iconst 1, 1) := by decide +kernel
theorem dX5_ordersBehind_24 : decode cX5_ordersBehind 24 = .ok (.isub, 1) := by decide +kernel
theorem dX5_ordersBehind_25 : decode cX5_ordersBehind 25 = .ok (.iload_n 2, 1) := by decide +kernel
theorem dX5_ordersBehind_26 : decode cX5_ordersBehind 26 = .ok (.isub, 1) := by decide +kernel
theorem dX5_ordersBehind_27 : decode cX5_ordersBehind 27 = .ok (.iaload, 1) := by decide +kernel
theorem dX5_ordersBehind_28 : decode cX5_ordersBehind 28 = .ok (.imul, 1) := by decide +kernel
theorem dX5_ordersBehind_29 : decode cX5_ordersBehind 29 = .ok (.ireturn, 1) := by decide +kernel
theorem dX6_init_0 : decode cX6_init 0 = .ok (.aload_n 0, 1) := by decide +kernel
theorem dX6_init_1 : decode cX6_init 1 = .ok (.invokespecial 3, 3) := by decide +kernel
theorem dX6_init_4 : decode cX6_init 4 = .ok (.aload_n 0, 1) := by decide +kernel
theorem dX6_init_5 : decode cX6_init 5 = .ok (.bipush 6, 2) := by decide +kernel
theorem dX6_init_7 : decode cX6_init 7 = .ok (.newarray .long, 2) := by decide +kernel
theorem dX6_init_9 : decode cX6_init 9 = .ok (.putfield 9, 3) := by decide +kernel
theorem dX6_init_12 : decode cX6_init 12 = .ok (.aload_n 0, 1) := by decide +kernel
theorem dX6_init_13 : decode cX6_init 13 = .ok (.bipush 6, 2) := by decide +kernel
theorem dX6_init_15 : decode cX6_init 15 = .ok (.newarray .long, 2) := by decide +kernel
theorem dX6_init_17 : decode cX6_init 17 = .ok (.putfield 15, 3) := by decide +kernel
theorem dX6_init_20 : decode cX6_init 20 = .ok (.aload_n 0, 1) := by decide +kernel
theorem dX6_init_21 : decode cX6_init 21 = .ok (.lconst 1, 1) := by decide +kernel
theorem dX6_init_22 : decode cX6_init 22 = .ok (.putfield 18, 3) := by decide +kernel
theorem dX6_init_25 : decode cX6_init 25 = .ok (.aload_n 0, 1) := by decide +kernel
theorem dX6_init_26 : decode cX6_init 26 = .ok (.iconst 0, 1) := by decide +kernel
theorem dX6_init_27 : decode cX6_init 27 = .ok (.putfield 22, 3) := by decide +kernel
theorem dX6_init_30 : decode cX6_init 30 = .ok (.aload_n 0, 1) := by decide +kernel
theorem dX6_init_31 : decode cX6_init 31 = .ok (.aload_n 1, 1) := by decide +kernel
theorem dX6_init_32 : decode cX6_init 32 = .ok (.putfield 26, 3) := by decide +kernel
theorem dX6_init_35 : decode cX6_init 35 = .ok (.aload_n 0, 1) := by decide +kernel
theorem dX6_init_36 : decode cX6_init 36 = .ok (.iconst 1, 1) := by decide +kernel
theorem dX6_init_37 : decode cX6_init 37 = .ok (.iload_n 2, 1) := by decide +kernel
theorem dX6_init_38 : decode cX6_init 38 = .ok (.invokestatic 30, 3) := by decide +kernel
theorem dX6_init_41 : decode cX6_init 41 = .ok (.putfield 36, 3) := by decide +kernel
theorem dX6_init_44 : decode cX6_init 44 = .ok (.aload_n 0, 1) := by decide +kernel
theorem dX6_init_45 : decode cX6_init 45 = .ok (.aload_n 0, 1) := by decide +kernel
theorem dX6_init_46 : decode cX6_init 46 = .ok (.getfield 36, 3) := by decide +kernel
theorem dX6_init_49 : decode cX6_init 49 = .ok (.newarray .int, 2) := by decide +kernel
theorem dX6_init_51 : decode cX6_init 51 = .ok (.putfield 39, 3) := by decide +kernel
theorem dX6_init_54 : decode cX6_init 54 = .ok (.aload_n 0, 1) := by decide +kernel
theorem dX6_init_55 : decode cX6_init 55 = .ok (.aload_n 0, 1) := by decide +kernel
theorem dX6_init_56 : decode cX6_init 56 = .ok (.getfield 36, 3) := by decide +kernel
theorem dX6_init_59 : decode cX6_init 59 = .ok (.bipush 36, 2) := by decide +kernel
theorem dX6_init_61 : decode cX6_init 61 = .ok (.multianewarray 43 2, 4) := by decide +kernel
theorem dX6_init_65 : decode cX6_init 65 = .ok (.putfield 45, 3) := by decide +kernel
theorem dX6_init_68 : decode cX6_init 68 = .ok (.aload_n 0, 1) := by decide +kernel
theorem dX6_init_69 : decode cX6_init 69 = .ok (.aload_n 0, 1) := by decide +kernel
theorem dX6_init_70 : decode cX6_init 70 = .ok (.getfield 36, 3) := by decide +kernel
theorem dX6_init_73 : decode cX6_init 73 = .ok (.newarray .long, 2) := by decide +kernel
theorem dX6_init_75 : decode cX6_init 75 = .ok (.putfield 48, 3) := by decide +kernel
theorem dX6_init_78 : decode cX6_init 78 = .ok (.aload_n 0, 1) := by decide +kernel
theorem dX6_init_79 : decode cX6_init 79 = .ok (.getfield 39, 3) := by decide +kernel
theorem dX6_init_82 : decode cX6_init 82 = .ok (.ldc 51, 2) := by decide +kernel
theorem dX6_init_84 : decode cX6_init 84 = .ok (.invokestatic 52, 3) := by decide +kernel
theorem dX6_init_87 : decode cX6_init 87 = .ok (.return_, 1) := by decide +kernel
theorem dX6_forget_0 : decode cX6_forget 0 = .ok (.aload_n 0, 1) := by decide +kernel
theorem dX6_forget_1 : decode cX6_forget 1 = .ok (.getfield 39, 3) := by decide +kernel
theorem dX6_forget_4 : decode cX6_forget 4 = .ok (.ldc 51, 2) := by decide +kernel
theorem dX6_forget_6 : decode cX6_forget 6 = .ok (.invokestatic 52, 3) := by decide +kernel
theorem dX6_forget_9 : decode cX6_forget 9 = .ok (.return_, 1) := by decide +kernel
theorem dX6_settle_0 : decode cX6_settle 0 = .ok (.aload_n 0, 1) := by decide +kernel
theorem dX6_settle_1 : decode cX6_settle 1 = .ok (.getfield 26, 3) := by decide +kernel
theorem dX6_settle_4 : decode cX6_settle 4 = .ok (.getfield 58, 3) := by decide +kernel
theorem dX6_settle_7 : decode cX6_settle 7 = .ok (.ifCond .eq 11, 3) := by decide +kernel
theorem dX6_settle_10 : decode cX6_settle 10 = .ok (.aload_n 0, 1) := by decide +kernel
theorem dX6_settle_11 : decode cX6_settle 11 = .ok (.getfield 36, 3) := by decide +kernel
theorem dX6_settle_14 : decode cX6_settle 14 = .ok (.iconst 1, 1) := by decide +kernel
theorem dX6_settle_15 : decode cX6_settle 15 = .ok (.if_icmp .ge 5, 3) := by decide +kernel
theorem dX6_settle_18 : decode cX6_settle 18 = .ok (.iconst 0, 1) := by decide +kernel
theorem dX6_settle_19 : decode cX6_settle 19 = .ok (.ireturn, 1) := by decide +kernel
theorem dX6_settle_20 : decode cX6_settle 20 = .ok (.aload_n 0, 1) := by decide +kernel
theorem dX6_settle_21 : decode cX6_settle 21 = .ok (.getfield 26, 3) := by decide +kernel
theorem dX6_settle_24 : decode cX6_settle 24 = .ok (.invokevirtual 63, 3) := by decide +kernel
theorem dX6_settle_27 : decode cX6_settle 27 = .ok (.istore_n 2, 1) := by decide +kernel
theorem dX6_settle_28 : decode cX6_settle 28 = .ok (.aload_n 0, 1) := by decide +kernel
theorem dX6_settle_29 : decode cX6_settle 29 = .ok (.getfield 22, 3) := by decide +kernel
theorem dX6_settle_32 : decode cX6_settle 32 = .ok (.istore_n 3, 1) := by decide +kernel
theorem dX6_settle_33 : decode cX6_settle 33 = .ok (.iconst 0, 1) := by decide +kernel
theorem dX6_settle_34 : decode cX6_settle 34 = .ok (.istore 4, 2) := by decide +kernel
theorem dX6_settle_36 : decode cX6_settle 36 = .ok (.iload 4, 2) := by decide +kernel
theorem dX6_settle_38 : decode cX6_settle 38 = .ok (.bipush 32, 2) := by decide +kernel
theorem dX6_settle_40 : decode cX6_settle 40 = .ok (.if_icmp .ge 113, 3) := by decide +kernel
theorem dX6_settle_43 : decode cX6_settle 43 = .ok (.iload 4, 2) := by decide +kernel
theorem dX6_settle_45 : decode cX6_settle 45 = .ok (.iload_n 2, 1) := by decide +kernel
theorem dX6_settle_46 : decode cX6_settle 46 = .ok (.iconst (-1), 1) := by decide +kernel
theorem dX6_settle_47 : decode cX6_settle 47 = .ok (.ixor, 1) := by decide +kernel
theorem dX6_settle_48 : decode cX6_settle 48 = .ok (.iand, 1) := by decide +kernel
theorem dX6_settle_49 : decode cX6_settle 49 = .ok (.ifCond .eq 6, 3) := by decide +kernel
theorem dX6_settle_52 : decode cX6_settle 52 = .ok (.goto 95, 3) := by decide +kernel
theorem dX6_settle_55 : decode cX6_settle 55 = .ok (.iload_n 3, 1) := by decide +kernel
theorem dX6_settle_56 : decode cX6_settle 56 = .ok (.iload 4, 2) := by decide +kernel
theorem dX6_settle_58 : decode cX6_settle 58 = .ok (.ixor, 1) := by decide +kernel
theorem dX6_settle_59 : decode cX6_settle 59 = .ok (.istore 5, 2) := by decide +kernel
theorem dX6_settle_61 : decode cX6_settle 61 = .ok (.iload 5, 2) := by decide +kernel
theorem dX6_settle_63 : decode cX6_settle 63 = .ok (.aload_n 0, 1) := by decide +kernel
theorem dX6_settle_64 : decode cX6_settle 64 = .ok (.getfield 36, 3) := by decide +kernel
theorem dX6_settle_67 : decode cX6_settle 67 = .ok (.irem, 1) := by decide +kernel
theorem dX6_settle_68 : decode cX6_settle 68 = .ok (.istore 6, 2) := by decide +kernel
theorem dX6_settle_70 : decode cX6_settle 70 = .ok (.aload_n 0, 1) := by decide +kernel
theorem dX6_settle_71 : decode cX6_settle 71 = .ok (.getfield 39, 3) := by decide +kernel
theorem dX6_settle_74 : decode cX6_settle 74 = .ok (.iload 6, 2) := by decide +kernel
theorem dX6_settle_76 : decode cX6_settle 76 = .ok (.iaload, 1) := by decide +kernel
theorem dX6_settle_77 : decode cX6_settle 77 = .ok (.iload 5, 2) := by decide +kernel
theorem dX6_settle_79 : decode cX6_settle 79 = .ok (.if_icmp .eq 11, 3) := by decide +kernel
theorem dX6_settle_82 : decode cX6_settle 82 = .ok (.aload_n 0, 1) := by decide +kernel
theorem dX6_settle_83 : decode cX6_settle 83 = .ok (.iload 5, 2) := by decide +kernel
theorem dX6_settle_85 : decode cX6_settle 85 = .ok (.iload 6, 2) := by decide +kernel
theorem dX6_settle_87 : decode cX6_settle 87 = .ok (.invokevirtual 67, 3) := by decide +kernel
theorem dX6_settle_90 : decode cX6_settle 90 = .ok (.aload_n 0, 1) := by decide +kernel
theorem dX6_settle_91 : decode cX6_settle 91 = .ok (.getfield 48, 3) := by decide +kernel
theorem dX6_settle_94 : decode cX6_settle 94 = .ok (.iload 6, 2) := by decide +kernel
theorem dX6_settle_96 : decode cX6_settle 96 = .ok (.laload, 1) := by decide +kernel
theorem dX6_settle_97 : decode cX6_settle 97 = .ok (.lconst 0, 1) := by decide +kernel
theorem dX6_settle_98 : decode cX6_settle 98 = .ok (.lcmp, 1) := by decide +kernel
theorem dX6_settle_99 : decode cX6_settle 99 = .ok (.ifCond .ne 6, 3) := by decide +kernel
theorem dX6_settle_102 : decode cX6_settle 102 = .ok (.goto 45, 3) := by decide +kernel
theorem dX6_settle_105 : decode cX6_settle 105 = .ok (.aload_n 0, 1) := by decide +kernel
theorem dX6_settle_106 : decode cX6_settle 106 = .ok (.aload_n 0, 1) := by decide +kernel
theorem dX6_settle_107 : decode cX6_settle 107 = .ok (.getfield 48, 3) := by decide +kernel
theorem dX6_settle_110 : decode cX6_settle 110 = .ok (.iload 6, 2) := by decide +kernel
theorem dX6_settle_112 : decode cX6_settle 112 = .ok (.laload, 1) := by decide +kernel
theorem dX6_settle_113 : decode cX6_settle 113 = .ok (.putfield 18, 3) := by decide +kernel
theorem dX6_settle_116 : decode cX6_settle 116 = .ok (.aload_n 0, 1) := by decide +kernel
theorem dX6_settle_117 : decode cX6_settle 117 = .ok (.iload 5, 2) := by decide +kernel
theorem dX6_settle_119 : decode cX6_settle 119 = .ok (.aload_n 1, 1) := by decide +kernel
theorem dX6_settle_120 : decode cX6_settle 120 = .ok (.invokevirtual 71, 3) := by decide +kernel
theorem dX6_settle_123 : decode cX6_settle 123 = .ok (.aload_n 0, 1) := by decide +kernel
theorem dX6_settle_124 : decode cX6_settle 124 = .ok (.iload 5, 2) := by decide +kernel
theorem dX6_settle_126 : decode cX6_settle 126 = .ok (.aload_n 0, 1) := by decide +kernel
theorem dX6_settle_127 : decode cX6_settle 127 = .ok (.getfield 45, 3) := by decide +kernel
theorem dX6_settle_130 : decode cX6_settle 130 = .ok (.iload 6, 2) := by decide +kernel
theorem dX6_settle_132 : decode cX6_settle 132 = .ok (.aaload, 1) := by decide +kernel
theorem dX6_settle_133 : decode cX6_settle 133 = .ok (.invokevirtual 75, 3) := by decide +kernel
theorem dX6_settle_136 : decode cX6_settle 136 = .ok (.ifCond .eq 11, 3) := by decide +kernel
theorem dX6_settle_139 : decode cX6_settle 139 = .ok (.aload_n 0, 1) := by decide +kernel
theorem dX6_settle_140 : decode cX6_settle 140 = .ok (.iload 5, 2) := by decide +kernel
theorem dX6_settle_142 : decode cX6_settle 142 = .ok (.putfield 22, 3) := by decide +kernel
theorem dX6_settle_145 : decode cX6_settle 145 = .ok (.iconst 1, 1) := by decide +kernel
theorem dX6_settle_146 : decode cX6_settle 146 = .ok (.ireturn, 1) := by decide +kernel
theorem dX6_settle_147 : decode cX6_settle 147 = .ok (.iinc 4 1, 3) := by decide +kernel
theorem dX6_settle_150 : decode cX6_settle 150 = .ok (.goto (-114), 3) := by decide +kernel
theorem dX6_settle_153 : decode cX6_settle 153 = .ok (.iconst 0, 1) := by decide +kernel
theorem dX6_settle_154 : decode cX6_settle 154 = .ok (.ireturn, 1) := by decide +kernel
theorem dX6_fits_0 : decode cX6_fits 0 = .ok (.iconst 0, 1) := by decide +kernel
theorem dX6_fits_1 : decode cX6_fits 1 = .ok (.istore_n 3, 1) := by decide +kernel
theorem dX6_fits_2 : decode cX6_fits 2 = .ok (.iload_n 3, 1) := by decide +kernel
theorem dX6_fits_3 : decode cX6_fits 3 = .ok (.aload_n 0, 1) := by decide +kernel
theorem dX6_fits_4 : decode cX6_fits 4 = .ok (.getfield 26, 3) := by decide +kernel
theorem dX6_fits_7 : decode cX6_fits 7 = .ok (.getfield 79, 3) := by decide +kernel
theorem dX6_fits_10 : decode cX6_fits 10 = .ok (.getfield 83, 3) := by decide +kernel
theorem dX6_fits_13 : decode cX6_fits 13 = .ok (.if_icmp .ge 76, 3) := by decide +kernel
theorem dX6_fits_16 : decode cX6_fits 16 = .ok (.aload_n 0, 1) := by decide +kernel
theorem dX6_fits_17 : decode cX6_fits 17 = .ok (.aload_n 2, 1) := by decide +kernel
theorem dX6_fits_18 : decode cX6_fits 18 = .ok (.aload_n 0, 1) := by decide +kernel
theorem dX6_fits_19 : decode cX6_fits 19 = .ok (.getfield 26, 3) := by decide +kernel
theorem dX6_fits_22 : decode cX6_fits 22 = .ok (.getfield 79, 3) := by decide +kernel
theorem dX6_fits_25 : decode cX6_fits 25 = .ok (.getfield 88, 3) := by decide +kernel
theorem dX6_fits_28 : decode cX6_fits 28 = .ok (.iload_n 3, 1) := by decide +kernel
theorem dX6_fits_29 : decode cX6_fits 29 = .ok (.iaload, 1) := by decide +kernel
theorem dX6_fits_30 : decode cX6_fits 30 = .ok (.invokevirtual 91, 3) := by decide +kernel
theorem dX6_fits_33 : decode cX6_fits 33 = .ok (.aload_n 0, 1) := by decide +kernel
theorem dX6_fits_34 : decode cX6_fits 34 = .ok (.getfield 26, 3) := by decide +kernel
theorem dX6_fits_37 : decode cX6_fits 37 = .ok (.getfield 79, 3) := by decide +kernel
theorem dX6_fits_40 : decode cX6_fits 40 = .ok (.getfield 95, 3) := by decide +kernel
theorem dX6_fits_43 : decode cX6_fits 43 = .ok (.iload_n 3, 1) := by decide +kernel
theorem dX6_fits_44 : decode cX6_fits 44 = .ok (.iaload, 1) := by decide +kernel
theorem dX6_fits_45 : decode cX6_fits 45 = .ok (.i2l, 1) := by decide +kernel
theorem dX6_fits_46 : decode cX6_fits 46 = .ok (.aload_n 0, 1) := by decide +kernel
theorem dX6_fits_47 : decode cX6_fits 47 = .ok (.getfield 18, 3) := by decide +kernel
theorem dX6_fits_50 : decode cX6_fits 50 = .ok (.lmul, 1) := by decide +kernel
theorem dX6_fits_51 : decode cX6_fits 51 = .ok (.lcmp, 1) := by decide +kernel
theorem dX6_fits_52 : decode cX6_fits 52 = .ok (.ifCond .lt 7, 3) := by decide +kernel
theorem dX6_fits_55 : decode cX6_fits 55 = .ok (.iconst 1, 1) := by decide +kernel
theorem dX6_fits_56 : decode cX6_fits 56 = .ok (.goto 4, 3) := by decide +kernel
theorem dX6_fits_59 : decode cX6_fits 59 = .ok (.iconst 0, 1) := by decide +kernel
theorem dX6_fits_60 : decode cX6_fits 60 = .ok (.istore 4, 2) := by decide +kernel
theorem dX6_fits_62 : decode cX6_fits 62 = .ok (.iload 4, 2) := by decide +kernel
theorem dX6_fits_64 : decode cX6_fits 64 = .ok (.iload_n 1, 1) := by decide +kernel
theorem dX6_fits_65 : decode cX6_fits 65 = .ok (.iload_n 3, 1) := by decide +kernel
theorem dX6_fits_66 : decode cX6_fits 66 = .ok (.ishr, 1) := by decide +kernel
theorem dX6_fits_67 : decode cX6_fits 67 = .ok (.iconst 1, 1) := by decide +kernel
theorem dX6_fits_68 : decode cX6_fits 68 = .ok (.iand, 1) := by decide +kernel
theorem dX6_fits_69 : decode cX6_fits 69 = .ok (.iconst 1, 1) := by decide +kernel
theorem dX6_fits_70 : decode cX6_fits 70 = .ok (.if_icmp .ne 7, 3) := by decide +kernel
theorem dX6_fits_73 : decode cX6_fits 73 = .ok (.iconst 1, 1) := by decide +kernel
theorem dX6_fits_74 : decode cX6_fits 74 = .ok (.goto 4, 3) := by decide +kernel
theorem dX6_fits_77 : decode cX6_fits 77 = .ok (.iconst 0, 1) := by decide +kernel
theorem dX6_fits_78 : decode cX6_fits 78 = .ok (.if_icmp .eq 5, 3) := by decide +kernel
theorem dX6_fits_81 : decode cX6_fits 81 = .ok (.iconst 0, 1) := by decide +kernel
theorem dX6_fits_82 : decode cX6_fits 82 = .ok (.ireturn, 1) := by decide +kernel
theorem dX6_fits_83 : decode cX6_fits 83 = .ok (.iinc 3 1, 3) := by decide +kernel
theorem dX6_fits_86 : decode cX6_fits 86 = .ok (.goto (-84), 3) := by decide +kernel
theorem dX6_fits_89 : decode cX6_fits 89 = .ok (.iconst 0, 1) := by decide +kernel
theorem dX6_fits_90 : decode cX6_fits 90 = .ok (.istore_n 3, 1) := by decide +kernel
theorem dX6_fits_91 : decode cX6_fits 91 = .ok (.iload_n 3, 1) := by decide +kernel
theorem dX6_fits_92 : decode cX6_fits 92 = .ok (.aload_n 0, 1) := by decide +kernel
theorem dX6_fits_93 : decode cX6_fits 93 = .ok (.getfield 26, 3) := by decide +kernel
theorem dX6_fits_96 : decode cX6_fits 96 = .ok (.getfield 98, 3) := by decide +kernel
theorem dX6_fits_99 : decode cX6_fits 99 = .ok (.getfield 102, 3) := by decide +kernel
theorem dX6_fits_102 : decode cX6_fits 102 = .ok (.if_icmp .ge 78, 3) := by decide +kernel
theorem dX6_fits_105 : decode cX6_fits 105 = .ok (.aload_n 0, 1) := by decide +kernel
theorem dX6_fits_106 : decode cX6_fits 106 = .ok (.aload_n 2, 1) := by decide +kernel
theorem dX6_fits_107 : decode cX6_fits 107 = .ok (.aload_n 0, 1) := by decide +kernel
theorem dX6_fits_108 : decode cX6_fits 108 = .ok (.getfield 26, 3) := by decide +kernel
theorem dX6_fits_111 : decode cX6_fits 111 = .ok (.getfield 98, 3) := by decide +kernel
theorem dX6_fits_114 : decode cX6_fits 114 = .ok (.getfield 105, 3) := by decide +kernel
theorem dX6_fits_117 : decode cX6_fits 117 = .ok (.iload_n 3, 1) := by decide +kernel
theorem dX6_fits_118 : decode cX6_fits 118 = .ok (.iaload, 1) := by decide +kernel
theorem dX6_fits_119 : decode cX6_fits 119 = .ok (.invokevirtual 91, 3) := by decide +kernel
theorem dX6_fits_122 : decode cX6_fits 122 = .ok (.aload_n 0, 1) := by decide +kernel
theorem dX6_fits_123 : decode cX6_fits 123 = .ok (.getfield 26, 3) := by decide +kernel
theorem dX6_fits_126 : decode cX6_fits 126 = .ok (.getfield 98, 3) := by decide +kernel
theorem dX6_fits_129 : decode cX6_fits 129 = .ok (.getfield 106, 3) := by decide +kernel
theorem dX6_fits_132 : decode cX6_fits 132 = .ok (.iload_n 3, 1) := by decide +kernel
theorem dX6_fits_133 : decode cX6_fits 133 = .ok (.iaload, 1) := by decide +kernel
theorem dX6_fits_134 : decode cX6_fits 134 = .ok (.i2l, 1) := by decide +kernel
theorem dX6_fits_135 : decode cX6_fits 135 = .ok (.aload_n 0, 1) := by decide +kernel
theorem dX6_fits_136 : decode cX6_fits 136 = .ok (.getfield 18, 3) := by decide +kernel
theorem dX6_fits_139 : decode cX6_fits 139 = .ok (.lmul, 1) := by decide +kernel
theorem dX6_fits_140 : decode cX6_fits 140 = .ok (.lcmp, 1) := by decide +kernel
theorem dX6_fits_141 : decode cX6_fits 141 = .ok (.ifCond .le 7, 3) := by decide +kernel
theorem dX6_fits_144 : decode cX6_fits 144 = .ok (.iconst 1, 1) := by decide +kernel
theorem dX6_fits_145 : decode cX6_fits 145 = .ok (.goto 4, 3) := by decide +kernel
theorem dX6_fits_148 : decode cX6_fits 148 = .ok (.iconst 0, 1) := by decide +kernel
theorem dX6_fits_149 : decode cX6_fits 149 = .ok (.istore 4, 2) := by decide +kernel
theorem dX6_fits_151 : decode cX6_fits 151 = .ok (.iload 4, 2) := by decide +kernel
theorem dX6_fits_153 : decode cX6_fits 153 = .ok (.iload_n 1, 1) := by decide +kernel
theorem dX6_fits_154 : decode cX6_fits 154 = .ok (.iconst 3, 1) := by decide +kernel
theorem dX6_fits_155 : decode cX6_fits 155 = .ok (.iload_n 3, 1) := by decide +kernel
theorem dX6_fits_156 : decode cX6_fits 156 = .ok (.iadd, 1) := by decide +kernel
theorem dX6_fits_157 : decode cX6_fits 157 = .ok (.ishr, 1) := by decide +kernel
theorem dX6_fits_158 : decode cX6_fits 158 = .ok (.iconst 1, 1) := by decide +kernel
theorem dX6_fits_159 : decode cX6_fits 159 = .ok (.iand, 1) := by decide +kernel
theorem dX6_fits_160 : decode cX6_fits 160 = .ok (.iconst 1, 1) := by decide +kernel
theorem dX6_fits_161 : decode cX6_fits 161 = .ok (.if_icmp .ne 7, 3) := by decide +kernel
theorem dX6_fits_164 : decode cX6_fits 164 = .ok (.iconst 1, 1) := by decide +kernel
theorem dX6_fits_165 : decode cX6_fits 165 = .ok (.goto 4, 3) := by decide +kernel
theorem dX6_fits_168 : decode cX6_fits 168 = .ok (.iconst 0, 1) := by decide +kernel
theorem dX6_fits_169 : decode cX6_fits 169 = .ok (.if_icmp .eq 5, 3) := by decide +kernel
theorem dX6_fits_172 : decode cX6_fits 172 = .ok (.iconst 0, 1) := by decide +kernel
theorem dX6_fits_173 : decode cX6_fits 173 = .ok (.ireturn, 1) := by decide +kernel
theorem dX6_fits_174 : decode cX6_fits 174 = .ok (.iinc 3 1, 3) := by decide +kernel
theorem dX6_fits_177 : decode cX6_fits 177 = .ok (.goto (-86), 3) := by decide +kernel
theorem dX6_fits_180 : decode cX6_fits 180 = .ok (.iconst 0, 1) := by decide +kernel
theorem dX6_fits_181 : decode cX6_fits 181 = .ok (.istore_n 3, 1) := by decide +kernel
theorem dX6_fits_182 : decode cX6_fits 182 = .ok (.iload_n 3, 1) := by decide +kernel
theorem dX6_fits_183 : decode cX6_fits 183 = .ok (.aload_n 0, 1) := by decide +kernel
theorem dX6_fits_184 : decode cX6_fits 184 = .ok (.getfield 26, 3) := by decide +kernel
theorem dX6_fits_187 : decode cX6_fits 187 = .ok (.getfield 58, 3) := by decide +kernel
theorem dX6_fits_190 : decode cX6_fits 190 = .ok (.if_icmp .ge 21, 3) := by decide +kernel
theorem dX6_fits_193 : decode cX6_fits 193 = .ok (.aload_n 0, 1) := by decide +kernel
theorem dX6_fits_194 : decode cX6_fits 194 = .ok (.getfield 15, 3) := by decide +kernel
theorem dX6_fits_197 : decode cX6_fits 197 = .ok (.iload_n 3, 1) := by decide +kernel
theorem dX6_fits_198 : decode cX6_fits 198 = .ok (.aload_n 0, 1) := by decide +kernel
theorem dX6_fits_199 : decode cX6_fits 199 = .ok (.aload_n 2, 1) := by decide +kernel
theorem dX6_fits_200 : decode cX6_fits 200 = .ok (.iload_n 3, 1) := by decide +kernel
theorem dX6_fits_201 : decode cX6_fits 201 = .ok (.invokevirtual 91, 3) := by decide +kernel
theorem dX6_fits_204 : decode cX6_fits 204 = .ok (.lastore, 1) := by decide +kernel
theorem dX6_fits_205 : decode cX6_fits 205 = .ok (.iinc 3 1, 3) := by decide +kernel
theorem dX6_fits_208 : decode cX6_fits 208 = .ok (.goto (-26), 3) := by decide +kernel
theorem dX6_fits_211 : decode cX6_fits 211 = .ok (.iconst 1, 1) := by decide +kernel
theorem dX6_fits_212 : decode cX6_fits 212 = .ok (.ireturn, 1) := by decide +kernel
theorem dX6_solve_0 : decode cX6_solve 0 = .ok (.lconst 0, 1) := by decide +kernel
theorem dX6_solve_1 : decode cX6_solve 1 = .ok (.lstore_n 3, 1) := by decide +kernel
theorem dX6_solve_2 : decode cX6_solve 2 = .ok (.iconst 0, 1) := by decide +kernel
theorem dX6_solve_3 : decode cX6_solve 3 = .ok (.istore 5, 2) := by decide +kernel
theorem dX6_solve_5 : decode cX6_solve 5 = .ok (.iload 5, 2) := by decide +kernel
theorem dX6_solve_7 : decode cX6_solve 7 = .ok (.aload_n 0, 1) := by decide +kernel
theorem dX6_solve_8 : decode cX6_solve 8 = .ok (.getfield 26, 3) := by decide +kernel
theorem dX6_solve_11 : decode cX6_solve 11 = .ok (.getfield 58, 3) := by decide +kernel
theorem dX6_solve_14 : decode cX6_solve 14 = .ok (.if_icmp .ge 29, 3) := by decide +kernel
theorem dX6_solve_17 : decode cX6_solve 17 = .ok (.lload_n 3, 1) := by decide +kernel
theorem dX6_solve_18 : decode cX6_solve 18 = .ok (.aload_n 1, 1) := by decide +kernel
theorem dX6_solve_19 : decode cX6_solve 19 = .ok (.iload_n 2, 1) := by decide +kernel
theorem dX6_solve_20 : decode cX6_solve 20 = .ok (.bipush 6, 2) := by decide +kernel
theorem dX6_solve_22 : decode cX6_solve 22 = .ok (.imul, 1) := by decide +kernel
theorem dX6_solve_23 : decode cX6_solve 23 = .ok (.iload 5, 2) := by decide +kernel
theorem dX6_solve_25 : decode cX6_solve 25 = .ok (.iadd, 1) := by decide +kernel
theorem dX6_solve_26 : decode cX6_solve 26 = .ok (.laload, 1) := by decide +kernel
theorem dX6_solve_27 : decode cX6_solve 27 = .ok (.aload_n 0, 1) := by decide +kernel
theorem dX6_solve_28 : decode cX6_solve 28 = .ok (.getfield 9, 3) := by decide +kernel
theorem dX6_solve_31 : decode cX6_solve 31 = .ok (.iload 5, 2) := by decide +kernel
theorem dX6_solve_33 : decode cX6_solve 33 = .ok (.laload, 1) := by decide +kernel
theorem dX6_solve_34 : decode cX6_solve 34 = .ok (.lmul, 1) := by decide +kernel
theorem dX6_solve_35 : decode cX6_solve 35 = .ok (.ladd, 1) := by decide +kernel
theorem dX6_solve_36 : decode cX6_solve 36 = .ok (.lstore_n 3, 1) := by decide +kernel
theorem dX6_solve_37 : decode cX6_solve 37 = .ok (.iinc 5 1, 3) := by decide +kernel
theorem dX6_solve_40 : decode cX6_solve 40 = .ok (.goto (-35), 3) := by decide +kernel
theorem dX6_solve_43 : decode cX6_solve 43 = .ok (.lload_n 3, 1) := by decide +kernel
theorem dX6_solve_44 : decode cX6_solve 44 = .ok (.lreturn, 1) := by decide +kernel
theorem dX6_gatherSources_0 : decode cX6_gatherSources 0 = .ok (.iconst 0, 1) := by decide +kernel
theorem dX6_gatherSources_1 : decode cX6_gatherSources 1 = .ok (.istore_n 3, 1) := by decide +kernel
theorem dX6_gatherSources_2 : decode cX6_gatherSources 2 = .ok (.iload_n 3, 1) := by decide +kernel
theorem dX6_gatherSources_3 : decode cX6_gatherSources 3 = .ok (.aload_n 0, 1) := by decide +kernel
theorem dX6_gatherSources_4 : decode cX6_gatherSources 4 = .ok (.getfield 26, 3) := by decide +kernel
theorem dX6_gatherSources_7 : decode cX6_gatherSources 7 = .ok (.getfield 58, 3) := by decide +kernel
theorem dX6_gatherSources_10 : decode cX6_gatherSources 10 = .ok (.if_icmp .ge 25, 3) := by decide +kernel
theorem dX6_gatherSources_13 : decode cX6_gatherSources 13 = .ok (.aload_n 0, 1) := by decide +kernel
theorem dX6_gatherSources_14 : decode cX6_gatherSources 14 = .ok (.getfield 9, 3) := by decide +kernel
theorem dX6_gatherSources_17 : decode cX6_gatherSources 17 = .ok (.iload_n 3, 1) := by decide +kernel
theorem dX6_gatherSources_18 : decode cX6_gatherSources 18 = .ok (.aload_n 0, 1) := by decide +kernel
theorem dX6_gatherSources_19 : decode cX6_gatherSources 19 = .ok (.getfield 26, 3) := by decide +kernel
theorem dX6_gatherSources_22 : decode cX6_gatherSources 22 = .ok (.getfield 109, 3) := by decide +kernel
theorem dX6_gatherSources_25 : decode cX6_gatherSources 25 = .ok (.iload_n 3, 1) := by decide +kernel
theorem dX6_gatherSources_26 : decode cX6_gatherSources 26 = .ok (.iaload, 1) := by decide +kernel
theorem dX6_gatherSources_27 : decode cX6_gatherSources 27 = .ok (.i2l, 1) := by decide +kernel
theorem dX6_gatherSources_28 : decode cX6_gatherSources 28 = .ok (.lastore, 1) := by decide +kernel
theorem dX6_gatherSources_29 : decode cX6_gatherSources 29 = .ok (.iinc 3 1, 3) := by decide +kernel
theorem dX6_gatherSources_32 : decode cX6_gatherSources 32 = .ok (.goto (-30), 3) := by decide +kernel
theorem dX6_gatherSources_35 : decode cX6_gatherSources 35 = .ok (.aload_n 0, 1) := by decide +kernel
theorem dX6_gatherSources_36 : decode cX6_gatherSources 36 = .ok (.getfield 26, 3) := by decide +kernel
theorem dX6_gatherSources_39 : decode cX6_gatherSources 39 = .ok (.getfield 79, 3) := by decide +kernel
theorem dX6_gatherSources_42 : decode cX6_gatherSources 42 = .ok (.astore_n 3, 1) := by decide +kernel
theorem dX6_gatherSources_43 : decode cX6_gatherSources 43 = .ok (.iconst 0, 1) := by decide +kernel
theorem dX6_gatherSources_44 : decode cX6_gatherSources 44 = .ok (.istore 4, 2) := by decide +kernel
theorem dX6_gatherSources_46 : decode cX6_gatherSources 46 = .ok (.iload 4, 2) := by decide +kernel
theorem dX6_gatherSources_48 : decode cX6_gatherSources 48 = .ok (.aload_n 3, 1) := by decide +kernel
theorem dX6_gatherSources_49 : decode cX6_gatherSources 49 = .ok (.getfield 83, 3) := by decide +kernel
theorem dX6_gatherSources_52 : decode cX6_gatherSources 52 = .ok (.if_icmp .ge 84, 3) := by decide +kernel
theorem dX6_gatherSources_55 : decode cX6_gatherSources 55 = .ok (.iload_n 1, 1) := by decide +kernel
theorem dX6_gatherSources_56 : decode cX6_gatherSources 56 = .ok (.iload 4, 2) := by decide +kernel
theorem dX6_gatherSources_58 : decode cX6_gatherSources 58 = .ok (.ishr, 1) := by decide +kernel
theorem dX6_gatherSources_59 : decode cX6_gatherSources 59 = .ok (.iconst 1, 1) := by decide +kernel
theorem dX6_gatherSources_60 : decode cX6_gatherSources 60 = .ok (.iand, 1) := by decide +kernel
theorem dX6_gatherSources_61 : decode cX6_gatherSources 61 = .ok (.iconst 1, 1) := by decide +kernel
theorem dX6_gatherSources_62 : decode cX6_gatherSources 62 = .ok (.if_icmp .ne 7, 3) := by decide +kernel
theorem dX6_gatherSources_65 : decode cX6_gatherSources 65 = .ok (.iconst 1, 1) := by decide +kernel
theorem dX6_gatherSources_66 : decode cX6_gatherSources 66 = .ok (.goto 4, 3) := by decide +kernel
theorem dX6_gatherSources_69 : decode cX6_gatherSources 69 = .ok (.iconst 0, 1) := by decide +kernel
theorem dX6_gatherSources_70 : decode cX6_gatherSources 70 = .ok (.istore 5, 2) := by decide +kernel
theorem dX6_gatherSources_72 : decode cX6_gatherSources 72 = .ok (.iload 5, 2) := by decide +kernel
theorem dX6_gatherSources_74 : decode cX6_gatherSources 74 = .ok (.ifCond .eq 13, 3) := by decide +kernel
theorem dX6_gatherSources_77 : decode cX6_gatherSources 77 = .ok (.aload_n 3, 1) := by decide +kernel
theorem dX6_gatherSources_78 : decode cX6_gatherSources 78 = .ok (.getfield 112, 3) := by decide +kernel
theorem dX6_gatherSources_81 : decode cX6_gatherSources 81 = .ok (.iload 4, 2) := by decide +kernel
theorem dX6_gatherSources_83 : decode cX6_gatherSources 83 = .ok (.iaload, 1) := by decide +kernel
theorem dX6_gatherSources_84 : decode cX6_gatherSources 84 = .ok (.goto 18, 3) := by decide +kernel
theorem dX6_gatherSources_87 : decode cX6_gatherSources 87 = .ok (.aload_n 3, 1) := by decide +kernel
theorem dX6_gatherSources_88 : decode cX6_gatherSources 88 = .ok (.getfield 112, 3) := by decide +kernel
theorem dX6_gatherSources_91 : decode cX6_gatherSources 91 = .ok (.iload 4, 2) := by decide +kernel
theorem dX6_gatherSources_93 : decode cX6_gatherSources 93 = .ok (.iaload, 1) := by decide +kernel
theorem dX6_gatherSources_94 : decode cX6_gatherSources 94 = .ok (.aload_n 3, 1) := by decide +kernel
theorem dX6_gatherSources_95 : decode cX6_gatherSources 95 = .ok (.getfield 95, 3) := by decide +kernel
theorem dX6_gatherSources_98 : decode cX6_gatherSources 98 = .ok (.iload 4, 2) := by decide +kernel
theorem dX6_gatherSources_100 : decode cX6_gatherSources 100 = .ok (.iaload, 1) := by decide +kernel
theorem dX6_gatherSources_101 : decode cX6_gatherSources 101 = .ok (.isub, 1) := by decide +kernel
theorem dX6_gatherSources_102 : decode cX6_gatherSources 102 = .ok (.istore 6, 2) := by decide +kernel
theorem dX6_gatherSources_104 : decode cX6_gatherSources 104 = .ok (.aload_n 0, 1) := by decide +kernel
theorem dX6_gatherSources_105 : decode cX6_gatherSources 105 = .ok (.getfield 9, 3) := by decide +kernel
theorem dX6_gatherSources_108 : decode cX6_gatherSources 108 = .ok (.aload_n 3, 1) := by decide +kernel
theorem dX6_gatherSources_109 : decode cX6_gatherSources 109 = .ok (.getfield 88, 3) := by decide +kernel
theorem dX6_gatherSources_112 : decode cX6_gatherSources 112 = .ok (.iload 4, 2) := by decide +kernel
theorem dX6_gatherSources_114 : decode cX6_gatherSources 114 = .ok (.iaload, 1) := by decide +kernel
theorem dX6_gatherSources_115 : decode cX6_gatherSources 115 = .ok (.dup2, 1) := by decide +kernel
theorem dX6_gatherSources_116 : decode cX6_gatherSources 116 = .ok (.laload, 1) := by decide +kernel
theorem dX6_gatherSources_117 : decode cX6_gatherSources 117 = .ok (.aload_n 3, 1) := by decide +kernel
theorem dX6_gatherSources_118 : decode cX6_gatherSources 118 = .ok (.getfield 115, 3) := by decide +kernel
theorem dX6_gatherSources_121 : decode cX6_gatherSources 121 = .ok (.iload 4, 2) := by decide +kernel
theorem dX6_gatherSources_123 : decode cX6_gatherSources 123 = .ok (.iaload, 1) := by decide +kernel
theorem dX6_gatherSources_124 : decode cX6_gatherSources 124 = .ok (.iload 6, 2) := by decide +kernel
theorem dX6_gatherSources_126 : decode cX6_gatherSources 126 = .ok (.imul, 1) := by decide +kernel
theorem dX6_gatherSources_127 : decode cX6_gatherSources 127 = .ok (.i2l, 1) := by decide +kernel
theorem dX6_gatherSources_128 : decode cX6_gatherSources 128 = .ok (.ladd, 1) := by decide +kernel
theorem dX6_gatherSources_129 : decode cX6_gatherSources 129 = .ok (.lastore, 1) := by decide +kernel
theorem dX6_gatherSources_130 : decode cX6_gatherSources 130 = .ok (.iinc 4 1, 3) := by decide +kernel
theorem dX6_gatherSources_133 : decode cX6_gatherSources 133 = .ok (.goto (-87), 3) := by decide +kernel
theorem dX6_gatherSources_136 : decode cX6_gatherSources 136 = .ok (.aload_n 0, 1) := by decide +kernel
theorem dX6_gatherSources_137 : decode cX6_gatherSources 137 = .ok (.getfield 26, 3) := by decide +kernel
theorem dX6_gatherSources_140 : decode cX6_gatherSources 140 = .ok (.getfield 98, 3) := by decide +kernel
theorem dX6_gatherSources_143 : decode cX6_gatherSources 143 = .ok (.astore 4, 2) := by decide +kernel
theorem dX6_gatherSources_145 : decode cX6_gatherSources 145 = .ok (.iconst 0, 1) := by decide +kernel
theorem dX6_gatherSources_146 : decode cX6_gatherSources 146 = .ok (.istore 5, 2) := by decide +kernel
theorem dX6_gatherSources_148 : decode cX6_gatherSources 148 = .ok (.iload 5, 2) := by decide +kernel
theorem dX6_gatherSources_150 : decode cX6_gatherSources 150 = .ok (.aload 4, 2) := by decide +kernel
theorem dX6_gatherSources_152 : decode cX6_gatherSources 152 = .ok (.getfield 102, 3) := by decide +kernel
theorem dX6_gatherSources_155 : decode cX6_gatherSources 155 = .ok (.if_icmp .ge 67, 3) := by decide +kernel
theorem dX6_gatherSources_158 : decode cX6_gatherSources 158 = .ok (.iload_n 1, 1) := by decide +kernel
theorem dX6_gatherSources_159 : decode cX6_gatherSources 159 = .ok (.iconst 3, 1) := by decide +kernel
theorem dX6_gatherSources_160 : decode cX6_gatherSources 160 = .ok (.iload 5, 2) := by decide +kernel
theorem dX6_gatherSources_162 : decode cX6_gatherSources 162 = .ok (.iadd, 1) := by decide +kernel
theorem dX6_gatherSources_163 : decode cX6_gatherSources 163 = .ok (.ishr, 1) := by decide +kernel
theorem dX6_gatherSources_164 : decode cX6_gatherSources 164 = .ok (.iconst 1, 1) := by decide +kernel
theorem dX6_gatherSources_165 : decode cX6_gatherSources 165 = .ok (.iand, 1) := by decide +kernel
theorem dX6_gatherSources_166 : decode cX6_gatherSources 166 = .ok (.iconst 1, 1) := by decide +kernel
theorem dX6_gatherSources_167 : decode cX6_gatherSources 167 = .ok (.if_icmp .ne 7, 3) := by decide +kernel
theorem dX6_gatherSources_170 : decode cX6_gatherSources 170 = .ok (.iconst 1, 1) := by decide +kernel
theorem dX6_gatherSources_171 : decode cX6_gatherSources 171 = .ok (.goto 4, 3) := by decide +kernel
theorem dX6_gatherSources_174 : decode cX6_gatherSources 174 = .ok (.iconst 0, 1) := by decide +kernel
theorem dX6_gatherSources_175 : decode cX6_gatherSources 175 = .ok (.istore 6, 2) := by decide +kernel
theorem dX6_gatherSources_177 : decode cX6_gatherSources 177 = .ok (.iload 6, 2) := by decide +kernel
theorem dX6_gatherSources_179 : decode cX6_gatherSources 179 = .ok (.ifCond .eq 37, 3) := by decide +kernel
theorem dX6_gatherSources_182 : decode cX6_gatherSources 182 = .ok (.aload_n 0, 1) := by decide +kernel
theorem dX6_gatherSources_183 : decode cX6_gatherSources 183 = .ok (.getfield 9, 3) := by decide +kernel
theorem dX6_gatherSources_186 : decode cX6_gatherSources 186 = .ok (.aload 4, 2) := by decide +kernel
theorem dX6_gatherSources_188 : decode cX6_gatherSources 188 = .ok (.getfield 105, 3) := by decide +kernel
theorem dX6_gatherSources_191 : decode cX6_gatherSources 191 = .ok (.iload 5, 2) := by decide +kernel
theorem dX6_gatherSources_193 : decode cX6_gatherSources 193 = .ok (.iaload, 1) := by decide +kernel
theorem dX6_gatherSources_194 : decode cX6_gatherSources 194 = .ok (.dup2, 1) := by decide +kernel
theorem dX6_gatherSources_195 : decode cX6_gatherSources 195 = .ok (.laload, 1) := by decide +kernel
theorem dX6_gatherSources_196 : decode cX6_gatherSources 196 = .ok (.aload 4, 2) := by decide +kernel
theorem dX6_gatherSources_198 : decode cX6_gatherSources 198 = .ok (.getfield 118, 3) := by decide +kernel
theorem dX6_gatherSources_201 : decode cX6_gatherSources 201 = .ok (.iload 5, 2) := by decide +kernel
theorem dX6_gatherSources_203 : decode cX6_gatherSources 203 = .ok (.iaload, 1) := by decide +kernel
theorem dX6_gatherSources_204 : decode cX6_gatherSources 204 = .ok (.aload 4, 2) := by decide +kernel
theorem dX6_gatherSources_206 : decode cX6_gatherSources 206 = .ok (.getfield 106, 3) := by decide +kernel
theorem dX6_gatherSources_209 : decode cX6_gatherSources 209 = .ok (.iload 5, 2) := by decide +kernel
theorem dX6_gatherSources_211 : decode cX6_gatherSources 211 = .ok (.iaload, 1) := by decide +kernel
theorem dX6_gatherSources_212 : decode cX6_gatherSources 212 = .ok (.imul, 1) := by decide +kernel
theorem dX6_gatherSources_213 : decode cX6_gatherSources 213 = .ok (.i2l, 1) := by decide +kernel
theorem dX6_gatherSources_214 : decode cX6_gatherSources 214 = .ok (.ladd, 1) := by decide +kernel
theorem dX6_gatherSources_215 : decode cX6_gatherSources 215 = .ok (.lastore, 1) := by decide +kernel
theorem dX6_gatherSources_216 : decode cX6_gatherSources 216 = .ok (.iinc 5 1, 3) := by decide +kernel
theorem dX6_gatherSources_219 : decode cX6_gatherSources 219 = .ok (.goto (-71), 3) := by decide +kernel
theorem dX6_gatherSources_222 : decode cX6_gatherSources 222 = .ok (.iconst 0, 1) := by decide +kernel
theorem dX6_gatherSources_223 : decode cX6_gatherSources 223 = .ok (.istore 5, 2) := by decide +kernel
theorem dX6_gatherSources_225 : decode cX6_gatherSources 225 = .ok (.iload 5, 2) := by decide +kernel
theorem dX6_gatherSources_227 : decode cX6_gatherSources 227 = .ok (.aload_n 0, 1) := by decide +kernel
theorem dX6_gatherSources_228 : decode cX6_gatherSources 228 = .ok (.getfield 26, 3) := by decide +kernel
theorem dX6_gatherSources_231 : decode cX6_gatherSources 231 = .ok (.getfield 119, 3) := by decide +kernel
theorem dX6_gatherSources_234 : decode cX6_gatherSources 234 = .ok (.getfield 123, 3) := by decide +kernel
theorem dX6_gatherSources_237 : decode cX6_gatherSources 237 = .ok (.if_icmp .ge 35, 3) := by decide +kernel
theorem dX6_gatherSources_240 : decode cX6_gatherSources 240 = .ok (.aload_n 0, 1) := by decide +kernel
theorem dX6_gatherSources_241 : decode cX6_gatherSources 241 = .ok (.getfield 9, 3) := by decide +kernel
theorem dX6_gatherSources_244 : decode cX6_gatherSources 244 = .ok (.aload_n 0, 1) := by decide +kernel
theorem dX6_gatherSources_245 : decode cX6_gatherSources 245 = .ok (.getfield 26, 3) := by decide +kernel
theorem dX6_gatherSources_248 : decode cX6_gatherSources 248 = .ok (.getfield 119, 3) := by decide +kernel
theorem dX6_gatherSources_251 : decode cX6_gatherSources 251 = .ok (.getfield 126, 3) := by decide +kernel
theorem dX6_gatherSources_254 : decode cX6_gatherSources 254 = .ok (.iload 5, 2) := by decide +kernel
theorem dX6_gatherSources_256 : decode cX6_gatherSources 256 = .ok (.iaload, 1) := by decide +kernel
theorem dX6_gatherSources_257 : decode cX6_gatherSources 257 = .ok (.dup2, 1) := by decide +kernel
theorem dX6_gatherSources_258 : decode cX6_gatherSources 258 = .ok (.laload, 1) := by decide +kernel
theorem dX6_gatherSources_259 : decode cX6_gatherSources 259 = .ok (.aload_n 2, 1) := by decide +kernel
theorem dX6_gatherSources_260 : decode cX6_gatherSources 260 = .ok (.iload 5, 2) := by decide +kernel
theorem dX6_gatherSources_262 : decode cX6_gatherSources 262 = .ok (.iaload, 1) := by decide +kernel
theorem dX6_gatherSources_263 : decode cX6_gatherSources 263 = .ok (.i2l, 1) := by decide +kernel
theorem dX6_gatherSources_264 : decode cX6_gatherSources 264 = .ok (.lsub, 1) := by decide +kernel
theorem dX6_gatherSources_265 : decode cX6_gatherSources 265 = .ok (.lastore, 1) := by decide +kernel
theorem dX6_gatherSources_266 : decode cX6_gatherSources 266 = .ok (.iinc 5 1, 3) := by decide +kernel
theorem dX6_gatherSources_269 : decode cX6_gatherSources 269 = .ok (.goto (-44), 3) := by decide +kernel
theorem dX6_gatherSources_272 : decode cX6_gatherSources 272 = .ok (.return_, 1) := by decide +kernel
theorem dX6_invert_0 : decode cX6_invert 0 = .ok (.aload_n 0, 1) := by decide +kernel
theorem dX6_invert_1 : decode cX6_invert 1 = .ok (.getfield 45, 3) := by decide +kernel
theorem dX6_invert_4 : decode cX6_invert 4 = .ok (.iload_n 2, 1) := by decide +kernel
theorem dX6_invert_5 : decode cX6_invert 5 = .ok (.aaload, 1) := by decide +kernel
theorem dX6_invert_6 : decode cX6_invert 6 = .ok (.astore_n 3, 1) := by decide +kernel
theorem dX6_invert_7 : decode cX6_invert 7 = .ok (.aload_n 0, 1) := by decide +kernel
theorem dX6_invert_8 : decode cX6_invert 8 = .ok (.aload_n 3, 1) := by decide +kernel
theorem dX6_invert_9 : decode cX6_invert 9 = .ok (.iload_n 1, 1) := by decide +kernel
theorem dX6_invert_10 : decode cX6_invert 10 = .ok (.invokevirtual 127, 3) := by decide +kernel
theorem dX6_invert_13 : decode cX6_invert 13 = .ok (.lconst 1, 1) := by decide +kernel
theorem dX6_invert_14 : decode cX6_invert 14 = .ok (.lstore 4, 2) := by decide +kernel
theorem dX6_invert_16 : decode cX6_invert 16 = .ok (.iconst 0, 1) := by decide +kernel
theorem dX6_invert_17 : decode cX6_invert 17 = .ok (.istore 6, 2) := by decide +kernel
theorem dX6_invert_19 : decode cX6_invert 19 = .ok (.iload 6, 2) := by decide +kernel
theorem dX6_invert_21 : decode cX6_invert 21 = .ok (.aload_n 0, 1) := by decide +kernel
theorem dX6_invert_22 : decode cX6_invert 22 = .ok (.getfield 26, 3) := by decide +kernel
theorem dX6_invert_25 : decode cX6_invert 25 = .ok (.getfield 58, 3) := by decide +kernel
theorem dX6_invert_28 : decode cX6_invert 28 = .ok (.if_icmp .ge 45, 3) := by decide +kernel
theorem dX6_invert_31 : decode cX6_invert 31 = .ok (.lload 4, 2) := by decide +kernel
theorem dX6_invert_33 : decode cX6_invert 33 = .ok (.lconst 0, 1) := by decide +kernel
theorem dX6_invert_34 : decode cX6_invert 34 = .ok (.lcmp, 1) := by decide +kernel
theorem dX6_invert_35 : decode cX6_invert 35 = .ok (.ifCond .eq 38, 3) := by decide +kernel
theorem dX6_invert_38 : decode cX6_invert 38 = .ok (.aload_n 3, 1) := by decide +kernel
theorem dX6_invert_39 : decode cX6_invert 39 = .ok (.iload 6, 2) := by decide +kernel
theorem dX6_invert_41 : decode cX6_invert 41 = .ok (.bipush 7, 2) := by decide +kernel
theorem dX6_invert_43 : decode cX6_invert 43 = .ok (.imul, 1) := by decide +kernel
theorem dX6_invert_44 : decode cX6_invert 44 = .ok (.laload, 1) := by decide +kernel
theorem dX6_invert_45 : decode cX6_invert 45 = .ok (.lstore 7, 2) := by decide +kernel
theorem dX6_invert_47 : decode cX6_invert 47 = .ok (.lload 7, 2) := by decide +kernel
theorem dX6_invert_49 : decode cX6_invert 49 = .ok (.lconst 0, 1) := by decide +kernel
theorem dX6_invert_50 : decode cX6_invert 50 = .ok (.lcmp, 1) := by decide +kernel
theorem dX6_invert_51 : decode cX6_invert 51 = .ok (.ifCond .eq 12, 3) := by decide +kernel
theorem dX6_invert_54 : decode cX6_invert 54 = .ok (.aload_n 0, 1) := by decide +kernel
theorem dX6_invert_55 : decode cX6_invert 55 = .ok (.aload_n 3, 1) := by decide +kernel
theorem dX6_invert_56 : decode cX6_invert 56 = .ok (.iload 6, 2) := by decide +kernel
theorem dX6_invert_58 : decode cX6_invert 58 = .ok (.lload 4, 2) := by decide +kernel
theorem dX6_invert_60 : decode cX6_invert 60 = .ok (.invokevirtual 131, 3) := by decide +kernel
theorem dX6_invert_63 : decode cX6_invert 63 = .ok (.lload 7, 2) := by decide +kernel
theorem dX6_invert_65 : decode cX6_invert 65 = .ok (.lstore 4, 2) := by decide +kernel
theorem dX6_invert_67 : decode cX6_invert 67 = .ok (.iinc 6 1, 3) := by decide +kernel
theorem dX6_invert_70 : decode cX6_invert 70 = .ok (.goto (-51), 3) := by decide +kernel
theorem dX6_invert_73 : decode cX6_invert 73 = .ok (.aload_n 0, 1) := by decide +kernel
theorem dX6_invert_74 : decode cX6_invert 74 = .ok (.getfield 48, 3) := by decide +kernel
theorem dX6_invert_77 : decode cX6_invert 77 = .ok (.iload_n 2, 1) := by decide +kernel
theorem dX6_invert_78 : decode cX6_invert 78 = .ok (.lload 4, 2) := by decide +kernel
theorem dX6_invert_80 : decode cX6_invert 80 = .ok (.lastore, 1) := by decide +kernel
theorem dX6_invert_81 : decode cX6_invert 81 = .ok (.aload_n 0, 1) := by decide +kernel
theorem dX6_invert_82 : decode cX6_invert 82 = .ok (.getfield 39, 3) := by decide +kernel
theorem dX6_invert_85 : decode cX6_invert 85 = .ok (.iload_n 2, 1) := by decide +kernel
theorem dX6_invert_86 : decode cX6_invert 86 = .ok (.iload_n 1, 1) := by decide +kernel
theorem dX6_invert_87 : decode cX6_invert 87 = .ok (.iastore, 1) := by decide +kernel
theorem dX6_invert_88 : decode cX6_invert 88 = .ok (.return_, 1) := by decide +kernel
theorem dX6_fillMatrix_0 : decode cX6_fillMatrix 0 = .ok (.aload_n 1, 1) := by decide +kernel
theorem dX6_fillMatrix_1 : decode cX6_fillMatrix 1 = .ok (.lconst 0, 1) := by decide +kernel
theorem dX6_fillMatrix_2 : decode cX6_fillMatrix 2 = .ok (.invokestatic 135, 3) := by decide +kernel
theorem dX6_fillMatrix_5 : decode cX6_fillMatrix 5 = .ok (.aload_n 0, 1) := by decide +kernel
theorem dX6_fillMatrix_6 : decode cX6_fillMatrix 6 = .ok (.getfield 26, 3) := by decide +kernel
theorem dX6_fillMatrix_9 : decode cX6_fillMatrix 9 = .ok (.getfield 138, 3) := by decide +kernel
theorem dX6_fillMatrix_12 : decode cX6_fillMatrix 12 = .ok (.astore_n 3, 1) := by decide +kernel
theorem dX6_fillMatrix_13 : decode cX6_fillMatrix 13 = .ok (.iconst 0, 1) := by decide +kernel
theorem dX6_fillMatrix_14 : decode cX6_fillMatrix 14 = .ok (.istore 4, 2) := by decide +kernel
theorem dX6_fillMatrix_16 : decode cX6_fillMatrix 16 = .ok (.iload 4, 2) := by decide +kernel
theorem dX6_fillMatrix_18 : decode cX6_fillMatrix 18 = .ok (.aload_n 3, 1) := by decide +kernel
theorem dX6_fillMatrix_19 : decode cX6_fillMatrix 19 = .ok (.getfield 142, 3) := by decide +kernel
theorem dX6_fillMatrix_22 : decode cX6_fillMatrix 22 = .ok (.if_icmp .ge 105, 3) := by decide +kernel
theorem dX6_fillMatrix_25 : decode cX6_fillMatrix 25 = .ok (.aload_n 3, 1) := by decide +kernel
theorem dX6_fillMatrix_26 : decode cX6_fillMatrix 26 = .ok (.getfield 145, 3) := by decide +kernel
theorem dX6_fillMatrix_29 : decode cX6_fillMatrix 29 = .ok (.iload 4, 2) := by decide +kernel
theorem dX6_fillMatrix_31 : decode cX6_fillMatrix 31 = .ok (.iaload, 1) := by decide +kernel
theorem dX6_fillMatrix_32 : decode cX6_fillMatrix 32 = .ok (.istore 5, 2) := by decide +kernel
theorem dX6_fillMatrix_34 : decode cX6_fillMatrix 34 = .ok (.aload_n 3, 1) := by decide +kernel
theorem dX6_fillMatrix_35 : decode cX6_fillMatrix 35 = .ok (.getfield 148, 3) := by decide +kernel
theorem dX6_fillMatrix_38 : decode cX6_fillMatrix 38 = .ok (.iload 4, 2) := by decide +kernel
theorem dX6_fillMatrix_40 : decode cX6_fillMatrix 40 = .ok (.iaload, 1) := by decide +kernel
theorem dX6_fillMatrix_41 : decode cX6_fillMatrix 41 = .ok (.istore 6, 2) := by decide +kernel
theorem dX6_fillMatrix_43 : decode cX6_fillMatrix 43 = .ok (.aload_n 1, 1) := by decide +kernel
theorem dX6_fillMatrix_44 : decode cX6_fillMatrix 44 = .ok (.iload 5, 2) := by decide +kernel
theorem dX6_fillMatrix_46 : decode cX6_fillMatrix 46 = .ok (.bipush 7, 2) := by decide +kernel
theorem dX6_fillMatrix_48 : decode cX6_fillMatrix 48 = .ok (.imul, 1) := by decide +kernel
theorem dX6_fillMatrix_49 : decode cX6_fillMatrix 49 = .ok (.dup2, 1) := by decide +kernel
theorem dX6_fillMatrix_50 : decode cX6_fillMatrix 50 = .ok (.laload, 1) := by decide +kernel
theorem dX6_fillMatrix_51 : decode cX6_fillMatrix 51 = .ok (.aload_n 3, 1) := by decide +kernel
theorem dX6_fillMatrix_52 : decode cX6_fillMatrix 52 = .ok (.getfield 151, 3) := by decide +kernel
theorem dX6_fillMatrix_55 : decode cX6_fillMatrix 55 = .ok (.iload 4, 2) := by decide +kernel
theorem dX6_fillMatrix_57 : decode cX6_fillMatrix 57 = .ok (.iaload, 1) := by decide +kernel
theorem dX6_fillMatrix_58 : decode cX6_fillMatrix 58 = .ok (.i2l, 1) := by decide +kernel
theorem dX6_fillMatrix_59 : decode cX6_fillMatrix 59 = .ok (.ladd, 1) := by decide +kernel
theorem dX6_fillMatrix_60 : decode cX6_fillMatrix 60 = .ok (.lastore, 1) := by decide +kernel
theorem dX6_fillMatrix_61 : decode cX6_fillMatrix 61 = .ok (.aload_n 1, 1) := by decide +kernel
theorem dX6_fillMatrix_62 : decode cX6_fillMatrix 62 = .ok (.iload 6, 2) := by decide +kernel
theorem dX6_fillMatrix_64 : decode cX6_fillMatrix 64 = .ok (.bipush 7, 2) := by decide +kernel
theorem dX6_fillMatrix_66 : decode cX6_fillMatrix 66 = .ok (.imul, 1) := by decide +kernel
theorem dX6_fillMatrix_67 : decode cX6_fillMatrix 67 = .ok (.dup2, 1) := by decide +kernel
theorem dX6_fillMatrix_68 : decode cX6_fillMatrix 68 = .ok (.laload, 1) := by decide +kernel
theorem dX6_fillMatrix_69 : decode cX6_fillMatrix 69 = .ok (.aload_n 3, 1) := by decide +kernel
theorem dX6_fillMatrix_70 : decode cX6_fillMatrix 70 = .ok (.getfield 151, 3) := by decide +kernel
theorem dX6_fillMatrix_73 : decode cX6_fillMatrix 73 = .ok (.iload 4, 2) := by decide +kernel
theorem dX6_fillMatrix_75 : decode cX6_fillMatrix 75 = .ok (.iaload, 1) := by decide +kernel
theorem dX6_fillMatrix_76 : decode cX6_fillMatrix 76 = .ok (.i2l, 1) := by decide +kernel
theorem dX6_fillMatrix_77 : decode cX6_fillMatrix 77 = .ok (.ladd, 1) := by decide +kernel
theorem dX6_fillMatrix_78 : decode cX6_fillMatrix 78 = .ok (.lastore, 1) := by decide +kernel
theorem dX6_fillMatrix_79 : decode cX6_fillMatrix 79 = .ok (.aload_n 1, 1) := by decide +kernel
theorem dX6_fillMatrix_80 : decode cX6_fillMatrix 80 = .ok (.iload 5, 2) := by decide +kernel
theorem dX6_fillMatrix_82 : decode cX6_fillMatrix 82 = .ok (.bipush 6, 2) := by decide +kernel
theorem dX6_fillMatrix_84 : decode cX6_fillMatrix 84 = .ok (.imul, 1) := by decide +kernel
theorem dX6_fillMatrix_85 : decode cX6_fillMatrix 85 = .ok (.iload 6, 2) := by decide +kernel
theorem dX6_fillMatrix_87 : decode cX6_fillMatrix 87 = .ok (.iadd, 1) := by decide +kernel
theorem dX6_fillMatrix_88 : decode cX6_fillMatrix 88 = .ok (.dup2, 1) := by decide +kernel
theorem dX6_fillMatrix_89 : decode cX6_fillMatrix 89 = .ok (.laload, 1) := by decide +kernel
theorem dX6_fillMatrix_90 : decode cX6_fillMatrix 90 = .ok (.aload_n 3, 1) := by decide +kernel
theorem dX6_fillMatrix_91 : decode cX6_fillMatrix 91 = .ok (.getfield 151, 3) := by decide +kernel
theorem dX6_fillMatrix_94 : decode cX6_fillMatrix 94 = .ok (.iload 4, 2) := by decide +kernel
theorem dX6_fillMatrix_96 : decode cX6_fillMatrix 96 = .ok (.iaload, 1) := by decide +kernel
theorem dX6_fillMatrix_97 : decode cX6_fillMatrix 97 = .ok (.i2l, 1) := by decide +kernel
theorem dX6_fillMatrix_98 : decode cX6_fillMatrix 98 = .ok (.lsub, 1) := by decide +kernel
theorem dX6_fillMatrix_99 : decode cX6_fillMatrix 99 = .ok (.lastore, 1) := by decide +kernel
theorem dX6_fillMatrix_100 : decode cX6_fillMatrix 100 = .ok (.aload_n 1, 1) := by decide +kernel
theorem dX6_fillMatrix_101 : decode cX6_fillMatrix 101 = .ok (.iload 6, 2) := by decide +kernel
theorem dX6_fillMatrix_103 : decode cX6_fillMatrix 103 = .ok (.bipush 6, 2) := by decide +kernel
theorem dX6_fillMatrix_105 : decode cX6_fillMatrix 105 = .ok (.imul, 1) := by decide +kernel
theorem dX6_fillMatrix_106 : decode cX6_fillMatrix 106 = .ok (.iload 5, 2) := by decide +kernel
theorem dX6_fillMatrix_108 : decode cX6_fillMatrix 108 = .ok (.iadd, 1) := by decide +kernel
theorem dX6_fillMatrix_109 : decode cX6_fillMatrix 109 = .ok (.dup2, 1) := by decide +kernel
theorem dX6_fillMatrix_110 : decode cX6_fillMatrix 110 = .ok (.laload, 1) := by decide +kernel
theorem dX6_fillMatrix_111 : decode cX6_fillMatrix 111 = .ok (.aload_n 3, 1) := by decide +kernel
theorem dX6_fillMatrix_112 : decode cX6_fillMatrix 112 = .ok (.getfield 151, 3) := by decide +kernel
theorem dX6_fillMatrix_115 : decode cX6_fillMatrix 115 = .ok (.iload 4, 2) := by decide +kernel
theorem dX6_fillMatrix_117 : decode cX6_fillMatrix 117 = .ok (.iaload, 1) := by decide +kernel
theorem dX6_fillMatrix_118 : decode cX6_fillMatrix 118 = .ok (.i2l, 1) := by decide +kernel
theorem dX6_fillMatrix_119 : decode cX6_fillMatrix 119 = .ok (.lsub, 1) := by decide +kernel
theorem dX6_fillMatrix_120 : decode cX6_fillMatrix 120 = .ok (.lastore, 1) := by decide +kernel
theorem dX6_fillMatrix_121 : decode cX6_fillMatrix 121 = .ok (.iinc 4 1, 3) := by decide +kernel
theorem dX6_fillMatrix_124 : decode cX6_fillMatrix 124 = .ok (.goto (-108), 3) := by decide +kernel
theorem dX6_fillMatrix_127 : decode cX6_fillMatrix 127 = .ok (.iconst 0, 1) := by decide +kernel
theorem dX6_fillMatrix_128 : decode cX6_fillMatrix 128 = .ok (.istore 4, 2) := by decide +kernel
theorem dX6_fillMatrix_130 : decode cX6_fillMatrix 130 = .ok (.iload 4, 2) := by decide +kernel
theorem dX6_fillMatrix_132 : decode cX6_fillMatrix 132 = .ok (.aload_n 0, 1) := by decide +kernel
theorem dX6_fillMatrix_133 : decode cX6_fillMatrix 133 = .ok (.getfield 26, 3) := by decide +kernel
theorem dX6_fillMatrix_136 : decode cX6_fillMatrix 136 = .ok (.getfield 79, 3) := by decide +kernel
theorem dX6_fillMatrix_139 : decode cX6_fillMatrix 139 = .ok (.getfield 83, 3) := by decide +kernel
theorem dX6_fillMatrix_142 : decode cX6_fillMatrix 142 = .ok (.if_icmp .ge 66, 3) := by decide +kernel
theorem dX6_fillMatrix_145 : decode cX6_fillMatrix 145 = .ok (.iload_n 2, 1) := by decide +kernel
theorem dX6_fillMatrix_146 : decode cX6_fillMatrix 146 = .ok (.iload 4, 2) := by decide +kernel
theorem dX6_fillMatrix_148 : decode cX6_fillMatrix 148 = .ok (.ishr, 1) := by decide +kernel
theorem dX6_fillMatrix_149 : decode cX6_fillMatrix 149 = .ok (.iconst 1, 1) := by decide +kernel
theorem dX6_fillMatrix_150 : decode cX6_fillMatrix 150 = .ok (.iand, 1) := by decide +kernel
theorem dX6_fillMatrix_151 : decode cX6_fillMatrix 151 = .ok (.iconst 1, 1) := by decide +kernel
theorem dX6_fillMatrix_152 : decode cX6_fillMatrix 152 = .ok (.if_icmp .ne 7, 3) := by decide +kernel
theorem dX6_fillMatrix_155 : decode cX6_fillMatrix 155 = .ok (.iconst 1, 1) := by decide +kernel
theorem dX6_fillMatrix_156 : decode cX6_fillMatrix 156 = .ok (.goto 4, 3) := by decide +kernel
theorem dX6_fillMatrix_159 : decode cX6_fillMatrix 159 = .ok (.iconst 0, 1) := by decide +kernel
theorem dX6_fillMatrix_160 : decode cX6_fillMatrix 160 = .ok (.istore 5, 2) := by decide +kernel
theorem dX6_fillMatrix_162 : decode cX6_fillMatrix 162 = .ok (.iload 5, 2) := by decide +kernel
theorem dX6_fillMatrix_164 : decode cX6_fillMatrix 164 = .ok (.ifCond .eq 38, 3) := by decide +kernel
theorem dX6_fillMatrix_167 : decode cX6_fillMatrix 167 = .ok (.aload_n 1, 1) := by decide +kernel
theorem dX6_fillMatrix_168 : decode cX6_fillMatrix 168 = .ok (.aload_n 0, 1) := by decide +kernel
theorem dX6_fillMatrix_169 : decode cX6_fillMatrix 169 = .ok (.getfield 26, 3) := by decide +kernel
theorem dX6_fillMatrix_172 : decode cX6_fillMatrix 172 = .ok (.getfield 79, 3) := by decide +kernel
theorem dX6_fillMatrix_175 : decode cX6_fillMatrix 175 = .ok (.getfield 88, 3) := by decide +kernel
theorem dX6_fillMatrix_178 : decode cX6_fillMatrix 178 = .ok (.iload 4, 2) := by decide +kernel
theorem dX6_fillMatrix_180 : decode cX6_fillMatrix 180 = .ok (.iaload, 1) := by decide +kernel
theorem dX6_fillMatrix_181 : decode cX6_fillMatrix 181 = .ok (.bipush 7, 2) := by decide +kernel
theorem dX6_fillMatrix_183 : decode cX6_fillMatrix 183 = .ok (.imul, 1) := by decide +kernel
theorem dX6_fillMatrix_184 : decode cX6_fillMatrix 184 = .ok (.dup2, 1) := by decide +kernel
theorem dX6_fillMatrix_185 : decode cX6_fillMatrix 185 = .ok (.laload, 1) := by decide +kernel
theorem dX6_fillMatrix_186 : decode cX6_fillMatrix 186 = .ok (.aload_n 0, 1) := by decide +kernel
theorem dX6_fillMatrix_187 : decode cX6_fillMatrix 187 = .ok (.getfield 26, 3) := by decide +kernel
theorem dX6_fillMatrix_190 : decode cX6_fillMatrix 190 = .ok (.getfield 79, 3) := by decide +kernel
theorem dX6_fillMatrix_193 : decode cX6_fillMatrix 193 = .ok (.getfield 115, 3) := by decide +kernel
theorem dX6_fillMatrix_196 : decode cX6_fillMatrix 196 = .ok (.iload 4, 2) := by decide +kernel
theorem dX6_fillMatrix_198 : decode cX6_fillMatrix 198 = .ok (.iaload, 1) := by decide +kernel
theorem dX6_fillMatrix_199 : decode cX6_fillMatrix 199 = .ok (.i2l, 1) := by decide +kernel
theorem dX6_fillMatrix_200 : decode cX6_fillMatrix 200 = .ok (.ladd, 1) := by decide +kernel
theorem dX6_fillMatrix_201 : decode cX6_fillMatrix 201 = .ok (.lastore, 1) := by decide +kernel
theorem dX6_fillMatrix_202 : decode cX6_fillMatrix 202 = .ok (.iinc 4 1, 3) := by decide +kernel
theorem dX6_fillMatrix_205 : decode cX6_fillMatrix 205 = .ok (.goto (-75), 3) := by decide +kernel
theorem dX6_fillMatrix_208 : decode cX6_fillMatrix 208 = .ok (.iconst 0, 1) := by decide +kernel
theorem dX6_fillMatrix_209 : decode cX6_fillMatrix 209 = .ok (.istore 4, 2) := by decide +kernel
theorem dX6_fillMatrix_211 : decode cX6_fillMatrix 211 = .ok (.iload 4, 2) := by decide +kernel
theorem dX6_fillMatrix_213 : decode cX6_fillMatrix 213 = .ok (.aload_n 0, 1) := by decide +kernel
theorem dX6_fillMatrix_214 : decode cX6_fillMatrix 214 = .ok (.getfield 26, 3) := by decide +kernel
theorem dX6_fillMatrix_217 : decode cX6_fillMatrix 217 = .ok (.getfield 98, 3) := by decide +kernel
theorem dX6_fillMatrix_220 : decode cX6_fillMatrix 220 = .ok (.getfield 102, 3) := by decide +kernel
theorem dX6_fillMatrix_223 : decode cX6_fillMatrix 223 = .ok (.if_icmp .ge 68, 3) := by decide +kernel
theorem dX6_fillMatrix_226 : decode cX6_fillMatrix 226 = .ok (.iload_n 2, 1) := by decide +kernel
theorem dX6_fillMatrix_227 : decode cX6_fillMatrix 227 = .ok (.iconst 3, 1) := by decide +kernel
theorem dX6_fillMatrix_228 : decode cX6_fillMatrix 228 = .ok (.iload 4, 2) := by decide +kernel
theorem dX6_fillMatrix_230 : decode cX6_fillMatrix 230 = .ok (.iadd, 1) := by decide +kernel
theorem dX6_fillMatrix_231 : decode cX6_fillMatrix 231 = .ok (.ishr, 1) := by decide +kernel
theorem dX6_fillMatrix_232 : decode cX6_fillMatrix 232 = .ok (.iconst 1, 1) := by decide +kernel
theorem dX6_fillMatrix_233 : decode cX6_fillMatrix 233 = .ok (.iand, 1) := by decide +kernel
theorem dX6_fillMatrix_234 : decode cX6_fillMatrix 234 = .ok (.iconst 1, 1) := by decide +kernel
theorem dX6_fillMatrix_235 : decode cX6_fillMatrix 235 = .ok (.if_icmp .ne 7, 3) := by decide +kernel
theorem dX6_fillMatrix_238 : decode cX6_fillMatrix 238 = .ok (.iconst 1, 1) := by decide +kernel
theorem dX6_fillMatrix_239 : decode cX6_fillMatrix 239 = .ok (.goto 4, 3) := by decide +kernel
theorem dX6_fillMatrix_242 : decode cX6_fillMatrix 242 = .ok (.iconst 0, 1) := by decide +kernel
theorem dX6_fillMatrix_243 : decode cX6_fillMatrix 243 = .ok (.istore 5, 2) := by decide +kernel
theorem dX6_fillMatrix_245 : decode cX6_fillMatrix 245 = .ok (.iload 5, 2) := by decide +kernel
theorem dX6_fillMatrix_247 : decode cX6_fillMatrix 247 = .ok (.ifCond .eq 38, 3) := by decide +kernel
theorem dX6_fillMatrix_250 : decode cX6_fillMatrix 250 = .ok (.aload_n 1, 1) := by decide +kernel
theorem dX6_fillMatrix_251 : decode cX6_fillMatrix 251 = .ok (.aload_n 0, 1) := by decide +kernel
theorem dX6_fillMatrix_252 : decode cX6_fillMatrix 252 = .ok (.getfield 26, 3) := by decide +kernel
theorem dX6_fillMatrix_255 : decode cX6_fillMatrix 255 = .ok (.getfield 98, 3) := by decide +kernel
theorem dX6_fillMatrix_258 : decode cX6_fillMatrix 258 = .ok (.getfield 105, 3) := by decide +kernel
theorem dX6_fillMatrix_261 : decode cX6_fillMatrix 261 = .ok (.iload 4, 2) := by decide +kernel
theorem dX6_fillMatrix_263 : decode cX6_fillMatrix 263 = .ok (.iaload, 1) := by decide +kernel
theorem dX6_fillMatrix_264 : decode cX6_fillMatrix 264 = .ok (.bipush 7, 2) := by decide +kernel
theorem dX6_fillMatrix_266 : decode cX6_fillMatrix 266 = .ok (.imul, 1) := by decide +kernel
theorem dX6_fillMatrix_267 : decode cX6_fillMatrix 267 = .ok (.dup2, 1) := by decide +kernel
theorem dX6_fillMatrix_268 : decode cX6_fillMatrix 268 = .ok (.laload, 1) := by decide +kernel
theorem dX6_fillMatrix_269 : decode cX6_fillMatrix 269 = .ok (.aload_n 0, 1) := by decide +kernel
theorem dX6_fillMatrix_270 : decode cX6_fillMatrix 270 = .ok (.getfield 26, 3) := by decide +kernel
theorem dX6_fillMatrix_273 : decode cX6_fillMatrix 273 = .ok (.getfield 98, 3) := by decide +kernel
theorem dX6_fillMatrix_276 : decode cX6_fillMatrix 276 = .ok (.getfield 118, 3) := by decide +kernel
theorem dX6_fillMatrix_279 : decode cX6_fillMatrix 279 = .ok (.iload 4, 2) := by decide +kernel
theorem dX6_fillMatrix_281 : decode cX6_fillMatrix 281 = .ok (.iaload, 1) := by decide +kernel
theorem dX6_fillMatrix_282 : decode cX6_fillMatrix 282 = .ok (.i2l, 1) := by decide +kernel
theorem dX6_fillMatrix_283 : decode cX6_fillMatrix 283 = .ok (.ladd, 1) := by decide +kernel
theorem dX6_fillMatrix_284 : decode cX6_fillMatrix 284 = .ok (.lastore, 1) := by decide +kernel
theorem dX6_fillMatrix_285 : decode cX6_fillMatrix 285 = .ok (.iinc 4 1, 3) := by decide +kernel
theorem dX6_fillMatrix_288 : decode cX6_fillMatrix 288 = .ok (.goto (-77), 3) := by decide +kernel
theorem dX6_fillMatrix_291 : decode cX6_fillMatrix 291 = .ok (.return_, 1) := by decide +kernel
theorem dX6_eliminate_0 : decode cX6_eliminate 0 = .ok (.lload_n 3, 1) := by decide +kernel
theorem dX6_eliminate_1 : decode cX6_eliminate 1 = .ok (.lconst 0, 1) := by decide +kernel
theorem dX6_eliminate_2 : decode cX6_eliminate 2 = .ok (.lcmp, 1) := by decide +kernel
theorem dX6_eliminate_3 : decode cX6_eliminate 3 = .ok (.ifCond .ne 4, 3) := by decide +kernel
theorem dX6_eliminate_6 : decode cX6_eliminate 6 = .ok (.return_, 1) := by decide +kernel
theorem dX6_eliminate_7 : decode cX6_eliminate 7 = .ok (.aload_n 0, 1) := by decide +kernel
theorem dX6_eliminate_8 : decode cX6_eliminate 8 = .ok (.getfield 26, 3) := by decide +kernel
theorem dX6_eliminate_11 : decode cX6_eliminate 11 = .ok (.getfield 58, 3) := by decide +kernel
theorem dX6_eliminate_14 : decode cX6_eliminate 14 = .ok (.istore 5, 2) := by decide +kernel
theorem dX6_eliminate_16 : decode cX6_eliminate 16 = .ok (.aload_n 1, 1) := by decide +kernel
theorem dX6_eliminate_17 : decode cX6_eliminate 17 = .ok (.iload_n 2, 1) := by decide +kernel
theorem dX6_eliminate_18 : decode cX6_eliminate 18 = .ok (.bipush 7, 2) := by decide +kernel
theorem dX6_eliminate_20 : decode cX6_eliminate 20 = .ok (.imul, 1) := by decide +kernel
theorem dX6_eliminate_21 : decode cX6_eliminate 21 = .ok (.laload, 1) := by decide +kernel
theorem dX6_eliminate_22 : decode cX6_eliminate 22 = .ok (.lstore 6, 2) := by decide +kernel
theorem dX6_eliminate_24 : decode cX6_eliminate 24 = .ok (.iconst 0, 1) := by decide +kernel
theorem dX6_eliminate_25 : decode cX6_eliminate 25 = .ok (.istore 8, 2) := by decide +kernel
theorem dX6_eliminate_27 : decode cX6_eliminate 27 = .ok (.iload 8, 2) := by decide +kernel
theorem dX6_eliminate_29 : decode cX6_eliminate 29 = .ok (.iload 5, 2) := by decide +kernel
theorem dX6_eliminate_31 : decode cX6_eliminate 31 = .ok (.if_icmp .ge 102, 3) := by decide +kernel
theorem dX6_eliminate_34 : decode cX6_eliminate 34 = .ok (.iload 8, 2) := by decide +kernel
theorem dX6_eliminate_36 : decode cX6_eliminate 36 = .ok (.iload_n 2, 1) := by decide +kernel
theorem dX6_eliminate_37 : decode cX6_eliminate 37 = .ok (.if_icmp .ne 6, 3) := by decide +kernel
theorem dX6_eliminate_40 : decode cX6_eliminate 40 = .ok (.goto 87, 3) := by decide +kernel
theorem dX6_eliminate_43 : decode cX6_eliminate 43 = .ok (.aload_n 1, 1) := by decide +kernel
theorem dX6_eliminate_44 : decode cX6_eliminate 44 = .ok (.iload 8, 2) := by decide +kernel
theorem dX6_eliminate_46 : decode cX6_eliminate 46 = .ok (.bipush 6, 2) := by decide +kernel
theorem dX6_eliminate_48 : decode cX6_eliminate 48 = .ok (.imul, 1) := by decide +kernel
theorem dX6_eliminate_49 : decode cX6_eliminate 49 = .ok (.iload_n 2, 1) := by decide +kernel
theorem dX6_eliminate_50 : decode cX6_eliminate 50 = .ok (.iadd, 1) := by decide +kernel
theorem dX6_eliminate_51 : decode cX6_eliminate 51 = .ok (.laload, 1) := by decide +kernel
theorem dX6_eliminate_52 : decode cX6_eliminate 52 = .ok (.lstore 9, 2) := by decide +kernel
theorem dX6_eliminate_54 : decode cX6_eliminate 54 = .ok (.iconst 0, 1) := by decide +kernel
theorem dX6_eliminate_55 : decode cX6_eliminate 55 = .ok (.istore 11, 2) := by decide +kernel
theorem dX6_eliminate_57 : decode cX6_eliminate 57 = .ok (.iload 11, 2) := by decide +kernel
theorem dX6_eliminate_59 : decode cX6_eliminate 59 = .ok (.iload 5, 2) := by decide +kernel
theorem dX6_eliminate_61 : decode cX6_eliminate 61 = .ok (.if_icmp .ge 54, 3) := by decide +kernel
theorem dX6_eliminate_64 : decode cX6_eliminate 64 = .ok (.iload 11, 2) := by decide +kernel
theorem dX6_eliminate_66 : decode cX6_eliminate 66 = .ok (.iload_n 2, 1) := by decide +kernel
theorem dX6_eliminate_67 : decode cX6_eliminate 67 = .ok (.if_icmp .ne 6, 3) := by decide +kernel
theorem dX6_eliminate_70 : decode cX6_eliminate 70 = .ok (.goto 39, 3) := by decide +kernel
theorem dX6_eliminate_73 : decode cX6_eliminate 73 = .ok (.iload 8, 2) := by decide +kernel
theorem dX6_eliminate_75 : decode cX6_eliminate 75 = .ok (.bipush 6, 2) := by decide +kernel
theorem dX6_eliminate_77 : decode cX6_eliminate 77 = .ok (.imul, 1) := by decide +kernel
theorem dX6_eliminate_78 : decode cX6_eliminate 78 = .ok (.iload 11, 2) := by decide +kernel
theorem dX6_eliminate_80 : decode cX6_eliminate 80 = .ok (.iadd, 1) := by decide +kernel
theorem dX6_eliminate_81 : decode cX6_eliminate 81 = .ok (.istore 12, 2) := by decide +kernel
theorem dX6_eliminate_83 : decode cX6_eliminate 83 = .ok (.aload_n 1, 1) := by decide +kernel
theorem dX6_eliminate_84 : decode cX6_eliminate 84 = .ok (.iload 12, 2) := by decide +kernel
theorem dX6_eliminate_86 : decode cX6_eliminate 86 = .ok (.lload 6, 2) := by decide +kernel
theorem dX6_eliminate_88 : decode cX6_eliminate 88 = .ok (.aload_n 1, 1) := by decide +kernel
theorem dX6_eliminate_89 : decode cX6_eliminate 89 = .ok (.iload 12, 2) := by decide +kernel
theorem dX6_eliminate_91 : decode cX6_eliminate 91 = .ok (.laload, 1) := by decide +kernel
theorem dX6_eliminate_92 : decode cX6_eliminate 92 = .ok (.lmul, 1) := by decide +kernel
theorem dX6_eliminate_93 : decode cX6_eliminate 93 = .ok (.lload 9, 2) := by decide +kernel
theorem dX6_eliminate_95 : decode cX6_eliminate 95 = .ok (.aload_n 1, 1) := by decide +kernel
theorem dX6_eliminate_96 : decode cX6_eliminate 96 = .ok (.iload_n 2, 1) := by decide +kernel
theorem dX6_eliminate_97 : decode cX6_eliminate 97 = .ok (.bipush 6, 2) := by decide +kernel
theorem dX6_eliminate_99 : decode cX6_eliminate 99 = .ok (.imul, 1) := by decide +kernel
theorem dX6_eliminate_100 : decode cX6_eliminate 100 = .ok (.iload 11, 2) := by decide +kernel
theorem dX6_eliminate_102 : decode cX6_eliminate 102 = .ok (.iadd, 1) := by decide +kernel
theorem dX6_eliminate_103 : decode cX6_eliminate 103 = .ok (.laload, 1) := by decide +kernel
theorem dX6_eliminate_104 : decode cX6_eliminate 104 = .ok (.lmul, 1) := by decide +kernel
theorem dX6_eliminate_105 : decode cX6_eliminate 105 = .ok (.lsub, 1) := by decide +kernel
theorem dX6_eliminate_106 : decode cX6_eliminate 106 = .ok (.lload_n 3, 1) := by decide +kernel
theorem dX6_eliminate_107 : decode cX6_eliminate 107 = .ok (.ldiv, 1) := by decide +kernel
theorem dX6_eliminate_108 : decode cX6_eliminate 108 = .ok (.lastore, 1) := by decide +kernel
theorem dX6_eliminate_109 : decode cX6_eliminate 109 = .ok (.iinc 11 1, 3) := by decide +kernel
theorem dX6_eliminate_112 : decode cX6_eliminate 112 = .ok (.goto (-55), 3) := by decide +kernel
theorem dX6_eliminate_115 : decode cX6_eliminate 115 = .ok (.aload_n 1, 1) := by decide +kernel
theorem dX6_eliminate_116 : decode cX6_eliminate 116 = .ok (.iload 8, 2) := by decide +kernel
theorem dX6_eliminate_118 : decode cX6_eliminate 118 = .ok (.bipush 6, 2) := by decide +kernel
theorem dX6_eliminate_120 : decode cX6_eliminate 120 = .ok (.imul, 1) := by decide +kernel
theorem dX6_eliminate_121 : decode cX6_eliminate 121 = .ok (.iload_n 2, 1) := by decide +kernel
theorem dX6_eliminate_122 : decode cX6_eliminate 122 = .ok (.iadd, 1) := by decide +kernel
theorem dX6_eliminate_123 : decode cX6_eliminate 123 = .ok (.lload 9, 2) := by decide +kernel
theorem dX6_eliminate_125 : decode cX6_eliminate 125 = .ok (.lneg, 1) := by decide +kernel
theorem dX6_eliminate_126 : decode cX6_eliminate 126 = .ok (.lastore, 1) := by decide +kernel
theorem dX6_eliminate_127 : decode cX6_eliminate 127 = .ok (.iinc 8 1, 3) := by decide +kernel
theorem dX6_eliminate_130 : decode cX6_eliminate 130 = .ok (.goto (-103), 3) := by decide +kernel
theorem dX6_eliminate_133 : decode cX6_eliminate 133 = .ok (.aload_n 1, 1) := by decide +kernel
theorem dX6_eliminate_134 : decode cX6_eliminate 134 = .ok (.iload_n 2, 1) := by decide +kernel
theorem dX6_eliminate_135 : decode cX6_eliminate 135 = .ok (.bipush 7, 2) := by decide +kernel
theorem dX6_eliminate_137 : decode cX6_eliminate 137 = .ok (.imul, 1) := by decide +kernel
theorem dX6_eliminate_138 : decode cX6_eliminate 138 = .ok (.lload_n 3, 1) := by decide +kernel
theorem dX6_eliminate_139 : decode cX6_eliminate 139 = .ok (.lastore, 1) := by decide +kernel
theorem dX6_eliminate_140 : decode cX6_eliminate 140 = .ok (.return_, 1) := by decide +kernel
theorem dX6_linkTop_0 : decode cX6_linkTop 0 = .ok (.aload_n 0, 1) := by decide +kernel
theorem dX6_linkTop_1 : decode cX6_linkTop 1 = .ok (.getfield 26, 3) := by decide +kernel
theorem dX6_linkTop_4 : decode cX6_linkTop 4 = .ok (.getfield 138, 3) := by decide +kernel
theorem dX6_linkTop_7 : decode cX6_linkTop 7 = .ok (.getfield 151, 3) := by decide +kernel
theorem dX6_linkTop_10 : decode cX6_linkTop 10 = .ok (.iload_n 1, 1) := by decide +kernel
theorem dX6_linkTop_11 : decode cX6_linkTop 11 = .ok (.iaload, 1) := by decide +kernel
theorem dX6_linkTop_12 : decode cX6_linkTop 12 = .ok (.i2l, 1) := by decide +kernel
theorem dX6_linkTop_13 : decode cX6_linkTop 13 = .ok (.aload_n 0, 1) := by decide +kernel
theorem dX6_linkTop_14 : decode cX6_linkTop 14 = .ok (.getfield 15, 3) := by decide +kernel
theorem dX6_linkTop_17 : decode cX6_linkTop 17 = .ok (.aload_n 0, 1) := by decide +kernel
theorem dX6_linkTop_18 : decode cX6_linkTop 18 = .ok (.getfield 26, 3) := by decide +kernel
theorem dX6_linkTop_21 : decode cX6_linkTop 21 = .ok (.getfield 138, 3) := by decide +kernel
theorem dX6_linkTop_24 : decode cX6_linkTop 24 = .ok (.getfield 145, 3) := by decide +kernel
theorem dX6_linkTop_27 : decode cX6_linkTop 27 = .ok (.iload_n 1, 1) := by decide +kernel
theorem dX6_linkTop_28 : decode cX6_linkTop 28 = .ok (.iaload, 1) := by decide +kernel
theorem dX6_linkTop_29 : decode cX6_linkTop 29 = .ok (.laload, 1) := by decide +kernel
theorem dX6_linkTop_30 : decode cX6_linkTop 30 = .ok (.aload_n 0, 1) := by decide +kernel
theorem dX6_linkTop_31 : decode cX6_linkTop 31 = .ok (.getfield 15, 3) := by decide +kernel
theorem dX6_linkTop_34 : decode cX6_linkTop 34 = .ok (.aload_n 0, 1) := by decide +kernel
theorem dX6_linkTop_35 : decode cX6_linkTop 35 = .ok (.getfield 26, 3) := by decide +kernel
theorem dX6_linkTop_38 : decode cX6_linkTop 38 = .ok (.getfield 138, 3) := by decide +kernel
theorem dX6_linkTop_41 : decode cX6_linkTop 41 = .ok (.getfield 148, 3) := by decide +kernel
theorem dX6_linkTop_44 : decode cX6_linkTop 44 = .ok (.iload_n 1, 1) := by decide +kernel
theorem dX6_linkTop_45 : decode cX6_linkTop 45 = .ok (.iaload, 1) := by decide +kernel
theorem dX6_linkTop_46 : decode cX6_linkTop 46 = .ok (.laload, 1) := by decide +kernel
theorem dX6_linkTop_47 : decode cX6_linkTop 47 = .ok (.lsub, 1) := by decide +kernel
theorem dX6_linkTop_48 : decode cX6_linkTop 48 = .ok (.lmul, 1) := by decide +kernel
theorem dX6_linkTop_49 : decode cX6_linkTop 49 = .ok (.lreturn, 1) := by decide +kernel
theorem dX6_riverTop_0 : decode cX6_riverTop 0 = .ok (.aload_n 0, 1) := by decide +kernel
theorem dX6_riverTop_1 : decode cX6_riverTop 1 = .ok (.getfield 26, 3) := by decide +kernel
theorem dX6_riverTop_4 : decode cX6_riverTop 4 = .ok (.getfield 79, 3) := by decide +kernel
theorem dX6_riverTop_7 : decode cX6_riverTop 7 = .ok (.astore_n 2, 1) := by decide +kernel
theorem dX6_riverTop_8 : decode cX6_riverTop 8 = .ok (.aload_n 0, 1) := by decide +kernel
theorem dX6_riverTop_9 : decode cX6_riverTop 9 = .ok (.getfield 22, 3) := by decide +kernel
theorem dX6_riverTop_12 : decode cX6_riverTop 12 = .ok (.iload_n 1, 1) := by decide +kernel
theorem dX6_riverTop_13 : decode cX6_riverTop 13 = .ok (.ishr, 1) := by decide +kernel
theorem dX6_riverTop_14 : decode cX6_riverTop 14 = .ok (.iconst 1, 1) := by decide +kernel
theorem dX6_riverTop_15 : decode cX6_riverTop 15 = .ok (.iand, 1) := by decide +kernel
theorem dX6_riverTop_16 : decode cX6_riverTop 16 = .ok (.iconst 1, 1) := by decide +kernel
theorem dX6_riverTop_17 : decode cX6_riverTop 17 = .ok (.if_icmp .ne 7, 3) := by decide +kernel
theorem dX6_riverTop_20 : decode cX6_riverTop 20 = .ok (.iconst 1, 1) := by decide +kernel
theorem dX6_riverTop_21 : decode cX6_riverTop 21 = .ok (.goto 4, 3) := by decide +kernel
theorem dX6_riverTop_24 : decode cX6_riverTop 24 = .ok (.iconst 0, 1) := by decide +kernel
theorem dX6_riverTop_25 : decode cX6_riverTop 25 = .ok (.istore_n 3, 1) := by decide +kernel
theorem dX6_riverTop_26 : decode cX6_riverTop 26 = .ok (.iload_n 3, 1) := by decide +kernel
theorem dX6_riverTop_27 : decode cX6_riverTop 27 = .ok (.ifCond .eq 17, 3) := by decide +kernel
theorem dX6_riverTop_30 : decode cX6_riverTop 30 = .ok (.aload_n 0, 1) := by decide +kernel
theorem dX6_riverTop_31 : decode cX6_riverTop 31 = .ok (.getfield 15, 3) := by decide +kernel
theorem dX6_riverTop_34 : decode cX6_riverTop 34 = .ok (.aload_n 2, 1) := by decide +kernel
theorem dX6_riverTop_35 : decode cX6_riverTop 35 = .ok (.getfield 88, 3) := by decide +kernel
theorem dX6_riverTop_38 : decode cX6_riverTop 38 = .ok (.iload_n 1, 1) := by decide +kernel
theorem dX6_riverTop_39 : decode cX6_riverTop 39 = .ok (.iaload, 1) := by decide +kernel
theorem dX6_riverTop_40 : decode cX6_riverTop 40 = .ok (.laload, 1) := by decide +kernel
theorem dX6_riverTop_41 : decode cX6_riverTop 41 = .ok (.goto 15, 3) := by decide +kernel
theorem dX6_riverTop_44 : decode cX6_riverTop 44 = .ok (.aload_n 2, 1) := by decide +kernel
theorem dX6_riverTop_45 : decode cX6_riverTop 45 = .ok (.getfield 95, 3) := by decide +kernel
theorem dX6_riverTop_48 : decode cX6_riverTop 48 = .ok (.iload_n 1, 1) := by decide +kernel
theorem dX6_riverTop_49 : decode cX6_riverTop 49 = .ok (.iaload, 1) := by decide +kernel
theorem dX6_riverTop_50 : decode cX6_riverTop 50 = .ok (.i2l, 1) := by decide +kernel
theorem dX6_riverTop_51 : decode cX6_riverTop 51 = .ok (.aload_n 0, 1) := by decide +kernel
theorem dX6_riverTop_52 : decode cX6_riverTop 52 = .ok (.getfield 18, 3) := by decide +kernel
theorem dX6_riverTop_55 : decode cX6_riverTop 55 = .ok (.lmul, 1) := by decide +kernel
theorem dX6_riverTop_56 : decode cX6_riverTop 56 = .ok (.lstore 4, 2) := by decide +kernel
theorem dX6_riverTop_58 : decode cX6_riverTop 58 = .ok (.aload_n 2, 1) := by decide +kernel
theorem dX6_riverTop_59 : decode cX6_riverTop 59 = .ok (.getfield 115, 3) := by decide +kernel
theorem dX6_riverTop_62 : decode cX6_riverTop 62 = .ok (.iload_n 1, 1) := by decide +kernel
theorem dX6_riverTop_63 : decode cX6_riverTop 63 = .ok (.iaload, 1) := by decide +kernel
theorem dX6_riverTop_64 : decode cX6_riverTop 64 = .ok (.i2l, 1) := by decide +kernel
theorem dX6_riverTop_65 : decode cX6_riverTop 65 = .ok (.aload_n 2, 1) := by decide +kernel
theorem dX6_riverTop_66 : decode cX6_riverTop 66 = .ok (.getfield 112, 3) := by decide +kernel
theorem dX6_riverTop_69 : decode cX6_riverTop 69 = .ok (.iload_n 1, 1) := by decide +kernel
theorem dX6_riverTop_70 : decode cX6_riverTop 70 = .ok (.iaload, 1) := by decide +kernel
theorem dX6_riverTop_71 : decode cX6_riverTop 71 = .ok (.i2l, 1) := by decide +kernel
theorem dX6_riverTop_72 : decode cX6_riverTop 72 = .ok (.aload_n 0, 1) := by decide +kernel
theorem dX6_riverTop_73 : decode cX6_riverTop 73 = .ok (.getfield 18, 3) := by decide +kernel
theorem dX6_riverTop_76 : decode cX6_riverTop 76 = .ok (.lmul, 1) := by decide +kernel
theorem dX6_riverTop_77 : decode cX6_riverTop 77 = .ok (.lload 4, 2) := by decide +kernel
theorem dX6_riverTop_79 : decode cX6_riverTop 79 = .ok (.lsub, 1) := by decide +kernel
theorem dX6_riverTop_80 : decode cX6_riverTop 80 = .ok (.lmul, 1) := by decide +kernel
theorem dX6_riverTop_81 : decode cX6_riverTop 81 = .ok (.lreturn, 1) := by decide +kernel
theorem dX6_drainTop_0 : decode cX6_drainTop 0 = .ok (.aload_n 0, 1) := by decide +kernel
theorem dX6_drainTop_1 : decode cX6_drainTop 1 = .ok (.getfield 22, 3) := by decide +kernel
theorem dX6_drainTop_4 : decode cX6_drainTop 4 = .ok (.iconst 3, 1) := by decide +kernel
theorem dX6_drainTop_5 : decode cX6_drainTop 5 = .ok (.iload_n 1, 1) := by decide +kernel
theorem dX6_drainTop_6 : decode cX6_drainTop 6 = .ok (.iadd, 1) := by decide +kernel
theorem dX6_drainTop_7 : decode cX6_drainTop 7 = .ok (.ishr, 1) := by decide +kernel
theorem dX6_drainTop_8 : decode cX6_drainTop 8 = .ok (.iconst 1, 1) := by decide +kernel
theorem dX6_drainTop_9 : decode cX6_drainTop 9 = .ok (.iand, 1) := by decide +kernel
theorem dX6_drainTop_10 : decode cX6_drainTop 10 = .ok (.iconst 1, 1) := by decide +kernel
theorem dX6_drainTop_11 : decode cX6_drainTop 11 = .ok (.if_icmp .ne 7, 3) := by decide +kernel
theorem dX6_drainTop_14 : decode cX6_drainTop 14 = .ok (.iconst 1, 1) := by decide +kernel
theorem dX6_drainTop_15 : decode cX6_drainTop 15 = .ok (.goto 4, 3) := by decide +kernel
theorem dX6_drainTop_18 : decode cX6_drainTop 18 = .ok (.iconst 0, 1) := by decide +kernel
theorem dX6_drainTop_19 : decode cX6_drainTop 19 = .ok (.istore_n 2, 1) := by decide +kernel
theorem dX6_drainTop_20 : decode cX6_drainTop 20 = .ok (.iload_n 2, 1) := by decide +kernel
theorem dX6_drainTop_21 : decode cX6_drainTop 21 = .ok (.ifCond .ne 5, 3) := by decide +kernel
theorem dX6_drainTop_24 : decode cX6_drainTop 24 = .ok (.lconst 0, 1) := by decide +kernel
theorem dX6_drainTop_25 : decode cX6_drainTop 25 = .ok (.lreturn, 1) := by decide +kernel
theorem dX6_drainTop_26 : decode cX6_drainTop 26 = .ok (.aload_n 0, 1) := by decide +kernel
theorem dX6_drainTop_27 : decode cX6_drainTop 27 = .ok (.getfield 26, 3) := by decide +kernel
theorem dX6_drainTop_30 : decode cX6_drainTop 30 = .ok (.getfield 98, 3) := by decide +kernel
theorem dX6_drainTop_33 : decode cX6_drainTop 33 = .ok (.getfield 118, 3) := by decide +kernel
theorem dX6_drainTop_36 : decode cX6_drainTop 36 = .ok (.iload_n 1, 1) := by decide +kernel
theorem dX6_drainTop_37 : decode cX6_drainTop 37 = .ok (.iaload, 1) := by decide +kernel
theorem dX6_drainTop_38 : decode cX6_drainTop 38 = .ok (.i2l, 1) := by decide +kernel
theorem dX6_drainTop_39 : decode cX6_drainTop 39 = .ok (.aload_n 0, 1) := by decide +kernel
theorem dX6_drainTop_40 : decode cX6_drainTop 40 = .ok (.getfield 15, 3) := by decide +kernel
theorem dX6_drainTop_43 : decode cX6_drainTop 43 = .ok (.aload_n 0, 1) := by decide +kernel
theorem dX6_drainTop_44 : decode cX6_drainTop 44 = .ok (.getfield 26, 3) := by decide +kernel
theorem dX6_drainTop_47 : decode cX6_drainTop 47 = .ok (.getfield 98, 3) := by decide +kernel
theorem dX6_drainTop_50 : decode cX6_drainTop 50 = .ok (.getfield 105, 3) := by decide +kernel
theorem dX6_drainTop_53 : decode cX6_drainTop 53 = .ok (.iload_n 1, 1) := by decide +kernel
theorem dX6_drainTop_54 : decode cX6_drainTop 54 = .ok (.iaload, 1) := by decide +kernel
theorem dX6_drainTop_55 : decode cX6_drainTop 55 = .ok (.laload, 1) := by decide +kernel
theorem dX6_drainTop_56 : decode cX6_drainTop 56 = .ok (.aload_n 0, 1) := by decide +kernel
theorem dX6_drainTop_57 : decode cX6_drainTop 57 = .ok (.getfield 26, 3) := by decide +kernel
theorem dX6_drainTop_60 : decode cX6_drainTop 60 = .ok (.getfield 98, 3) := by decide +kernel
theorem dX6_drainTop_63 : decode cX6_drainTop 63 = .ok (.getfield 106, 3) := by decide +kernel
theorem dX6_drainTop_66 : decode cX6_drainTop 66 = .ok (.iload_n 1, 1) := by decide +kernel
theorem dX6_drainTop_67 : decode cX6_drainTop 67 = .ok (.iaload, 1) := by decide +kernel
theorem dX6_drainTop_68 : decode cX6_drainTop 68 = .ok (.i2l, 1) := by decide +kernel
theorem dX6_drainTop_69 : decode cX6_drainTop 69 = .ok (.aload_n 0, 1) := by decide +kernel
theorem dX6_drainTop_70 : decode cX6_drainTop 70 = .ok (.getfield 18, 3) := by decide +kernel
theorem dX6_drainTop_73 : decode cX6_drainTop 73 = .ok (.lmul, 1) := by decide +kernel
theorem dX6_drainTop_74 : decode cX6_drainTop 74 = .ok (.lsub, 1) := by decide +kernel
theorem dX6_drainTop_75 : decode cX6_drainTop 75 = .ok (.lmul, 1) := by decide +kernel
theorem dX6_drainTop_76 : decode cX6_drainTop 76 = .ok (.lreturn, 1) := by decide +kernel
theorem dX6_throughTop_0 : decode cX6_throughTop 0 = .ok (.lconst 0, 1) := by decide +kernel
theorem dX6_throughTop_1 : decode cX6_throughTop 1 = .ok (.lstore_n 1, 1) := by decide +kernel
theorem dX6_throughTop_2 : decode cX6_throughTop 2 = .ok (.iconst 0, 1) := by decide +kernel
theorem dX6_throughTop_3 : decode cX6_throughTop 3 = .ok (.istore_n 3, 1) := by decide +kernel
theorem dX6_throughTop_4 : decode cX6_throughTop 4 = .ok (.iload_n 3, 1) := by decide +kernel
theorem dX6_throughTop_5 : decode cX6_throughTop 5 = .ok (.aload_n 0, 1) := by decide +kernel
theorem dX6_throughTop_6 : decode cX6_throughTop 6 = .ok (.getfield 26, 3) := by decide +kernel
theorem dX6_throughTop_9 : decode cX6_throughTop 9 = .ok (.getfield 79, 3) := by decide +kernel
theorem dX6_throughTop_12 : decode cX6_throughTop 12 = .ok (.getfield 83, 3) := by decide +kernel
theorem dX6_throughTop_15 : decode cX6_throughTop 15 = .ok (.if_icmp .ge 21, 3) := by decide +kernel
theorem dX6_throughTop_18 : decode cX6_throughTop 18 = .ok (.lload_n 1, 1) := by decide +kernel
theorem dX6_throughTop_19 : decode cX6_throughTop 19 = .ok (.lconst 0, 1) := by decide +kernel
theorem dX6_throughTop_20 : decode cX6_throughTop 20 = .ok (.aload_n 0, 1) := by decide +kernel
theorem dX6_throughTop_21 : decode cX6_throughTop 21 = .ok (.iload_n 3, 1) := by decide +kernel
theorem dX6_throughTop_22 : decode cX6_throughTop 22 = .ok (.invokevirtual 152, 3) := by decide +kernel
theorem dX6_throughTop_25 : decode cX6_throughTop 25 = .ok (.invokestatic 156, 3) := by decide +kernel
theorem dX6_throughTop_28 : decode cX6_throughTop 28 = .ok (.ladd, 1) := by decide +kernel
theorem dX6_throughTop_29 : decode cX6_throughTop 29 = .ok (.lstore_n 1, 1) := by decide +kernel
theorem dX6_throughTop_30 : decode cX6_throughTop 30 = .ok (.iinc 3 1, 3) := by decide +kernel
theorem dX6_throughTop_33 : decode cX6_throughTop 33 = .ok (.goto (-29), 3) := by decide +kernel
theorem dX6_throughTop_36 : decode cX6_throughTop 36 = .ok (.iconst 0, 1) := by decide +kernel
theorem dX6_throughTop_37 : decode cX6_throughTop 37 = .ok (.istore_n 3, 1) := by decide +kernel
theorem dX6_throughTop_38 : decode cX6_throughTop 38 = .ok (.iload_n 3, 1) := by decide +kernel
theorem dX6_throughTop_39 : decode cX6_throughTop 39 = .ok (.aload_n 0, 1) := by decide +kernel
theorem dX6_throughTop_40 : decode cX6_throughTop 40 = .ok (.getfield 26, 3) := by decide +kernel
theorem dX6_throughTop_43 : decode cX6_throughTop 43 = .ok (.getfield 58, 3) := by decide +kernel
theorem dX6_throughTop_46 : decode cX6_throughTop 46 = .ok (.if_icmp .ge 27, 3) := by decide +kernel
theorem dX6_throughTop_49 : decode cX6_throughTop 49 = .ok (.lload_n 1, 1) := by decide +kernel
theorem dX6_throughTop_50 : decode cX6_throughTop 50 = .ok (.aload_n 0, 1) := by decide +kernel
theorem dX6_throughTop_51 : decode cX6_throughTop 51 = .ok (.getfield 26, 3) := by decide +kernel
theorem dX6_throughTop_54 : decode cX6_throughTop 54 = .ok (.getfield 109, 3) := by decide +kernel
theorem dX6_throughTop_57 : decode cX6_throughTop 57 = .ok (.iload_n 3, 1) := by decide +kernel
theorem dX6_throughTop_58 : decode cX6_throughTop 58 = .ok (.iaload, 1) := by decide +kernel
theorem dX6_throughTop_59 : decode cX6_throughTop 59 = .ok (.i2l, 1) := by decide +kernel
theorem dX6_throughTop_60 : decode cX6_throughTop 60 = .ok (.aload_n 0, 1) := by decide +kernel
theorem dX6_throughTop_61 : decode cX6_throughTop 61 = .ok (.getfield 18, 3) := by decide +kernel
theorem dX6_throughTop_64 : decode cX6_throughTop 64 = .ok (.lmul, 1) := by decide +kernel
theorem dX6_throughTop_65 : decode cX6_throughTop 65 = .ok (.ladd, 1) := by decide +kernel
theorem dX6_throughTop_66 : decode cX6_throughTop 66 = .ok (.lstore_n 1, 1) := by decide +kernel
theorem dX6_throughTop_67 : decode cX6_throughTop 67 = .ok (.iinc 3 1, 3) := by decide +kernel
theorem dX6_throughTop_70 : decode cX6_throughTop 70 = .ok (.goto (-32), 3) := by decide +kernel
theorem dX6_throughTop_73 : decode cX6_throughTop 73 = .ok (.lload_n 1, 1) := by decide +kernel
theorem dX6_throughTop_74 : decode cX6_throughTop 74 = .ok (.lreturn, 1) := by decide +kernel
theorem dX6_isDry_0 : decode cX6_isDry 0 = .ok (.aload_n 0, 1) := by decide +kernel
theorem dX6_isDry_1 : decode cX6_isDry 1 = .ok (.getfield 15, 3) := by decide +kernel
theorem dX6_isDry_4 : decode cX6_isDry 4 = .ok (.iload_n 1, 1) := by decide +kernel
theorem dX6_isDry_5 : decode cX6_isDry 5 = .ok (.laload, 1) := by decide +kernel
theorem dX6_isDry_6 : decode cX6_isDry 6 = .ok (.aload_n 0, 1) := by decide +kernel
theorem dX6_isDry_7 : decode cX6_isDry 7 = .ok (.getfield 26, 3) := by decide +kernel
theorem dX6_isDry_10 : decode cX6_isDry 10 = .ok (.getfield 159, 3) := by decide +kernel
theorem dX6_isDry_13 : decode cX6_isDry 13 = .ok (.iload_n 1, 1) := by decide +kernel
theorem dX6_isDry_14 : decode cX6_isDry 14 = .ok (.iaload, 1) := by decide +kernel
theorem dX6_isDry_15 : decode cX6_isDry 15 = .ok (.i2l, 1) := by decide +kernel
theorem dX6_isDry_16 : decode cX6_isDry 16 = .ok (.aload_n 0, 1) := by decide +kernel
theorem dX6_isDry_17 : decode cX6_isDry 17 = .ok (.getfield 18, 3) := by decide +kernel
theorem dX6_isDry_20 : decode cX6_isDry 20 = .ok (.lmul, 1) := by decide +kernel
theorem dX6_isDry_21 : decode cX6_isDry 21 = .ok (.lcmp, 1) := by decide +kernel
theorem dX6_isDry_22 : decode cX6_isDry 22 = .ok (.ifCond .ge 7, 3) := by decide +kernel
theorem dX6_isDry_25 : decode cX6_isDry 25 = .ok (.iconst 1, 1) := by decide +kernel
theorem dX6_isDry_26 : decode cX6_isDry 26 = .ok (.goto 4, 3) := by decide +kernel
theorem dX6_isDry_29 : decode cX6_isDry 29 = .ok (.iconst 0, 1) := by decide +kernel
theorem dX6_isDry_30 : decode cX6_isDry 30 = .ok (.ireturn, 1) := by decide +kernel
theorem dX6_headMilli_0 : decode cX6_headMilli 0 = .ok (.aload_n 0, 1) := by decide +kernel
theorem dX6_headMilli_1 : decode cX6_headMilli 1 = .ok (.getfield 15, 3) := by decide +kernel
theorem dX6_headMilli_4 : decode cX6_headMilli 4 = .ok (.iload_n 1, 1) := by decide +kernel
theorem dX6_headMilli_5 : decode cX6_headMilli 5 = .ok (.laload, 1) := by decide +kernel
theorem dX6_headMilli_6 : decode cX6_headMilli 6 = .ok (.aload_n 0, 1) := by decide +kernel
theorem dX6_headMilli_7 : decode cX6_headMilli 7 = .ok (.getfield 18, 3) := by decide +kernel
theorem dX6_headMilli_10 : decode cX6_headMilli 10 = .ok (.invokestatic 162, 3) := by decide +kernel
theorem dX6_headMilli_13 : decode cX6_headMilli 13 = .ok (.ireturn, 1) := by decide +kernel
theorem dX7_init_0 : decode cX7_init 0 = .ok (.aload_n 0, 1) := by decide +kernel
theorem dX7_init_1 : decode cX7_init 1 = .ok (.invokespecial 3, 3) := by decide +kernel
theorem dX7_init_4 : decode cX7_init 4 = .ok (.aload_n 0, 1) := by decide +kernel
theorem dX7_init_5 : decode cX7_init 5 = .ok (.iconst 0, 1) := by decide +kernel
theorem dX7_init_6 : decode cX7_init 6 = .ok (.putfield 9, 3) := by decide +kernel
theorem dX7_init_9 : decode cX7_init 9 = .ok (.aload_n 0, 1) := by decide +kernel
theorem dX7_init_10 : decode cX7_init 10 = .ok (.iconst 3, 1) := by decide +kernel
theorem dX7_init_11 : decode cX7_init 11 = .ok (.newarray .int, 2) := by decide +kernel
theorem dX7_init_13 : decode cX7_init 13 = .ok (.putfield 15, 3) := by decide +kernel
theorem dX7_init_16 : decode cX7_init 16 = .ok (.aload_n 0, 1) := by decide +kernel
theorem dX7_init_17 : decode cX7_init 17 = .ok (.iconst 3, 1) := by decide +kernel
theorem dX7_init_18 : decode cX7_init 18 = .ok (.newarray .int, 2) := by decide +kernel
theorem dX7_init_20 : decode cX7_init 20 = .ok (.putfield 19, 3) := by decide +kernel
theorem dX7_init_23 : decode cX7_init 23 = .ok (.aload_n 0, 1) := by decide +kernel
theorem dX7_init_24 : decode cX7_init 24 = .ok (.iconst 3, 1) := by decide +kernel
theorem dX7_init_25 : decode cX7_init 25 = .ok (.newarray .int, 2) := by decide +kernel
theorem dX7_init_27 : decode cX7_init 27 = .ok (.putfield 22, 3) := by decide +kernel
theorem dX7_init_30 : decode cX7_init 30 = .ok (.aload_n 0, 1) := by decide +kernel
theorem dX7_init_31 : decode cX7_init 31 = .ok (.iconst 3, 1) := by decide +kernel
theorem dX7_init_32 : decode cX7_init 32 = .ok (.newarray .int, 2) := by decide +kernel
theorem dX7_init_34 : decode cX7_init 34 = .ok (.putfield 25, 3) := by decide +kernel
theorem dX7_init_37 : decode cX7_init 37 = .ok (.return_, 1) := by decide +kernel
theorem dX7_has_0 : decode cX7_has 0 = .ok (.iload_n 1, 1) := by decide +kernel
theorem dX7_has_1 : decode cX7_has 1 = .ok (.ifCond .lt 15, 3) := by decide +kernel
theorem dX7_has_4 : decode cX7_has 4 = .ok (.iload_n 1, 1) := by decide +kernel
theorem dX7_has_5 : decode cX7_has 5 = .ok (.aload_n 0, 1) := by decide +kernel
theorem dX7_has_6 : decode cX7_has 6 = .ok (.getfield 9, 3) := by decide +kernel
theorem dX7_has_9 : decode cX7_has 9 = .ok (.if_icmp .ge 7, 3) := by decide +kernel
theorem dX7_has_12 : decode cX7_has 12 = .ok (.iconst 1, 1) := by decide +kernel
theorem dX7_has_13 : decode cX7_has 13 = .ok (.goto 4, 3) := by decide +kernel
theorem dX7_has_16 : decode cX7_has 16 = .ok (.iconst 0, 1) := by decide +kernel
theorem dX7_has_17 : decode cX7_has 17 = .ok (.ireturn, 1) := by decide +kernel
theorem dX7_add_0 : decode cX7_add 0 = .ok (.aload_n 0, 1) := by decide +kernel
theorem dX7_add_1 : decode cX7_add 1 = .ok (.getfield 15, 3) := by decide +kernel
theorem dX7_add_4 : decode cX7_add 4 = .ok (.aload_n 0, 1) := by decide +kernel
theorem dX7_add_5 : decode cX7_add 5 = .ok (.getfield 9, 3) := by decide +kernel
theorem dX7_add_8 : decode cX7_add 8 = .ok (.iload_n 1, 1) := by decide +kernel
theorem dX7_add_9 : decode cX7_add 9 = .ok (.iastore, 1) := by decide +kernel
theorem dX7_add_10 : decode cX7_add 10 = .ok (.aload_n 0, 1) := by decide +kernel
theorem dX7_add_11 : decode cX7_add 11 = .ok (.getfield 19, 3) := by decide +kernel
theorem dX7_add_14 : decode cX7_add 14 = .ok (.aload_n 0, 1) := by decide +kernel
theorem dX7_add_15 : decode cX7_add 15 = .ok (.getfield 9, 3) := by decide +kernel
theorem dX7_add_18 : decode cX7_add 18 = .ok (.iload_n 2, 1) := by decide +kernel
theorem dX7_add_19 : decode cX7_add 19 = .ok (.iastore, 1) := by decide +kernel
theorem dX7_add_20 : decode cX7_add 20 = .ok (.aload_n 0, 1) := by decide +kernel
theorem dX7_add_21 : decode cX7_add 21 = .ok (.getfield 22, 3) := by decide +kernel
theorem dX7_add_24 : decode cX7_add 24 = .ok (.aload_n 0, 1) := by decide +kernel
theorem dX7_add_25 : decode cX7_add 25 = .ok (.getfield 9, 3) := by decide +kernel
theorem dX7_add_28 : decode cX7_add 28 = .ok (.iload_n 3, 1) := by decide +kernel
theorem dX7_add_29 : decode cX7_add 29 = .ok (.iastore, 1) := by decide +kernel
theorem dX7_add_30 : decode cX7_add 30 = .ok (.aload_n 0, 1) := by decide +kernel
theorem dX7_add_31 : decode cX7_add 31 = .ok (.getfield 25, 3) := by decide +kernel
theorem dX7_add_34 : decode cX7_add 34 = .ok (.aload_n 0, 1) := by decide +kernel
theorem dX7_add_35 : decode cX7_add 35 = .ok (.getfield 9, 3) := by decide +kernel
theorem dX7_add_38 : decode cX7_add 38 = .ok (.iload 4, 2) := by decide +kernel
theorem dX7_add_40 : decode cX7_add 40 = .ok (.iastore, 1) := by decide +kernel
theorem dX7_add_41 : decode cX7_add 41 = .ok (.aload_n 0, 1) := by decide +kernel
theorem dX7_add_42 : decode cX7_add 42 = .ok (.dup, 1) := by decide +kernel
theorem dX7_add_43 : decode cX7_add 43 = .ok (.getfield 9, 3) := by decide +kernel
theorem dX7_add_46 : decode cX7_add 46 = .ok (.dup_x1, 1) := by decide +kernel
theorem dX7_add_47 : decode cX7_add 47 = .ok (.iconst 1, 1) := by decide +kernel
theorem dX7_add_48 : decode cX7_add 48 = .ok (.iadd, 1) := by decide +kernel
theorem dX7_add_49 : decode cX7_add 49 = .ok (.putfield 9, 3) := by decide +kernel
theorem dX7_add_52 : decode cX7_add 52 = .ok (.ireturn, 1) := by decide +kernel
theorem dX8_init_0 : decode cX8_init 0 = .ok (.aload_n 0, 1) := by decide +kernel
theorem dX8_init_1 : decode cX8_init 1 = .ok (.invokespecial 3, 3) := by decide +kernel
theorem dX8_init_4 : decode cX8_init 4 = .ok (.aload_n 0, 1) := by decide +kernel
theorem dX8_init_5 : decode cX8_init 5 = .ok (.iconst 0, 1) := by decide +kernel
theorem dX8_init_6 : decode cX8_init 6 = .ok (.putfield 9, 3) := by decide +kernel
theorem dX8_init_9 : decode cX8_init 9 = .ok (.aload_n 0, 1) := by decide +kernel
theorem dX8_init_10 : decode cX8_init 10 = .ok (.bipush 20, 2) := by decide +kernel
theorem dX8_init_12 : decode cX8_init 12 = .ok (.newarray .int, 2) := by decide +kernel
theorem dX8_init_14 : decode cX8_init 14 = .ok (.putfield 15, 3) := by decide +kernel
theorem dX8_init_17 : decode cX8_init 17 = .ok (.aload_n 0, 1) := by decide +kernel
theorem dX8_init_18 : decode cX8_init 18 = .ok (.bipush 20, 2) := by decide +kernel
theorem dX8_init_20 : decode cX8_init 20 = .ok (.newarray .long, 2) := by decide +kernel
theorem dX8_init_22 : decode cX8_init 22 = .ok (.putfield 19, 3) := by decide +kernel
theorem dX8_init_25 : decode cX8_init 25 = .ok (.aload_n 0, 1) := by decide +kernel
theorem dX8_init_26 : decode cX8_init 26 = .ok (.bipush 6, 2) := by decide +kernel
theorem dX8_init_28 : decode cX8_init 28 = .ok (.newarray .int, 2) := by decide +kernel
theorem dX8_init_30 : decode cX8_init 30 = .ok (.putfield 23, 3) := by decide +kernel
theorem dX8_init_33 : decode cX8_init 33 = .ok (.aload_n 0, 1) := by decide +kernel
theorem dX8_init_34 : decode cX8_init 34 = .ok (.aload_n 1, 1) := by decide +kernel
theorem dX8_init_35 : decode cX8_init 35 = .ok (.putfield 26, 3) := by decide +kernel
theorem dX8_init_38 : decode cX8_init 38 = .ok (.aload_n 0, 1) := by decide +kernel
theorem dX8_init_39 : decode cX8_init 39 = .ok (.aload_n 2, 1) := by decide +kernel
theorem dX8_init_40 : decode cX8_init 40 = .ok (.putfield 30, 3) := by decide +kernel
theorem dX8_init_43 : decode cX8_init 43 = .ok (.return_, 1) := by decide +kernel
theorem dX8_gather_0 : decode cX8_gather 0 = .ok (.aload_n 0, 1) := by decide +kernel
theorem dX8_gather_1 : decode cX8_gather 1 = .ok (.iconst 0, 1) := by decide +kernel
theorem dX8_gather_2 : decode cX8_gather 2 = .ok (.putfield 9, 3) := by decide +kernel
theorem dX8_gather_5 : decode cX8_gather 5 = .ok (.iconst 0, 1) := by decide +kernel
theorem dX8_gather_6 : decode cX8_gather 6 = .ok (.istore_n 2, 1) := by decide +kernel
theorem dX8_gather_7 : decode cX8_gather 7 = .ok (.iload_n 2, 1) := by decide +kernel
theorem dX8_gather_8 : decode cX8_gather 8 = .ok (.aload_n 0, 1) := by decide +kernel
theorem dX8_gather_9 : decode cX8_gather 9 = .ok (.getfield 26, 3) := by decide +kernel
theorem dX8_gather_12 : decode cX8_gather 12 = .ok (.getfield 34, 3) := by decide +kernel
theorem dX8_gather_15 : decode cX8_gather 15 = .ok (.getfield 40, 3) := by decide +kernel
theorem dX8_gather_18 : decode cX8_gather 18 = .ok (.if_icmp .ge 85, 3) := by decide +kernel
theorem dX8_gather_21 : decode cX8_gather 21 = .ok (.aload_n 0, 1) := by decide +kernel
theorem dX8_gather_22 : decode cX8_gather 22 = .ok (.getfield 30, 3) := by decide +kernel
theorem dX8_gather_25 : decode cX8_gather 25 = .ok (.iload_n 2, 1) := by decide +kernel
theorem dX8_gather_26 : decode cX8_gather 26 = .ok (.invokevirtual 45, 3) := by decide +kernel
theorem dX8_gather_29 : decode cX8_gather 29 = .ok (.lstore_n 3, 1) := by decide +kernel
theorem dX8_gather_30 : decode cX8_gather 30 = .ok (.aload_n 0, 1) := by decide +kernel
theorem dX8_gather_31 : decode cX8_gather 31 = .ok (.getfield 26, 3) := by decide +kernel
theorem dX8_gather_34 : decode cX8_gather 34 = .ok (.getfield 34, 3) := by decide +kernel
theorem dX8_gather_37 : decode cX8_gather 37 = .ok (.getfield 51, 3) := by decide +kernel
theorem dX8_gather_40 : decode cX8_gather 40 = .ok (.iload_n 2, 1) := by decide +kernel
theorem dX8_gather_41 : decode cX8_gather 41 = .ok (.iaload, 1) := by decide +kernel
theorem dX8_gather_42 : decode cX8_gather 42 = .ok (.iload_n 1, 1) := by decide +kernel
theorem dX8_gather_43 : decode cX8_gather 43 = .ok (.if_icmp .ne 20, 3) := by decide +kernel
theorem dX8_gather_46 : decode cX8_gather 46 = .ok (.aload_n 0, 1) := by decide +kernel
theorem dX8_gather_47 : decode cX8_gather 47 = .ok (.aload_n 0, 1) := by decide +kernel
theorem dX8_gather_48 : decode cX8_gather 48 = .ok (.getfield 26, 3) := by decide +kernel
theorem dX8_gather_51 : decode cX8_gather 51 = .ok (.getfield 34, 3) := by decide +kernel
theorem dX8_gather_54 : decode cX8_gather 54 = .ok (.getfield 54, 3) := by decide +kernel
theorem dX8_gather_57 : decode cX8_gather 57 = .ok (.iload_n 2, 1) := by decide +kernel
theorem dX8_gather_58 : decode cX8_gather 58 = .ok (.iaload, 1) := by decide +kernel
theorem dX8_gather_59 : decode cX8_gather 59 = .ok (.lload_n 3, 1) := by decide +kernel
theorem dX8_gather_60 : decode cX8_gather 60 = .ok (.invokevirtual 57, 3) := by decide +kernel
theorem dX8_gather_63 : decode cX8_gather 63 = .ok (.aload_n 0, 1) := by decide +kernel
theorem dX8_gather_64 : decode cX8_gather 64 = .ok (.getfield 26, 3) := by decide +kernel
theorem dX8_gather_67 : decode cX8_gather 67 = .ok (.getfield 34, 3) := by decide +kernel
theorem dX8_gather_70 : decode cX8_gather 70 = .ok (.getfield 54, 3) := by decide +kernel
theorem dX8_gather_73 : decode cX8_gather 73 = .ok (.iload_n 2, 1) := by decide +kernel
theorem dX8_gather_74 : decode cX8_gather 74 = .ok (.iaload, 1) := by decide +kernel
theorem dX8_gather_75 : decode cX8_gather 75 = .ok (.iload_n 1, 1) := by decide +kernel
theorem dX8_gather_76 : decode cX8_gather 76 = .ok (.if_icmp .ne 21, 3) := by decide +kernel
theorem dX8_gather_79 : decode cX8_gather 79 = .ok (.aload_n 0, 1) := by decide +kernel
theorem dX8_gather_80 : decode cX8_gather 80 = .ok (.aload_n 0, 1) := by decide +kernel
theorem dX8_gather_81 : decode cX8_gather 81 = .ok (.getfield 26, 3) := by decide +kernel
theorem dX8_gather_84 : decode cX8_gather 84 = .ok (.getfield 34, 3) := by decide +kernel
theorem dX8_gather_87 : decode cX8_gather 87 = .ok (.getfield 51, 3) := by decide +kernel
theorem dX8_gather_90 : decode cX8_gather 90 = .ok (.iload_n 2, 1) := by decide +kernel
theorem dX8_gather_91 : decode cX8_gather 91 = .ok (.iaload, 1) := by decide +kernel
theorem dX8_gather_92 : decode cX8_gather 92 = .ok (.lload_n 3, 1) := by decide +kernel
theorem dX8_gather_93 : decode cX8_gather 93 = .ok (.lneg, 1) := by decide +kernel
theorem dX8_gather_94 : decode cX8_gather 94 = .ok (.invokevirtual 57, 3) := by decide +kernel
theorem dX8_gather_97 : decode cX8_gather 97 = .ok (.iinc 2 1, 3) := by decide +kernel
theorem dX8_gather_100 : decode cX8_gather 100 = .ok (.goto (-93), 3) := by decide +kernel
theorem dX8_gather_103 : decode cX8_gather 103 = .ok (.iconst 0, 1) := by decide +kernel
theorem dX8_gather_104 : decode cX8_gather 104 = .ok (.istore_n 2, 1) := by decide +kernel
theorem dX8_gather_105 : decode cX8_gather 105 = .ok (.iload_n 2, 1) := by decide +kernel
theorem dX8_gather_106 : decode cX8_gather 106 = .ok (.aload_n 0, 1) := by decide +kernel
theorem dX8_gather_107 : decode cX8_gather 107 = .ok (.getfield 26, 3) := by decide +kernel
theorem dX8_gather_110 : decode cX8_gather 110 = .ok (.getfield 61, 3) := by decide +kernel
theorem dX8_gather_113 : decode cX8_gather 113 = .ok (.getfield 65, 3) := by decide +kernel
theorem dX8_gather_116 : decode cX8_gather 116 = .ok (.if_icmp .ge 42, 3) := by decide +kernel
theorem dX8_gather_119 : decode cX8_gather 119 = .ok (.aload_n 0, 1) := by decide +kernel
theorem dX8_gather_120 : decode cX8_gather 120 = .ok (.getfield 26, 3) := by decide +kernel
theorem dX8_gather_123 : decode cX8_gather 123 = .ok (.getfield 61, 3) := by decide +kernel
theorem dX8_gather_126 : decode cX8_gather 126 = .ok (.getfield 68, 3) := by decide +kernel
theorem dX8_gather_129 : decode cX8_gather 129 = .ok (.iload_n 2, 1) := by decide +kernel
theorem dX8_gather_130 : decode cX8_gather 130 = .ok (.iaload, 1) := by decide +kernel
theorem dX8_gather_131 : decode cX8_gather 131 = .ok (.iload_n 1, 1) := by decide +kernel
theorem dX8_gather_132 : decode cX8_gather 132 = .ok (.if_icmp .ne 20, 3) := by decide +kernel
theorem dX8_gather_135 : decode cX8_gather 135 = .ok (.aload_n 0, 1) := by decide +kernel
theorem dX8_gather_136 : decode cX8_gather 136 = .ok (.bipush 100, 2) := by decide +kernel
theorem dX8_gather_138 : decode cX8_gather 138 = .ok (.iload_n 2, 1) := by decide +kernel
theorem dX8_gather_139 : decode cX8_gather 139 = .ok (.iadd, 1) := by decide +kernel
theorem dX8_gather_140 : decode cX8_gather 140 = .ok (.aload_n 0, 1) := by decide +kernel
theorem dX8_gather_141 : decode cX8_gather 141 = .ok (.getfield 30, 3) := by decide +kernel
theorem dX8_gather_144 : decode cX8_gather 144 = .ok (.iload_n 2, 1) := by decide +kernel
theorem dX8_gather_145 : decode cX8_gather 145 = .ok (.invokevirtual 71, 3) := by decide +kernel
theorem dX8_gather_148 : decode cX8_gather 148 = .ok (.lneg, 1) := by decide +kernel
theorem dX8_gather_149 : decode cX8_gather 149 = .ok (.invokevirtual 57, 3) := by decide +kernel
theorem dX8_gather_152 : decode cX8_gather 152 = .ok (.iinc 2 1, 3) := by decide +kernel
theorem dX8_gather_155 : decode cX8_gather 155 = .ok (.goto (-50), 3) := by decide +kernel
theorem dX8_gather_158 : decode cX8_gather 158 = .ok (.iconst 0, 1) := by decide +kernel
theorem dX8_gather_159 : decode cX8_gather 159 = .ok (.istore_n 2, 1) := by decide +kernel
theorem dX8_gather_160 : decode cX8_gather 160 = .ok (.iload_n 2, 1) := by decide +kernel
theorem dX8_gather_161 : decode cX8_gather 161 = .ok (.aload_n 0, 1) := by decide +kernel
theorem dX8_gather_162 : decode cX8_gather 162 = .ok (.getfield 26, 3) := by decide +kernel
theorem dX8_gather_165 : decode cX8_gather 165 = .ok (.getfield 74, 3) := by decide +kernel
theorem dX8_gather_168 : decode cX8_gather 168 = .ok (.getfield 78, 3) := by decide +kernel
theorem dX8_gather_171 : decode cX8_gather 171 = .ok (.if_icmp .ge 42, 3) := by decide +kernel
theorem dX8_gather_174 : decode cX8_gather 174 = .ok (.aload_n 0, 1) := by decide +kernel
theorem dX8_gather_175 : decode cX8_gather 175 = .ok (.getfield 26, 3) := by decide +kernel
theorem dX8_gather_178 : decode cX8_gather 178 = .ok (.getfield 74, 3) := by decide +kernel
theorem dX8_gather_181 : decode cX8_gather 181 = .ok (.getfield 81, 3) := by decide +kernel
theorem dX8_gather_184 : decode cX8_gather 184 = .ok (.iload_n 2, 1) := by decide +kernel
theorem dX8_gather_185 : decode cX8_gather 185 = .ok (.iaload, 1) := by decide +kernel
theorem dX8_gather_186 : decode cX8_gather 186 = .ok (.iload_n 1, 1) := by decide +kernel
theorem dX8_gather_187 : decode cX8_gather 187 = .ok (.if_icmp .ne 20, 3) := by decide +kernel
theorem dX8_gather_190 : decode cX8_gather 190 = .ok (.aload_n 0, 1) := by decide +kernel
theorem dX8_gather_191 : decode cX8_gather 191 = .ok (.sipush 200, 3) := by decide +kernel
theorem dX8_gather_194 : decode cX8_gather 194 = .ok (.iload_n 2, 1) := by decide +kernel
theorem dX8_gather_195 : decode cX8_gather 195 = .ok (.iadd, 1) := by decide +kernel
theorem dX8_gather_196 : decode cX8_gather 196 = .ok (.aload_n 0, 1) := by decide +kernel
theorem dX8_gather_197 : decode cX8_gather 197 = .ok (.getfield 30, 3) := by decide +kernel
theorem dX8_gather_200 : decode cX8_gather 200 = .ok (.iload_n 2, 1) := by decide +kernel
theorem dX8_gather_201 : decode cX8_gather 201 = .ok (.invokevirtual 82, 3) := by decide +kernel
theorem dX8_gather_204 : decode cX8_gather 204 = .ok (.invokevirtual 57, 3) := by decide +kernel
theorem dX8_gather_207 : decode cX8_gather 207 = .ok (.iinc 2 1, 3) := by decide +kernel
theorem dX8_gather_210 : decode cX8_gather 210 = .ok (.goto (-50), 3) := by decide +kernel
theorem dX8_gather_213 : decode cX8_gather 213 = .ok (.iconst 0, 1) := by decide +kernel
theorem dX8_gather_214 : decode cX8_gather 214 = .ok (.istore_n 2, 1) := by decide +kernel
theorem dX8_gather_215 : decode cX8_gather 215 = .ok (.iload_n 2, 1) := by decide +kernel
theorem dX8_gather_216 : decode cX8_gather 216 = .ok (.aload_n 0, 1) := by decide +kernel
theorem dX8_gather_217 : decode cX8_gather 217 = .ok (.getfield 26, 3) := by decide +kernel
theorem dX8_gather_220 : decode cX8_gather 220 = .ok (.getfield 85, 3) := by decide +kernel
theorem dX8_gather_223 : decode cX8_gather 223 = .ok (.getfield 89, 3) := by decide +kernel
theorem dX8_gather_226 : decode cX8_gather 226 = .ok (.if_icmp .ge 55, 3) := by decide +kernel
theorem dX8_gather_229 : decode cX8_gather 229 = .ok (.aload_n 0, 1) := by decide +kernel
theorem dX8_gather_230 : decode cX8_gather 230 = .ok (.getfield 26, 3) := by decide +kernel
theorem dX8_gather_233 : decode cX8_gather 233 = .ok (.getfield 85, 3) := by decide +kernel
theorem dX8_gather_236 : decode cX8_gather 236 = .ok (.getfield 92, 3) := by decide +kernel
theorem dX8_gather_239 : decode cX8_gather 239 = .ok (.iload_n 2, 1) := by decide +kernel
theorem dX8_gather_240 : decode cX8_gather 240 = .ok (.iaload, 1) := by decide +kernel
theorem dX8_gather_241 : decode cX8_gather 241 = .ok (.iload_n 1, 1) := by decide +kernel
theorem dX8_gather_242 : decode cX8_gather 242 = .ok (.if_icmp .ne 33, 3) := by decide +kernel
theorem dX8_gather_245 : decode cX8_gather 245 = .ok (.aload_n 0, 1) := by decide +kernel
theorem dX8_gather_246 : decode cX8_gather 246 = .ok (.sipush 300, 3) := by decide +kernel
theorem dX8_gather_249 : decode cX8_gather 249 = .ok (.iload_n 2, 1) := by decide +kernel
theorem dX8_gather_250 : decode cX8_gather 250 = .ok (.iadd, 1) := by decide +kernel
theorem dX8_gather_251 : decode cX8_gather 251 = .ok (.aload_n 0, 1) := by decide +kernel
theorem dX8_gather_252 : decode cX8_gather 252 = .ok (.getfield 26, 3) := by decide +kernel
theorem dX8_gather_255 : decode cX8_gather 255 = .ok (.getfield 85, 3) := by decide +kernel
theorem dX8_gather_258 : decode cX8_gather 258 = .ok (.getfield 93, 3) := by decide +kernel
theorem dX8_gather_261 : decode cX8_gather 261 = .ok (.iload_n 2, 1) := by decide +kernel
theorem dX8_gather_262 : decode cX8_gather 262 = .ok (.iaload, 1) := by decide +kernel
theorem dX8_gather_263 : decode cX8_gather 263 = .ok (.i2l, 1) := by decide +kernel
theorem dX8_gather_264 : decode cX8_gather 264 = .ok (.aload_n 0, 1) := by decide +kernel
theorem dX8_gather_265 : decode cX8_gather 265 = .ok (.getfield 30, 3) := by decide +kernel
theorem dX8_gather_268 : decode cX8_gather 268 = .ok (.getfield 96, 3) := by decide +kernel
theorem dX8_gather_271 : decode cX8_gather 271 = .ok (.lmul, 1) := by decide +kernel
theorem dX8_gather_272 : decode cX8_gather 272 = .ok (.invokevirtual 57, 3) := by decide +kernel
theorem dX8_gather_275 : decode cX8_gather 275 = .ok (.iinc 2 1, 3) := by decide +kernel
theorem dX8_gather_278 : decode cX8_gather 278 = .ok (.goto (-63), 3) := by decide +kernel
theorem dX8_gather_281 : decode cX8_gather 281 = .ok (.return_, 1) := by decide +kernel
theorem dX8_addOutlet_0 : decode cX8_addOutlet 0 = .ok (.lload_n 2, 1) := by decide +kernel
theorem dX8_addOutlet_1 : decode cX8_addOutlet 1 = .ok (.lconst 0, 1) := by decide +kernel
theorem dX8_addOutlet_2 : decode cX8_addOutlet 2 = .ok (.lcmp, 1) := by decide +kernel
theorem dX8_addOutlet_3 : decode cX8_addOutlet 3 = .ok (.ifCond .le 12, 3) := by decide +kernel
theorem dX8_addOutlet_6 : decode cX8_addOutlet 6 = .ok (.aload_n 0, 1) := by decide +kernel
theorem dX8_addOutlet_7 : decode cX8_addOutlet 7 = .ok (.getfield 9, 3) := by decide +kernel
theorem dX8_addOutlet_10 : decode cX8_addOutlet 10 = .ok (.bipush 20, 2) := by decide +kernel
theorem dX8_addOutlet_12 : decode cX8_addOutlet 12 = .ok (.if_icmp .lt 4, 3) := by decide +kernel
theorem dX8_addOutlet_15 : decode cX8_addOutlet 15 = .ok (.return_, 1) := by decide +kernel
theorem dX8_addOutlet_16 : decode cX8_addOutlet 16 = .ok (.aload_n 0, 1) := by decide +kernel
theorem dX8_addOutlet_17 : decode cX8_addOutlet 17 = .ok (.getfield 15, 3) := by decide +kernel
theorem dX8_addOutlet_20 : decode cX8_addOutlet 20 = .ok (.aload_n 0, 1) := by decide +kernel
theorem dX8_addOutlet_21 : decode cX8_addOutlet 21 = .ok (.getfield 9, 3) := by decide +kernel
theorem dX8_addOutlet_24 : decode cX8_addOutlet 24 = .ok (.iload_n 1, 1) := by decide +kernel
theorem dX8_addOutlet_25 : decode cX8_addOutlet 25 = .ok (.iastore, 1) := by decide +kernel
theorem dX8_addOutlet_26 : decode cX8_addOutlet 26 = .ok (.aload_n 0, 1) := by decide +kernel
theorem dX8_addOutlet_27 : decode cX8_addOutlet 27 = .ok (.getfield 19, 3) := by decide +kernel
theorem dX8_addOutlet_30 : decode cX8_addOutlet 30 = .ok (.aload_n 0, 1) := by decide +kernel
theorem dX8_addOutlet_31 : decode cX8_addOutlet 31 = .ok (.getfield 9, 3) := by decide +kernel
theorem dX8_addOutlet_34 : decode cX8_addOutlet 34 = .ok (.lload_n 2, 1) := by decide +kernel
theorem dX8_addOutlet_35 : decode cX8_addOutlet 35 = .ok (.lastore, 1) := by decide +kernel
theorem dX8_addOutlet_36 : decode cX8_addOutlet 36 = .ok (.aload_n 0, 1) := by decide +kernel
theorem dX8_addOutlet_37 : decode cX8_addOutlet 37 = .ok (.dup, 1) := by decide +kernel
theorem dX8_addOutlet_38 : decode cX8_addOutlet 38 = .ok (.getfield 9, 3) := by decide +kernel
theorem dX8_addOutlet_41 : decode cX8_addOutlet 41 = .ok (.iconst 1, 1) := by decide +kernel
theorem dX8_addOutlet_42 : decode cX8_addOutlet 42 = .ok (.iadd, 1) := by decide +kernel
theorem dX8_addOutlet_43 : decode cX8_addOutlet 43 = .ok (.putfield 9, 3) := by decide +kernel
theorem dX8_addOutlet_46 : decode cX8_addOutlet 46 = .ok (.return_, 1) := by decide +kernel
theorem dX8_mainOutlet_0 : decode cX8_mainOutlet 0 = .ok (.ldc 100, 2) := by decide +kernel
theorem dX8_mainOutlet_2 : decode cX8_mainOutlet 2 = .ok (.istore_n 1, 1) := by decide +kernel
theorem dX8_mainOutlet_3 : decode cX8_mainOutlet 3 = .ok (.iconst 0, 1) := by decide +kernel
theorem dX8_mainOutlet_4 : decode cX8_mainOutlet 4 = .ok (.istore_n 2, 1) := by decide +kernel
theorem dX8_mainOutlet_5 : decode cX8_mainOutlet 5 = .ok (.iload_n 2, 1) := by decide +kernel
theorem dX8_mainOutlet_6 : decode cX8_mainOutlet 6 = .ok (.aload_n 0, 1) := by decide +kernel
theorem dX8_mainOutlet_7 : decode cX8_mainOutlet 7 = .ok (.getfield 9, 3) := by decide +kernel
theorem dX8_mainOutlet_10 : decode cX8_mainOutlet 10 = .ok (.if_icmp .ge 33, 3) := by decide +kernel
theorem dX8_mainOutlet_13 : decode cX8_mainOutlet 13 = .ok (.iload_n 1, 1) := by decide +kernel
theorem dX8_mainOutlet_14 : decode cX8_mainOutlet 14 = .ok (.ldc 100, 2) := by decide +kernel
theorem dX8_mainOutlet_16 : decode cX8_mainOutlet 16 = .ok (.if_icmp .eq 19, 3) := by decide +kernel
theorem dX8_mainOutlet_19 : decode cX8_mainOutlet 19 = .ok (.aload_n 0, 1) := by decide +kernel
theorem dX8_mainOutlet_20 : decode cX8_mainOutlet 20 = .ok (.getfield 19, 3) := by decide +kernel
theorem dX8_mainOutlet_23 : decode cX8_mainOutlet 23 = .ok (.iload_n 2, 1) := by decide +kernel
theorem dX8_mainOutlet_24 : decode cX8_mainOutlet 24 = .ok (.laload, 1) := by decide +kernel
theorem dX8_mainOutlet_25 : decode cX8_mainOutlet 25 = .ok (.aload_n 0, 1) := by decide +kernel
theorem dX8_mainOutlet_26 : decode cX8_mainOutlet 26 = .ok (.getfield 19, 3) := by decide +kernel
theorem dX8_mainOutlet_29 : decode cX8_mainOutlet 29 = .ok (.iload_n 1, 1) := by decide +kernel
theorem dX8_mainOutlet_30 : decode cX8_mainOutlet 30 = .ok (.laload, 1) := by decide +kernel
theorem dX8_mainOutlet_31 : decode cX8_mainOutlet 31 = .ok (.lcmp, 1) := by decide +kernel
theorem dX8_mainOutlet_32 : decode cX8_mainOutlet 32 = .ok (.ifCond .le 5, 3) := by decide +kernel
theorem dX8_mainOutlet_35 : decode cX8_mainOutlet 35 = .ok (.iload_n 2, 1) := by decide +kernel
theorem dX8_mainOutlet_36 : decode cX8_mainOutlet 36 = .ok (.istore_n 1, 1) := by decide +kernel
theorem dX8_mainOutlet_37 : decode cX8_mainOutlet 37 = .ok (.iinc 2 1, 3) := by decide +kernel
theorem dX8_mainOutlet_40 : decode cX8_mainOutlet 40 = .ok (.goto (-35), 3) := by decide +kernel
theorem dX8_mainOutlet_43 : decode cX8_mainOutlet 43 = .ok (.iload_n 1, 1) := by decide +kernel
theorem dX8_mainOutlet_44 : decode cX8_mainOutlet 44 = .ok (.ireturn, 1) := by decide +kernel
theorem dX8_onward_0 : decode cX8_onward 0 = .ok (.aload_n 0, 1) := by decide +kernel
theorem dX8_onward_1 : decode cX8_onward 1 = .ok (.iload_n 1, 1) := by decide +kernel
theorem dX8_onward_2 : decode cX8_onward 2 = .ok (.invokevirtual 101, 3) := by decide +kernel
theorem dX8_onward_5 : decode cX8_onward 5 = .ok (.aload_n 0, 1) := by decide +kernel
theorem dX8_onward_6 : decode cX8_onward 6 = .ok (.invokevirtual 105, 3) := by decide +kernel
theorem dX8_onward_9 : decode cX8_onward 9 = .ok (.istore_n 2, 1) := by decide +kernel
theorem dX8_onward_10 : decode cX8_onward 10 = .ok (.iload_n 2, 1) := by decide +kernel
theorem dX8_onward_11 : decode cX8_onward 11 = .ok (.ldc 100, 2) := by decide +kernel
theorem dX8_onward_13 : decode cX8_onward 13 = .ok (.if_icmp .ne 8, 3) := by decide +kernel
theorem dX8_onward_16 : decode cX8_onward 16 = .ok (.ldc 100, 2) := by decide +kernel
theorem dX8_onward_18 : decode cX8_onward 18 = .ok (.goto 9, 3) := by decide +kernel
theorem dX8_onward_21 : decode cX8_onward 21 = .ok (.aload_n 0, 1) := by decide +kernel
theorem dX8_onward_22 : decode cX8_onward 22 = .ok (.getfield 15, 3) := by decide +kernel
theorem dX8_onward_25 : decode cX8_onward 25 = .ok (.iload_n 2, 1) := by decide +kernel
theorem dX8_onward_26 : decode cX8_onward 26 = .ok (.iaload, 1) := by decide +kernel
theorem dX8_onward_27 : decode cX8_onward 27 = .ok (.ireturn, 1) := by decide +kernel
theorem dX8_cellOfWay_0 : decode cX8_cellOfWay 0 = .ok (.iload_n 2, 1) := by decide +kernel
theorem dX8_cellOfWay_1 : decode cX8_cellOfWay 1 = .ok (.ifCond .lt 9, 3) := by decide +kernel
theorem dX8_cellOfWay_4 : decode cX8_cellOfWay 4 = .ok (.iload_n 2, 1) := by decide +kernel
theorem dX8_cellOfWay_5 : decode cX8_cellOfWay 5 = .ok (.bipush 6, 2) := by decide +kernel
theorem dX8_cellOfWay_7 : decode cX8_cellOfWay 7 = .ok (.if_icmp .lt 6, 3) := by decide +kernel
theorem dX8_cellOfWay_10 : decode cX8_cellOfWay 10 = .ok (.ldc 100, 2) := by decide +kernel
theorem dX8_cellOfWay_12 : decode cX8_cellOfWay 12 = .ok (.ireturn, 1) := by decide +kernel
theorem dX8_cellOfWay_13 : decode cX8_cellOfWay 13 = .ok (.iload_n 1, 1) := by decide +kernel
theorem dX8_cellOfWay_14 : decode cX8_cellOfWay 14 = .ok (.istore_n 3, 1) := by decide +kernel
theorem dX8_cellOfWay_15 : decode cX8_cellOfWay 15 = .ok (.iconst 0, 1) := by decide +kernel
theorem dX8_cellOfWay_16 : decode cX8_cellOfWay 16 = .ok (.istore 4, 2) := by decide +kernel
theorem dX8_cellOfWay_18 : decode cX8_cellOfWay 18 = .ok (.iload 4, 2) := by decide +kernel
theorem dX8_cellOfWay_20 : decode cX8_cellOfWay 20 = .ok (.iload_n 2, 1) := by decide +kernel
theorem dX8_cellOfWay_21 : decode cX8_cellOfWay 21 = .ok (.if_icmp .ge 26, 3) := by decide +kernel
theorem dX8_cellOfWay_24 : decode cX8_cellOfWay 24 = .ok (.aload_n 0, 1) := by decide +kernel
theorem dX8_cellOfWay_25 : decode cX8_cellOfWay 25 = .ok (.getfield 26, 3) := by decide +kernel
theorem dX8_cellOfWay_28 : decode cX8_cellOfWay 28 = .ok (.iload_n 3, 1) := by decide +kernel
theorem dX8_cellOfWay_29 : decode cX8_cellOfWay 29 = .ok (.invokevirtual 109, 3) := by decide +kernel
theorem dX8_cellOfWay_32 : decode cX8_cellOfWay 32 = .ok (.ifCond .eq 15, 3) := by decide +kernel
theorem dX8_cellOfWay_35 : decode cX8_cellOfWay 35 = .ok (.aload_n 0, 1) := by decide +kernel
theorem dX8_cellOfWay_36 : decode cX8_cellOfWay 36 = .ok (.iload_n 3, 1) := by decide +kernel
theorem dX8_cellOfWay_37 : decode cX8_cellOfWay 37 = .ok (.invokevirtual 113, 3) := by decide +kernel
theorem dX8_cellOfWay_40 : decode cX8_cellOfWay 40 = .ok (.istore_n 3, 1) := by decide +kernel
theorem dX8_cellOfWay_41 : decode cX8_cellOfWay 41 = .ok (.iinc 4 1, 3) := by decide +kernel
theorem dX8_cellOfWay_44 : decode cX8_cellOfWay 44 = .ok (.goto (-26), 3) := by decide +kernel
theorem dX8_cellOfWay_47 : decode cX8_cellOfWay 47 = .ok (.aload_n 0, 1) := by decide +kernel
theorem dX8_cellOfWay_48 : decode cX8_cellOfWay 48 = .ok (.getfield 26, 3) := by decide +kernel
theorem dX8_cellOfWay_51 : decode cX8_cellOfWay 51 = .ok (.iload_n 3, 1) := by decide +kernel
theorem dX8_cellOfWay_52 : decode cX8_cellOfWay 52 = .ok (.invokevirtual 109, 3) := by decide +kernel
theorem dX8_cellOfWay_55 : decode cX8_cellOfWay 55 = .ok (.ifCond .eq 7, 3) := by decide +kernel
theorem dX8_cellOfWay_58 : decode cX8_cellOfWay 58 = .ok (.iload_n 3, 1) := by decide +kernel
theorem dX8_cellOfWay_59 : decode cX8_cellOfWay 59 = .ok (.goto 5, 3) := by decide +kernel
theorem dX8_cellOfWay_62 : decode cX8_cellOfWay 62 = .ok (.ldc 100, 2) := by decide +kernel
theorem dX8_cellOfWay_64 : decode cX8_cellOfWay 64 = .ok (.ireturn, 1) := by decide +kernel
theorem dX8_endOfWay_0 : decode cX8_endOfWay 0 = .ok (.iload_n 1, 1) := by decide +kernel
theorem dX8_endOfWay_1 : decode cX8_endOfWay 1 = .ok (.istore_n 2, 1) := by decide +kernel
theorem dX8_endOfWay_2 : decode cX8_endOfWay 2 = .ok (.iconst 0, 1) := by decide +kernel
theorem dX8_endOfWay_3 : decode cX8_endOfWay 3 = .ok (.istore_n 3, 1) := by decide +kernel
theorem dX8_endOfWay_4 : decode cX8_endOfWay 4 = .ok (.iload_n 3, 1) := by decide +kernel
theorem dX8_endOfWay_5 : decode cX8_endOfWay 5 = .ok (.bipush 6, 2) := by decide +kernel
theorem dX8_endOfWay_7 : decode cX8_endOfWay 7 = .ok (.if_icmp .ge 26, 3) := by decide +kernel
theorem dX8_endOfWay_10 : decode cX8_endOfWay 10 = .ok (.aload_n 0, 1) := by decide +kernel
theorem dX8_endOfWay_11 : decode cX8_endOfWay 11 = .ok (.getfield 26, 3) := by decide +kernel
theorem dX8_endOfWay_14 : decode cX8_endOfWay 14 = .ok (.iload_n 2, 1) := by decide +kernel
theorem dX8_endOfWay_15 : decode cX8_endOfWay 15 = .ok (.invokevirtual 109, 3) := by decide +kernel
theorem dX8_endOfWay_18 : decode cX8_endOfWay 18 = .ok (.ifCond .eq 15, 3) := by decide +kernel
theorem dX8_endOfWay_21 : decode cX8_endOfWay 21 = .ok (.aload_n 0, 1) := by decide +kernel
theorem dX8_endOfWay_22 : decode cX8_endOfWay 22 = .ok (.iload_n 2, 1) := by decide +kernel
theorem dX8_endOfWay_23 : decode cX8_endOfWay 23 = .ok (.invokevirtual 113, 3) := by decide +kernel
theorem dX8_endOfWay_26 : decode cX8_endOfWay 26 = .ok (.istore_n 2, 1) := by decide +kernel
theorem dX8_endOfWay_27 : decode cX8_endOfWay 27 = .ok (.iinc 3 1, 3) := by decide +kernel
theorem dX8_endOfWay_30 : decode cX8_endOfWay 30 = .ok (.goto (-26), 3) := by decide +kernel
theorem dX8_endOfWay_33 : decode cX8_endOfWay 33 = .ok (.iload_n 2, 1) := by decide +kernel
theorem dX8_endOfWay_34 : decode cX8_endOfWay 34 = .ok (.ireturn, 1) := by decide +kernel
theorem dX8_flowTogether_0 : decode cX8_flowTogether 0 = .ok (.lconst 0, 1) := by decide +kernel
theorem dX8_flowTogether_1 : decode cX8_flowTogether 1 = .ok (.lstore_n 1, 1) := by decide +kernel
theorem dX8_flowTogether_2 : decode cX8_flowTogether 2 = .ok (.iconst 0, 1) := by decide +kernel
theorem dX8_flowTogether_3 : decode cX8_flowTogether 3 = .ok (.istore_n 3, 1) := by decide +kernel
theorem dX8_flowTogether_4 : decode cX8_flowTogether 4 = .ok (.iload_n 3, 1) := by decide +kernel
theorem dX8_flowTogether_5 : decode cX8_flowTogether 5 = .ok (.aload_n 0, 1) := by decide +kernel
theorem dX8_flowTogether_6 : decode cX8_flowTogether 6 = .ok (.getfield 9, 3) := by decide +kernel
theorem dX8_flowTogether_9 : decode cX8_flowTogether 9 = .ok (.if_icmp .ge 18, 3) := by decide +kernel
theorem dX8_flowTogether_12 : decode cX8_flowTogether 12 = .ok (.lload_n 1, 1) := by decide +kernel
theorem dX8_flowTogether_13 : decode cX8_flowTogether 13 = .ok (.aload_n 0, 1) := by decide +kernel
theorem dX8_flowTogether_14 : decode cX8_flowTogether 14 = .ok (.getfield 19, 3) := by decide +kernel
theorem dX8_flowTogether_17 : decode cX8_flowTogether 17 = .ok (.iload_n 3, 1) := by decide +kernel
theorem dX8_flowTogether_18 : decode cX8_flowTogether 18 = .ok (.laload, 1) := by decide +kernel
theorem dX8_flowTogether_19 : decode cX8_flowTogether 19 = .ok (.ladd, 1) := by decide +kernel
theorem dX8_flowTogether_20 : decode cX8_flowTogether 20 = .ok (.lstore_n 1, 1) := by decide +kernel
theorem dX8_flowTogether_21 : decode cX8_flowTogether 21 = .ok (.iinc 3 1, 3) := by decide +kernel
theorem dX8_flowTogether_24 : decode cX8_flowTogether 24 = .ok (.goto (-20), 3) := by decide +kernel
theorem dX8_flowTogether_27 : decode cX8_flowTogether 27 = .ok (.lload_n 1, 1) := by decide +kernel
theorem dX8_flowTogether_28 : decode cX8_flowTogether 28 = .ok (.lreturn, 1) := by decide +kernel
theorem dX8_waterTop_0 : decode cX8_waterTop 0 = .ok (.aload_n 0, 1) := by decide +kernel
theorem dX8_waterTop_1 : decode cX8_waterTop 1 = .ok (.getfield 26, 3) := by decide +kernel
theorem dX8_waterTop_4 : decode cX8_waterTop 4 = .ok (.getfield 117, 3) := by decide +kernel
theorem dX8_waterTop_7 : decode cX8_waterTop 7 = .ok (.iload_n 1, 1) := by decide +kernel
theorem dX8_waterTop_8 : decode cX8_waterTop 8 = .ok (.iaload, 1) := by decide +kernel
theorem dX8_waterTop_9 : decode cX8_waterTop 9 = .ok (.i2l, 1) := by decide +kernel
theorem dX8_waterTop_10 : decode cX8_waterTop 10 = .ok (.lconst 0, 1) := by decide +kernel
theorem dX8_waterTop_11 : decode cX8_waterTop 11 = .ok (.aload_n 0, 1) := by decide +kernel
theorem dX8_waterTop_12 : decode cX8_waterTop 12 = .ok (.getfield 30, 3) := by decide +kernel
theorem dX8_waterTop_15 : decode cX8_waterTop 15 = .ok (.getfield 120, 3) := by decide +kernel
theorem dX8_waterTop_18 : decode cX8_waterTop 18 = .ok (.iload_n 1, 1) := by decide +kernel
theorem dX8_waterTop_19 : decode cX8_waterTop 19 = .ok (.laload, 1) := by decide +kernel
theorem dX8_waterTop_20 : decode cX8_waterTop 20 = .ok (.aload_n 0, 1) := by decide +kernel
theorem dX8_waterTop_21 : decode cX8_waterTop 21 = .ok (.getfield 26, 3) := by decide +kernel
theorem dX8_waterTop_24 : decode cX8_waterTop 24 = .ok (.getfield 123, 3) := by decide +kernel
theorem dX8_waterTop_27 : decode cX8_waterTop 27 = .ok (.iload_n 1, 1) := by decide +kernel
theorem dX8_waterTop_28 : decode cX8_waterTop 28 = .ok (.iaload, 1) := by decide +kernel
theorem dX8_waterTop_29 : decode cX8_waterTop 29 = .ok (.i2l, 1) := by decide +kernel
theorem dX8_waterTop_30 : decode cX8_waterTop 30 = .ok (.aload_n 0, 1) := by decide +kernel
theorem dX8_waterTop_31 : decode cX8_waterTop 31 = .ok (.getfield 30, 3) := by decide +kernel
theorem dX8_waterTop_34 : decode cX8_waterTop 34 = .ok (.getfield 96, 3) := by decide +kernel
theorem dX8_waterTop_37 : decode cX8_waterTop 37 = .ok (.lmul, 1) := by decide +kernel
theorem dX8_waterTop_38 : decode cX8_waterTop 38 = .ok (.lsub, 1) := by decide +kernel
theorem dX8_waterTop_39 : decode cX8_waterTop 39 = .ok (.invokestatic 126, 3) := by decide +kernel
theorem dX8_waterTop_42 : decode cX8_waterTop 42 = .ok (.lmul, 1) := by decide +kernel
theorem dX8_waterTop_43 : decode cX8_waterTop 43 = .ok (.lreturn, 1) := by decide +kernel
theorem dX8_milliOfWay_0 : decode cX8_milliOfWay 0 = .ok (.lconst 0, 1) := by decide +kernel
theorem dX8_milliOfWay_1 : decode cX8_milliOfWay 1 = .ok (.lstore_n 2, 1) := by decide +kernel
theorem dX8_milliOfWay_2 : decode cX8_milliOfWay 2 = .ok (.iload_n 1, 1) := by decide +kernel
theorem dX8_milliOfWay_3 : decode cX8_milliOfWay 3 = .ok (.istore 4, 2) := by decide +kernel
theorem dX8_milliOfWay_5 : decode cX8_milliOfWay 5 = .ok (.iconst 0, 1) := by decide +kernel
theorem dX8_milliOfWay_6 : decode cX8_milliOfWay 6 = .ok (.istore 5, 2) := by decide +kernel
theorem dX8_milliOfWay_8 : decode cX8_milliOfWay 8 = .ok (.iload 5, 2) := by decide +kernel
theorem dX8_milliOfWay_10 : decode cX8_milliOfWay 10 = .ok (.bipush 6, 2) := by decide +kernel
theorem dX8_milliOfWay_12 : decode cX8_milliOfWay 12 = .ok (.if_icmp .ge 56, 3) := by decide +kernel
theorem dX8_milliOfWay_15 : decode cX8_milliOfWay 15 = .ok (.aload_n 0, 1) := by decide +kernel
theorem dX8_milliOfWay_16 : decode cX8_milliOfWay 16 = .ok (.getfield 26, 3) := by decide +kernel
theorem dX8_milliOfWay_19 : decode cX8_milliOfWay 19 = .ok (.iload 4, 2) := by decide +kernel
theorem dX8_milliOfWay_21 : decode cX8_milliOfWay 21 = .ok (.invokevirtual 109, 3) := by decide +kernel
theorem dX8_milliOfWay_24 : decode cX8_milliOfWay 24 = .ok (.ifCond .eq 44, 3) := by decide +kernel
theorem dX8_milliOfWay_27 : decode cX8_milliOfWay 27 = .ok (.aload_n 0, 1) := by decide +kernel
theorem dX8_milliOfWay_28 : decode cX8_milliOfWay 28 = .ok (.iload 4, 2) := by decide +kernel
theorem dX8_milliOfWay_30 : decode cX8_milliOfWay 30 = .ok (.invokevirtual 113, 3) := by decide +kernel
theorem dX8_milliOfWay_33 : decode cX8_milliOfWay 33 = .ok (.istore 6, 2) := by decide +kernel
theorem dX8_milliOfWay_35 : decode cX8_milliOfWay 35 = .ok (.aload_n 0, 1) := by decide +kernel
theorem dX8_milliOfWay_36 : decode cX8_milliOfWay 36 = .ok (.getfield 9, 3) := by decide +kernel
theorem dX8_milliOfWay_39 : decode cX8_milliOfWay 39 = .ok (.ifCond .le 19, 3) := by decide +kernel
theorem dX8_milliOfWay_42 : decode cX8_milliOfWay 42 = .ok (.lload_n 2, 1) := by decide +kernel
theorem dX8_milliOfWay_43 : decode cX8_milliOfWay 43 = .ok (.aload_n 0, 1) := by decide +kernel
theorem dX8_milliOfWay_44 : decode cX8_milliOfWay 44 = .ok (.iload 4, 2) := by decide +kernel
theorem dX8_milliOfWay_46 : decode cX8_milliOfWay 46 = .ok (.invokevirtual 132, 3) := by decide +kernel
theorem dX8_milliOfWay_49 : decode cX8_milliOfWay 49 = .ok (.aload_n 0, 1) := by decide +kernel
theorem dX8_milliOfWay_50 : decode cX8_milliOfWay 50 = .ok (.invokevirtual 135, 3) := by decide +kernel
theorem dX8_milliOfWay_53 : decode cX8_milliOfWay 53 = .ok (.invokestatic 139, 3) := by decide +kernel
theorem dX8_milliOfWay_56 : decode cX8_milliOfWay 56 = .ok (.ladd, 1) := by decide +kernel
theorem dX8_milliOfWay_57 : decode cX8_milliOfWay 57 = .ok (.lstore_n 2, 1) := by decide +kernel
theorem dX8_milliOfWay_58 : decode cX8_milliOfWay 58 = .ok (.iload 6, 2) := by decide +kernel
theorem dX8_milliOfWay_60 : decode cX8_milliOfWay 60 = .ok (.istore 4, 2) := by decide +kernel
theorem dX8_milliOfWay_62 : decode cX8_milliOfWay 62 = .ok (.iinc 5 1, 3) := by decide +kernel
theorem dX8_milliOfWay_65 : decode cX8_milliOfWay 65 = .ok (.goto (-57), 3) := by decide +kernel
theorem dX8_milliOfWay_68 : decode cX8_milliOfWay 68 = .ok (.lload_n 2, 1) := by decide +kernel
theorem dX8_milliOfWay_69 : decode cX8_milliOfWay 69 = .ok (.lreturn, 1) := by decide +kernel
theorem dX8_zoneOf_0 : decode cX8_zoneOf 0 = .ok (.aload_n 0, 1) := by decide +kernel
theorem dX8_zoneOf_1 : decode cX8_zoneOf 1 = .ok (.getfield 26, 3) := by decide +kernel
theorem dX8_zoneOf_4 : decode cX8_zoneOf 4 = .ok (.getfield 85, 3) := by decide +kernel
theorem dX8_zoneOf_7 : decode cX8_zoneOf 7 = .ok (.getfield 93, 3) := by decide +kernel
theorem dX8_zoneOf_10 : decode cX8_zoneOf 10 = .ok (.iload_n 1, 1) := by decide +kernel
theorem dX8_zoneOf_11 : decode cX8_zoneOf 11 = .ok (.iaload, 1) := by decide +kernel
theorem dX8_zoneOf_12 : decode cX8_zoneOf 12 = .ok (.ifCond .ne 5, 3) := by decide +kernel
theorem dX8_zoneOf_15 : decode cX8_zoneOf 15 = .ok (.iconst 0, 1) := by decide +kernel
theorem dX8_zoneOf_16 : decode cX8_zoneOf 16 = .ok (.ireturn, 1) := by decide +kernel
theorem dX8_zoneOf_17 : decode cX8_zoneOf 17 = .ok (.iconst 1, 1) := by decide +kernel
theorem dX8_zoneOf_18 : decode cX8_zoneOf 18 = .ok (.aload_n 0, 1) := by decide +kernel
theorem dX8_zoneOf_19 : decode cX8_zoneOf 19 = .ok (.getfield 26, 3) := by decide +kernel
theorem dX8_zoneOf_22 : decode cX8_zoneOf 22 = .ok (.getfield 85, 3) := by decide +kernel
theorem dX8_zoneOf_25 : decode cX8_zoneOf 25 = .ok (.getfield 92, 3) := by decide +kernel
theorem dX8_zoneOf_28 : decode cX8_zoneOf 28 = .ok (.iload_n 1, 1) := by decide +kernel
theorem dX8_zoneOf_29 : decode cX8_zoneOf 29 = .ok (.iaload, 1) := by decide +kernel
theorem dX8_zoneOf_30 : decode cX8_zoneOf 30 = .ok (.ishl, 1) := by decide +kernel
theorem dX8_zoneOf_31 : decode cX8_zoneOf 31 = .ok (.istore_n 2, 1) := by decide +kernel
theorem dX8_zoneOf_32 : decode cX8_zoneOf 32 = .ok (.iconst 0, 1) := by decide +kernel
theorem dX8_zoneOf_33 : decode cX8_zoneOf 33 = .ok (.istore_n 3, 1) := by decide +kernel
theorem dX8_zoneOf_34 : decode cX8_zoneOf 34 = .ok (.iload_n 3, 1) := by decide +kernel
theorem dX8_zoneOf_35 : decode cX8_zoneOf 35 = .ok (.bipush 6, 2) := by decide +kernel
theorem dX8_zoneOf_37 : decode cX8_zoneOf 37 = .ok (.if_icmp .ge 15, 3) := by decide +kernel
theorem dX8_zoneOf_40 : decode cX8_zoneOf 40 = .ok (.aload_n 0, 1) := by decide +kernel
theorem dX8_zoneOf_41 : decode cX8_zoneOf 41 = .ok (.iload_n 2, 1) := by decide +kernel
theorem dX8_zoneOf_42 : decode cX8_zoneOf 42 = .ok (.invokevirtual 142, 3) := by decide +kernel
theorem dX8_zoneOf_45 : decode cX8_zoneOf 45 = .ok (.istore_n 2, 1) := by decide +kernel
theorem dX8_zoneOf_46 : decode cX8_zoneOf 46 = .ok (.iinc 3 1, 3) := by decide +kernel
theorem dX8_zoneOf_49 : decode cX8_zoneOf 49 = .ok (.goto (-15), 3) := by decide +kernel
theorem dX8_zoneOf_52 : decode cX8_zoneOf 52 = .ok (.iload_n 2, 1) := by decide +kernel
theorem dX8_zoneOf_53 : decode cX8_zoneOf 53 = .ok (.ireturn, 1) := by decide +kernel
theorem dX8_withFeeders_0 : decode cX8_withFeeders 0 = .ok (.iload_n 1, 1) := by decide +kernel
theorem dX8_withFeeders_1 : decode cX8_withFeeders 1 = .ok (.istore_n 2, 1) := by decide +kernel
theorem dX8_withFeeders_2 : decode cX8_withFeeders 2 = .ok (.iconst 0, 1) := by decide +kernel
theorem dX8_withFeeders_3 : decode cX8_withFeeders 3 = .ok (.istore_n 3, 1) := by decide +kernel
theorem dX8_withFeeders_4 : decode cX8_withFeeders 4 = .ok (.iload_n 3, 1) := by decide +kernel
theorem dX8_withFeeders_5 : decode cX8_withFeeders 5 = .ok (.aload_n 0, 1) := by decide +kernel
theorem dX8_withFeeders_6 : decode cX8_withFeeders 6 = .ok (.getfield 26, 3) := by decide +kernel
theorem dX8_withFeeders_9 : decode cX8_withFeeders 9 = .ok (.getfield 34, 3) := by decide +kernel
theorem dX8_withFeeders_12 : decode cX8_withFeeders 12 = .ok (.getfield 40, 3) := by decide +kernel
theorem dX8_withFeeders_15 : decode cX8_withFeeders 15 = .ok (.if_icmp .ge 89, 3) := by decide +kernel
theorem dX8_withFeeders_18 : decode cX8_withFeeders 18 = .ok (.aload_n 0, 1) := by decide +kernel
theorem dX8_withFeeders_19 : decode cX8_withFeeders 19 = .ok (.getfield 30, 3) := by decide +kernel
theorem dX8_withFeeders_22 : decode cX8_withFeeders 22 = .ok (.iload_n 3, 1) := by decide +kernel
theorem dX8_withFeeders_23 : decode cX8_withFeeders 23 = .ok (.invokevirtual 45, 3) := by decide +kernel
theorem dX8_withFeeders_26 : decode cX8_withFeeders 26 = .ok (.lstore 4, 2) := by decide +kernel
theorem dX8_withFeeders_28 : decode cX8_withFeeders 28 = .ok (.iconst 1, 1) := by decide +kernel
theorem dX8_withFeeders_29 : decode cX8_withFeeders 29 = .ok (.aload_n 0, 1) := by decide +kernel
theorem dX8_withFeeders_30 : decode cX8_withFeeders 30 = .ok (.getfield 26, 3) := by decide +kernel
theorem dX8_withFeeders_33 : decode cX8_withFeeders 33 = .ok (.getfield 34, 3) := by decide +kernel
theorem dX8_withFeeders_36 : decode cX8_withFeeders 36 = .ok (.getfield 51, 3) := by decide +kernel
theorem dX8_withFeeders_39 : decode cX8_withFeeders 39 = .ok (.iload_n 3, 1) := by decide +kernel
theorem dX8_withFeeders_40 : decode cX8_withFeeders 40 = .ok (.iaload, 1) := by decide +kernel
theorem dX8_withFeeders_41 : decode cX8_withFeeders 41 = .ok (.ishl, 1) := by decide +kernel
theorem dX8_withFeeders_42 : decode cX8_withFeeders 42 = .ok (.istore 6, 2) := by decide +kernel
theorem dX8_withFeeders_44 : decode cX8_withFeeders 44 = .ok (.iconst 1, 1) := by decide +kernel
theorem dX8_withFeeders_45 : decode cX8_withFeeders 45 = .ok (.aload_n 0, 1) := by decide +kernel
theorem dX8_withFeeders_46 : decode cX8_withFeeders 46 = .ok (.getfield 26, 3) := by decide +kernel
theorem dX8_withFeeders_49 : decode cX8_withFeeders 49 = .ok (.getfield 34, 3) := by decide +kernel
theorem dX8_withFeeders_52 : decode cX8_withFeeders 52 = .ok (.getfield 54, 3) := by decide +kernel
theorem dX8_withFeeders_55 : decode cX8_withFeeders 55 = .ok (.iload_n 3, 1) := by decide +kernel
theorem dX8_withFeeders_56 : decode cX8_withFeeders 56 = .ok (.iaload, 1) := by decide +kernel
theorem dX8_withFeeders_57 : decode cX8_withFeeders 57 = .ok (.ishl, 1) := by decide +kernel
theorem dX8_withFeeders_58 : decode cX8_withFeeders 58 = .ok (.istore 7, 2) := by decide +kernel
theorem dX8_withFeeders_60 : decode cX8_withFeeders 60 = .ok (.lload 4, 2) := by decide +kernel
theorem dX8_withFeeders_62 : decode cX8_withFeeders 62 = .ok (.lconst 0, 1) := by decide +kernel
theorem dX8_withFeeders_63 : decode cX8_withFeeders 63 = .ok (.lcmp, 1) := by decide +kernel
theorem dX8_withFeeders_64 : decode cX8_withFeeders 64 = .ok (.ifCond .le 15, 3) := by decide +kernel
theorem dX8_withFeeders_67 : decode cX8_withFeeders 67 = .ok (.iload_n 1, 1) := by decide +kernel
theorem dX8_withFeeders_68 : decode cX8_withFeeders 68 = .ok (.iload 7, 2) := by decide +kernel
theorem dX8_withFeeders_70 : decode cX8_withFeeders 70 = .ok (.iand, 1) := by decide +kernel
theorem dX8_withFeeders_71 : decode cX8_withFeeders 71 = .ok (.ifCond .eq 8, 3) := by decide +kernel
theorem dX8_withFeeders_74 : decode cX8_withFeeders 74 = .ok (.iload_n 2, 1) := by decide +kernel
theorem dX8_withFeeders_75 : decode cX8_withFeeders 75 = .ok (.iload 6, 2) := by decide +kernel
theorem dX8_withFeeders_77 : decode cX8_withFeeders 77 = .ok (.ior, 1) := by decide +kernel
theorem dX8_withFeeders_78 : decode cX8_withFeeders 78 = .ok (.istore_n 2, 1) := by decide +kernel
theorem dX8_withFeeders_79 : decode cX8_withFeeders 79 = .ok (.lload 4, 2) := by decide +kernel
theorem dX8_withFeeders_81 : decode cX8_withFeeders 81 = .ok (.lconst 0, 1) := by decide +kernel
theorem dX8_withFeeders_82 : decode cX8_withFeeders 82 = .ok (.lcmp, 1) := by decide +kernel
theorem dX8_withFeeders_83 : decode cX8_withFeeders 83 = .ok (.ifCond .ge 15, 3) := by decide +kernel
theorem dX8_withFeeders_86 : decode cX8_withFeeders 86 = .ok (.iload_n 1, 1) := by decide +kernel
theorem dX8_withFeeders_87 : decode cX8_withFeeders 87 = .ok (.iload 6, 2) := by decide +kernel
theorem dX8_withFeeders_89 : decode cX8_withFeeders 89 = .ok (.iand, 1) := by decide +kernel
theorem dX8_withFeeders_90 : decode cX8_withFeeders 90 = .ok (.ifCond .eq 8, 3) := by decide +kernel
theorem dX8_withFeeders_93 : decode cX8_withFeeders 93 = .ok (.iload_n 2, 1) := by decide +kernel
theorem dX8_withFeeders_94 : decode cX8_withFeeders 94 = .ok (.iload 7, 2) := by decide +kernel
theorem dX8_withFeeders_96 : decode cX8_withFeeders 96 = .ok (.ior, 1) := by decide +kernel
theorem dX8_withFeeders_97 : decode cX8_withFeeders 97 = .ok (.istore_n 2, 1) := by decide +kernel
theorem dX8_withFeeders_98 : decode cX8_withFeeders 98 = .ok (.iinc 3 1, 3) := by decide +kernel
theorem dX8_withFeeders_101 : decode cX8_withFeeders 101 = .ok (.goto (-97), 3) := by decide +kernel
theorem dX8_withFeeders_104 : decode cX8_withFeeders 104 = .ok (.iload_n 2, 1) := by decide +kernel
theorem dX8_withFeeders_105 : decode cX8_withFeeders 105 = .ok (.ireturn, 1) := by decide +kernel
theorem dX8_partsThatReach_0 : decode cX8_partsThatReach 0 = .ok (.aload_n 0, 1) := by decide +kernel
theorem dX8_partsThatReach_1 : decode cX8_partsThatReach 1 = .ok (.getfield 23, 3) := by decide +kernel
theorem dX8_partsThatReach_4 : decode cX8_partsThatReach 4 = .ok (.iconst 0, 1) := by decide +kernel
theorem dX8_partsThatReach_5 : decode cX8_partsThatReach 5 = .ok (.invokestatic 145, 3) := by decide +kernel
theorem dX8_partsThatReach_8 : decode cX8_partsThatReach 8 = .ok (.aload_n 0, 1) := by decide +kernel
theorem dX8_partsThatReach_9 : decode cX8_partsThatReach 9 = .ok (.getfield 23, 3) := by decide +kernel
theorem dX8_partsThatReach_12 : decode cX8_partsThatReach 12 = .ok (.iload_n 1, 1) := by decide +kernel
theorem dX8_partsThatReach_13 : decode cX8_partsThatReach 13 = .ok (.ldc 151, 2) := by decide +kernel
theorem dX8_partsThatReach_15 : decode cX8_partsThatReach 15 = .ok (.iastore, 1) := by decide +kernel
theorem dX8_partsThatReach_16 : decode cX8_partsThatReach 16 = .ok (.iconst 0, 1) := by decide +kernel
theorem dX8_partsThatReach_17 : decode cX8_partsThatReach 17 = .ok (.istore_n 3, 1) := by decide +kernel
theorem dX8_partsThatReach_18 : decode cX8_partsThatReach 18 = .ok (.iconst 0, 1) := by decide +kernel
theorem dX8_partsThatReach_19 : decode cX8_partsThatReach 19 = .ok (.istore 4, 2) := by decide +kernel
theorem dX8_partsThatReach_21 : decode cX8_partsThatReach 21 = .ok (.iconst 0, 1) := by decide +kernel
theorem dX8_partsThatReach_22 : decode cX8_partsThatReach 22 = .ok (.istore 5, 2) := by decide +kernel
theorem dX8_partsThatReach_24 : decode cX8_partsThatReach 24 = .ok (.iload 5, 2) := by decide +kernel
theorem dX8_partsThatReach_26 : decode cX8_partsThatReach 26 = .ok (.aload_n 0, 1) := by decide +kernel
theorem dX8_partsThatReach_27 : decode cX8_partsThatReach 27 = .ok (.getfield 26, 3) := by decide +kernel
theorem dX8_partsThatReach_30 : decode cX8_partsThatReach 30 = .ok (.getfield 152, 3) := by decide +kernel
theorem dX8_partsThatReach_33 : decode cX8_partsThatReach 33 = .ok (.if_icmp .ge 81, 3) := by decide +kernel
theorem dX8_partsThatReach_36 : decode cX8_partsThatReach 36 = .ok (.aload_n 0, 1) := by decide +kernel
theorem dX8_partsThatReach_37 : decode cX8_partsThatReach 37 = .ok (.iload 4, 2) := by decide +kernel
theorem dX8_partsThatReach_39 : decode cX8_partsThatReach 39 = .ok (.invokevirtual 155, 3) := by decide +kernel
theorem dX8_partsThatReach_42 : decode cX8_partsThatReach 42 = .ok (.istore 6, 2) := by decide +kernel
theorem dX8_partsThatReach_44 : decode cX8_partsThatReach 44 = .ok (.iload 6, 2) := by decide +kernel
theorem dX8_partsThatReach_46 : decode cX8_partsThatReach 46 = .ok (.ldc 100, 2) := by decide +kernel
theorem dX8_partsThatReach_48 : decode cX8_partsThatReach 48 = .ok (.if_icmp .ne 6, 3) := by decide +kernel
theorem dX8_partsThatReach_51 : decode cX8_partsThatReach 51 = .ok (.goto 63, 3) := by decide +kernel
theorem dX8_partsThatReach_54 : decode cX8_partsThatReach 54 = .ok (.iload 4, 2) := by decide +kernel
theorem dX8_partsThatReach_56 : decode cX8_partsThatReach 56 = .ok (.iconst 1, 1) := by decide +kernel
theorem dX8_partsThatReach_57 : decode cX8_partsThatReach 57 = .ok (.iload 6, 2) := by decide +kernel
theorem dX8_partsThatReach_59 : decode cX8_partsThatReach 59 = .ok (.ishl, 1) := by decide +kernel
theorem dX8_partsThatReach_60 : decode cX8_partsThatReach 60 = .ok (.ior, 1) := by decide +kernel
theorem dX8_partsThatReach_61 : decode cX8_partsThatReach 61 = .ok (.istore 4, 2) := by decide +kernel
theorem dX8_partsThatReach_63 : decode cX8_partsThatReach 63 = .ok (.aload_n 0, 1) := by decide +kernel
theorem dX8_partsThatReach_64 : decode cX8_partsThatReach 64 = .ok (.iload 6, 2) := by decide +kernel
theorem dX8_partsThatReach_66 : decode cX8_partsThatReach 66 = .ok (.invokevirtual 101, 3) := by decide +kernel
theorem dX8_partsThatReach_69 : decode cX8_partsThatReach 69 = .ok (.aload_n 0, 1) := by decide +kernel
theorem dX8_partsThatReach_70 : decode cX8_partsThatReach 70 = .ok (.getfield 9, 3) := by decide +kernel
theorem dX8_partsThatReach_73 : decode cX8_partsThatReach 73 = .ok (.ifCond .le 21, 3) := by decide +kernel
theorem dX8_partsThatReach_76 : decode cX8_partsThatReach 76 = .ok (.iload_n 3, 1) := by decide +kernel
theorem dX8_partsThatReach_77 : decode cX8_partsThatReach 77 = .ok (.aload_n 0, 1) := by decide +kernel
theorem dX8_partsThatReach_78 : decode cX8_partsThatReach 78 = .ok (.aload_n 0, 1) := by decide +kernel
theorem dX8_partsThatReach_79 : decode cX8_partsThatReach 79 = .ok (.getfield 23, 3) := by decide +kernel
theorem dX8_partsThatReach_82 : decode cX8_partsThatReach 82 = .ok (.iload 6, 2) := by decide +kernel
theorem dX8_partsThatReach_84 : decode cX8_partsThatReach 84 = .ok (.iaload, 1) := by decide +kernel
theorem dX8_partsThatReach_85 : decode cX8_partsThatReach 85 = .ok (.iload_n 2, 1) := by decide +kernel
theorem dX8_partsThatReach_86 : decode cX8_partsThatReach 86 = .ok (.invokevirtual 158, 3) := by decide +kernel
theorem dX8_partsThatReach_89 : decode cX8_partsThatReach 89 = .ok (.iadd, 1) := by decide +kernel
theorem dX8_partsThatReach_90 : decode cX8_partsThatReach 90 = .ok (.istore_n 3, 1) := by decide +kernel
theorem dX8_partsThatReach_91 : decode cX8_partsThatReach 91 = .ok (.goto 17, 3) := by decide +kernel
theorem dX8_partsThatReach_94 : decode cX8_partsThatReach 94 = .ok (.iload 6, 2) := by decide +kernel
theorem dX8_partsThatReach_96 : decode cX8_partsThatReach 96 = .ok (.iload_n 2, 1) := by decide +kernel
theorem dX8_partsThatReach_97 : decode cX8_partsThatReach 97 = .ok (.if_icmp .ne 11, 3) := by decide +kernel
theorem dX8_partsThatReach_100 : decode cX8_partsThatReach 100 = .ok (.aload_n 0, 1) := by decide +kernel
theorem dX8_partsThatReach_101 : decode cX8_partsThatReach 101 = .ok (.getfield 23, 3) := by decide +kernel
theorem dX8_partsThatReach_104 : decode cX8_partsThatReach 104 = .ok (.iload 6, 2) := by decide +kernel
theorem dX8_partsThatReach_106 : decode cX8_partsThatReach 106 = .ok (.iaload, 1) := by decide +kernel
theorem dX8_partsThatReach_107 : decode cX8_partsThatReach 107 = .ok (.istore_n 3, 1) := by decide +kernel
theorem dX8_partsThatReach_108 : decode cX8_partsThatReach 108 = .ok (.iinc 5 1, 3) := by decide +kernel
theorem dX8_partsThatReach_111 : decode cX8_partsThatReach 111 = .ok (.goto (-87), 3) := by decide +kernel
theorem dX8_partsThatReach_114 : decode cX8_partsThatReach 114 = .ok (.iload_n 3, 1) := by decide +kernel
theorem dX8_partsThatReach_115 : decode cX8_partsThatReach 115 = .ok (.ireturn, 1) := by decide +kernel
theorem dX8_highestBut_0 : decode cX8_highestBut 0 = .ok (.ldc 100, 2) := by decide +kernel
theorem dX8_highestBut_2 : decode cX8_highestBut 2 = .ok (.istore_n 2, 1) := by decide +kernel
theorem dX8_highestBut_3 : decode cX8_highestBut 3 = .ok (.iconst 0, 1) := by decide +kernel
theorem dX8_highestBut_4 : decode cX8_highestBut 4 = .ok (.istore_n 3, 1) := by decide +kernel
theorem dX8_highestBut_5 : decode cX8_highestBut 5 = .ok (.iload_n 3, 1) := by decide +kernel
theorem dX8_highestBut_6 : decode cX8_highestBut 6 = .ok (.aload_n 0, 1) := by decide +kernel
theorem dX8_highestBut_7 : decode cX8_highestBut 7 = .ok (.getfield 26, 3) := by decide +kernel
theorem dX8_highestBut_10 : decode cX8_highestBut 10 = .ok (.getfield 152, 3) := by decide +kernel
theorem dX8_highestBut_13 : decode cX8_highestBut 13 = .ok (.if_icmp .ge 47, 3) := by decide +kernel
theorem dX8_highestBut_16 : decode cX8_highestBut 16 = .ok (.iload_n 1, 1) := by decide +kernel
theorem dX8_highestBut_17 : decode cX8_highestBut 17 = .ok (.iload_n 3, 1) := by decide +kernel
theorem dX8_highestBut_18 : decode cX8_highestBut 18 = .ok (.ishr, 1) := by decide +kernel
theorem dX8_highestBut_19 : decode cX8_highestBut 19 = .ok (.iconst 1, 1) := by decide +kernel
theorem dX8_highestBut_20 : decode cX8_highestBut 20 = .ok (.iand, 1) := by decide +kernel
theorem dX8_highestBut_21 : decode cX8_highestBut 21 = .ok (.ifCond .ne 33, 3) := by decide +kernel
theorem dX8_highestBut_24 : decode cX8_highestBut 24 = .ok (.iload_n 2, 1) := by decide +kernel
theorem dX8_highestBut_25 : decode cX8_highestBut 25 = .ok (.ldc 100, 2) := by decide +kernel
theorem dX8_highestBut_27 : decode cX8_highestBut 27 = .ok (.if_icmp .eq 25, 3) := by decide +kernel
theorem dX8_highestBut_30 : decode cX8_highestBut 30 = .ok (.aload_n 0, 1) := by decide +kernel
theorem dX8_highestBut_31 : decode cX8_highestBut 31 = .ok (.getfield 30, 3) := by decide +kernel
theorem dX8_highestBut_34 : decode cX8_highestBut 34 = .ok (.getfield 120, 3) := by decide +kernel
theorem dX8_highestBut_37 : decode cX8_highestBut 37 = .ok (.iload_n 3, 1) := by decide +kernel
theorem dX8_highestBut_38 : decode cX8_highestBut 38 = .ok (.laload, 1) := by decide +kernel
theorem dX8_highestBut_39 : decode cX8_highestBut 39 = .ok (.aload_n 0, 1) := by decide +kernel
theorem dX8_highestBut_40 : decode cX8_highestBut 40 = .ok (.getfield 30, 3) := by decide +kernel
theorem dX8_highestBut_43 : decode cX8_highestBut 43 = .ok (.getfield 120, 3) := by decide +kernel
theorem dX8_highestBut_46 : decode cX8_highestBut 46 = .ok (.iload_n 2, 1) := by decide +kernel
theorem dX8_highestBut_47 : decode cX8_highestBut 47 = .ok (.laload, 1) := by decide +kernel
theorem dX8_highestBut_48 : decode cX8_highestBut 48 = .ok (.lcmp, 1) := by decide +kernel
theorem dX8_highestBut_49 : decode cX8_highestBut 49 = .ok (.ifCond .le 5, 3) := by decide +kernel
theorem dX8_highestBut_52 : decode cX8_highestBut 52 = .ok (.iload_n 3, 1) := by decide +kernel
theorem dX8_highestBut_53 : decode cX8_highestBut 53 = .ok (.istore_n 2, 1) := by decide +kernel
theorem dX8_highestBut_54 : decode cX8_highestBut 54 = .ok (.iinc 3 1, 3) := by decide +kernel
theorem dX8_highestBut_57 : decode cX8_highestBut 57 = .ok (.goto (-52), 3) := by decide +kernel
theorem dX8_highestBut_60 : decode cX8_highestBut 60 = .ok (.iload_n 2, 1) := by decide +kernel
theorem dX8_highestBut_61 : decode cX8_highestBut 61 = .ok (.ireturn, 1) := by decide +kernel
theorem dX8_handOn_0 : decode cX8_handOn 0 = .ok (.iconst 0, 1) := by decide +kernel
theorem dX8_handOn_1 : decode cX8_handOn 1 = .ok (.istore_n 3, 1) := by decide +kernel
theorem dX8_handOn_2 : decode cX8_handOn 2 = .ok (.iload_n 1, 1) := by decide +kernel
theorem dX8_handOn_3 : decode cX8_handOn 3 = .ok (.istore 4, 2) := by decide +kernel
theorem dX8_handOn_5 : decode cX8_handOn 5 = .ok (.aload_n 0, 1) := by decide +kernel
theorem dX8_handOn_6 : decode cX8_handOn 6 = .ok (.invokevirtual 105, 3) := by decide +kernel
theorem dX8_handOn_9 : decode cX8_handOn 9 = .ok (.istore 5, 2) := by decide +kernel
theorem dX8_handOn_11 : decode cX8_handOn 11 = .ok (.aload_n 0, 1) := by decide +kernel
theorem dX8_handOn_12 : decode cX8_handOn 12 = .ok (.invokevirtual 135, 3) := by decide +kernel
theorem dX8_handOn_15 : decode cX8_handOn 15 = .ok (.lstore 6, 2) := by decide +kernel
theorem dX8_handOn_17 : decode cX8_handOn 17 = .ok (.iconst 0, 1) := by decide +kernel
theorem dX8_handOn_18 : decode cX8_handOn 18 = .ok (.istore 8, 2) := by decide +kernel
theorem dX8_handOn_20 : decode cX8_handOn 20 = .ok (.iload 8, 2) := by decide +kernel
theorem dX8_handOn_22 : decode cX8_handOn 22 = .ok (.aload_n 0, 1) := by decide +kernel
theorem dX8_handOn_23 : decode cX8_handOn 23 = .ok (.getfield 9, 3) := by decide +kernel
theorem dX8_handOn_26 : decode cX8_handOn 26 = .ok (.if_icmp .ge 43, 3) := by decide +kernel
theorem dX8_handOn_29 : decode cX8_handOn 29 = .ok (.iload_n 1, 1) := by decide +kernel
theorem dX8_handOn_30 : decode cX8_handOn 30 = .ok (.aload_n 0, 1) := by decide +kernel
theorem dX8_handOn_31 : decode cX8_handOn 31 = .ok (.getfield 19, 3) := by decide +kernel
theorem dX8_handOn_34 : decode cX8_handOn 34 = .ok (.iload 8, 2) := by decide +kernel
theorem dX8_handOn_36 : decode cX8_handOn 36 = .ok (.laload, 1) := by decide +kernel
theorem dX8_handOn_37 : decode cX8_handOn 37 = .ok (.lload 6, 2) := by decide +kernel
theorem dX8_handOn_39 : decode cX8_handOn 39 = .ok (.invokestatic 162, 3) := by decide +kernel
theorem dX8_handOn_42 : decode cX8_handOn 42 = .ok (.istore 9, 2) := by decide +kernel
theorem dX8_handOn_44 : decode cX8_handOn 44 = .ok (.iload 4, 2) := by decide +kernel
theorem dX8_handOn_46 : decode cX8_handOn 46 = .ok (.iload 9, 2) := by decide +kernel
theorem dX8_handOn_48 : decode cX8_handOn 48 = .ok (.isub, 1) := by decide +kernel
theorem dX8_handOn_49 : decode cX8_handOn 49 = .ok (.istore 4, 2) := by decide +kernel
theorem dX8_handOn_51 : decode cX8_handOn 51 = .ok (.iload_n 3, 1) := by decide +kernel
theorem dX8_handOn_52 : decode cX8_handOn 52 = .ok (.aload_n 0, 1) := by decide +kernel
theorem dX8_handOn_53 : decode cX8_handOn 53 = .ok (.iload 8, 2) := by decide +kernel
theorem dX8_handOn_55 : decode cX8_handOn 55 = .ok (.iload 9, 2) := by decide +kernel
theorem dX8_handOn_57 : decode cX8_handOn 57 = .ok (.iload_n 2, 1) := by decide +kernel
theorem dX8_handOn_58 : decode cX8_handOn 58 = .ok (.invokevirtual 166, 3) := by decide +kernel
theorem dX8_handOn_61 : decode cX8_handOn 61 = .ok (.iadd, 1) := by decide +kernel
theorem dX8_handOn_62 : decode cX8_handOn 62 = .ok (.istore_n 3, 1) := by decide +kernel
theorem dX8_handOn_63 : decode cX8_handOn 63 = .ok (.iinc 8 1, 3) := by decide +kernel
theorem dX8_handOn_66 : decode cX8_handOn 66 = .ok (.goto (-46), 3) := by decide +kernel
theorem dX8_handOn_69 : decode cX8_handOn 69 = .ok (.iload 5, 2) := by decide +kernel
theorem dX8_handOn_71 : decode cX8_handOn 71 = .ok (.ldc 100, 2) := by decide +kernel
theorem dX8_handOn_73 : decode cX8_handOn 73 = .ok (.if_icmp .ne 7, 3) := by decide +kernel
theorem dX8_handOn_76 : decode cX8_handOn 76 = .ok (.iload_n 3, 1) := by decide +kernel
theorem dX8_handOn_77 : decode cX8_handOn 77 = .ok (.goto 14, 3) := by decide +kernel
theorem dX8_handOn_80 : decode cX8_handOn 80 = .ok (.iload_n 3, 1) := by decide +kernel
theorem dX8_handOn_81 : decode cX8_handOn 81 = .ok (.aload_n 0, 1) := by decide +kernel
theorem dX8_handOn_82 : decode cX8_handOn 82 = .ok (.iload 5, 2) := by decide +kernel
theorem dX8_handOn_84 : decode cX8_handOn 84 = .ok (.iload 4, 2) := by decide +kernel
theorem dX8_handOn_86 : decode cX8_handOn 86 = .ok (.iload_n 2, 1) := by decide +kernel
theorem dX8_handOn_87 : decode cX8_handOn 87 = .ok (.invokevirtual 166, 3) := by decide +kernel
theorem dX8_handOn_90 : decode cX8_handOn 90 = .ok (.iadd, 1) := by decide +kernel
theorem dX8_handOn_91 : decode cX8_handOn 91 = .ok (.ireturn, 1) := by decide +kernel
theorem dX8_deliver_0 : decode cX8_deliver 0 = .ok (.aload_n 0, 1) := by decide +kernel
theorem dX8_deliver_1 : decode cX8_deliver 1 = .ok (.getfield 26, 3) := by decide +kernel
theorem dX8_deliver_4 : decode cX8_deliver 4 = .ok (.aload_n 0, 1) := by decide +kernel
theorem dX8_deliver_5 : decode cX8_deliver 5 = .ok (.getfield 15, 3) := by decide +kernel
theorem dX8_deliver_8 : decode cX8_deliver 8 = .ok (.iload_n 1, 1) := by decide +kernel
theorem dX8_deliver_9 : decode cX8_deliver 9 = .ok (.iaload, 1) := by decide +kernel
theorem dX8_deliver_10 : decode cX8_deliver 10 = .ok (.invokevirtual 109, 3) := by decide +kernel
theorem dX8_deliver_13 : decode cX8_deliver 13 = .ok (.ifCond .ne 19, 3) := by decide +kernel
theorem dX8_deliver_16 : decode cX8_deliver 16 = .ok (.aload_n 0, 1) := by decide +kernel
theorem dX8_deliver_17 : decode cX8_deliver 17 = .ok (.getfield 15, 3) := by decide +kernel
theorem dX8_deliver_20 : decode cX8_deliver 20 = .ok (.iload_n 1, 1) := by decide +kernel
theorem dX8_deliver_21 : decode cX8_deliver 21 = .ok (.iaload, 1) := by decide +kernel
theorem dX8_deliver_22 : decode cX8_deliver 22 = .ok (.iload_n 3, 1) := by decide +kernel
theorem dX8_deliver_23 : decode cX8_deliver 23 = .ok (.if_icmp .ne 7, 3) := by decide +kernel
theorem dX8_deliver_26 : decode cX8_deliver 26 = .ok (.iload_n 2, 1) := by decide +kernel
theorem dX8_deliver_27 : decode cX8_deliver 27 = .ok (.goto 4, 3) := by decide +kernel
theorem dX8_deliver_30 : decode cX8_deliver 30 = .ok (.iconst 0, 1) := by decide +kernel
theorem dX8_deliver_31 : decode cX8_deliver 31 = .ok (.ireturn, 1) := by decide +kernel
theorem dX8_deliver_32 : decode cX8_deliver 32 = .ok (.aload_n 0, 1) := by decide +kernel
theorem dX8_deliver_33 : decode cX8_deliver 33 = .ok (.getfield 23, 3) := by decide +kernel
theorem dX8_deliver_36 : decode cX8_deliver 36 = .ok (.aload_n 0, 1) := by decide +kernel
theorem dX8_deliver_37 : decode cX8_deliver 37 = .ok (.getfield 15, 3) := by decide +kernel
theorem dX8_deliver_40 : decode cX8_deliver 40 = .ok (.iload_n 1, 1) := by decide +kernel
theorem dX8_deliver_41 : decode cX8_deliver 41 = .ok (.iaload, 1) := by decide +kernel
theorem dX8_deliver_42 : decode cX8_deliver 42 = .ok (.dup2, 1) := by decide +kernel
theorem dX8_deliver_43 : decode cX8_deliver 43 = .ok (.iaload, 1) := by decide +kernel
theorem dX8_deliver_44 : decode cX8_deliver 44 = .ok (.iload_n 2, 1) := by decide +kernel
theorem dX8_deliver_45 : decode cX8_deliver 45 = .ok (.iadd, 1) := by decide +kernel
theorem dX8_deliver_46 : decode cX8_deliver 46 = .ok (.iastore, 1) := by decide +kernel
theorem dX8_deliver_47 : decode cX8_deliver 47 = .ok (.iconst 0, 1) := by decide +kernel
theorem dX8_deliver_48 : decode cX8_deliver 48 = .ok (.ireturn, 1) := by decide +kernel
theorem dX8_shareByFlow_0 : decode cX8_shareByFlow 0 = .ok (.lload_n 3, 1) := by decide +kernel
theorem dX8_shareByFlow_1 : decode cX8_shareByFlow 1 = .ok (.lconst 1, 1) := by decide +kernel
theorem dX8_shareByFlow_2 : decode cX8_shareByFlow 2 = .ok (.lcmp, 1) := by decide +kernel
theorem dX8_shareByFlow_3 : decode cX8_shareByFlow 3 = .ok (.ifCond .ge 5, 3) := by decide +kernel
theorem dX8_shareByFlow_6 : decode cX8_shareByFlow 6 = .ok (.iconst 0, 1) := by decide +kernel
theorem dX8_shareByFlow_7 : decode cX8_shareByFlow 7 = .ok (.ireturn, 1) := by decide +kernel
theorem dX8_shareByFlow_8 : decode cX8_shareByFlow 8 = .ok (.lload_n 1, 1) := by decide +kernel
theorem dX8_shareByFlow_9 : decode cX8_shareByFlow 9 = .ok (.iload_n 0, 1) := by decide +kernel
theorem dX8_shareByFlow_10 : decode cX8_shareByFlow 10 = .ok (.sipush 1000, 3) := by decide +kernel
theorem dX8_shareByFlow_13 : decode cX8_shareByFlow 13 = .ok (.idiv, 1) := by decide +kernel
theorem dX8_shareByFlow_14 : decode cX8_shareByFlow 14 = .ok (.i2l, 1) := by decide +kernel
theorem dX8_shareByFlow_15 : decode cX8_shareByFlow 15 = .ok (.lmul, 1) := by decide +kernel
theorem dX8_shareByFlow_16 : decode cX8_shareByFlow 16 = .ok (.lstore 5, 2) := by decide +kernel
theorem dX8_shareByFlow_18 : decode cX8_shareByFlow 18 = .ok (.lload 5, 2) := by decide +kernel
theorem dX8_shareByFlow_20 : decode cX8_shareByFlow 20 = .ok (.lload_n 3, 1) := by decide +kernel
theorem dX8_shareByFlow_21 : decode cX8_shareByFlow 21 = .ok (.lrem, 1) := by decide +kernel
theorem dX8_shareByFlow_22 : decode cX8_shareByFlow 22 = .ok (.ldc2_w 170, 3) := by decide +kernel
theorem dX8_shareByFlow_25 : decode cX8_shareByFlow 25 = .ok (.lmul, 1) := by decide +kernel
theorem dX8_shareByFlow_26 : decode cX8_shareByFlow 26 = .ok (.lload_n 1, 1) := by decide +kernel
theorem dX8_shareByFlow_27 : decode cX8_shareByFlow 27 = .ok (.iload_n 0, 1) := by decide +kernel
theorem dX8_shareByFlow_28 : decode cX8_shareByFlow 28 = .ok (.sipush 1000, 3) := by decide +kernel
theorem dX8_shareByFlow_31 : decode cX8_shareByFlow 31 = .ok (.irem, 1) := by decide +kernel
theorem dX8_shareByFlow_32 : decode cX8_shareByFlow 32 = .ok (.i2l, 1) := by decide +kernel
theorem dX8_shareByFlow_33 : decode cX8_shareByFlow 33 = .ok (.lmul, 1) := by decide +kernel
theorem dX8_shareByFlow_34 : decode cX8_shareByFlow 34 = .ok (.ladd, 1) := by decide +kernel
theorem dX8_shareByFlow_35 : decode cX8_shareByFlow 35 = .ok (.lstore 7, 2) := by decide +kernel
theorem dX8_shareByFlow_37 : decode cX8_shareByFlow 37 = .ok (.lload 5, 2) := by decide +kernel
theorem dX8_shareByFlow_39 : decode cX8_shareByFlow 39 = .ok (.lload_n 3, 1) := by decide +kernel
theorem dX8_shareByFlow_40 : decode cX8_shareByFlow 40 = .ok (.ldiv, 1) := by decide +kernel
theorem dX8_shareByFlow_41 : decode cX8_shareByFlow 41 = .ok (.ldc2_w 170, 3) := by decide +kernel
theorem dX8_shareByFlow_44 : decode cX8_shareByFlow 44 = .ok (.lmul, 1) := by decide +kernel
theorem dX8_shareByFlow_45 : decode cX8_shareByFlow 45 = .ok (.lload 7, 2) := by decide +kernel
theorem dX8_shareByFlow_47 : decode cX8_shareByFlow 47 = .ok (.lload_n 3, 1) := by decide +kernel
theorem dX8_shareByFlow_48 : decode cX8_shareByFlow 48 = .ok (.ldiv, 1) := by decide +kernel
theorem dX8_shareByFlow_49 : decode cX8_shareByFlow 49 = .ok (.ladd, 1) := by decide +kernel
theorem dX8_shareByFlow_50 : decode cX8_shareByFlow 50 = .ok (.l2i, 1) := by decide +kernel
theorem dX8_shareByFlow_51 : decode cX8_shareByFlow 51 = .ok (.ireturn, 1) := by decide +kernel
theorem dX9_init_0 : decode cX9_init 0 = .ok (.aload_n 0, 1) := by decide +kernel
theorem dX9_init_1 : decode cX9_init 1 = .ok (.invokespecial 3, 3) := by decide +kernel
theorem dX9_init_4 : decode cX9_init 4 = .ok (.aload_n 0, 1) := by decide +kernel
theorem dX9_init_5 : decode cX9_init 5 = .ok (.iconst 0, 1) := by decide +kernel
theorem dX9_init_6 : decode cX9_init 6 = .ok (.putfield 9, 3) := by decide +kernel
theorem dX9_init_9 : decode cX9_init 9 = .ok (.aload_n 0, 1) := by decide +kernel
theorem dX9_init_10 : decode cX9_init 10 = .ok (.iconst 3, 1) := by decide +kernel
theorem dX9_init_11 : decode cX9_init 11 = .ok (.newarray .int, 2) := by decide +kernel
theorem dX9_init_13 : decode cX9_init 13 = .ok (.putfield 15, 3) := by decide +kernel
theorem dX9_init_16 : decode cX9_init 16 = .ok (.aload_n 0, 1) := by decide +kernel
theorem dX9_init_17 : decode cX9_init 17 = .ok (.iconst 3, 1) := by decide +kernel
theorem dX9_init_18 : decode cX9_init 18 = .ok (.newarray .int, 2) := by decide +kernel
theorem dX9_init_20 : decode cX9_init 20 = .ok (.putfield 19, 3) := by decide +kernel
theorem dX9_init_23 : decode cX9_init 23 = .ok (.aload_n 0, 1) := by decide +kernel
theorem dX9_init_24 : decode cX9_init 24 = .ok (.iconst 3, 1) := by decide +kernel
theorem dX9_init_25 : decode cX9_init 25 = .ok (.newarray .int, 2) := by decide +kernel
theorem dX9_init_27 : decode cX9_init 27 = .ok (.putfield 22, 3) := by decide +kernel
theorem dX9_init_30 : decode cX9_init 30 = .ok (.aload_n 0, 1) := by decide +kernel
theorem dX9_init_31 : decode cX9_init 31 = .ok (.iconst 3, 1) := by decide +kernel
theorem dX9_init_32 : decode cX9_init 32 = .ok (.newarray .int, 2) := by decide +kernel
theorem dX9_init_34 : decode cX9_init 34 = .ok (.putfield 25, 3) := by decide +kernel
theorem dX9_init_37 : decode cX9_init 37 = .ok (.return_, 1) := by decide +kernel
theorem dX9_has_0 : decode cX9_has 0 = .ok (.iload_n 1, 1) := by decide +kernel
theorem dX9_has_1 : decode cX9_has 1 = .ok (.ifCond .lt 15, 3) := by decide +kernel
theorem dX9_has_4 : decode cX9_has 4 = .ok (.iload_n 1, 1) := by decide +kernel
theorem dX9_has_5 : decode cX9_has 5 = .ok (.aload_n 0, 1) := by decide +kernel
theorem dX9_has_6 : decode cX9_has 6 = .ok (.getfield 9, 3) := by decide +kernel
theorem dX9_has_9 : decode cX9_has 9 = .ok (.if_icmp .ge 7, 3) := by decide +kernel
theorem dX9_has_12 : decode cX9_has 12 = .ok (.iconst 1, 1) := by decide +kernel
theorem dX9_has_13 : decode cX9_has 13 = .ok (.goto 4, 3) := by decide +kernel
theorem dX9_has_16 : decode cX9_has 16 = .ok (.iconst 0, 1) := by decide +kernel
theorem dX9_has_17 : decode cX9_has 17 = .ok (.ireturn, 1) := by decide +kernel
theorem dX9_add_0 : decode cX9_add 0 = .ok (.aload_n 0, 1) := by decide +kernel
theorem dX9_add_1 : decode cX9_add 1 = .ok (.getfield 15, 3) := by decide +kernel
theorem dX9_add_4 : decode cX9_add 4 = .ok (.aload_n 0, 1) := by decide +kernel
theorem dX9_add_5 : decode cX9_add 5 = .ok (.getfield 9, 3) := by decide +kernel
theorem dX9_add_8 : decode cX9_add 8 = .ok (.iload_n 1, 1) := by decide +kernel
theorem dX9_add_9 : decode cX9_add 9 = .ok (.iastore, 1) := by decide +kernel
theorem dX9_add_10 : decode cX9_add 10 = .ok (.aload_n 0, 1) := by decide +kernel
theorem dX9_add_11 : decode cX9_add 11 = .ok (.getfield 19, 3) := by decide +kernel
theorem dX9_add_14 : decode cX9_add 14 = .ok (.aload_n 0, 1) := by decide +kernel
theorem dX9_add_15 : decode cX9_add 15 = .ok (.getfield 9, 3) := by decide +kernel
theorem dX9_add_18 : decode cX9_add 18 = .ok (.iload_n 2, 1) := by decide +kernel
theorem dX9_add_19 : decode cX9_add 19 = .ok (.iastore, 1) := by decide +kernel
theorem dX9_add_20 : decode cX9_add 20 = .ok (.aload_n 0, 1) := by decide +kernel
theorem dX9_add_21 : decode cX9_add 21 = .ok (.getfield 22, 3) := by decide +kernel
theorem dX9_add_24 : decode cX9_add 24 = .ok (.aload_n 0, 1) := by decide +kernel
theorem dX9_add_25 : decode cX9_add 25 = .ok (.getfield 9, 3) := by decide +kernel
theorem dX9_add_28 : decode cX9_add 28 = .ok (.iload_n 3, 1) := by decide +kernel
theorem dX9_add_29 : decode cX9_add 29 = .ok (.iastore, 1) := by decide +kernel
theorem dX9_add_30 : decode cX9_add 30 = .ok (.aload_n 0, 1) := by decide +kernel
theorem dX9_add_31 : decode cX9_add 31 = .ok (.dup, 1) := by decide +kernel
theorem dX9_add_32 : decode cX9_add 32 = .ok (.getfield 9, 3) := by decide +kernel
theorem dX9_add_35 : decode cX9_add 35 = .ok (.dup_x1, 1) := by decide +kernel
theorem dX9_add_36 : decode cX9_add 36 = .ok (.iconst 1, 1) := by decide +kernel
theorem dX9_add_37 : decode cX9_add 37 = .ok (.iadd, 1) := by decide +kernel
theorem dX9_add_38 : decode cX9_add 38 = .ok (.putfield 9, 3) := by decide +kernel
theorem dX9_add_41 : decode cX9_add 41 = .ok (.ireturn, 1) := by decide +kernel
theorem dX9_rateAt_0 : decode cX9_rateAt 0 = .ok (.aload_n 0, 1) := by decide +kernel
theorem dX9_rateAt_1 : decode cX9_rateAt 1 = .ok (.getfield 19, 3) := by decide +kernel
theorem dX9_rateAt_4 : decode cX9_rateAt 4 = .ok (.iload_n 1, 1) := by decide +kernel
theorem dX9_rateAt_5 : decode cX9_rateAt 5 = .ok (.iaload, 1) := by decide +kernel
theorem dX9_rateAt_6 : decode cX9_rateAt 6 = .ok (.iload_n 2, 1) := by decide +kernel
theorem dX9_rateAt_7 : decode cX9_rateAt 7 = .ok (.imul, 1) := by decide +kernel
theorem dX9_rateAt_8 : decode cX9_rateAt 8 = .ok (.iconst 4, 1) := by decide +kernel
theorem dX9_rateAt_9 : decode cX9_rateAt 9 = .ok (.idiv, 1) := by decide +kernel
theorem dX9_rateAt_10 : decode cX9_rateAt 10 = .ok (.ireturn, 1) := by decide +kernel
theorem dX9_allRates_0 : decode cX9_allRates 0 = .ok (.iconst 0, 1) := by decide +kernel
theorem dX9_allRates_1 : decode cX9_allRates 1 = .ok (.istore_n 1, 1) := by decide +kernel
theorem dX9_allRates_2 : decode cX9_allRates 2 = .ok (.iconst 0, 1) := by decide +kernel
theorem dX9_allRates_3 : decode cX9_allRates 3 = .ok (.istore_n 2, 1) := by decide +kernel
theorem dX9_allRates_4 : decode cX9_allRates 4 = .ok (.iload_n 2, 1) := by decide +kernel
theorem dX9_allRates_5 : decode cX9_allRates 5 = .ok (.aload_n 0, 1) := by decide +kernel
theorem dX9_allRates_6 : decode cX9_allRates 6 = .ok (.getfield 9, 3) := by decide +kernel
theorem dX9_allRates_9 : decode cX9_allRates 9 = .ok (.if_icmp .ge 18, 3) := by decide +kernel
theorem dX9_allRates_12 : decode cX9_allRates 12 = .ok (.iload_n 1, 1) := by decide +kernel
theorem dX9_allRates_13 : decode cX9_allRates 13 = .ok (.aload_n 0, 1) := by decide +kernel
theorem dX9_allRates_14 : decode cX9_allRates 14 = .ok (.getfield 25, 3) := by decide +kernel
theorem dX9_allRates_17 : decode cX9_allRates 17 = .ok (.iload_n 2, 1) := by decide +kernel
theorem dX9_allRates_18 : decode cX9_allRates 18 = .ok (.iaload, 1) := by decide +kernel
theorem dX9_allRates_19 : decode cX9_allRates 19 = .ok (.iadd, 1) := by decide +kernel
theorem dX9_allRates_20 : decode cX9_allRates 20 = .ok (.istore_n 1, 1) := by decide +kernel
theorem dX9_allRates_21 : decode cX9_allRates 21 = .ok (.iinc 2 1, 3) := by decide +kernel
theorem dX9_allRates_24 : decode cX9_allRates 24 = .ok (.goto (-20), 3) := by decide +kernel
theorem dX9_allRates_27 : decode cX9_allRates 27 = .ok (.iload_n 1, 1) := by decide +kernel
theorem dX9_allRates_28 : decode cX9_allRates 28 = .ok (.ireturn, 1) := by decide +kernel
theorem dX10_init_0 : decode cX10_init 0 = .ok (.aload_n 0, 1) := by decide +kernel
theorem dX10_init_1 : decode cX10_init 1 = .ok (.invokespecial 3, 3) := by decide +kernel
theorem dX10_init_4 : decode cX10_init 4 = .ok (.aload_n 0, 1) := by decide +kernel
theorem dX10_init_5 : decode cX10_init 5 = .ok (.iconst 0, 1) := by decide +kernel
theorem dX10_init_6 : decode cX10_init 6 = .ok (.putfield 9, 3) := by decide +kernel
theorem dX10_init_9 : decode cX10_init 9 = .ok (.aload_n 0, 1) := by decide +kernel
theorem dX10_init_10 : decode cX10_init 10 = .ok (.iconst 5, 1) := by decide +kernel
theorem dX10_init_11 : decode cX10_init 11 = .ok (.newarray .int, 2) := by decide +kernel
theorem dX10_init_13 : decode cX10_init 13 = .ok (.putfield 15, 3) := by decide +kernel
theorem dX10_init_16 : decode cX10_init 16 = .ok (.aload_n 0, 1) := by decide +kernel
theorem dX10_init_17 : decode cX10_init 17 = .ok (.iconst 5, 1) := by decide +kernel
theorem dX10_init_18 : decode cX10_init 18 = .ok (.newarray .int, 2) := by decide +kernel
theorem dX10_init_20 : decode cX10_init 20 = .ok (.putfield 19, 3) := by decide +kernel
theorem dX10_init_23 : decode cX10_init 23 = .ok (.aload_n 0, 1) := by decide +kernel
theorem dX10_init_24 : decode cX10_init 24 = .ok (.bipush 6, 2) := by decide +kernel
theorem dX10_init_26 : decode cX10_init 26 = .ok (.newarray .int, 2) := by decide +kernel
theorem dX10_init_28 : decode cX10_init 28 = .ok (.putfield 22, 3) := by decide +kernel
theorem dX10_init_31 : decode cX10_init 31 = .ok (.aload_n 0, 1) := by decide +kernel
theorem dX10_init_32 : decode cX10_init 32 = .ok (.bipush 6, 2) := by decide +kernel
theorem dX10_init_34 : decode cX10_init 34 = .ok (.newarray .int, 2) := by decide +kernel
theorem dX10_init_36 : decode cX10_init 36 = .ok (.putfield 25, 3) := by decide +kernel
theorem dX10_init_39 : decode cX10_init 39 = .ok (.aload_n 0, 1) := by decide +kernel
theorem dX10_init_40 : decode cX10_init 40 = .ok (.iconst 5, 1) := by decide +kernel
theorem dX10_init_41 : decode cX10_init 41 = .ok (.bipush 6, 2) := by decide +kernel
theorem dX10_init_43 : decode cX10_init 43 = .ok (.multianewarray 28 2, 4) := by decide +kernel
theorem dX10_init_47 : decode cX10_init 47 = .ok (.putfield 30, 3) := by decide +kernel
theorem dX10_init_50 : decode cX10_init 50 = .ok (.aload_n 0, 1) := by decide +kernel
theorem dX10_init_51 : decode cX10_init 51 = .ok (.aload_n 1, 1) := by decide +kernel
theorem dX10_init_52 : decode cX10_init 52 = .ok (.putfield 33, 3) := by decide +kernel
theorem dX10_init_55 : decode cX10_init 55 = .ok (.aload_n 0, 1) := by decide +kernel
theorem dX10_init_56 : decode cX10_init 56 = .ok (.new 37, 3) := by decide +kernel
theorem dX10_init_59 : decode cX10_init 59 = .ok (.dup, 1) := by decide +kernel
theorem dX10_init_60 : decode cX10_init 60 = .ok (.aload_n 1, 1) := by decide +kernel
theorem dX10_init_61 : decode cX10_init 61 = .ok (.iconst 1, 1) := by decide +kernel
theorem dX10_init_62 : decode cX10_init 62 = .ok (.invokespecial 39, 3) := by decide +kernel
theorem dX10_init_65 : decode cX10_init 65 = .ok (.putfield 42, 3) := by decide +kernel
theorem dX10_init_68 : decode cX10_init 68 = .ok (.aload_n 0, 1) := by decide +kernel
theorem dX10_init_69 : decode cX10_init 69 = .ok (.getfield 25, 3) := by decide +kernel
theorem dX10_init_72 : decode cX10_init 72 = .ok (.iconst (-1), 1) := by decide +kernel
theorem dX10_init_73 : decode cX10_init 73 = .ok (.invokestatic 46, 3) := by decide +kernel
theorem dX10_init_76 : decode cX10_init 76 = .ok (.return_, 1) := by decide +kernel
theorem dX10_has_0 : decode cX10_has 0 = .ok (.iload_n 1, 1) := by decide +kernel
theorem dX10_has_1 : decode cX10_has 1 = .ok (.ifCond .lt 15, 3) := by decide +kernel
theorem dX10_has_4 : decode cX10_has 4 = .ok (.iload_n 1, 1) := by decide +kernel
theorem dX10_has_5 : decode cX10_has 5 = .ok (.aload_n 0, 1) := by decide +kernel
theorem dX10_has_6 : decode cX10_has 6 = .ok (.getfield 9, 3) := by decide +kernel
theorem dX10_has_9 : decode cX10_has 9 = .ok (.if_icmp .ge 7, 3) := by decide +kernel
theorem dX10_has_12 : decode cX10_has 12 = .ok (.iconst 1, 1) := by decide +kernel
theorem dX10_has_13 : decode cX10_has 13 = .ok (.goto 4, 3) := by decide +kernel
theorem dX10_has_16 : decode cX10_has 16 = .ok (.iconst 0, 1) := by decide +kernel
theorem dX10_has_17 : decode cX10_has 17 = .ok (.ireturn, 1) := by decide +kernel
theorem dX10_add_0 : decode cX10_add 0 = .ok (.aload_n 0, 1) := by decide +kernel
theorem dX10_add_1 : decode cX10_add 1 = .ok (.getfield 15, 3) := by decide +kernel
theorem dX10_add_4 : decode cX10_add 4 = .ok (.aload_n 0, 1) := by decide +kernel
theorem dX10_add_5 : decode cX10_add 5 = .ok (.getfield 9, 3) := by decide +kernel
theorem dX10_add_8 : decode cX10_add 8 = .ok (.iload_n 1, 1) := by decide +kernel
theorem dX10_add_9 : decode cX10_add 9 = .ok (.iastore, 1) := by decide +kernel
theorem dX10_add_10 : decode cX10_add 10 = .ok (.aload_n 0, 1) := by decide +kernel
theorem dX10_add_11 : decode cX10_add 11 = .ok (.getfield 19, 3) := by decide +kernel
theorem dX10_add_14 : decode cX10_add 14 = .ok (.aload_n 0, 1) := by decide +kernel
theorem dX10_add_15 : decode cX10_add 15 = .ok (.getfield 9, 3) := by decide +kernel
theorem dX10_add_18 : decode cX10_add 18 = .ok (.iload_n 2, 1) := by decide +kernel
theorem dX10_add_19 : decode cX10_add 19 = .ok (.iastore, 1) := by decide +kernel
theorem dX10_add_20 : decode cX10_add 20 = .ok (.aload_n 0, 1) := by decide +kernel
theorem dX10_add_21 : decode cX10_add 21 = .ok (.dup, 1) := by decide +kernel
theorem dX10_add_22 : decode cX10_add 22 = .ok (.getfield 9, 3) := by decide +kernel
theorem dX10_add_25 : decode cX10_add 25 = .ok (.dup_x1, 1) := by decide +kernel
theorem dX10_add_26 : decode cX10_add 26 = .ok (.iconst 1, 1) := by decide +kernel
theorem dX10_add_27 : decode cX10_add 27 = .ok (.iadd, 1) := by decide +kernel
theorem dX10_add_28 : decode cX10_add 28 = .ok (.putfield 9, 3) := by decide +kernel
theorem dX10_add_31 : decode cX10_add 31 = .ok (.ireturn, 1) := by decide +kernel
theorem dX10_note_0 : decode cX10_note 0 = .ok (.aload_n 0, 1) := by decide +kernel
theorem dX10_note_1 : decode cX10_note 1 = .ok (.getfield 22, 3) := by decide +kernel
theorem dX10_note_4 : decode cX10_note 4 = .ok (.iload_n 1, 1) := by decide +kernel
theorem dX10_note_5 : decode cX10_note 5 = .ok (.iload_n 2, 1) := by decide +kernel
theorem dX10_note_6 : decode cX10_note 6 = .ok (.iastore, 1) := by decide +kernel
theorem dX10_note_7 : decode cX10_note 7 = .ok (.aload_n 0, 1) := by decide +kernel
theorem dX10_note_8 : decode cX10_note 8 = .ok (.getfield 25, 3) := by decide +kernel
theorem dX10_note_11 : decode cX10_note 11 = .ok (.iload_n 1, 1) := by decide +kernel
theorem dX10_note_12 : decode cX10_note 12 = .ok (.iconst (-1), 1) := by decide +kernel
theorem dX10_note_13 : decode cX10_note 13 = .ok (.iload_n 3, 1) := by decide +kernel
theorem dX10_note_14 : decode cX10_note 14 = .ok (.invokestatic 52, 3) := by decide +kernel
theorem dX10_note_17 : decode cX10_note 17 = .ok (.iastore, 1) := by decide +kernel
theorem dX10_note_18 : decode cX10_note 18 = .ok (.iload_n 3, 1) := by decide +kernel
theorem dX10_note_19 : decode cX10_note 19 = .ok (.ifCond .lt 7, 3) := by decide +kernel
theorem dX10_note_22 : decode cX10_note 22 = .ok (.iconst 1, 1) := by decide +kernel
theorem dX10_note_23 : decode cX10_note 23 = .ok (.goto 4, 3) := by decide +kernel
theorem dX10_note_26 : decode cX10_note 26 = .ok (.iconst 0, 1) := by decide +kernel
theorem dX10_note_27 : decode cX10_note 27 = .ok (.ireturn, 1) := by decide +kernel
theorem dX10_isSeen_0 : decode cX10_isSeen 0 = .ok (.aload_n 0, 1) := by decide +kernel
theorem dX10_isSeen_1 : decode cX10_isSeen 1 = .ok (.getfield 25, 3) := by decide +kernel
theorem dX10_isSeen_4 : decode cX10_isSeen 4 = .ok (.iload_n 1, 1) := by decide +kernel
theorem dX10_isSeen_5 : decode cX10_isSeen 5 = .ok (.iaload, 1) := by decide +kernel
theorem dX10_isSeen_6 : decode cX10_isSeen 6 = .ok (.ifCond .lt 7, 3) := by decide +kernel
theorem dX10_isSeen_9 : decode cX10_isSeen 9 = .ok (.iconst 1, 1) := by decide +kernel
theorem dX10_isSeen_10 : decode cX10_isSeen 10 = .ok (.goto 4, 3) := by decide +kernel
theorem dX10_isSeen_13 : decode cX10_isSeen 13 = .ok (.iconst 0, 1) := by decide +kernel
theorem dX10_isSeen_14 : decode cX10_isSeen 14 = .ok (.ireturn, 1) := by decide +kernel
theorem dX10_seenCells_0 : decode cX10_seenCells 0 = .ok (.iconst 0, 1) := by decide +kernel
theorem dX10_seenCells_1 : decode cX10_seenCells 1 = .ok (.istore_n 1, 1) := by decide +kernel
theorem dX10_seenCells_2 : decode cX10_seenCells 2 = .ok (.iconst 0, 1) := by decide +kernel
theorem dX10_seenCells_3 : decode cX10_seenCells 3 = .ok (.istore_n 2, 1) := by decide +kernel
theorem dX10_seenCells_4 : decode cX10_seenCells 4 = .ok (.iload_n 2, 1) := by decide +kernel
theorem dX10_seenCells_5 : decode cX10_seenCells 5 = .ok (.aload_n 0, 1) := by decide +kernel
theorem dX10_seenCells_6 : decode cX10_seenCells 6 = .ok (.getfield 33, 3) := by decide +kernel
theorem dX10_seenCells_9 : decode cX10_seenCells 9 = .ok (.getfield 58, 3) := by decide +kernel
theorem dX10_seenCells_12 : decode cX10_seenCells 12 = .ok (.if_icmp .ge 20, 3) := by decide +kernel
theorem dX10_seenCells_15 : decode cX10_seenCells 15 = .ok (.aload_n 0, 1) := by decide +kernel
theorem dX10_seenCells_16 : decode cX10_seenCells 16 = .ok (.iload_n 2, 1) := by decide +kernel
theorem dX10_seenCells_17 : decode cX10_seenCells 17 = .ok (.invokevirtual 63, 3) := by decide +kernel
theorem dX10_seenCells_20 : decode cX10_seenCells 20 = .ok (.ifCond .eq 6, 3) := by decide +kernel
theorem dX10_seenCells_23 : decode cX10_seenCells 23 = .ok (.iinc 1 1, 3) := by decide +kernel
theorem dX10_seenCells_26 : decode cX10_seenCells 26 = .ok (.iinc 2 1, 3) := by decide +kernel
theorem dX10_seenCells_29 : decode cX10_seenCells 29 = .ok (.goto (-25), 3) := by decide +kernel
theorem dX10_seenCells_32 : decode cX10_seenCells 32 = .ok (.iload_n 1, 1) := by decide +kernel
theorem dX10_seenCells_33 : decode cX10_seenCells 33 = .ok (.ireturn, 1) := by decide +kernel
theorem dX10_settleIn_0 : decode cX10_settleIn 0 = .ok (.aload_n 0, 1) := by decide +kernel
theorem dX10_settleIn_1 : decode cX10_settleIn 1 = .ok (.getfield 33, 3) := by decide +kernel
theorem dX10_settleIn_4 : decode cX10_settleIn 4 = .ok (.getfield 67, 3) := by decide +kernel
theorem dX10_settleIn_7 : decode cX10_settleIn 7 = .ok (.getfield 71, 3) := by decide +kernel
theorem dX10_settleIn_10 : decode cX10_settleIn 10 = .ok (.astore_n 2, 1) := by decide +kernel
theorem dX10_settleIn_11 : decode cX10_settleIn 11 = .ok (.aload_n 2, 1) := by decide +kernel
theorem dX10_settleIn_12 : decode cX10_settleIn 12 = .ok (.aload_n 0, 1) := by decide +kernel
theorem dX10_settleIn_13 : decode cX10_settleIn 13 = .ok (.getfield 15, 3) := by decide +kernel
theorem dX10_settleIn_16 : decode cX10_settleIn 16 = .ok (.iload_n 1, 1) := by decide +kernel
theorem dX10_settleIn_17 : decode cX10_settleIn 17 = .ok (.iaload, 1) := by decide +kernel
theorem dX10_settleIn_18 : decode cX10_settleIn 18 = .ok (.aload_n 0, 1) := by decide +kernel
theorem dX10_settleIn_19 : decode cX10_settleIn 19 = .ok (.getfield 19, 3) := by decide +kernel
theorem dX10_settleIn_22 : decode cX10_settleIn 22 = .ok (.iload_n 1, 1) := by decide +kernel
theorem dX10_settleIn_23 : decode cX10_settleIn 23 = .ok (.iaload, 1) := by decide +kernel
theorem dX10_settleIn_24 : decode cX10_settleIn 24 = .ok (.invokestatic 74, 3) := by decide +kernel
theorem dX10_settleIn_27 : decode cX10_settleIn 27 = .ok (.istore_n 3, 1) := by decide +kernel
theorem dX10_settleIn_28 : decode cX10_settleIn 28 = .ok (.aload_n 0, 1) := by decide +kernel
theorem dX10_settleIn_29 : decode cX10_settleIn 29 = .ok (.getfield 42, 3) := by decide +kernel
theorem dX10_settleIn_32 : decode cX10_settleIn 32 = .ok (.invokevirtual 78, 3) := by decide +kernel
theorem dX10_settleIn_35 : decode cX10_settleIn 35 = .ok (.aload_n 0, 1) := by decide +kernel
theorem dX10_settleIn_36 : decode cX10_settleIn 36 = .ok (.getfield 42, 3) := by decide +kernel
theorem dX10_settleIn_39 : decode cX10_settleIn 39 = .ok (.aload_n 0, 1) := by decide +kernel
theorem dX10_settleIn_40 : decode cX10_settleIn 40 = .ok (.getfield 33, 3) := by decide +kernel
theorem dX10_settleIn_43 : decode cX10_settleIn 43 = .ok (.getfield 81, 3) := by decide +kernel
theorem dX10_settleIn_46 : decode cX10_settleIn 46 = .ok (.getfield 85, 3) := by decide +kernel
theorem dX10_settleIn_49 : decode cX10_settleIn 49 = .ok (.invokevirtual 90, 3) := by decide +kernel
theorem dX10_settleIn_52 : decode cX10_settleIn 52 = .ok (.istore 4, 2) := by decide +kernel
theorem dX10_settleIn_54 : decode cX10_settleIn 54 = .ok (.aload_n 2, 1) := by decide +kernel
theorem dX10_settleIn_55 : decode cX10_settleIn 55 = .ok (.aload_n 0, 1) := by decide +kernel
theorem dX10_settleIn_56 : decode cX10_settleIn 56 = .ok (.getfield 15, 3) := by decide +kernel
theorem dX10_settleIn_59 : decode cX10_settleIn 59 = .ok (.iload_n 1, 1) := by decide +kernel
theorem dX10_settleIn_60 : decode cX10_settleIn 60 = .ok (.iaload, 1) := by decide +kernel
theorem dX10_settleIn_61 : decode cX10_settleIn 61 = .ok (.iload_n 3, 1) := by decide +kernel
theorem dX10_settleIn_62 : decode cX10_settleIn 62 = .ok (.iastore, 1) := by decide +kernel
theorem dX10_settleIn_63 : decode cX10_settleIn 63 = .ok (.iload 4, 2) := by decide +kernel
theorem dX10_settleIn_65 : decode cX10_settleIn 65 = .ok (.ireturn, 1) := by decide +kernel
theorem dX10_thatAreLeft_0 : decode cX10_thatAreLeft 0 = .ok (.iconst 0, 1) := by decide +kernel
theorem dX10_thatAreLeft_1 : decode cX10_thatAreLeft 1 = .ok (.istore_n 1, 1) := by decide +kernel
theorem dX10_thatAreLeft_2 : decode cX10_thatAreLeft 2 = .ok (.iconst 0, 1) := by decide +kernel
theorem dX10_thatAreLeft_3 : decode cX10_thatAreLeft 3 = .ok (.istore_n 2, 1) := by decide +kernel
theorem dX10_thatAreLeft_4 : decode cX10_thatAreLeft 4 = .ok (.iload_n 2, 1) := by decide +kernel
theorem dX10_thatAreLeft_5 : decode cX10_thatAreLeft 5 = .ok (.aload_n 0, 1) := by decide +kernel
theorem dX10_thatAreLeft_6 : decode cX10_thatAreLeft 6 = .ok (.getfield 9, 3) := by decide +kernel
theorem dX10_thatAreLeft_9 : decode cX10_thatAreLeft 9 = .ok (.if_icmp .ge 31, 3) := by decide +kernel
theorem dX10_thatAreLeft_12 : decode cX10_thatAreLeft 12 = .ok (.aload_n 0, 1) := by decide +kernel
theorem dX10_thatAreLeft_13 : decode cX10_thatAreLeft 13 = .ok (.iload_n 2, 1) := by decide +kernel
theorem dX10_thatAreLeft_14 : decode cX10_thatAreLeft 14 = .ok (.invokevirtual 94, 3) := by decide +kernel
theorem dX10_thatAreLeft_17 : decode cX10_thatAreLeft 17 = .ok (.ifCond .eq 17, 3) := by decide +kernel
theorem dX10_thatAreLeft_20 : decode cX10_thatAreLeft 20 = .ok (.aload_n 0, 1) := by decide +kernel
theorem dX10_thatAreLeft_21 : decode cX10_thatAreLeft 21 = .ok (.iload_n 2, 1) := by decide +kernel
theorem dX10_thatAreLeft_22 : decode cX10_thatAreLeft 22 = .ok (.invokevirtual 97, 3) := by decide +kernel
theorem dX10_thatAreLeft_25 : decode cX10_thatAreLeft 25 = .ok (.ifCond .eq 9, 3) := by decide +kernel
theorem dX10_thatAreLeft_28 : decode cX10_thatAreLeft 28 = .ok (.iload_n 1, 1) := by decide +kernel
theorem dX10_thatAreLeft_29 : decode cX10_thatAreLeft 29 = .ok (.iconst 1, 1) := by decide +kernel
theorem dX10_thatAreLeft_30 : decode cX10_thatAreLeft 30 = .ok (.iload_n 2, 1) := by decide +kernel
theorem dX10_thatAreLeft_31 : decode cX10_thatAreLeft 31 = .ok (.ishl, 1) := by decide +kernel
theorem dX10_thatAreLeft_32 : decode cX10_thatAreLeft 32 = .ok (.ior, 1) := by decide +kernel
theorem dX10_thatAreLeft_33 : decode cX10_thatAreLeft 33 = .ok (.istore_n 1, 1) := by decide +kernel
theorem dX10_thatAreLeft_34 : decode cX10_thatAreLeft 34 = .ok (.iinc 2 1, 3) := by decide +kernel
theorem dX10_thatAreLeft_37 : decode cX10_thatAreLeft 37 = .ok (.goto (-33), 3) := by decide +kernel
theorem dX10_thatAreLeft_40 : decode cX10_thatAreLeft 40 = .ok (.iload_n 1, 1) := by decide +kernel
theorem dX10_thatAreLeft_41 : decode cX10_thatAreLeft 41 = .ok (.ireturn, 1) := by decide +kernel
theorem dX10_agrees_0 : decode cX10_agrees 0 = .ok (.iconst 1, 1) := by decide +kernel
theorem dX10_agrees_1 : decode cX10_agrees 1 = .ok (.istore_n 2, 1) := by decide +kernel
theorem dX10_agrees_2 : decode cX10_agrees 2 = .ok (.iconst 0, 1) := by decide +kernel
theorem dX10_agrees_3 : decode cX10_agrees 3 = .ok (.istore_n 3, 1) := by decide +kernel
theorem dX10_agrees_4 : decode cX10_agrees 4 = .ok (.iload_n 3, 1) := by decide +kernel
theorem dX10_agrees_5 : decode cX10_agrees 5 = .ok (.aload_n 0, 1) := by decide +kernel
theorem dX10_agrees_6 : decode cX10_agrees 6 = .ok (.getfield 33, 3) := by decide +kernel
theorem dX10_agrees_9 : decode cX10_agrees 9 = .ok (.getfield 58, 3) := by decide +kernel
theorem dX10_agrees_12 : decode cX10_agrees 12 = .ok (.if_icmp .ge 60, 3) := by decide +kernel
theorem dX10_agrees_15 : decode cX10_agrees 15 = .ok (.aload_n 0, 1) := by decide +kernel
theorem dX10_agrees_16 : decode cX10_agrees 16 = .ok (.getfield 42, 3) := by decide +kernel
theorem dX10_agrees_19 : decode cX10_agrees 19 = .ok (.iload_n 3, 1) := by decide +kernel
theorem dX10_agrees_20 : decode cX10_agrees 20 = .ok (.invokevirtual 100, 3) := by decide +kernel
theorem dX10_agrees_23 : decode cX10_agrees 23 = .ok (.istore 4, 2) := by decide +kernel
theorem dX10_agrees_25 : decode cX10_agrees 25 = .ok (.aload_n 0, 1) := by decide +kernel
theorem dX10_agrees_26 : decode cX10_agrees 26 = .ok (.getfield 30, 3) := by decide +kernel
theorem dX10_agrees_29 : decode cX10_agrees 29 = .ok (.iload_n 1, 1) := by decide +kernel
theorem dX10_agrees_30 : decode cX10_agrees 30 = .ok (.aaload, 1) := by decide +kernel
theorem dX10_agrees_31 : decode cX10_agrees 31 = .ok (.iload_n 3, 1) := by decide +kernel
theorem dX10_agrees_32 : decode cX10_agrees 32 = .ok (.iload 4, 2) := by decide +kernel
theorem dX10_agrees_34 : decode cX10_agrees 34 = .ok (.iastore, 1) := by decide +kernel
theorem dX10_agrees_35 : decode cX10_agrees 35 = .ok (.aload_n 0, 1) := by decide +kernel
theorem dX10_agrees_36 : decode cX10_agrees 36 = .ok (.iload_n 3, 1) := by decide +kernel
theorem dX10_agrees_37 : decode cX10_agrees 37 = .ok (.invokevirtual 63, 3) := by decide +kernel
theorem dX10_agrees_40 : decode cX10_agrees 40 = .ok (.ifCond .eq 26, 3) := by decide +kernel
theorem dX10_agrees_43 : decode cX10_agrees 43 = .ok (.iload 4, 2) := by decide +kernel
theorem dX10_agrees_45 : decode cX10_agrees 45 = .ok (.aload_n 0, 1) := by decide +kernel
theorem dX10_agrees_46 : decode cX10_agrees 46 = .ok (.getfield 22, 3) := by decide +kernel
theorem dX10_agrees_49 : decode cX10_agrees 49 = .ok (.iload_n 3, 1) := by decide +kernel
theorem dX10_agrees_50 : decode cX10_agrees 50 = .ok (.iaload, 1) := by decide +kernel
theorem dX10_agrees_51 : decode cX10_agrees 51 = .ok (.isub, 1) := by decide +kernel
theorem dX10_agrees_52 : decode cX10_agrees 52 = .ok (.invokestatic 104, 3) := by decide +kernel
theorem dX10_agrees_55 : decode cX10_agrees 55 = .ok (.aload_n 0, 1) := by decide +kernel
theorem dX10_agrees_56 : decode cX10_agrees 56 = .ok (.getfield 25, 3) := by decide +kernel
theorem dX10_agrees_59 : decode cX10_agrees 59 = .ok (.iload_n 3, 1) := by decide +kernel
theorem dX10_agrees_60 : decode cX10_agrees 60 = .ok (.iaload, 1) := by decide +kernel
theorem dX10_agrees_61 : decode cX10_agrees 61 = .ok (.if_icmp .le 5, 3) := by decide +kernel
theorem dX10_agrees_64 : decode cX10_agrees 64 = .ok (.iconst 0, 1) := by decide +kernel
theorem dX10_agrees_65 : decode cX10_agrees 65 = .ok (.istore_n 2, 1) := by decide +kernel
theorem dX10_agrees_66 : decode cX10_agrees 66 = .ok (.iinc 3 1, 3) := by decide +kernel
theorem dX10_agrees_69 : decode cX10_agrees 69 = .ok (.goto (-65), 3) := by decide +kernel
theorem dX10_agrees_72 : decode cX10_agrees 72 = .ok (.iload_n 2, 1) := by decide +kernel
theorem dX10_agrees_73 : decode cX10_agrees 73 = .ok (.ireturn, 1) := by decide +kernel
theorem dX10_mostAlike_0 : decode cX10_mostAlike 0 = .ok (.iconst 0, 1) := by decide +kernel
theorem dX10_mostAlike_1 : decode cX10_mostAlike 1 = .ok (.istore_n 3, 1) := by decide +kernel
theorem dX10_mostAlike_2 : decode cX10_mostAlike 2 = .ok (.iconst 0, 1) := by decide +kernel
theorem dX10_mostAlike_3 : decode cX10_mostAlike 3 = .ok (.istore 4, 2) := by decide +kernel
theorem dX10_mostAlike_5 : decode cX10_mostAlike 5 = .ok (.iload 4, 2) := by decide +kernel
theorem dX10_mostAlike_7 : decode cX10_mostAlike 7 = .ok (.aload_n 0, 1) := by decide +kernel
theorem dX10_mostAlike_8 : decode cX10_mostAlike 8 = .ok (.getfield 9, 3) := by decide +kernel
theorem dX10_mostAlike_11 : decode cX10_mostAlike 11 = .ok (.if_icmp .ge 81, 3) := by decide +kernel
theorem dX10_mostAlike_14 : decode cX10_mostAlike 14 = .ok (.iconst 0, 1) := by decide +kernel
theorem dX10_mostAlike_15 : decode cX10_mostAlike 15 = .ok (.istore 5, 2) := by decide +kernel
theorem dX10_mostAlike_17 : decode cX10_mostAlike 17 = .ok (.iconst 0, 1) := by decide +kernel
theorem dX10_mostAlike_18 : decode cX10_mostAlike 18 = .ok (.istore 6, 2) := by decide +kernel
theorem dX10_mostAlike_20 : decode cX10_mostAlike 20 = .ok (.iload 6, 2) := by decide +kernel
theorem dX10_mostAlike_22 : decode cX10_mostAlike 22 = .ok (.aload_n 0, 1) := by decide +kernel
theorem dX10_mostAlike_23 : decode cX10_mostAlike 23 = .ok (.getfield 9, 3) := by decide +kernel
theorem dX10_mostAlike_26 : decode cX10_mostAlike 26 = .ok (.if_icmp .ge 43, 3) := by decide +kernel
theorem dX10_mostAlike_29 : decode cX10_mostAlike 29 = .ok (.iload_n 1, 1) := by decide +kernel
theorem dX10_mostAlike_30 : decode cX10_mostAlike 30 = .ok (.iload 6, 2) := by decide +kernel
theorem dX10_mostAlike_32 : decode cX10_mostAlike 32 = .ok (.ishr, 1) := by decide +kernel
theorem dX10_mostAlike_33 : decode cX10_mostAlike 33 = .ok (.iconst 1, 1) := by decide +kernel
theorem dX10_mostAlike_34 : decode cX10_mostAlike 34 = .ok (.iand, 1) := by decide +kernel
theorem dX10_mostAlike_35 : decode cX10_mostAlike 35 = .ok (.iconst 1, 1) := by decide +kernel
theorem dX10_mostAlike_36 : decode cX10_mostAlike 36 = .ok (.if_icmp .ne 27, 3) := by decide +kernel
theorem dX10_mostAlike_39 : decode cX10_mostAlike 39 = .ok (.aload_n 0, 1) := by decide +kernel
theorem dX10_mostAlike_40 : decode cX10_mostAlike 40 = .ok (.getfield 30, 3) := by decide +kernel
theorem dX10_mostAlike_43 : decode cX10_mostAlike 43 = .ok (.iload 6, 2) := by decide +kernel
theorem dX10_mostAlike_45 : decode cX10_mostAlike 45 = .ok (.aaload, 1) := by decide +kernel
theorem dX10_mostAlike_46 : decode cX10_mostAlike 46 = .ok (.iload_n 2, 1) := by decide +kernel
theorem dX10_mostAlike_47 : decode cX10_mostAlike 47 = .ok (.iaload, 1) := by decide +kernel
theorem dX10_mostAlike_48 : decode cX10_mostAlike 48 = .ok (.aload_n 0, 1) := by decide +kernel
theorem dX10_mostAlike_49 : decode cX10_mostAlike 49 = .ok (.getfield 30, 3) := by decide +kernel
theorem dX10_mostAlike_52 : decode cX10_mostAlike 52 = .ok (.iload 4, 2) := by decide +kernel
theorem dX10_mostAlike_54 : decode cX10_mostAlike 54 = .ok (.aaload, 1) := by decide +kernel
theorem dX10_mostAlike_55 : decode cX10_mostAlike 55 = .ok (.iload_n 2, 1) := by decide +kernel
theorem dX10_mostAlike_56 : decode cX10_mostAlike 56 = .ok (.iaload, 1) := by decide +kernel
theorem dX10_mostAlike_57 : decode cX10_mostAlike 57 = .ok (.if_icmp .ne 6, 3) := by decide +kernel
theorem dX10_mostAlike_60 : decode cX10_mostAlike 60 = .ok (.iinc 5 1, 3) := by decide +kernel
theorem dX10_mostAlike_63 : decode cX10_mostAlike 63 = .ok (.iinc 6 1, 3) := by decide +kernel
theorem dX10_mostAlike_66 : decode cX10_mostAlike 66 = .ok (.goto (-46), 3) := by decide +kernel
theorem dX10_mostAlike_69 : decode cX10_mostAlike 69 = .ok (.iload_n 1, 1) := by decide +kernel
theorem dX10_mostAlike_70 : decode cX10_mostAlike 70 = .ok (.iload 4, 2) := by decide +kernel
theorem dX10_mostAlike_72 : decode cX10_mostAlike 72 = .ok (.ishr, 1) := by decide +kernel
theorem dX10_mostAlike_73 : decode cX10_mostAlike 73 = .ok (.iconst 1, 1) := by decide +kernel
theorem dX10_mostAlike_74 : decode cX10_mostAlike 74 = .ok (.iand, 1) := by decide +kernel
theorem dX10_mostAlike_75 : decode cX10_mostAlike 75 = .ok (.iconst 1, 1) := by decide +kernel
theorem dX10_mostAlike_76 : decode cX10_mostAlike 76 = .ok (.if_icmp .ne 10, 3) := by decide +kernel
theorem dX10_mostAlike_79 : decode cX10_mostAlike 79 = .ok (.iload_n 3, 1) := by decide +kernel
theorem dX10_mostAlike_80 : decode cX10_mostAlike 80 = .ok (.iload 5, 2) := by decide +kernel
theorem dX10_mostAlike_82 : decode cX10_mostAlike 82 = .ok (.invokestatic 52, 3) := by decide +kernel
theorem dX10_mostAlike_85 : decode cX10_mostAlike 85 = .ok (.istore_n 3, 1) := by decide +kernel
theorem dX10_mostAlike_86 : decode cX10_mostAlike 86 = .ok (.iinc 4 1, 3) := by decide +kernel
theorem dX10_mostAlike_89 : decode cX10_mostAlike 89 = .ok (.goto (-84), 3) := by decide +kernel
theorem dX10_mostAlike_92 : decode cX10_mostAlike 92 = .ok (.iload_n 3, 1) := by decide +kernel
theorem dX10_mostAlike_93 : decode cX10_mostAlike 93 = .ok (.ireturn, 1) := by decide +kernel
theorem dX10_nextTest_0 : decode cX10_nextTest 0 = .ok (.aload_n 0, 1) := by decide +kernel
theorem dX10_nextTest_1 : decode cX10_nextTest 1 = .ok (.invokevirtual 107, 3) := by decide +kernel
theorem dX10_nextTest_4 : decode cX10_nextTest 4 = .ok (.istore_n 1, 1) := by decide +kernel
theorem dX10_nextTest_5 : decode cX10_nextTest 5 = .ok (.ldc 111, 2) := by decide +kernel
theorem dX10_nextTest_7 : decode cX10_nextTest 7 = .ok (.istore_n 2, 1) := by decide +kernel
theorem dX10_nextTest_8 : decode cX10_nextTest 8 = .ok (.iconst 0, 1) := by decide +kernel
theorem dX10_nextTest_9 : decode cX10_nextTest 9 = .ok (.istore_n 3, 1) := by decide +kernel
theorem dX10_nextTest_10 : decode cX10_nextTest 10 = .ok (.iload_n 1, 1) := by decide +kernel
theorem dX10_nextTest_11 : decode cX10_nextTest 11 = .ok (.ifCond .ne 6, 3) := by decide +kernel
theorem dX10_nextTest_14 : decode cX10_nextTest 14 = .ok (.ldc 111, 2) := by decide +kernel
theorem dX10_nextTest_16 : decode cX10_nextTest 16 = .ok (.ireturn, 1) := by decide +kernel
theorem dX10_nextTest_17 : decode cX10_nextTest 17 = .ok (.iconst 0, 1) := by decide +kernel
theorem dX10_nextTest_18 : decode cX10_nextTest 18 = .ok (.istore 4, 2) := by decide +kernel
theorem dX10_nextTest_20 : decode cX10_nextTest 20 = .ok (.iload 4, 2) := by decide +kernel
theorem dX10_nextTest_22 : decode cX10_nextTest 22 = .ok (.aload_n 0, 1) := by decide +kernel
theorem dX10_nextTest_23 : decode cX10_nextTest 23 = .ok (.getfield 33, 3) := by decide +kernel
theorem dX10_nextTest_26 : decode cX10_nextTest 26 = .ok (.getfield 58, 3) := by decide +kernel
theorem dX10_nextTest_29 : decode cX10_nextTest 29 = .ok (.if_icmp .ge 48, 3) := by decide +kernel
theorem dX10_nextTest_32 : decode cX10_nextTest 32 = .ok (.aload_n 0, 1) := by decide +kernel
theorem dX10_nextTest_33 : decode cX10_nextTest 33 = .ok (.iload 4, 2) := by decide +kernel
theorem dX10_nextTest_35 : decode cX10_nextTest 35 = .ok (.invokevirtual 63, 3) := by decide +kernel
theorem dX10_nextTest_38 : decode cX10_nextTest 38 = .ok (.ifCond .eq 6, 3) := by decide +kernel
theorem dX10_nextTest_41 : decode cX10_nextTest 41 = .ok (.goto 30, 3) := by decide +kernel
theorem dX10_nextTest_44 : decode cX10_nextTest 44 = .ok (.aload_n 0, 1) := by decide +kernel
theorem dX10_nextTest_45 : decode cX10_nextTest 45 = .ok (.iload_n 1, 1) := by decide +kernel
theorem dX10_nextTest_46 : decode cX10_nextTest 46 = .ok (.iload 4, 2) := by decide +kernel
theorem dX10_nextTest_48 : decode cX10_nextTest 48 = .ok (.invokevirtual 112, 3) := by decide +kernel
theorem dX10_nextTest_51 : decode cX10_nextTest 51 = .ok (.istore 5, 2) := by decide +kernel
theorem dX10_nextTest_53 : decode cX10_nextTest 53 = .ok (.iload_n 2, 1) := by decide +kernel
theorem dX10_nextTest_54 : decode cX10_nextTest 54 = .ok (.ldc 111, 2) := by decide +kernel
theorem dX10_nextTest_56 : decode cX10_nextTest 56 = .ok (.if_icmp .eq 9, 3) := by decide +kernel
theorem dX10_nextTest_59 : decode cX10_nextTest 59 = .ok (.iload 5, 2) := by decide +kernel
theorem dX10_nextTest_61 : decode cX10_nextTest 61 = .ok (.iload_n 3, 1) := by decide +kernel
theorem dX10_nextTest_62 : decode cX10_nextTest 62 = .ok (.if_icmp .ge 9, 3) := by decide +kernel
theorem dX10_nextTest_65 : decode cX10_nextTest 65 = .ok (.iload 4, 2) := by decide +kernel
theorem dX10_nextTest_67 : decode cX10_nextTest 67 = .ok (.istore_n 2, 1) := by decide +kernel
theorem dX10_nextTest_68 : decode cX10_nextTest 68 = .ok (.iload 5, 2) := by decide +kernel
theorem dX10_nextTest_70 : decode cX10_nextTest 70 = .ok (.istore_n 3, 1) := by decide +kernel
theorem dX10_nextTest_71 : decode cX10_nextTest 71 = .ok (.iinc 4 1, 3) := by decide +kernel
theorem dX10_nextTest_74 : decode cX10_nextTest 74 = .ok (.goto (-54), 3) := by decide +kernel
theorem dX10_nextTest_77 : decode cX10_nextTest 77 = .ok (.iload_n 2, 1) := by decide +kernel
theorem dX10_nextTest_78 : decode cX10_nextTest 78 = .ok (.ireturn, 1) := by decide +kernel
theorem dJ6_bitCount_0f7a4_0 : decode cJ6_bitCount_0f7a4 0 = .ok (.iload_n 0, 1) := by decide +kernel
theorem dJ6_bitCount_0f7a4_1 : decode cJ6_bitCount_0f7a4 1 = .ok (.iload_n 0, 1) := by decide +kernel
theorem dJ6_bitCount_0f7a4_2 : decode cJ6_bitCount_0f7a4 2 = .ok (.iconst 1, 1) := by decide +kernel
theorem dJ6_bitCount_0f7a4_3 : decode cJ6_bitCount_0f7a4 3 = .ok (.iushr, 1) := by decide +kernel
theorem dJ6_bitCount_0f7a4_4 : decode cJ6_bitCount_0f7a4 4 = .ok (.ldc_w 265, 3) := by decide +kernel
theorem dJ6_bitCount_0f7a4_7 : decode cJ6_bitCount_0f7a4 7 = .ok (.iand, 1) := by decide +kernel
theorem dJ6_bitCount_0f7a4_8 : decode cJ6_bitCount_0f7a4 8 = .ok (.isub, 1) := by decide +kernel
theorem dJ6_bitCount_0f7a4_9 : decode cJ6_bitCount_0f7a4 9 = .ok (.istore_n 0, 1) := by decide +kernel
theorem dJ6_bitCount_0f7a4_10 : decode cJ6_bitCount_0f7a4 10 = .ok (.iload_n 0, 1) := by decide +kernel
theorem dJ6_bitCount_0f7a4_11 : decode cJ6_bitCount_0f7a4 11 = .ok (.ldc_w 266, 3) := by decide +kernel
theorem dJ6_bitCount_0f7a4_14 : decode cJ6_bitCount_0f7a4 14 = .ok (.iand, 1) := by decide +kernel
theorem dJ6_bitCount_0f7a4_15 : decode cJ6_bitCount_0f7a4 15 = .ok (.iload_n 0, 1) := by decide +kernel
theorem dJ6_bitCount_0f7a4_16 : decode cJ6_bitCount_0f7a4 16 = .ok (.iconst 2, 1) := by decide +kernel
theorem dJ6_bitCount_0f7a4_17 : decode cJ6_bitCount_0f7a4 17 = .ok (.iushr, 1) := by decide +kernel
theorem dJ6_bitCount_0f7a4_18 : decode cJ6_bitCount_0f7a4 18 = .ok (.ldc_w 266, 3) := by decide +kernel
theorem dJ6_bitCount_0f7a4_21 : decode cJ6_bitCount_0f7a4 21 = .ok (.iand, 1) := by decide +kernel
theorem dJ6_bitCount_0f7a4_22 : decode cJ6_bitCount_0f7a4 22 = .ok (.iadd, 1) := by decide +kernel
theorem dJ6_bitCount_0f7a4_23 : decode cJ6_bitCount_0f7a4 23 = .ok (.istore_n 0, 1) := by decide +kernel
theorem dJ6_bitCount_0f7a4_24 : decode cJ6_bitCount_0f7a4 24 = .ok (.iload_n 0, 1) := by decide +kernel
theorem dJ6_bitCount_0f7a4_25 : decode cJ6_bitCount_0f7a4 25 = .ok (.iload_n 0, 1) := by decide +kernel
theorem dJ6_bitCount_0f7a4_26 : decode cJ6_bitCount_0f7a4 26 = .ok (.iconst 4, 1) := by decide +kernel
theorem dJ6_bitCount_0f7a4_27 : decode cJ6_bitCount_0f7a4 27 = .ok (.iushr, 1) := by decide +kernel
theorem dJ6_bitCount_0f7a4_28 : decode cJ6_bitCount_0f7a4 28 = .ok (.iadd, 1) := by decide +kernel
theorem dJ6_bitCount_0f7a4_29 : decode cJ6_bitCount_0f7a4 29 = .ok (.ldc_w 267, 3) := by decide +kernel
theorem dJ6_bitCount_0f7a4_32 : decode cJ6_bitCount_0f7a4 32 = .ok (.iand, 1) := by decide +kernel
theorem dJ6_bitCount_0f7a4_33 : decode cJ6_bitCount_0f7a4 33 = .ok (.istore_n 0, 1) := by decide +kernel
theorem dJ6_bitCount_0f7a4_34 : decode cJ6_bitCount_0f7a4 34 = .ok (.iload_n 0, 1) := by decide +kernel
theorem dJ6_bitCount_0f7a4_35 : decode cJ6_bitCount_0f7a4 35 = .ok (.iload_n 0, 1) := by decide +kernel
theorem dJ6_bitCount_0f7a4_36 : decode cJ6_bitCount_0f7a4 36 = .ok (.bipush 8, 2) := by decide +kernel
theorem dJ6_bitCount_0f7a4_38 : decode cJ6_bitCount_0f7a4 38 = .ok (.iushr, 1) := by decide +kernel
theorem dJ6_bitCount_0f7a4_39 : decode cJ6_bitCount_0f7a4 39 = .ok (.iadd, 1) := by decide +kernel
theorem dJ6_bitCount_0f7a4_40 : decode cJ6_bitCount_0f7a4 40 = .ok (.istore_n 0, 1) := by decide +kernel
theorem dJ6_bitCount_0f7a4_41 : decode cJ6_bitCount_0f7a4 41 = .ok (.iload_n 0, 1) := by decide +kernel
theorem dJ6_bitCount_0f7a4_42 : decode cJ6_bitCount_0f7a4 42 = .ok (.iload_n 0, 1) := by decide +kernel
theorem dJ6_bitCount_0f7a4_43 : decode cJ6_bitCount_0f7a4 43 = .ok (.bipush 16, 2) := by decide +kernel
theorem dJ6_bitCount_0f7a4_45 : decode cJ6_bitCount_0f7a4 45 = .ok (.iushr, 1) := by decide +kernel
theorem dJ6_bitCount_0f7a4_46 : decode cJ6_bitCount_0f7a4 46 = .ok (.iadd, 1) := by decide +kernel
theorem dJ6_bitCount_0f7a4_47 : decode cJ6_bitCount_0f7a4 47 = .ok (.istore_n 0, 1) := by decide +kernel
theorem dJ6_bitCount_0f7a4_48 : decode cJ6_bitCount_0f7a4 48 = .ok (.iload_n 0, 1) := by decide +kernel
theorem dJ6_bitCount_0f7a4_49 : decode cJ6_bitCount_0f7a4 49 = .ok (.bipush 63, 2) := by decide +kernel
theorem dJ6_bitCount_0f7a4_51 : decode cJ6_bitCount_0f7a4 51 = .ok (.iand, 1) := by decide +kernel
theorem dJ6_bitCount_0f7a4_52 : decode cJ6_bitCount_0f7a4 52 = .ok (.ireturn, 1) := by decide +kernel
theorem dJ9_floorDiv_f86c9_0 : decode cJ9_floorDiv_f86c9 0 = .ok (.lload_n 0, 1) := by decide +kernel
theorem dJ9_floorDiv_f86c9_1 : decode cJ9_floorDiv_f86c9 1 = .ok (.lload_n 2, 1) := by decide +kernel
theorem dJ9_floorDiv_f86c9_2 : decode cJ9_floorDiv_f86c9 2 = .ok (.ldiv, 1) := by decide +kernel
theorem dJ9_floorDiv_f86c9_3 : decode cJ9_floorDiv_f86c9 3 = .ok (.lstore 4, 2) := by decide +kernel
theorem dJ9_floorDiv_f86c9_5 : decode cJ9_floorDiv_f86c9 5 = .ok (.lload_n 0, 1) := by decide +kernel
theorem dJ9_floorDiv_f86c9_6 : decode cJ9_floorDiv_f86c9 6 = .ok (.lload_n 2, 1) := by decide +kernel
theorem dJ9_floorDiv_f86c9_7 : decode cJ9_floorDiv_f86c9 7 = .ok (.lxor, 1) := by decide +kernel
theorem dJ9_floorDiv_f86c9_8 : decode cJ9_floorDiv_f86c9 8 = .ok (.lconst 0, 1) := by decide +kernel
theorem dJ9_floorDiv_f86c9_9 : decode cJ9_floorDiv_f86c9 9 = .ok (.lcmp, 1) := by decide +kernel
theorem dJ9_floorDiv_f86c9_10 : decode cJ9_floorDiv_f86c9 10 = .ok (.ifCond .ge 17, 3) := by decide +kernel
theorem dJ9_floorDiv_f86c9_13 : decode cJ9_floorDiv_f86c9 13 = .ok (.lload 4, 2) := by decide +kernel
theorem dJ9_floorDiv_f86c9_15 : decode cJ9_floorDiv_f86c9 15 = .ok (.lload_n 2, 1) := by decide +kernel
theorem dJ9_floorDiv_f86c9_16 : decode cJ9_floorDiv_f86c9 16 = .ok (.lmul, 1) := by decide +kernel
theorem dJ9_floorDiv_f86c9_17 : decode cJ9_floorDiv_f86c9 17 = .ok (.lload_n 0, 1) := by decide +kernel
theorem dJ9_floorDiv_f86c9_18 : decode cJ9_floorDiv_f86c9 18 = .ok (.lcmp, 1) := by decide +kernel
theorem dJ9_floorDiv_f86c9_19 : decode cJ9_floorDiv_f86c9 19 = .ok (.ifCond .eq 8, 3) := by decide +kernel
theorem dJ9_floorDiv_f86c9_22 : decode cJ9_floorDiv_f86c9 22 = .ok (.lload 4, 2) := by decide +kernel
theorem dJ9_floorDiv_f86c9_24 : decode cJ9_floorDiv_f86c9 24 = .ok (.lconst 1, 1) := by decide +kernel
theorem dJ9_floorDiv_f86c9_25 : decode cJ9_floorDiv_f86c9 25 = .ok (.lsub, 1) := by decide +kernel
theorem dJ9_floorDiv_f86c9_26 : decode cJ9_floorDiv_f86c9 26 = .ok (.lreturn, 1) := by decide +kernel
theorem dJ9_floorDiv_f86c9_27 : decode cJ9_floorDiv_f86c9 27 = .ok (.lload 4, 2) := by decide +kernel
theorem dJ9_floorDiv_f86c9_29 : decode cJ9_floorDiv_f86c9 29 = .ok (.lreturn, 1) := by decide +kernel
theorem dJ9_abs_0f7a4_0 : decode cJ9_abs_0f7a4 0 = .ok (.iload_n 0, 1) := by decide +kernel
theorem dJ9_abs_0f7a4_1 : decode cJ9_abs_0f7a4 1 = .ok (.ifCond .ge 8, 3) := by decide +kernel
theorem dJ9_abs_0f7a4_4 : decode cJ9_abs_0f7a4 4 = .ok (.iload_n 0, 1) := by decide +kernel
theorem dJ9_abs_0f7a4_5 : decode cJ9_abs_0f7a4 5 = .ok (.ineg, 1) := by decide +kernel
theorem dJ9_abs_0f7a4_6 : decode cJ9_abs_0f7a4 6 = .ok (.goto 4, 3) := by decide +kernel
theorem dJ9_abs_0f7a4_9 : decode cJ9_abs_0f7a4 9 = .ok (.iload_n 0, 1) := by decide +kernel
theorem dJ9_abs_0f7a4_10 : decode cJ9_abs_0f7a4 10 = .ok (.ireturn, 1) := by decide +kernel
theorem dJ9_abs_067f4_0 : decode cJ9_abs_067f4 0 = .ok (.lload_n 0, 1) := by decide +kernel
theorem dJ9_abs_067f4_1 : decode cJ9_abs_067f4 1 = .ok (.lconst 0, 1) := by decide +kernel
theorem dJ9_abs_067f4_2 : decode cJ9_abs_067f4 2 = .ok (.lcmp, 1) := by decide +kernel
theorem dJ9_abs_067f4_3 : decode cJ9_abs_067f4 3 = .ok (.ifCond .ge 8, 3) := by decide +kernel
theorem dJ9_abs_067f4_6 : decode cJ9_abs_067f4 6 = .ok (.lload_n 0, 1) := by decide +kernel
theorem dJ9_abs_067f4_7 : decode cJ9_abs_067f4 7 = .ok (.lneg, 1) := by decide +kernel
theorem dJ9_abs_067f4_8 : decode cJ9_abs_067f4 8 = .ok (.goto 4, 3) := by decide +kernel
theorem dJ9_abs_067f4_11 : decode cJ9_abs_067f4 11 = .ok (.lload_n 0, 1) := by decide +kernel
theorem dJ9_abs_067f4_12 : decode cJ9_abs_067f4 12 = .ok (.lreturn, 1) := by decide +kernel
theorem dJ9_max_7cf53_0 : decode cJ9_max_7cf53 0 = .ok (.iload_n 0, 1) := by decide +kernel
theorem dJ9_max_7cf53_1 : decode cJ9_max_7cf53 1 = .ok (.iload_n 1, 1) := by decide +kernel
theorem dJ9_max_7cf53_2 : decode cJ9_max_7cf53 2 = .ok (.if_icmp .lt 7, 3) := by decide +kernel
theorem dJ9_max_7cf53_5 : decode cJ9_max_7cf53 5 = .ok (.iload_n 0, 1) := by decide +kernel
theorem dJ9_max_7cf53_6 : decode cJ9_max_7cf53 6 = .ok (.goto 4, 3) := by decide +kernel
theorem dJ9_max_7cf53_9 : decode cJ9_max_7cf53 9 = .ok (.iload_n 1, 1) := by decide +kernel
theorem dJ9_max_7cf53_10 : decode cJ9_max_7cf53 10 = .ok (.ireturn, 1) := by decide +kernel
theorem dJ9_max_f86c9_0 : decode cJ9_max_f86c9 0 = .ok (.lload_n 0, 1) := by decide +kernel
theorem dJ9_max_f86c9_1 : decode cJ9_max_f86c9 1 = .ok (.lload_n 2, 1) := by decide +kernel
theorem dJ9_max_f86c9_2 : decode cJ9_max_f86c9 2 = .ok (.lcmp, 1) := by decide +kernel
theorem dJ9_max_f86c9_3 : decode cJ9_max_f86c9 3 = .ok (.ifCond .lt 7, 3) := by decide +kernel
theorem dJ9_max_f86c9_6 : decode cJ9_max_f86c9 6 = .ok (.lload_n 0, 1) := by decide +kernel
theorem dJ9_max_f86c9_7 : decode cJ9_max_f86c9 7 = .ok (.goto 4, 3) := by decide +kernel
theorem dJ9_max_f86c9_10 : decode cJ9_max_f86c9 10 = .ok (.lload_n 2, 1) := by decide +kernel
theorem dJ9_max_f86c9_11 : decode cJ9_max_f86c9 11 = .ok (.lreturn, 1) := by decide +kernel
theorem dJ9_min_7cf53_0 : decode cJ9_min_7cf53 0 = .ok (.iload_n 0, 1) := by decide +kernel
theorem dJ9_min_7cf53_1 : decode cJ9_min_7cf53 1 = .ok (.iload_n 1, 1) := by decide +kernel
theorem dJ9_min_7cf53_2 : decode cJ9_min_7cf53 2 = .ok (.if_icmp .gt 7, 3) := by decide +kernel
theorem dJ9_min_7cf53_5 : decode cJ9_min_7cf53 5 = .ok (.iload_n 0, 1) := by decide +kernel
theorem dJ9_min_7cf53_6 : decode cJ9_min_7cf53 6 = .ok (.goto 4, 3) := by decide +kernel
theorem dJ9_min_7cf53_9 : decode cJ9_min_7cf53 9 = .ok (.iload_n 1, 1) := by decide +kernel
theorem dJ9_min_7cf53_10 : decode cJ9_min_7cf53 10 = .ok (.ireturn, 1) := by decide +kernel
theorem dJ7_fill_d0a16_0 : decode cJ7_fill_d0a16 0 = .ok (.iconst 0, 1) := by decide +kernel
theorem dJ7_fill_d0a16_1 : decode cJ7_fill_d0a16 1 = .ok (.istore_n 3, 1) := by decide +kernel
theorem dJ7_fill_d0a16_2 : decode cJ7_fill_d0a16 2 = .ok (.aload_n 0, 1) := by decide +kernel
theorem dJ7_fill_d0a16_3 : decode cJ7_fill_d0a16 3 = .ok (.arraylength, 1) := by decide +kernel
theorem dJ7_fill_d0a16_4 : decode cJ7_fill_d0a16 4 = .ok (.istore 4, 2) := by decide +kernel
theorem dJ7_fill_d0a16_6 : decode cJ7_fill_d0a16 6 = .ok (.iload_n 3, 1) := by decide +kernel
theorem dJ7_fill_d0a16_7 : decode cJ7_fill_d0a16 7 = .ok (.iload 4, 2) := by decide +kernel
theorem dJ7_fill_d0a16_9 : decode cJ7_fill_d0a16 9 = .ok (.if_icmp .ge 13, 3) := by decide +kernel
theorem dJ7_fill_d0a16_12 : decode cJ7_fill_d0a16 12 = .ok (.aload_n 0, 1) := by decide +kernel
theorem dJ7_fill_d0a16_13 : decode cJ7_fill_d0a16 13 = .ok (.iload_n 3, 1) := by decide +kernel
theorem dJ7_fill_d0a16_14 : decode cJ7_fill_d0a16 14 = .ok (.lload_n 1, 1) := by decide +kernel
theorem dJ7_fill_d0a16_15 : decode cJ7_fill_d0a16 15 = .ok (.lastore, 1) := by decide +kernel
theorem dJ7_fill_d0a16_16 : decode cJ7_fill_d0a16 16 = .ok (.iinc 3 1, 3) := by decide +kernel
theorem dJ7_fill_d0a16_19 : decode cJ7_fill_d0a16 19 = .ok (.goto (-13), 3) := by decide +kernel
theorem dJ7_fill_d0a16_22 : decode cJ7_fill_d0a16 22 = .ok (.return_, 1) := by decide +kernel
theorem dJ7_fill_53178_0 : decode cJ7_fill_53178 0 = .ok (.iconst 0, 1) := by decide +kernel
theorem dJ7_fill_53178_1 : decode cJ7_fill_53178 1 = .ok (.istore_n 2, 1) := by decide +kernel
theorem dJ7_fill_53178_2 : decode cJ7_fill_53178 2 = .ok (.aload_n 0, 1) := by decide +kernel
theorem dJ7_fill_53178_3 : decode cJ7_fill_53178 3 = .ok (.arraylength, 1) := by decide +kernel
theorem dJ7_fill_53178_4 : decode cJ7_fill_53178 4 = .ok (.istore_n 3, 1) := by decide +kernel
theorem dJ7_fill_53178_5 : decode cJ7_fill_53178 5 = .ok (.iload_n 2, 1) := by decide +kernel
theorem dJ7_fill_53178_6 : decode cJ7_fill_53178 6 = .ok (.iload_n 3, 1) := by decide +kernel
theorem dJ7_fill_53178_7 : decode cJ7_fill_53178 7 = .ok (.if_icmp .ge 13, 3) := by decide +kernel
theorem dJ7_fill_53178_10 : decode cJ7_fill_53178 10 = .ok (.aload_n 0, 1) := by decide +kernel
theorem dJ7_fill_53178_11 : decode cJ7_fill_53178 11 = .ok (.iload_n 2, 1) := by decide +kernel
theorem dJ7_fill_53178_12 : decode cJ7_fill_53178 12 = .ok (.iload_n 1, 1) := by decide +kernel
theorem dJ7_fill_53178_13 : decode cJ7_fill_53178 13 = .ok (.iastore, 1) := by decide +kernel
theorem dJ7_fill_53178_14 : decode cJ7_fill_53178 14 = .ok (.iinc 2 1, 3) := by decide +kernel
theorem dJ7_fill_53178_17 : decode cJ7_fill_53178 17 = .ok (.goto (-12), 3) := by decide +kernel
theorem dJ7_fill_53178_20 : decode cJ7_fill_53178 20 = .ok (.return_, 1) := by decide +kernel
