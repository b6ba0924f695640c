theorem dX11_nulOf_32 : decode cX11_nulOf 32 = .ok (.bipush 16, 2) := by decide +kernel
theorem dX11_nulOf_34 : decode cX11_nulOf 34 = .ok (.aload_n 0, 1) := by decide +kernel
theorem dX11_nulOf_35 : decode cX11_nulOf 35 = .ok (.getfield 45, 3) := by decide +kernel
theorem dX11_nulOf_38 : decode cX11_nulOf 38 = .ok (.iload 4, 2) := by decide +kernel
theorem dX11_nulOf_40 : decode cX11_nulOf 40 = .ok (.iaload, 1) := by decide +kernel
theorem dX11_nulOf_41 : decode cX11_nulOf 41 = .ok (.imul, 1) := by decide +kernel
theorem dX11_nulOf_42 : decode cX11_nulOf 42 = .ok (.iload 4, 2) := by decide +kernel
theorem dX11_nulOf_44 : decode cX11_nulOf 44 = .ok (.iadd, 1) := by decide +kernel
theorem dX11_nulOf_45 : decode cX11_nulOf 45 = .ok (.laload, 1) := by decide +kernel
theorem dX11_nulOf_46 : decode cX11_nulOf 46 = .ok (.lstore 5, 2) := by decide +kernel
theorem dX11_nulOf_48 : decode cX11_nulOf 48 = .ok (.lload 5, 2) := by decide +kernel
theorem dX11_nulOf_50 : decode cX11_nulOf 50 = .ok (.lload 5, 2) := by decide +kernel
theorem dX11_nulOf_52 : decode cX11_nulOf 52 = .ok (.aload_n 0, 1) := by decide +kernel
theorem dX11_nulOf_53 : decode cX11_nulOf 53 = .ok (.getfield 41, 3) := by decide +kernel
theorem dX11_nulOf_56 : decode cX11_nulOf 56 = .ok (.bipush 16, 2) := by decide +kernel
theorem dX11_nulOf_58 : decode cX11_nulOf 58 = .ok (.aload_n 0, 1) := by decide +kernel
theorem dX11_nulOf_59 : decode cX11_nulOf 59 = .ok (.getfield 45, 3) := by decide +kernel
theorem dX11_nulOf_62 : decode cX11_nulOf 62 = .ok (.iload 4, 2) := by decide +kernel
theorem dX11_nulOf_64 : decode cX11_nulOf 64 = .ok (.iaload, 1) := by decide +kernel
theorem dX11_nulOf_65 : decode cX11_nulOf 65 = .ok (.imul, 1) := by decide +kernel
theorem dX11_nulOf_66 : decode cX11_nulOf 66 = .ok (.iload_n 1, 1) := by decide +kernel
theorem dX11_nulOf_67 : decode cX11_nulOf 67 = .ok (.iadd, 1) := by decide +kernel
theorem dX11_nulOf_68 : decode cX11_nulOf 68 = .ok (.laload, 1) := by decide +kernel
theorem dX11_nulOf_69 : decode cX11_nulOf 69 = .ok (.invokestatic 94, 3) := by decide +kernel
theorem dX11_nulOf_72 : decode cX11_nulOf 72 = .ok (.ldiv, 1) := by decide +kernel
theorem dX11_nulOf_73 : decode cX11_nulOf 73 = .ok (.lstore 7, 2) := by decide +kernel
theorem dX11_nulOf_75 : decode cX11_nulOf 75 = .ok (.lload 7, 2) := by decide +kernel
theorem dX11_nulOf_77 : decode cX11_nulOf 77 = .ok (.lconst 0, 1) := by decide +kernel
theorem dX11_nulOf_78 : decode cX11_nulOf 78 = .ok (.lcmp, 1) := by decide +kernel
theorem dX11_nulOf_79 : decode cX11_nulOf 79 = .ok (.ifCond .ge 8, 3) := by decide +kernel
theorem dX11_nulOf_82 : decode cX11_nulOf 82 = .ok (.lload 7, 2) := by decide +kernel
theorem dX11_nulOf_84 : decode cX11_nulOf 84 = .ok (.lneg, 1) := by decide +kernel
theorem dX11_nulOf_85 : decode cX11_nulOf 85 = .ok (.lstore 7, 2) := by decide +kernel
theorem dX11_nulOf_87 : decode cX11_nulOf 87 = .ok (.lload_n 2, 1) := by decide +kernel
theorem dX11_nulOf_88 : decode cX11_nulOf 88 = .ok (.lload_n 2, 1) := by decide +kernel
theorem dX11_nulOf_89 : decode cX11_nulOf 89 = .ok (.lload 7, 2) := by decide +kernel
theorem dX11_nulOf_91 : decode cX11_nulOf 91 = .ok (.invokestatic 94, 3) := by decide +kernel
theorem dX11_nulOf_94 : decode cX11_nulOf 94 = .ok (.ldiv, 1) := by decide +kernel
theorem dX11_nulOf_95 : decode cX11_nulOf 95 = .ok (.lload 7, 2) := by decide +kernel
theorem dX11_nulOf_97 : decode cX11_nulOf 97 = .ok (.lmul, 1) := by decide +kernel
theorem dX11_nulOf_98 : decode cX11_nulOf 98 = .ok (.lstore_n 2, 1) := by decide +kernel
theorem dX11_nulOf_99 : decode cX11_nulOf 99 = .ok (.iinc 4 1, 3) := by decide +kernel
theorem dX11_nulOf_102 : decode cX11_nulOf 102 = .ok (.goto (-97), 3) := by decide +kernel
theorem dX11_nulOf_105 : decode cX11_nulOf 105 = .ok (.iconst 0, 1) := by decide +kernel
theorem dX11_nulOf_106 : decode cX11_nulOf 106 = .ok (.istore 4, 2) := by decide +kernel
theorem dX11_nulOf_108 : decode cX11_nulOf 108 = .ok (.iload 4, 2) := by decide +kernel
theorem dX11_nulOf_110 : decode cX11_nulOf 110 = .ok (.aload_n 0, 1) := by decide +kernel
theorem dX11_nulOf_111 : decode cX11_nulOf 111 = .ok (.getfield 105, 3) := by decide +kernel
theorem dX11_nulOf_114 : decode cX11_nulOf 114 = .ok (.if_icmp .ge 110, 3) := by decide +kernel
theorem dX11_nulOf_117 : decode cX11_nulOf 117 = .ok (.aload_n 0, 1) := by decide +kernel
theorem dX11_nulOf_118 : decode cX11_nulOf 118 = .ok (.getfield 45, 3) := by decide +kernel
theorem dX11_nulOf_121 : decode cX11_nulOf 121 = .ok (.iload 4, 2) := by decide +kernel
theorem dX11_nulOf_123 : decode cX11_nulOf 123 = .ok (.iaload, 1) := by decide +kernel
theorem dX11_nulOf_124 : decode cX11_nulOf 124 = .ok (.iconst (-1), 1) := by decide +kernel
theorem dX11_nulOf_125 : decode cX11_nulOf 125 = .ok (.if_icmp .ne 24, 3) := by decide +kernel
theorem dX11_nulOf_128 : decode cX11_nulOf 128 = .ok (.aload_n 0, 1) := by decide +kernel
theorem dX11_nulOf_129 : decode cX11_nulOf 129 = .ok (.getfield 48, 3) := by decide +kernel
theorem dX11_nulOf_132 : decode cX11_nulOf 132 = .ok (.iload 4, 2) := by decide +kernel
theorem dX11_nulOf_134 : decode cX11_nulOf 134 = .ok (.iload 4, 2) := by decide +kernel
theorem dX11_nulOf_136 : decode cX11_nulOf 136 = .ok (.iload_n 1, 1) := by decide +kernel
theorem dX11_nulOf_137 : decode cX11_nulOf 137 = .ok (.if_icmp .ne 7, 3) := by decide +kernel
theorem dX11_nulOf_140 : decode cX11_nulOf 140 = .ok (.lload_n 2, 1) := by decide +kernel
theorem dX11_nulOf_141 : decode cX11_nulOf 141 = .ok (.goto 4, 3) := by decide +kernel
theorem dX11_nulOf_144 : decode cX11_nulOf 144 = .ok (.lconst 0, 1) := by decide +kernel
theorem dX11_nulOf_145 : decode cX11_nulOf 145 = .ok (.lastore, 1) := by decide +kernel
theorem dX11_nulOf_146 : decode cX11_nulOf 146 = .ok (.goto 72, 3) := by decide +kernel
theorem dX11_nulOf_149 : decode cX11_nulOf 149 = .ok (.aload_n 0, 1) := by decide +kernel
theorem dX11_nulOf_150 : decode cX11_nulOf 150 = .ok (.getfield 41, 3) := by decide +kernel
theorem dX11_nulOf_153 : decode cX11_nulOf 153 = .ok (.bipush 16, 2) := by decide +kernel
theorem dX11_nulOf_155 : decode cX11_nulOf 155 = .ok (.aload_n 0, 1) := by decide +kernel
theorem dX11_nulOf_156 : decode cX11_nulOf 156 = .ok (.getfield 45, 3) := by decide +kernel
theorem dX11_nulOf_159 : decode cX11_nulOf 159 = .ok (.iload 4, 2) := by decide +kernel
theorem dX11_nulOf_161 : decode cX11_nulOf 161 = .ok (.iaload, 1) := by decide +kernel
theorem dX11_nulOf_162 : decode cX11_nulOf 162 = .ok (.imul, 1) := by decide +kernel
theorem dX11_nulOf_163 : decode cX11_nulOf 163 = .ok (.iload 4, 2) := by decide +kernel
theorem dX11_nulOf_165 : decode cX11_nulOf 165 = .ok (.iadd, 1) := by decide +kernel
theorem dX11_nulOf_166 : decode cX11_nulOf 166 = .ok (.laload, 1) := by decide +kernel
theorem dX11_nulOf_167 : decode cX11_nulOf 167 = .ok (.lstore 5, 2) := by decide +kernel
theorem dX11_nulOf_169 : decode cX11_nulOf 169 = .ok (.aload_n 0, 1) := by decide +kernel
theorem dX11_nulOf_170 : decode cX11_nulOf 170 = .ok (.getfield 41, 3) := by decide +kernel
theorem dX11_nulOf_173 : decode cX11_nulOf 173 = .ok (.bipush 16, 2) := by decide +kernel
theorem dX11_nulOf_175 : decode cX11_nulOf 175 = .ok (.aload_n 0, 1) := by decide +kernel
theorem dX11_nulOf_176 : decode cX11_nulOf 176 = .ok (.getfield 45, 3) := by decide +kernel
theorem dX11_nulOf_179 : decode cX11_nulOf 179 = .ok (.iload 4, 2) := by decide +kernel
theorem dX11_nulOf_181 : decode cX11_nulOf 181 = .ok (.iaload, 1) := by decide +kernel
theorem dX11_nulOf_182 : decode cX11_nulOf 182 = .ok (.imul, 1) := by decide +kernel
theorem dX11_nulOf_183 : decode cX11_nulOf 183 = .ok (.iload_n 1, 1) := by decide +kernel
theorem dX11_nulOf_184 : decode cX11_nulOf 184 = .ok (.iadd, 1) := by decide +kernel
theorem dX11_nulOf_185 : decode cX11_nulOf 185 = .ok (.laload, 1) := by decide +kernel
theorem dX11_nulOf_186 : decode cX11_nulOf 186 = .ok (.lstore 7, 2) := by decide +kernel
theorem dX11_nulOf_188 : decode cX11_nulOf 188 = .ok (.lload 5, 2) := by decide +kernel
theorem dX11_nulOf_190 : decode cX11_nulOf 190 = .ok (.lload 7, 2) := by decide +kernel
theorem dX11_nulOf_192 : decode cX11_nulOf 192 = .ok (.invokestatic 94, 3) := by decide +kernel
theorem dX11_nulOf_195 : decode cX11_nulOf 195 = .ok (.lstore 9, 2) := by decide +kernel
theorem dX11_nulOf_197 : decode cX11_nulOf 197 = .ok (.aload_n 0, 1) := by decide +kernel
theorem dX11_nulOf_198 : decode cX11_nulOf 198 = .ok (.getfield 48, 3) := by decide +kernel
theorem dX11_nulOf_201 : decode cX11_nulOf 201 = .ok (.iload 4, 2) := by decide +kernel
theorem dX11_nulOf_203 : decode cX11_nulOf 203 = .ok (.lload 7, 2) := by decide +kernel
theorem dX11_nulOf_205 : decode cX11_nulOf 205 = .ok (.lload 9, 2) := by decide +kernel
theorem dX11_nulOf_207 : decode cX11_nulOf 207 = .ok (.ldiv, 1) := by decide +kernel
theorem dX11_nulOf_208 : decode cX11_nulOf 208 = .ok (.lneg, 1) := by decide +kernel
theorem dX11_nulOf_209 : decode cX11_nulOf 209 = .ok (.lload_n 2, 1) := by decide +kernel
theorem dX11_nulOf_210 : decode cX11_nulOf 210 = .ok (.lload 5, 2) := by decide +kernel
theorem dX11_nulOf_212 : decode cX11_nulOf 212 = .ok (.lload 9, 2) := by decide +kernel
theorem dX11_nulOf_214 : decode cX11_nulOf 214 = .ok (.ldiv, 1) := by decide +kernel
theorem dX11_nulOf_215 : decode cX11_nulOf 215 = .ok (.ldiv, 1) := by decide +kernel
theorem dX11_nulOf_216 : decode cX11_nulOf 216 = .ok (.lmul, 1) := by decide +kernel
theorem dX11_nulOf_217 : decode cX11_nulOf 217 = .ok (.lastore, 1) := by decide +kernel
theorem dX11_nulOf_218 : decode cX11_nulOf 218 = .ok (.iinc 4 1, 3) := by decide +kernel
theorem dX11_nulOf_221 : decode cX11_nulOf 221 = .ok (.goto (-113), 3) := by decide +kernel
theorem dX11_nulOf_224 : decode cX11_nulOf 224 = .ok (.lconst 0, 1) := by decide +kernel
theorem dX11_nulOf_225 : decode cX11_nulOf 225 = .ok (.lstore 4, 2) := by decide +kernel
theorem dX11_nulOf_227 : decode cX11_nulOf 227 = .ok (.iconst 0, 1) := by decide +kernel
theorem dX11_nulOf_228 : decode cX11_nulOf 228 = .ok (.istore 6, 2) := by decide +kernel
theorem dX11_nulOf_230 : decode cX11_nulOf 230 = .ok (.iload 6, 2) := by decide +kernel
theorem dX11_nulOf_232 : decode cX11_nulOf 232 = .ok (.aload_n 0, 1) := by decide +kernel
theorem dX11_nulOf_233 : decode cX11_nulOf 233 = .ok (.getfield 105, 3) := by decide +kernel
theorem dX11_nulOf_236 : decode cX11_nulOf 236 = .ok (.if_icmp .ge 23, 3) := by decide +kernel
theorem dX11_nulOf_239 : decode cX11_nulOf 239 = .ok (.lload 4, 2) := by decide +kernel
theorem dX11_nulOf_241 : decode cX11_nulOf 241 = .ok (.aload_n 0, 1) := by decide +kernel
theorem dX11_nulOf_242 : decode cX11_nulOf 242 = .ok (.getfield 48, 3) := by decide +kernel
theorem dX11_nulOf_245 : decode cX11_nulOf 245 = .ok (.iload 6, 2) := by decide +kernel
theorem dX11_nulOf_247 : decode cX11_nulOf 247 = .ok (.laload, 1) := by decide +kernel
theorem dX11_nulOf_248 : decode cX11_nulOf 248 = .ok (.invokestatic 94, 3) := by decide +kernel
theorem dX11_nulOf_251 : decode cX11_nulOf 251 = .ok (.lstore 4, 2) := by decide +kernel
theorem dX11_nulOf_253 : decode cX11_nulOf 253 = .ok (.iinc 6 1, 3) := by decide +kernel
theorem dX11_nulOf_256 : decode cX11_nulOf 256 = .ok (.goto (-26), 3) := by decide +kernel
theorem dX11_nulOf_259 : decode cX11_nulOf 259 = .ok (.iconst 0, 1) := by decide +kernel
theorem dX11_nulOf_260 : decode cX11_nulOf 260 = .ok (.istore 6, 2) := by decide +kernel
theorem dX11_nulOf_262 : decode cX11_nulOf 262 = .ok (.iload 6, 2) := by decide +kernel
theorem dX11_nulOf_264 : decode cX11_nulOf 264 = .ok (.aload_n 0, 1) := by decide +kernel
theorem dX11_nulOf_265 : decode cX11_nulOf 265 = .ok (.getfield 105, 3) := by decide +kernel
theorem dX11_nulOf_268 : decode cX11_nulOf 268 = .ok (.if_icmp .ge 21, 3) := by decide +kernel
theorem dX11_nulOf_271 : decode cX11_nulOf 271 = .ok (.aload_n 0, 1) := by decide +kernel
theorem dX11_nulOf_272 : decode cX11_nulOf 272 = .ok (.getfield 48, 3) := by decide +kernel
theorem dX11_nulOf_275 : decode cX11_nulOf 275 = .ok (.iload 6, 2) := by decide +kernel
theorem dX11_nulOf_277 : decode cX11_nulOf 277 = .ok (.dup2, 1) := by decide +kernel
theorem dX11_nulOf_278 : decode cX11_nulOf 278 = .ok (.laload, 1) := by decide +kernel
theorem dX11_nulOf_279 : decode cX11_nulOf 279 = .ok (.lload 4, 2) := by decide +kernel
theorem dX11_nulOf_281 : decode cX11_nulOf 281 = .ok (.ldiv, 1) := by decide +kernel
theorem dX11_nulOf_282 : decode cX11_nulOf 282 = .ok (.lastore, 1) := by decide +kernel
theorem dX11_nulOf_283 : decode cX11_nulOf 283 = .ok (.iinc 6 1, 3) := by decide +kernel
theorem dX11_nulOf_286 : decode cX11_nulOf 286 = .ok (.goto (-24), 3) := by decide +kernel
theorem dX11_nulOf_289 : decode cX11_nulOf 289 = .ok (.return_, 1) := by decide +kernel
theorem dX11_freeColumn_0 : decode cX11_freeColumn 0 = .ok (.aload_n 0, 1) := by decide +kernel
theorem dX11_freeColumn_1 : decode cX11_freeColumn 1 = .ok (.getfield 22, 3) := by decide +kernel
theorem dX11_freeColumn_4 : decode cX11_freeColumn 4 = .ok (.iload_n 1, 1) := by decide +kernel
theorem dX11_freeColumn_5 : decode cX11_freeColumn 5 = .ok (.baload, 1) := by decide +kernel
theorem dX11_freeColumn_6 : decode cX11_freeColumn 6 = .ok (.ifCond .eq 5, 3) := by decide +kernel
theorem dX11_freeColumn_9 : decode cX11_freeColumn 9 = .ok (.iconst (-1), 1) := by decide +kernel
theorem dX11_freeColumn_10 : decode cX11_freeColumn 10 = .ok (.ireturn, 1) := by decide +kernel
theorem dX11_freeColumn_11 : decode cX11_freeColumn 11 = .ok (.iconst 0, 1) := by decide +kernel
theorem dX11_freeColumn_12 : decode cX11_freeColumn 12 = .ok (.istore_n 2, 1) := by decide +kernel
theorem dX11_freeColumn_13 : decode cX11_freeColumn 13 = .ok (.iconst 0, 1) := by decide +kernel
theorem dX11_freeColumn_14 : decode cX11_freeColumn 14 = .ok (.istore_n 3, 1) := by decide +kernel
theorem dX11_freeColumn_15 : decode cX11_freeColumn 15 = .ok (.iload_n 3, 1) := by decide +kernel
theorem dX11_freeColumn_16 : decode cX11_freeColumn 16 = .ok (.iload_n 1, 1) := by decide +kernel
theorem dX11_freeColumn_17 : decode cX11_freeColumn 17 = .ok (.if_icmp .ge 21, 3) := by decide +kernel
theorem dX11_freeColumn_20 : decode cX11_freeColumn 20 = .ok (.aload_n 0, 1) := by decide +kernel
theorem dX11_freeColumn_21 : decode cX11_freeColumn 21 = .ok (.getfield 22, 3) := by decide +kernel
theorem dX11_freeColumn_24 : decode cX11_freeColumn 24 = .ok (.iload_n 3, 1) := by decide +kernel
theorem dX11_freeColumn_25 : decode cX11_freeColumn 25 = .ok (.baload, 1) := by decide +kernel
theorem dX11_freeColumn_26 : decode cX11_freeColumn 26 = .ok (.ifCond .ne 6, 3) := by decide +kernel
theorem dX11_freeColumn_29 : decode cX11_freeColumn 29 = .ok (.iinc 2 2, 3) := by decide +kernel
theorem dX11_freeColumn_32 : decode cX11_freeColumn 32 = .ok (.iinc 3 1, 3) := by decide +kernel
theorem dX11_freeColumn_35 : decode cX11_freeColumn 35 = .ok (.goto (-20), 3) := by decide +kernel
theorem dX11_freeColumn_38 : decode cX11_freeColumn 38 = .ok (.iload_n 2, 1) := by decide +kernel
theorem dX11_freeColumn_39 : decode cX11_freeColumn 39 = .ok (.ireturn, 1) := by decide +kernel
theorem dX11_freePins_0 : decode cX11_freePins 0 = .ok (.iconst 0, 1) := by decide +kernel
theorem dX11_freePins_1 : decode cX11_freePins 1 = .ok (.istore_n 1, 1) := by decide +kernel
theorem dX11_freePins_2 : decode cX11_freePins 2 = .ok (.iconst 0, 1) := by decide +kernel
theorem dX11_freePins_3 : decode cX11_freePins 3 = .ok (.istore_n 2, 1) := by decide +kernel
theorem dX11_freePins_4 : decode cX11_freePins 4 = .ok (.iload_n 2, 1) := by decide +kernel
theorem dX11_freePins_5 : decode cX11_freePins 5 = .ok (.aload_n 0, 1) := by decide +kernel
theorem dX11_freePins_6 : decode cX11_freePins 6 = .ok (.getfield 87, 3) := by decide +kernel
theorem dX11_freePins_9 : decode cX11_freePins 9 = .ok (.if_icmp .ge 21, 3) := by decide +kernel
theorem dX11_freePins_12 : decode cX11_freePins 12 = .ok (.aload_n 0, 1) := by decide +kernel
theorem dX11_freePins_13 : decode cX11_freePins 13 = .ok (.getfield 22, 3) := by decide +kernel
theorem dX11_freePins_16 : decode cX11_freePins 16 = .ok (.iload_n 2, 1) := by decide +kernel
theorem dX11_freePins_17 : decode cX11_freePins 17 = .ok (.baload, 1) := by decide +kernel
theorem dX11_freePins_18 : decode cX11_freePins 18 = .ok (.ifCond .ne 6, 3) := by decide +kernel
theorem dX11_freePins_21 : decode cX11_freePins 21 = .ok (.iinc 1 1, 3) := by decide +kernel
theorem dX11_freePins_24 : decode cX11_freePins 24 = .ok (.iinc 2 1, 3) := by decide +kernel
theorem dX11_freePins_27 : decode cX11_freePins 27 = .ok (.goto (-23), 3) := by decide +kernel
theorem dX11_freePins_30 : decode cX11_freePins 30 = .ok (.iload_n 1, 1) := by decide +kernel
theorem dX11_freePins_31 : decode cX11_freePins 31 = .ok (.ireturn, 1) := by decide +kernel
theorem dX11_motionRow_0 : decode cX11_motionRow 0 = .ok (.iconst 0, 1) := by decide +kernel
theorem dX11_motionRow_1 : decode cX11_motionRow 1 = .ok (.istore_n 3, 1) := by decide +kernel
theorem dX11_motionRow_2 : decode cX11_motionRow 2 = .ok (.iload_n 3, 1) := by decide +kernel
theorem dX11_motionRow_3 : decode cX11_motionRow 3 = .ok (.bipush 16, 2) := by decide +kernel
theorem dX11_motionRow_5 : decode cX11_motionRow 5 = .ok (.if_icmp .ge 24, 3) := by decide +kernel
theorem dX11_motionRow_8 : decode cX11_motionRow 8 = .ok (.aload_n 0, 1) := by decide +kernel
theorem dX11_motionRow_9 : decode cX11_motionRow 9 = .ok (.getfield 41, 3) := by decide +kernel
theorem dX11_motionRow_12 : decode cX11_motionRow 12 = .ok (.bipush 16, 2) := by decide +kernel
theorem dX11_motionRow_14 : decode cX11_motionRow 14 = .ok (.aload_n 0, 1) := by decide +kernel
theorem dX11_motionRow_15 : decode cX11_motionRow 15 = .ok (.getfield 98, 3) := by decide +kernel
theorem dX11_motionRow_18 : decode cX11_motionRow 18 = .ok (.imul, 1) := by decide +kernel
theorem dX11_motionRow_19 : decode cX11_motionRow 19 = .ok (.iload_n 3, 1) := by decide +kernel
theorem dX11_motionRow_20 : decode cX11_motionRow 20 = .ok (.iadd, 1) := by decide +kernel
theorem dX11_motionRow_21 : decode cX11_motionRow 21 = .ok (.lconst 0, 1) := by decide +kernel
theorem dX11_motionRow_22 : decode cX11_motionRow 22 = .ok (.lastore, 1) := by decide +kernel
theorem dX11_motionRow_23 : decode cX11_motionRow 23 = .ok (.iinc 3 1, 3) := by decide +kernel
theorem dX11_motionRow_26 : decode cX11_motionRow 26 = .ok (.goto (-24), 3) := by decide +kernel
theorem dX11_motionRow_29 : decode cX11_motionRow 29 = .ok (.aload_n 0, 1) := by decide +kernel
theorem dX11_motionRow_30 : decode cX11_motionRow 30 = .ok (.iload_n 1, 1) := by decide +kernel
theorem dX11_motionRow_31 : decode cX11_motionRow 31 = .ok (.invokevirtual 108, 3) := by decide +kernel
theorem dX11_motionRow_34 : decode cX11_motionRow 34 = .ok (.istore_n 3, 1) := by decide +kernel
theorem dX11_motionRow_35 : decode cX11_motionRow 35 = .ok (.aload_n 0, 1) := by decide +kernel
theorem dX11_motionRow_36 : decode cX11_motionRow 36 = .ok (.iload_n 2, 1) := by decide +kernel
theorem dX11_motionRow_37 : decode cX11_motionRow 37 = .ok (.invokevirtual 108, 3) := by decide +kernel
theorem dX11_motionRow_40 : decode cX11_motionRow 40 = .ok (.istore 4, 2) := by decide +kernel
theorem dX11_motionRow_42 : decode cX11_motionRow 42 = .ok (.iload_n 3, 1) := by decide +kernel
theorem dX11_motionRow_43 : decode cX11_motionRow 43 = .ok (.iconst (-1), 1) := by decide +kernel
theorem dX11_motionRow_44 : decode cX11_motionRow 44 = .ok (.if_icmp .eq 61, 3) := by decide +kernel
theorem dX11_motionRow_47 : decode cX11_motionRow 47 = .ok (.aload_n 0, 1) := by decide +kernel
theorem dX11_motionRow_48 : decode cX11_motionRow 48 = .ok (.getfield 41, 3) := by decide +kernel
theorem dX11_motionRow_51 : decode cX11_motionRow 51 = .ok (.bipush 16, 2) := by decide +kernel
theorem dX11_motionRow_53 : decode cX11_motionRow 53 = .ok (.aload_n 0, 1) := by decide +kernel
theorem dX11_motionRow_54 : decode cX11_motionRow 54 = .ok (.getfield 98, 3) := by decide +kernel
theorem dX11_motionRow_57 : decode cX11_motionRow 57 = .ok (.imul, 1) := by decide +kernel
theorem dX11_motionRow_58 : decode cX11_motionRow 58 = .ok (.iload_n 3, 1) := by decide +kernel
theorem dX11_motionRow_59 : decode cX11_motionRow 59 = .ok (.iadd, 1) := by decide +kernel
theorem dX11_motionRow_60 : decode cX11_motionRow 60 = .ok (.aload_n 0, 1) := by decide +kernel
theorem dX11_motionRow_61 : decode cX11_motionRow 61 = .ok (.getfield 7, 3) := by decide +kernel
theorem dX11_motionRow_64 : decode cX11_motionRow 64 = .ok (.iload_n 1, 1) := by decide +kernel
theorem dX11_motionRow_65 : decode cX11_motionRow 65 = .ok (.iaload, 1) := by decide +kernel
theorem dX11_motionRow_66 : decode cX11_motionRow 66 = .ok (.aload_n 0, 1) := by decide +kernel
theorem dX11_motionRow_67 : decode cX11_motionRow 67 = .ok (.getfield 7, 3) := by decide +kernel
theorem dX11_motionRow_70 : decode cX11_motionRow 70 = .ok (.iload_n 2, 1) := by decide +kernel
theorem dX11_motionRow_71 : decode cX11_motionRow 71 = .ok (.iaload, 1) := by decide +kernel
theorem dX11_motionRow_72 : decode cX11_motionRow 72 = .ok (.isub, 1) := by decide +kernel
theorem dX11_motionRow_73 : decode cX11_motionRow 73 = .ok (.i2l, 1) := by decide +kernel
theorem dX11_motionRow_74 : decode cX11_motionRow 74 = .ok (.lastore, 1) := by decide +kernel
theorem dX11_motionRow_75 : decode cX11_motionRow 75 = .ok (.aload_n 0, 1) := by decide +kernel
theorem dX11_motionRow_76 : decode cX11_motionRow 76 = .ok (.getfield 41, 3) := by decide +kernel
theorem dX11_motionRow_79 : decode cX11_motionRow 79 = .ok (.bipush 16, 2) := by decide +kernel
theorem dX11_motionRow_81 : decode cX11_motionRow 81 = .ok (.aload_n 0, 1) := by decide +kernel
theorem dX11_motionRow_82 : decode cX11_motionRow 82 = .ok (.getfield 98, 3) := by decide +kernel
theorem dX11_motionRow_85 : decode cX11_motionRow 85 = .ok (.imul, 1) := by decide +kernel
theorem dX11_motionRow_86 : decode cX11_motionRow 86 = .ok (.iload_n 3, 1) := by decide +kernel
theorem dX11_motionRow_87 : decode cX11_motionRow 87 = .ok (.iadd, 1) := by decide +kernel
theorem dX11_motionRow_88 : decode cX11_motionRow 88 = .ok (.iconst 1, 1) := by decide +kernel
theorem dX11_motionRow_89 : decode cX11_motionRow 89 = .ok (.iadd, 1) := by decide +kernel
theorem dX11_motionRow_90 : decode cX11_motionRow 90 = .ok (.aload_n 0, 1) := by decide +kernel
theorem dX11_motionRow_91 : decode cX11_motionRow 91 = .ok (.getfield 13, 3) := by decide +kernel
theorem dX11_motionRow_94 : decode cX11_motionRow 94 = .ok (.iload_n 1, 1) := by decide +kernel
theorem dX11_motionRow_95 : decode cX11_motionRow 95 = .ok (.iaload, 1) := by decide +kernel
theorem dX11_motionRow_96 : decode cX11_motionRow 96 = .ok (.aload_n 0, 1) := by decide +kernel
theorem dX11_motionRow_97 : decode cX11_motionRow 97 = .ok (.getfield 13, 3) := by decide +kernel
theorem dX11_motionRow_100 : decode cX11_motionRow 100 = .ok (.iload_n 2, 1) := by decide +kernel
theorem dX11_motionRow_101 : decode cX11_motionRow 101 = .ok (.iaload, 1) := by decide +kernel
theorem dX11_motionRow_102 : decode cX11_motionRow 102 = .ok (.isub, 1) := by decide +kernel
theorem dX11_motionRow_103 : decode cX11_motionRow 103 = .ok (.i2l, 1) := by decide +kernel
theorem dX11_motionRow_104 : decode cX11_motionRow 104 = .ok (.lastore, 1) := by decide +kernel
theorem dX11_motionRow_105 : decode cX11_motionRow 105 = .ok (.iload 4, 2) := by decide +kernel
theorem dX11_motionRow_107 : decode cX11_motionRow 107 = .ok (.iconst (-1), 1) := by decide +kernel
theorem dX11_motionRow_108 : decode cX11_motionRow 108 = .ok (.if_icmp .eq 63, 3) := by decide +kernel
theorem dX11_motionRow_111 : decode cX11_motionRow 111 = .ok (.aload_n 0, 1) := by decide +kernel
theorem dX11_motionRow_112 : decode cX11_motionRow 112 = .ok (.getfield 41, 3) := by decide +kernel
theorem dX11_motionRow_115 : decode cX11_motionRow 115 = .ok (.bipush 16, 2) := by decide +kernel
theorem dX11_motionRow_117 : decode cX11_motionRow 117 = .ok (.aload_n 0, 1) := by decide +kernel
theorem dX11_motionRow_118 : decode cX11_motionRow 118 = .ok (.getfield 98, 3) := by decide +kernel
theorem dX11_motionRow_121 : decode cX11_motionRow 121 = .ok (.imul, 1) := by decide +kernel
theorem dX11_motionRow_122 : decode cX11_motionRow 122 = .ok (.iload 4, 2) := by decide +kernel
theorem dX11_motionRow_124 : decode cX11_motionRow 124 = .ok (.iadd, 1) := by decide +kernel
theorem dX11_motionRow_125 : decode cX11_motionRow 125 = .ok (.aload_n 0, 1) := by decide +kernel
theorem dX11_motionRow_126 : decode cX11_motionRow 126 = .ok (.getfield 7, 3) := by decide +kernel
theorem dX11_motionRow_129 : decode cX11_motionRow 129 = .ok (.iload_n 2, 1) := by decide +kernel
theorem dX11_motionRow_130 : decode cX11_motionRow 130 = .ok (.iaload, 1) := by decide +kernel
theorem dX11_motionRow_131 : decode cX11_motionRow 131 = .ok (.aload_n 0, 1) := by decide +kernel
theorem dX11_motionRow_132 : decode cX11_motionRow 132 = .ok (.getfield 7, 3) := by decide +kernel
theorem dX11_motionRow_135 : decode cX11_motionRow 135 = .ok (.iload_n 1, 1) := by decide +kernel
theorem dX11_motionRow_136 : decode cX11_motionRow 136 = .ok (.iaload, 1) := by decide +kernel
theorem dX11_motionRow_137 : decode cX11_motionRow 137 = .ok (.isub, 1) := by decide +kernel
theorem dX11_motionRow_138 : decode cX11_motionRow 138 = .ok (.i2l, 1) := by decide +kernel
theorem dX11_motionRow_139 : decode cX11_motionRow 139 = .ok (.lastore, 1) := by decide +kernel
theorem dX11_motionRow_140 : decode cX11_motionRow 140 = .ok (.aload_n 0, 1) := by decide +kernel
theorem dX11_motionRow_141 : decode cX11_motionRow 141 = .ok (.getfield 41, 3) := by decide +kernel
theorem dX11_motionRow_144 : decode cX11_motionRow 144 = .ok (.bipush 16, 2) := by decide +kernel
theorem dX11_motionRow_146 : decode cX11_motionRow 146 = .ok (.aload_n 0, 1) := by decide +kernel
theorem dX11_motionRow_147 : decode cX11_motionRow 147 = .ok (.getfield 98, 3) := by decide +kernel
theorem dX11_motionRow_150 : decode cX11_motionRow 150 = .ok (.imul, 1) := by decide +kernel
theorem dX11_motionRow_151 : decode cX11_motionRow 151 = .ok (.iload 4, 2) := by decide +kernel
theorem dX11_motionRow_153 : decode cX11_motionRow 153 = .ok (.iadd, 1) := by decide +kernel
theorem dX11_motionRow_154 : decode cX11_motionRow 154 = .ok (.iconst 1, 1) := by decide +kernel
theorem dX11_motionRow_155 : decode cX11_motionRow 155 = .ok (.iadd, 1) := by decide +kernel
theorem dX11_motionRow_156 : decode cX11_motionRow 156 = .ok (.aload_n 0, 1) := by decide +kernel
theorem dX11_motionRow_157 : decode cX11_motionRow 157 = .ok (.getfield 13, 3) := by decide +kernel
theorem dX11_motionRow_160 : decode cX11_motionRow 160 = .ok (.iload_n 2, 1) := by decide +kernel
theorem dX11_motionRow_161 : decode cX11_motionRow 161 = .ok (.iaload, 1) := by decide +kernel
theorem dX11_motionRow_162 : decode cX11_motionRow 162 = .ok (.aload_n 0, 1) := by decide +kernel
theorem dX11_motionRow_163 : decode cX11_motionRow 163 = .ok (.getfield 13, 3) := by decide +kernel
theorem dX11_motionRow_166 : decode cX11_motionRow 166 = .ok (.iload_n 1, 1) := by decide +kernel
theorem dX11_motionRow_167 : decode cX11_motionRow 167 = .ok (.iaload, 1) := by decide +kernel
theorem dX11_motionRow_168 : decode cX11_motionRow 168 = .ok (.isub, 1) := by decide +kernel
theorem dX11_motionRow_169 : decode cX11_motionRow 169 = .ok (.i2l, 1) := by decide +kernel
theorem dX11_motionRow_170 : decode cX11_motionRow 170 = .ok (.lastore, 1) := by decide +kernel
theorem dX11_motionRow_171 : decode cX11_motionRow 171 = .ok (.aload_n 0, 1) := by decide +kernel
theorem dX11_motionRow_172 : decode cX11_motionRow 172 = .ok (.dup, 1) := by decide +kernel
theorem dX11_motionRow_173 : decode cX11_motionRow 173 = .ok (.getfield 98, 3) := by decide +kernel
theorem dX11_motionRow_176 : decode cX11_motionRow 176 = .ok (.iconst 1, 1) := by decide +kernel
theorem dX11_motionRow_177 : decode cX11_motionRow 177 = .ok (.iadd, 1) := by decide +kernel
theorem dX11_motionRow_178 : decode cX11_motionRow 178 = .ok (.putfield 98, 3) := by decide +kernel
theorem dX11_motionRow_181 : decode cX11_motionRow 181 = .ok (.return_, 1) := by decide +kernel
theorem dX11_motionsOf_0 : decode cX11_motionsOf 0 = .ok (.aload_n 0, 1) := by decide +kernel
theorem dX11_motionsOf_1 : decode cX11_motionsOf 1 = .ok (.iconst 0, 1) := by decide +kernel
theorem dX11_motionsOf_2 : decode cX11_motionsOf 2 = .ok (.putfield 98, 3) := by decide +kernel
theorem dX11_motionsOf_5 : decode cX11_motionsOf 5 = .ok (.aload_n 0, 1) := by decide +kernel
theorem dX11_motionsOf_6 : decode cX11_motionsOf 6 = .ok (.iconst 2, 1) := by decide +kernel
theorem dX11_motionsOf_7 : decode cX11_motionsOf 7 = .ok (.aload_n 0, 1) := by decide +kernel
theorem dX11_motionsOf_8 : decode cX11_motionsOf 8 = .ok (.invokevirtual 112, 3) := by decide +kernel
theorem dX11_motionsOf_11 : decode cX11_motionsOf 11 = .ok (.imul, 1) := by decide +kernel
theorem dX11_motionsOf_12 : decode cX11_motionsOf 12 = .ok (.putfield 105, 3) := by decide +kernel
theorem dX11_motionsOf_15 : decode cX11_motionsOf 15 = .ok (.iconst 0, 1) := by decide +kernel
theorem dX11_motionsOf_16 : decode cX11_motionsOf 16 = .ok (.istore_n 2, 1) := by decide +kernel
theorem dX11_motionsOf_17 : decode cX11_motionsOf 17 = .ok (.iload_n 2, 1) := by decide +kernel
theorem dX11_motionsOf_18 : decode cX11_motionsOf 18 = .ok (.aload_n 0, 1) := by decide +kernel
theorem dX11_motionsOf_19 : decode cX11_motionsOf 19 = .ok (.getfield 91, 3) := by decide +kernel
theorem dX11_motionsOf_22 : decode cX11_motionsOf 22 = .ok (.if_icmp .ge 31, 3) := by decide +kernel
theorem dX11_motionsOf_25 : decode cX11_motionsOf 25 = .ok (.aload_n 1, 1) := by decide +kernel
theorem dX11_motionsOf_26 : decode cX11_motionsOf 26 = .ok (.iload_n 2, 1) := by decide +kernel
theorem dX11_motionsOf_27 : decode cX11_motionsOf 27 = .ok (.baload, 1) := by decide +kernel
theorem dX11_motionsOf_28 : decode cX11_motionsOf 28 = .ok (.ifCond .eq 19, 3) := by decide +kernel
theorem dX11_motionsOf_31 : decode cX11_motionsOf 31 = .ok (.aload_n 0, 1) := by decide +kernel
theorem dX11_motionsOf_32 : decode cX11_motionsOf 32 = .ok (.aload_n 0, 1) := by decide +kernel
theorem dX11_motionsOf_33 : decode cX11_motionsOf 33 = .ok (.getfield 29, 3) := by decide +kernel
theorem dX11_motionsOf_36 : decode cX11_motionsOf 36 = .ok (.iload_n 2, 1) := by decide +kernel
theorem dX11_motionsOf_37 : decode cX11_motionsOf 37 = .ok (.iaload, 1) := by decide +kernel
theorem dX11_motionsOf_38 : decode cX11_motionsOf 38 = .ok (.aload_n 0, 1) := by decide +kernel
theorem dX11_motionsOf_39 : decode cX11_motionsOf 39 = .ok (.getfield 32, 3) := by decide +kernel
theorem dX11_motionsOf_42 : decode cX11_motionsOf 42 = .ok (.iload_n 2, 1) := by decide +kernel
theorem dX11_motionsOf_43 : decode cX11_motionsOf 43 = .ok (.iaload, 1) := by decide +kernel
theorem dX11_motionsOf_44 : decode cX11_motionsOf 44 = .ok (.invokevirtual 116, 3) := by decide +kernel
theorem dX11_motionsOf_47 : decode cX11_motionsOf 47 = .ok (.iinc 2 1, 3) := by decide +kernel
theorem dX11_motionsOf_50 : decode cX11_motionsOf 50 = .ok (.goto (-33), 3) := by decide +kernel
theorem dX11_motionsOf_53 : decode cX11_motionsOf 53 = .ok (.aload_n 0, 1) := by decide +kernel
theorem dX11_motionsOf_54 : decode cX11_motionsOf 54 = .ok (.getfield 105, 3) := by decide +kernel
theorem dX11_motionsOf_57 : decode cX11_motionsOf 57 = .ok (.aload_n 0, 1) := by decide +kernel
theorem dX11_motionsOf_58 : decode cX11_motionsOf 58 = .ok (.aload_n 0, 1) := by decide +kernel
theorem dX11_motionsOf_59 : decode cX11_motionsOf 59 = .ok (.getfield 105, 3) := by decide +kernel
theorem dX11_motionsOf_62 : decode cX11_motionsOf 62 = .ok (.invokevirtual 119, 3) := by decide +kernel
theorem dX11_motionsOf_65 : decode cX11_motionsOf 65 = .ok (.isub, 1) := by decide +kernel
theorem dX11_motionsOf_66 : decode cX11_motionsOf 66 = .ok (.ireturn, 1) := by decide +kernel
theorem dX11_motions_0 : decode cX11_motions 0 = .ok (.aload_n 0, 1) := by decide +kernel
theorem dX11_motions_1 : decode cX11_motions 1 = .ok (.aload_n 0, 1) := by decide +kernel
theorem dX11_motions_2 : decode cX11_motions 2 = .ok (.getfield 38, 3) := by decide +kernel
theorem dX11_motions_5 : decode cX11_motions 5 = .ok (.invokevirtual 122, 3) := by decide +kernel
theorem dX11_motions_8 : decode cX11_motions 8 = .ok (.ireturn, 1) := by decide +kernel
theorem dX11_planeMotions_0 : decode cX11_planeMotions 0 = .ok (.aload_n 0, 1) := by decide +kernel
theorem dX11_planeMotions_1 : decode cX11_planeMotions 1 = .ok (.invokevirtual 112, 3) := by decide +kernel
theorem dX11_planeMotions_4 : decode cX11_planeMotions 4 = .ok (.istore_n 1, 1) := by decide +kernel
theorem dX11_planeMotions_5 : decode cX11_planeMotions 5 = .ok (.aload_n 0, 1) := by decide +kernel
theorem dX11_planeMotions_6 : decode cX11_planeMotions 6 = .ok (.getfield 87, 3) := by decide +kernel
theorem dX11_planeMotions_9 : decode cX11_planeMotions 9 = .ok (.iload_n 1, 1) := by decide +kernel
theorem dX11_planeMotions_10 : decode cX11_planeMotions 10 = .ok (.isub, 1) := by decide +kernel
theorem dX11_planeMotions_11 : decode cX11_planeMotions 11 = .ok (.istore_n 2, 1) := by decide +kernel
theorem dX11_planeMotions_12 : decode cX11_planeMotions 12 = .ok (.iload_n 2, 1) := by decide +kernel
theorem dX11_planeMotions_13 : decode cX11_planeMotions 13 = .ok (.ifCond .ne 16, 3) := by decide +kernel
theorem dX11_planeMotions_16 : decode cX11_planeMotions 16 = .ok (.iload_n 1, 1) := by decide +kernel
theorem dX11_planeMotions_17 : decode cX11_planeMotions 17 = .ok (.iconst 2, 1) := by decide +kernel
theorem dX11_planeMotions_18 : decode cX11_planeMotions 18 = .ok (.if_icmp .ge 9, 3) := by decide +kernel
theorem dX11_planeMotions_21 : decode cX11_planeMotions 21 = .ok (.iconst 2, 1) := by decide +kernel
theorem dX11_planeMotions_22 : decode cX11_planeMotions 22 = .ok (.iload_n 1, 1) := by decide +kernel
theorem dX11_planeMotions_23 : decode cX11_planeMotions 23 = .ok (.imul, 1) := by decide +kernel
theorem dX11_planeMotions_24 : decode cX11_planeMotions 24 = .ok (.goto 4, 3) := by decide +kernel
theorem dX11_planeMotions_27 : decode cX11_planeMotions 27 = .ok (.iconst 3, 1) := by decide +kernel
theorem dX11_planeMotions_28 : decode cX11_planeMotions 28 = .ok (.ireturn, 1) := by decide +kernel
theorem dX11_planeMotions_29 : decode cX11_planeMotions 29 = .ok (.iload_n 2, 1) := by decide +kernel
theorem dX11_planeMotions_30 : decode cX11_planeMotions 30 = .ok (.iconst 1, 1) := by decide +kernel
theorem dX11_planeMotions_31 : decode cX11_planeMotions 31 = .ok (.if_icmp .ne 11, 3) := by decide +kernel
theorem dX11_planeMotions_34 : decode cX11_planeMotions 34 = .ok (.iload_n 1, 1) := by decide +kernel
theorem dX11_planeMotions_35 : decode cX11_planeMotions 35 = .ok (.ifCond .le 7, 3) := by decide +kernel
theorem dX11_planeMotions_38 : decode cX11_planeMotions 38 = .ok (.iconst 1, 1) := by decide +kernel
theorem dX11_planeMotions_39 : decode cX11_planeMotions 39 = .ok (.goto 4, 3) := by decide +kernel
theorem dX11_planeMotions_42 : decode cX11_planeMotions 42 = .ok (.iconst 0, 1) := by decide +kernel
theorem dX11_planeMotions_43 : decode cX11_planeMotions 43 = .ok (.ireturn, 1) := by decide +kernel
theorem dX11_isStiff_0 : decode cX11_isStiff 0 = .ok (.aload_n 0, 1) := by decide +kernel
theorem dX11_isStiff_1 : decode cX11_isStiff 1 = .ok (.aload_n 1, 1) := by decide +kernel
theorem dX11_isStiff_2 : decode cX11_isStiff 2 = .ok (.invokevirtual 122, 3) := by decide +kernel
theorem dX11_isStiff_5 : decode cX11_isStiff 5 = .ok (.aload_n 0, 1) := by decide +kernel
theorem dX11_isStiff_6 : decode cX11_isStiff 6 = .ok (.invokevirtual 126, 3) := by decide +kernel
theorem dX11_isStiff_9 : decode cX11_isStiff 9 = .ok (.if_icmp .ne 7, 3) := by decide +kernel
theorem dX11_isStiff_12 : decode cX11_isStiff 12 = .ok (.iconst 1, 1) := by decide +kernel
theorem dX11_isStiff_13 : decode cX11_isStiff 13 = .ok (.goto 4, 3) := by decide +kernel
theorem dX11_isStiff_16 : decode cX11_isStiff 16 = .ok (.iconst 0, 1) := by decide +kernel
theorem dX11_isStiff_17 : decode cX11_isStiff 17 = .ok (.ireturn, 1) := by decide +kernel
theorem dX11_inCount_0 : decode cX11_inCount 0 = .ok (.iconst 0, 1) := by decide +kernel
theorem dX11_inCount_1 : decode cX11_inCount 1 = .ok (.istore_n 1, 1) := by decide +kernel
theorem dX11_inCount_2 : decode cX11_inCount 2 = .ok (.iconst 0, 1) := by decide +kernel
theorem dX11_inCount_3 : decode cX11_inCount 3 = .ok (.istore_n 2, 1) := by decide +kernel
theorem dX11_inCount_4 : decode cX11_inCount 4 = .ok (.iload_n 2, 1) := by decide +kernel
theorem dX11_inCount_5 : decode cX11_inCount 5 = .ok (.aload_n 0, 1) := by decide +kernel
theorem dX11_inCount_6 : decode cX11_inCount 6 = .ok (.getfield 91, 3) := by decide +kernel
theorem dX11_inCount_9 : decode cX11_inCount 9 = .ok (.if_icmp .ge 21, 3) := by decide +kernel
theorem dX11_inCount_12 : decode cX11_inCount 12 = .ok (.aload_n 0, 1) := by decide +kernel
theorem dX11_inCount_13 : decode cX11_inCount 13 = .ok (.getfield 38, 3) := by decide +kernel
theorem dX11_inCount_16 : decode cX11_inCount 16 = .ok (.iload_n 2, 1) := by decide +kernel
theorem dX11_inCount_17 : decode cX11_inCount 17 = .ok (.baload, 1) := by decide +kernel
theorem dX11_inCount_18 : decode cX11_inCount 18 = .ok (.ifCond .eq 6, 3) := by decide +kernel
theorem dX11_inCount_21 : decode cX11_inCount 21 = .ok (.iinc 1 1, 3) := by decide +kernel
theorem dX11_inCount_24 : decode cX11_inCount 24 = .ok (.iinc 2 1, 3) := by decide +kernel
theorem dX11_inCount_27 : decode cX11_inCount 27 = .ok (.goto (-23), 3) := by decide +kernel
theorem dX11_inCount_30 : decode cX11_inCount 30 = .ok (.iload_n 1, 1) := by decide +kernel
theorem dX11_inCount_31 : decode cX11_inCount 31 = .ok (.ireturn, 1) := by decide +kernel
theorem dX11_stresses_0 : decode cX11_stresses 0 = .ok (.aload_n 0, 1) := by decide +kernel
theorem dX11_stresses_1 : decode cX11_stresses 1 = .ok (.iconst 2, 1) := by decide +kernel
theorem dX11_stresses_2 : decode cX11_stresses 2 = .ok (.aload_n 0, 1) := by decide +kernel
theorem dX11_stresses_3 : decode cX11_stresses 3 = .ok (.invokevirtual 112, 3) := by decide +kernel
theorem dX11_stresses_6 : decode cX11_stresses 6 = .ok (.imul, 1) := by decide +kernel
theorem dX11_stresses_7 : decode cX11_stresses 7 = .ok (.putfield 98, 3) := by decide +kernel
theorem dX11_stresses_10 : decode cX11_stresses 10 = .ok (.aload_n 0, 1) := by decide +kernel
theorem dX11_stresses_11 : decode cX11_stresses 11 = .ok (.iconst 0, 1) := by decide +kernel
theorem dX11_stresses_12 : decode cX11_stresses 12 = .ok (.putfield 105, 3) := by decide +kernel
theorem dX11_stresses_15 : decode cX11_stresses 15 = .ok (.iconst 0, 1) := by decide +kernel
theorem dX11_stresses_16 : decode cX11_stresses 16 = .ok (.istore_n 1, 1) := by decide +kernel
theorem dX11_stresses_17 : decode cX11_stresses 17 = .ok (.iload_n 1, 1) := by decide +kernel
theorem dX11_stresses_18 : decode cX11_stresses 18 = .ok (.aload_n 0, 1) := by decide +kernel
theorem dX11_stresses_19 : decode cX11_stresses 19 = .ok (.getfield 91, 3) := by decide +kernel
theorem dX11_stresses_22 : decode cX11_stresses 22 = .ok (.if_icmp .ge 35, 3) := by decide +kernel
theorem dX11_stresses_25 : decode cX11_stresses 25 = .ok (.aload_n 0, 1) := by decide +kernel
theorem dX11_stresses_26 : decode cX11_stresses 26 = .ok (.getfield 38, 3) := by decide +kernel
theorem dX11_stresses_29 : decode cX11_stresses 29 = .ok (.iload_n 1, 1) := by decide +kernel
theorem dX11_stresses_30 : decode cX11_stresses 30 = .ok (.baload, 1) := by decide +kernel
theorem dX11_stresses_31 : decode cX11_stresses 31 = .ok (.ifCond .eq 20, 3) := by decide +kernel
theorem dX11_stresses_34 : decode cX11_stresses 34 = .ok (.aload_n 0, 1) := by decide +kernel
theorem dX11_stresses_35 : decode cX11_stresses 35 = .ok (.getfield 51, 3) := by decide +kernel
theorem dX11_stresses_38 : decode cX11_stresses 38 = .ok (.aload_n 0, 1) := by decide +kernel
theorem dX11_stresses_39 : decode cX11_stresses 39 = .ok (.dup, 1) := by decide +kernel
theorem dX11_stresses_40 : decode cX11_stresses 40 = .ok (.getfield 105, 3) := by decide +kernel
theorem dX11_stresses_43 : decode cX11_stresses 43 = .ok (.dup_x1, 1) := by decide +kernel
theorem dX11_stresses_44 : decode cX11_stresses 44 = .ok (.iconst 1, 1) := by decide +kernel
theorem dX11_stresses_45 : decode cX11_stresses 45 = .ok (.iadd, 1) := by decide +kernel
theorem dX11_stresses_46 : decode cX11_stresses 46 = .ok (.putfield 105, 3) := by decide +kernel
theorem dX11_stresses_49 : decode cX11_stresses 49 = .ok (.iload_n 1, 1) := by decide +kernel
theorem dX11_stresses_50 : decode cX11_stresses 50 = .ok (.iastore, 1) := by decide +kernel
theorem dX11_stresses_51 : decode cX11_stresses 51 = .ok (.iinc 1 1, 3) := by decide +kernel
theorem dX11_stresses_54 : decode cX11_stresses 54 = .ok (.goto (-37), 3) := by decide +kernel
theorem dX11_stresses_57 : decode cX11_stresses 57 = .ok (.iconst 0, 1) := by decide +kernel
theorem dX11_stresses_58 : decode cX11_stresses 58 = .ok (.istore_n 1, 1) := by decide +kernel
theorem dX11_stresses_59 : decode cX11_stresses 59 = .ok (.iload_n 1, 1) := by decide +kernel
theorem dX11_stresses_60 : decode cX11_stresses 60 = .ok (.bipush 16, 2) := by decide +kernel
theorem dX11_stresses_62 : decode cX11_stresses 62 = .ok (.aload_n 0, 1) := by decide +kernel
theorem dX11_stresses_63 : decode cX11_stresses 63 = .ok (.getfield 98, 3) := by decide +kernel
theorem dX11_stresses_66 : decode cX11_stresses 66 = .ok (.imul, 1) := by decide +kernel
theorem dX11_stresses_67 : decode cX11_stresses 67 = .ok (.if_icmp .ge 16, 3) := by decide +kernel
theorem dX11_stresses_70 : decode cX11_stresses 70 = .ok (.aload_n 0, 1) := by decide +kernel
theorem dX11_stresses_71 : decode cX11_stresses 71 = .ok (.getfield 41, 3) := by decide +kernel
theorem dX11_stresses_74 : decode cX11_stresses 74 = .ok (.iload_n 1, 1) := by decide +kernel
theorem dX11_stresses_75 : decode cX11_stresses 75 = .ok (.lconst 0, 1) := by decide +kernel
theorem dX11_stresses_76 : decode cX11_stresses 76 = .ok (.lastore, 1) := by decide +kernel
theorem dX11_stresses_77 : decode cX11_stresses 77 = .ok (.iinc 1 1, 3) := by decide +kernel
theorem dX11_stresses_80 : decode cX11_stresses 80 = .ok (.goto (-21), 3) := by decide +kernel
theorem dX11_stresses_83 : decode cX11_stresses 83 = .ok (.iconst 0, 1) := by decide +kernel
theorem dX11_stresses_84 : decode cX11_stresses 84 = .ok (.istore_n 1, 1) := by decide +kernel
theorem dX11_stresses_85 : decode cX11_stresses 85 = .ok (.iload_n 1, 1) := by decide +kernel
theorem dX11_stresses_86 : decode cX11_stresses 86 = .ok (.aload_n 0, 1) := by decide +kernel
theorem dX11_stresses_87 : decode cX11_stresses 87 = .ok (.getfield 105, 3) := by decide +kernel
theorem dX11_stresses_90 : decode cX11_stresses 90 = .ok (.if_icmp .ge 167, 3) := by decide +kernel
theorem dX11_stresses_93 : decode cX11_stresses 93 = .ok (.aload_n 0, 1) := by decide +kernel
theorem dX11_stresses_94 : decode cX11_stresses 94 = .ok (.getfield 29, 3) := by decide +kernel
theorem dX11_stresses_97 : decode cX11_stresses 97 = .ok (.aload_n 0, 1) := by decide +kernel
theorem dX11_stresses_98 : decode cX11_stresses 98 = .ok (.getfield 51, 3) := by decide +kernel
theorem dX11_stresses_101 : decode cX11_stresses 101 = .ok (.iload_n 1, 1) := by decide +kernel
theorem dX11_stresses_102 : decode cX11_stresses 102 = .ok (.iaload, 1) := by decide +kernel
theorem dX11_stresses_103 : decode cX11_stresses 103 = .ok (.iaload, 1) := by decide +kernel
theorem dX11_stresses_104 : decode cX11_stresses 104 = .ok (.istore_n 2, 1) := by decide +kernel
theorem dX11_stresses_105 : decode cX11_stresses 105 = .ok (.aload_n 0, 1) := by decide +kernel
theorem dX11_stresses_106 : decode cX11_stresses 106 = .ok (.getfield 32, 3) := by decide +kernel
theorem dX11_stresses_109 : decode cX11_stresses 109 = .ok (.aload_n 0, 1) := by decide +kernel
theorem dX11_stresses_110 : decode cX11_stresses 110 = .ok (.getfield 51, 3) := by decide +kernel
theorem dX11_stresses_113 : decode cX11_stresses 113 = .ok (.iload_n 1, 1) := by decide +kernel
theorem dX11_stresses_114 : decode cX11_stresses 114 = .ok (.iaload, 1) := by decide +kernel
theorem dX11_stresses_115 : decode cX11_stresses 115 = .ok (.iaload, 1) := by decide +kernel
theorem dX11_stresses_116 : decode cX11_stresses 116 = .ok (.istore_n 3, 1) := by decide +kernel
theorem dX11_stresses_117 : decode cX11_stresses 117 = .ok (.aload_n 0, 1) := by decide +kernel
theorem dX11_stresses_118 : decode cX11_stresses 118 = .ok (.iload_n 2, 1) := by decide +kernel
theorem dX11_stresses_119 : decode cX11_stresses 119 = .ok (.invokevirtual 108, 3) := by decide +kernel
theorem dX11_stresses_122 : decode cX11_stresses 122 = .ok (.istore 4, 2) := by decide +kernel
theorem dX11_stresses_124 : decode cX11_stresses 124 = .ok (.aload_n 0, 1) := by decide +kernel
theorem dX11_stresses_125 : decode cX11_stresses 125 = .ok (.iload_n 3, 1) := by decide +kernel
theorem dX11_stresses_126 : decode cX11_stresses 126 = .ok (.invokevirtual 108, 3) := by decide +kernel
theorem dX11_stresses_129 : decode cX11_stresses 129 = .ok (.istore 5, 2) := by decide +kernel
theorem dX11_stresses_131 : decode cX11_stresses 131 = .ok (.iload 4, 2) := by decide +kernel
theorem dX11_stresses_133 : decode cX11_stresses 133 = .ok (.iconst (-1), 1) := by decide +kernel
theorem dX11_stresses_134 : decode cX11_stresses 134 = .ok (.if_icmp .eq 57, 3) := by decide +kernel
theorem dX11_stresses_137 : decode cX11_stresses 137 = .ok (.aload_n 0, 1) := by decide +kernel
theorem dX11_stresses_138 : decode cX11_stresses 138 = .ok (.getfield 41, 3) := by decide +kernel
theorem dX11_stresses_141 : decode cX11_stresses 141 = .ok (.bipush 16, 2) := by decide +kernel
theorem dX11_stresses_143 : decode cX11_stresses 143 = .ok (.iload 4, 2) := by decide +kernel
theorem dX11_stresses_145 : decode cX11_stresses 145 = .ok (.imul, 1) := by decide +kernel
theorem dX11_stresses_146 : decode cX11_stresses 146 = .ok (.iload_n 1, 1) := by decide +kernel
theorem dX11_stresses_147 : decode cX11_stresses 147 = .ok (.iadd, 1) := by decide +kernel
theorem dX11_stresses_148 : decode cX11_stresses 148 = .ok (.aload_n 0, 1) := by decide +kernel
theorem dX11_stresses_149 : decode cX11_stresses 149 = .ok (.getfield 7, 3) := by decide +kernel
theorem dX11_stresses_152 : decode cX11_stresses 152 = .ok (.iload_n 2, 1) := by decide +kernel
theorem dX11_stresses_153 : decode cX11_stresses 153 = .ok (.iaload, 1) := by decide +kernel
theorem dX11_stresses_154 : decode cX11_stresses 154 = .ok (.aload_n 0, 1) := by decide +kernel
theorem dX11_stresses_155 : decode cX11_stresses 155 = .ok (.getfield 7, 3) := by decide +kernel
theorem dX11_stresses_158 : decode cX11_stresses 158 = .ok (.iload_n 3, 1) := by decide +kernel
theorem dX11_stresses_159 : decode cX11_stresses 159 = .ok (.iaload, 1) := by decide +kernel
theorem dX11_stresses_160 : decode cX11_stresses 160 = .ok (.isub, 1) := by decide +kernel
theorem dX11_stresses_161 : decode cX11_stresses 161 = .ok (.i2l, 1) := by decide +kernel
theorem dX11_stresses_162 : decode cX11_stresses 162 = .ok (.lastore, 1) := by decide +kernel
theorem dX11_stresses_163 : decode cX11_stresses 163 = .ok (.aload_n 0, 1) := by decide +kernel
theorem dX11_stresses_164 : decode cX11_stresses 164 = .ok (.getfield 41, 3) := by decide +kernel
theorem dX11_stresses_167 : decode cX11_stresses 167 = .ok (.bipush 16, 2) := by decide +kernel
theorem dX11_stresses_169 : decode cX11_stresses 169 = .ok (.iload 4, 2) := by decide +kernel
theorem dX11_stresses_171 : decode cX11_stresses 171 = .ok (.iconst 1, 1) := by decide +kernel
theorem dX11_stresses_172 : decode cX11_stresses 172 = .ok (.iadd, 1) := by decide +kernel
theorem dX11_stresses_173 : decode cX11_stresses 173 = .ok (.imul, 1) := by decide +kernel
theorem dX11_stresses_174 : decode cX11_stresses 174 = .ok (.iload_n 1, 1) := by decide +kernel
theorem dX11_stresses_175 : decode cX11_stresses 175 = .ok (.iadd, 1) := by decide +kernel
theorem dX11_stresses_176 : decode cX11_stresses 176 = .ok (.aload_n 0, 1) := by decide +kernel
theorem dX11_stresses_177 : decode cX11_stresses 177 = .ok (.getfield 13, 3) := by decide +kernel
theorem dX11_stresses_180 : decode cX11_stresses 180 = .ok (.iload_n 2, 1) := by decide +kernel
theorem dX11_stresses_181 : decode cX11_stresses 181 = .ok (.iaload, 1) := by decide +kernel
theorem dX11_stresses_182 : decode cX11_stresses 182 = .ok (.aload_n 0, 1) := by decide +kernel
theorem dX11_stresses_183 : decode cX11_stresses 183 = .ok (.getfield 13, 3) := by decide +kernel
theorem dX11_stresses_186 : decode cX11_stresses 186 = .ok (.iload_n 3, 1) := by decide +kernel
theorem dX11_stresses_187 : decode cX11_stresses 187 = .ok (.iaload, 1) := by decide +kernel
theorem dX11_stresses_188 : decode cX11_stresses 188 = .ok (.isub, 1) := by decide +kernel
theorem dX11_stresses_189 : decode cX11_stresses 189 = .ok (.i2l, 1) := by decide +kernel
theorem dX11_stresses_190 : decode cX11_stresses 190 = .ok (.lastore, 1) := by decide +kernel
theorem dX11_stresses_191 : decode cX11_stresses 191 = .ok (.iload 5, 2) := by decide +kernel
theorem dX11_stresses_193 : decode cX11_stresses 193 = .ok (.iconst (-1), 1) := by decide +kernel
theorem dX11_stresses_194 : decode cX11_stresses 194 = .ok (.if_icmp .eq 57, 3) := by decide +kernel
theorem dX11_stresses_197 : decode cX11_stresses 197 = .ok (.aload_n 0, 1) := by decide +kernel
theorem dX11_stresses_198 : decode cX11_stresses 198 = .ok (.getfield 41, 3) := by decide +kernel
theorem dX11_stresses_201 : decode cX11_stresses 201 = .ok (.bipush 16, 2) := by decide +kernel
theorem dX11_stresses_203 : decode cX11_stresses 203 = .ok (.iload 5, 2) := by decide +kernel
theorem dX11_stresses_205 : decode cX11_stresses 205 = .ok (.imul, 1) := by decide +kernel
theorem dX11_stresses_206 : decode cX11_stresses 206 = .ok (.iload_n 1, 1) := by decide +kernel
theorem dX11_stresses_207 : decode cX11_stresses 207 = .ok (.iadd, 1) := by decide +kernel
theorem dX11_stresses_208 : decode cX11_stresses 208 = .ok (.aload_n 0, 1) := by decide +kernel
theorem dX11_stresses_209 : decode cX11_stresses 209 = .ok (.getfield 7, 3) := by decide +kernel
theorem dX11_stresses_212 : decode cX11_stresses 212 = .ok (.iload_n 3, 1) := by decide +kernel
theorem dX11_stresses_213 : decode cX11_stresses 213 = .ok (.iaload, 1) := by decide +kernel
theorem dX11_stresses_214 : decode cX11_stresses 214 = .ok (.aload_n 0, 1) := by decide +kernel
theorem dX11_stresses_215 : decode cX11_stresses 215 = .ok (.getfield 7, 3) := by decide +kernel
theorem dX11_stresses_218 : decode cX11_stresses 218 = .ok (.iload_n 2, 1) := by decide +kernel
theorem dX11_stresses_219 : decode cX11_stresses 219 = .ok (.iaload, 1) := by decide +kernel
theorem dX11_stresses_220 : decode cX11_stresses 220 = .ok (.isub, 1) := by decide +kernel
theorem dX11_stresses_221 : decode cX11_stresses 221 = .ok (.i2l, 1) := by decide +kernel
theorem dX11_stresses_222 : decode cX11_stresses 222 = .ok (.lastore, 1) := by decide +kernel
theorem dX11_stresses_223 : decode cX11_stresses 223 = .ok (.aload_n 0, 1) := by decide +kernel
theorem dX11_stresses_224 : decode cX11_stresses 224 = .ok (.getfield 41, 3) := by decide +kernel
theorem dX11_stresses_227 : decode cX11_stresses 227 = .ok (.bipush 16, 2) := by decide +kernel
theorem dX11_stresses_229 : decode cX11_stresses 229 = .ok (.iload 5, 2) := by decide +kernel
theorem dX11_stresses_231 : decode cX11_stresses 231 = .ok (.iconst 1, 1) := by decide +kernel
theorem dX11_stresses_232 : decode cX11_stresses 232 = .ok (.iadd, 1) := by decide +kernel
theorem dX11_stresses_233 : decode cX11_stresses 233 = .ok (.imul, 1) := by decide +kernel
theorem dX11_stresses_234 : decode cX11_stresses 234 = .ok (.iload_n 1, 1) := by decide +kernel
theorem dX11_stresses_235 : decode cX11_stresses 235 = .ok (.iadd, 1) := by decide +kernel
theorem dX11_stresses_236 : decode cX11_stresses 236 = .ok (.aload_n 0, 1) := by decide +kernel
theorem dX11_stresses_237 : decode cX11_stresses 237 = .ok (.getfield 13, 3) := by decide +kernel
theorem dX11_stresses_240 : decode cX11_stresses 240 = .ok (.iload_n 3, 1) := by decide +kernel
theorem dX11_stresses_241 : decode cX11_stresses 241 = .ok (.iaload, 1) := by decide +kernel
theorem dX11_stresses_242 : decode cX11_stresses 242 = .ok (.aload_n 0, 1) := by decide +kernel
theorem dX11_stresses_243 : decode cX11_stresses 243 = .ok (.getfield 13, 3) := by decide +kernel
theorem dX11_stresses_246 : decode cX11_stresses 246 = .ok (.iload_n 2, 1) := by decide +kernel
theorem dX11_stresses_247 : decode cX11_stresses 247 = .ok (.iaload, 1) := by decide +kernel
theorem dX11_stresses_248 : decode cX11_stresses 248 = .ok (.isub, 1) := by decide +kernel
theorem dX11_stresses_249 : decode cX11_stresses 249 = .ok (.i2l, 1) := by decide +kernel
theorem dX11_stresses_250 : decode cX11_stresses 250 = .ok (.lastore, 1) := by decide +kernel
theorem dX11_stresses_251 : decode cX11_stresses 251 = .ok (.iinc 1 1, 3) := by decide +kernel
theorem dX11_stresses_254 : decode cX11_stresses 254 = .ok (.goto (-169), 3) := by decide +kernel
theorem dX11_stresses_257 : decode cX11_stresses 257 = .ok (.iconst 0, 1) := by decide +kernel
theorem dX11_stresses_258 : decode cX11_stresses 258 = .ok (.istore_n 1, 1) := by decide +kernel
theorem dX11_stresses_259 : decode cX11_stresses 259 = .ok (.iload_n 1, 1) := by decide +kernel
theorem dX11_stresses_260 : decode cX11_stresses 260 = .ok (.aload_n 0, 1) := by decide +kernel
theorem dX11_stresses_261 : decode cX11_stresses 261 = .ok (.getfield 87, 3) := by decide +kernel
theorem dX11_stresses_264 : decode cX11_stresses 264 = .ok (.if_icmp .ge 67, 3) := by decide +kernel
theorem dX11_stresses_267 : decode cX11_stresses 267 = .ok (.aload_n 0, 1) := by decide +kernel
theorem dX11_stresses_268 : decode cX11_stresses 268 = .ok (.iload_n 1, 1) := by decide +kernel
theorem dX11_stresses_269 : decode cX11_stresses 269 = .ok (.invokevirtual 108, 3) := by decide +kernel
theorem dX11_stresses_272 : decode cX11_stresses 272 = .ok (.istore_n 2, 1) := by decide +kernel
theorem dX11_stresses_273 : decode cX11_stresses 273 = .ok (.iload_n 2, 1) := by decide +kernel
theorem dX11_stresses_274 : decode cX11_stresses 274 = .ok (.iconst (-1), 1) := by decide +kernel
theorem dX11_stresses_275 : decode cX11_stresses 275 = .ok (.if_icmp .ne 6, 3) := by decide +kernel
theorem dX11_stresses_278 : decode cX11_stresses 278 = .ok (.goto 47, 3) := by decide +kernel
theorem dX11_stresses_281 : decode cX11_stresses 281 = .ok (.aload_n 0, 1) := by decide +kernel
theorem dX11_stresses_282 : decode cX11_stresses 282 = .ok (.getfield 41, 3) := by decide +kernel
theorem dX11_stresses_285 : decode cX11_stresses 285 = .ok (.bipush 16, 2) := by decide +kernel
theorem dX11_stresses_287 : decode cX11_stresses 287 = .ok (.iload_n 2, 1) := by decide +kernel
theorem dX11_stresses_288 : decode cX11_stresses 288 = .ok (.imul, 1) := by decide +kernel
theorem dX11_stresses_289 : decode cX11_stresses 289 = .ok (.aload_n 0, 1) := by decide +kernel
theorem dX11_stresses_290 : decode cX11_stresses 290 = .ok (.getfield 105, 3) := by decide +kernel
theorem dX11_stresses_293 : decode cX11_stresses 293 = .ok (.iadd, 1) := by decide +kernel
theorem dX11_stresses_294 : decode cX11_stresses 294 = .ok (.aload_n 0, 1) := by decide +kernel
theorem dX11_stresses_295 : decode cX11_stresses 295 = .ok (.getfield 16, 3) := by decide +kernel
theorem dX11_stresses_298 : decode cX11_stresses 298 = .ok (.iload_n 1, 1) := by decide +kernel
theorem dX11_stresses_299 : decode cX11_stresses 299 = .ok (.iaload, 1) := by decide +kernel
theorem dX11_stresses_300 : decode cX11_stresses 300 = .ok (.i2l, 1) := by decide +kernel
theorem dX11_stresses_301 : decode cX11_stresses 301 = .ok (.lastore, 1) := by decide +kernel
theorem dX11_stresses_302 : decode cX11_stresses 302 = .ok (.aload_n 0, 1) := by decide +kernel
theorem dX11_stresses_303 : decode cX11_stresses 303 = .ok (.getfield 41, 3) := by decide +kernel
theorem dX11_stresses_306 : decode cX11_stresses 306 = .ok (.bipush 16, 2) := by decide +kernel
theorem dX11_stresses_308 : decode cX11_stresses 308 = .ok (.iload_n 2, 1) := by decide +kernel
theorem dX11_stresses_309 : decode cX11_stresses 309 = .ok (.iconst 1, 1) := by decide +kernel
theorem dX11_stresses_310 : decode cX11_stresses 310 = .ok (.iadd, 1) := by decide +kernel
theorem dX11_stresses_311 : decode cX11_stresses 311 = .ok (.imul, 1) := by decide +kernel
theorem dX11_stresses_312 : decode cX11_stresses 312 = .ok (.aload_n 0, 1) := by decide +kernel
theorem dX11_stresses_313 : decode cX11_stresses 313 = .ok (.getfield 105, 3) := by decide +kernel
theorem dX11_stresses_316 : decode cX11_stresses 316 = .ok (.iadd, 1) := by decide +kernel
theorem dX11_stresses_317 : decode cX11_stresses 317 = .ok (.aload_n 0, 1) := by decide +kernel
theorem dX11_stresses_318 : decode cX11_stresses 318 = .ok (.getfield 19, 3) := by decide +kernel
theorem dX11_stresses_321 : decode cX11_stresses 321 = .ok (.iload_n 1, 1) := by decide +kernel
theorem dX11_stresses_322 : decode cX11_stresses 322 = .ok (.iaload, 1) := by decide +kernel
theorem dX11_stresses_323 : decode cX11_stresses 323 = .ok (.i2l, 1) := by decide +kernel
theorem dX11_stresses_324 : decode cX11_stresses 324 = .ok (.lastore, 1) := by decide +kernel
theorem dX11_stresses_325 : decode cX11_stresses 325 = .ok (.iinc 1 1, 3) := by decide +kernel
theorem dX11_stresses_328 : decode cX11_stresses 328 = .ok (.goto (-69), 3) := by decide +kernel
theorem dX11_stresses_331 : decode cX11_stresses 331 = .ok (.aload_n 0, 1) := by decide +kernel
theorem dX11_stresses_332 : decode cX11_stresses 332 = .ok (.getfield 105, 3) := by decide +kernel
theorem dX11_stresses_335 : decode cX11_stresses 335 = .ok (.aload_n 0, 1) := by decide +kernel
theorem dX11_stresses_336 : decode cX11_stresses 336 = .ok (.aload_n 0, 1) := by decide +kernel
theorem dX11_stresses_337 : decode cX11_stresses 337 = .ok (.getfield 105, 3) := by decide +kernel
theorem dX11_stresses_340 : decode cX11_stresses 340 = .ok (.iconst 1, 1) := by decide +kernel
theorem dX11_stresses_341 : decode cX11_stresses 341 = .ok (.iadd, 1) := by decide +kernel
theorem dX11_stresses_342 : decode cX11_stresses 342 = .ok (.invokevirtual 119, 3) := by decide +kernel
theorem dX11_stresses_345 : decode cX11_stresses 345 = .ok (.isub, 1) := by decide +kernel
theorem dX11_stresses_346 : decode cX11_stresses 346 = .ok (.ireturn, 1) := by decide +kernel
theorem dX11_columnOf_0 : decode cX11_columnOf 0 = .ok (.iconst 0, 1) := by decide +kernel
theorem dX11_columnOf_1 : decode cX11_columnOf 1 = .ok (.istore_n 2, 1) := by decide +kernel
theorem dX11_columnOf_2 : decode cX11_columnOf 2 = .ok (.iload_n 2, 1) := by decide +kernel
theorem dX11_columnOf_3 : decode cX11_columnOf 3 = .ok (.aload_n 0, 1) := by decide +kernel
theorem dX11_columnOf_4 : decode cX11_columnOf 4 = .ok (.getfield 105, 3) := by decide +kernel
theorem dX11_columnOf_7 : decode cX11_columnOf 7 = .ok (.if_icmp .ge 21, 3) := by decide +kernel
theorem dX11_columnOf_10 : decode cX11_columnOf 10 = .ok (.aload_n 0, 1) := by decide +kernel
theorem dX11_columnOf_11 : decode cX11_columnOf 11 = .ok (.getfield 51, 3) := by decide +kernel
theorem dX11_columnOf_14 : decode cX11_columnOf 14 = .ok (.iload_n 2, 1) := by decide +kernel
theorem dX11_columnOf_15 : decode cX11_columnOf 15 = .ok (.iaload, 1) := by decide +kernel
theorem dX11_columnOf_16 : decode cX11_columnOf 16 = .ok (.iload_n 1, 1) := by decide +kernel
theorem dX11_columnOf_17 : decode cX11_columnOf 17 = .ok (.if_icmp .ne 5, 3) := by decide +kernel
theorem dX11_columnOf_20 : decode cX11_columnOf 20 = .ok (.iload_n 2, 1) := by decide +kernel
theorem dX11_columnOf_21 : decode cX11_columnOf 21 = .ok (.ireturn, 1) := by decide +kernel
theorem dX11_columnOf_22 : decode cX11_columnOf 22 = .ok (.iinc 2 1, 3) := by decide +kernel
theorem dX11_columnOf_25 : decode cX11_columnOf 25 = .ok (.goto (-23), 3) := by decide +kernel
theorem dX11_columnOf_28 : decode cX11_columnOf 28 = .ok (.iconst (-1), 1) := by decide +kernel
theorem dX11_columnOf_29 : decode cX11_columnOf 29 = .ok (.ireturn, 1) := by decide +kernel
theorem dX11_carries_0 : decode cX11_carries 0 = .ok (.aload_n 0, 1) := by decide +kernel
theorem dX11_carries_1 : decode cX11_carries 1 = .ok (.getfield 105, 3) := by decide +kernel
theorem dX11_carries_4 : decode cX11_carries 4 = .ok (.istore_n 1, 1) := by decide +kernel
theorem dX11_carries_5 : decode cX11_carries 5 = .ok (.iconst 0, 1) := by decide +kernel
theorem dX11_carries_6 : decode cX11_carries 6 = .ok (.istore_n 2, 1) := by decide +kernel
theorem dX11_carries_7 : decode cX11_carries 7 = .ok (.iload_n 2, 1) := by decide +kernel
theorem dX11_carries_8 : decode cX11_carries 8 = .ok (.aload_n 0, 1) := by decide +kernel
theorem dX11_carries_9 : decode cX11_carries 9 = .ok (.getfield 105, 3) := by decide +kernel
theorem dX11_carries_12 : decode cX11_carries 12 = .ok (.if_icmp .ge 22, 3) := by decide +kernel
theorem dX11_carries_15 : decode cX11_carries 15 = .ok (.aload_n 0, 1) := by decide +kernel
theorem dX11_carries_16 : decode cX11_carries 16 = .ok (.getfield 45, 3) := by decide +kernel
theorem dX11_carries_19 : decode cX11_carries 19 = .ok (.iload_n 2, 1) := by decide +kernel
theorem dX11_carries_20 : decode cX11_carries 20 = .ok (.iaload, 1) := by decide +kernel
theorem dX11_carries_21 : decode cX11_carries 21 = .ok (.iconst (-1), 1) := by decide +kernel
theorem dX11_carries_22 : decode cX11_carries 22 = .ok (.if_icmp .ne 6, 3) := by decide +kernel
theorem dX11_carries_25 : decode cX11_carries 25 = .ok (.iinc 1 (-1), 3) := by decide +kernel
theorem dX11_carries_28 : decode cX11_carries 28 = .ok (.iinc 2 1, 3) := by decide +kernel
theorem dX11_carries_31 : decode cX11_carries 31 = .ok (.goto (-24), 3) := by decide +kernel
theorem dX11_carries_34 : decode cX11_carries 34 = .ok (.iload_n 1, 1) := by decide +kernel
theorem dX11_carries_35 : decode cX11_carries 35 = .ok (.istore_n 2, 1) := by decide +kernel
theorem dX11_carries_36 : decode cX11_carries 36 = .ok (.iload_n 2, 1) := by decide +kernel
theorem dX11_carries_37 : decode cX11_carries 37 = .ok (.aload_n 0, 1) := by decide +kernel
theorem dX11_carries_38 : decode cX11_carries 38 = .ok (.getfield 98, 3) := by decide +kernel
theorem dX11_carries_41 : decode cX11_carries 41 = .ok (.if_icmp .ge 30, 3) := by decide +kernel
theorem dX11_carries_44 : decode cX11_carries 44 = .ok (.aload_n 0, 1) := by decide +kernel
theorem dX11_carries_45 : decode cX11_carries 45 = .ok (.getfield 41, 3) := by decide +kernel
theorem dX11_carries_48 : decode cX11_carries 48 = .ok (.bipush 16, 2) := by decide +kernel
theorem dX11_carries_50 : decode cX11_carries 50 = .ok (.iload_n 2, 1) := by decide +kernel
theorem dX11_carries_51 : decode cX11_carries 51 = .ok (.imul, 1) := by decide +kernel
theorem dX11_carries_52 : decode cX11_carries 52 = .ok (.aload_n 0, 1) := by decide +kernel
theorem dX11_carries_53 : decode cX11_carries 53 = .ok (.getfield 105, 3) := by decide +kernel
theorem dX11_carries_56 : decode cX11_carries 56 = .ok (.iadd, 1) := by decide +kernel
theorem dX11_carries_57 : decode cX11_carries 57 = .ok (.laload, 1) := by decide +kernel
theorem dX11_carries_58 : decode cX11_carries 58 = .ok (.lconst 0, 1) := by decide +kernel
theorem dX11_carries_59 : decode cX11_carries 59 = .ok (.lcmp, 1) := by decide +kernel
theorem dX11_carries_60 : decode cX11_carries 60 = .ok (.ifCond .eq 5, 3) := by decide +kernel
theorem dX11_carries_63 : decode cX11_carries 63 = .ok (.iconst 0, 1) := by decide +kernel
theorem dX11_carries_64 : decode cX11_carries 64 = .ok (.ireturn, 1) := by decide +kernel
theorem dX11_carries_65 : decode cX11_carries 65 = .ok (.iinc 2 1, 3) := by decide +kernel
theorem dX11_carries_68 : decode cX11_carries 68 = .ok (.goto (-32), 3) := by decide +kernel
theorem dX11_carries_71 : decode cX11_carries 71 = .ok (.iconst 1, 1) := by decide +kernel
theorem dX11_carries_72 : decode cX11_carries 72 = .ok (.ireturn, 1) := by decide +kernel
theorem dX11_isNeeded_0 : decode cX11_isNeeded 0 = .ok (.aload_n 0, 1) := by decide +kernel
theorem dX11_isNeeded_1 : decode cX11_isNeeded 1 = .ok (.getfield 38, 3) := by decide +kernel
theorem dX11_isNeeded_4 : decode cX11_isNeeded 4 = .ok (.iload_n 1, 1) := by decide +kernel
theorem dX11_isNeeded_5 : decode cX11_isNeeded 5 = .ok (.baload, 1) := by decide +kernel
theorem dX11_isNeeded_6 : decode cX11_isNeeded 6 = .ok (.ifCond .ne 5, 3) := by decide +kernel
theorem dX11_isNeeded_9 : decode cX11_isNeeded 9 = .ok (.iconst 0, 1) := by decide +kernel
theorem dX11_isNeeded_10 : decode cX11_isNeeded 10 = .ok (.ireturn, 1) := by decide +kernel
theorem dX11_isNeeded_11 : decode cX11_isNeeded 11 = .ok (.aload_n 0, 1) := by decide +kernel
theorem dX11_isNeeded_12 : decode cX11_isNeeded 12 = .ok (.invokevirtual 129, 3) := by decide +kernel
theorem dX11_isNeeded_15 : decode cX11_isNeeded 15 = .ok (.istore_n 2, 1) := by decide +kernel
theorem dX11_isNeeded_16 : decode cX11_isNeeded 16 = .ok (.aload_n 0, 1) := by decide +kernel
theorem dX11_isNeeded_17 : decode cX11_isNeeded 17 = .ok (.iload_n 1, 1) := by decide +kernel
theorem dX11_isNeeded_18 : decode cX11_isNeeded 18 = .ok (.invokevirtual 132, 3) := by decide +kernel
theorem dX11_isNeeded_21 : decode cX11_isNeeded 21 = .ok (.istore_n 3, 1) := by decide +kernel
theorem dX11_isNeeded_22 : decode cX11_isNeeded 22 = .ok (.iconst 0, 1) := by decide +kernel
theorem dX11_isNeeded_23 : decode cX11_isNeeded 23 = .ok (.istore 4, 2) := by decide +kernel
theorem dX11_isNeeded_25 : decode cX11_isNeeded 25 = .ok (.iload 4, 2) := by decide +kernel
theorem dX11_isNeeded_27 : decode cX11_isNeeded 27 = .ok (.iload_n 2, 1) := by decide +kernel
theorem dX11_isNeeded_28 : decode cX11_isNeeded 28 = .ok (.if_icmp .ge 32, 3) := by decide +kernel
theorem dX11_isNeeded_31 : decode cX11_isNeeded 31 = .ok (.aload_n 0, 1) := by decide +kernel
theorem dX11_isNeeded_32 : decode cX11_isNeeded 32 = .ok (.aload_n 0, 1) := by decide +kernel
theorem dX11_isNeeded_33 : decode cX11_isNeeded 33 = .ok (.iload 4, 2) := by decide +kernel
theorem dX11_isNeeded_35 : decode cX11_isNeeded 35 = .ok (.invokevirtual 135, 3) := by decide +kernel
theorem dX11_isNeeded_38 : decode cX11_isNeeded 38 = .ok (.invokevirtual 138, 3) := by decide +kernel
theorem dX11_isNeeded_41 : decode cX11_isNeeded 41 = .ok (.aload_n 0, 1) := by decide +kernel
theorem dX11_isNeeded_42 : decode cX11_isNeeded 42 = .ok (.getfield 48, 3) := by decide +kernel
theorem dX11_isNeeded_45 : decode cX11_isNeeded 45 = .ok (.iload_n 3, 1) := by decide +kernel
theorem dX11_isNeeded_46 : decode cX11_isNeeded 46 = .ok (.laload, 1) := by decide +kernel
theorem dX11_isNeeded_47 : decode cX11_isNeeded 47 = .ok (.lconst 0, 1) := by decide +kernel
theorem dX11_isNeeded_48 : decode cX11_isNeeded 48 = .ok (.lcmp, 1) := by decide +kernel
theorem dX11_isNeeded_49 : decode cX11_isNeeded 49 = .ok (.ifCond .eq 5, 3) := by decide +kernel
theorem dX11_isNeeded_52 : decode cX11_isNeeded 52 = .ok (.iconst 0, 1) := by decide +kernel
theorem dX11_isNeeded_53 : decode cX11_isNeeded 53 = .ok (.ireturn, 1) := by decide +kernel
theorem dX11_isNeeded_54 : decode cX11_isNeeded 54 = .ok (.iinc 4 1, 3) := by decide +kernel
theorem dX11_isNeeded_57 : decode cX11_isNeeded 57 = .ok (.goto (-32), 3) := by decide +kernel
theorem dX11_isNeeded_60 : decode cX11_isNeeded 60 = .ok (.iconst 1, 1) := by decide +kernel
theorem dX11_isNeeded_61 : decode cX11_isNeeded 61 = .ok (.ireturn, 1) := by decide +kernel
theorem dX11_size_0 : decode cX11_size 0 = .ok (.iconst 0, 1) := by decide +kernel
theorem dX11_size_1 : decode cX11_size 1 = .ok (.istore_n 1, 1) := by decide +kernel
theorem dX11_size_2 : decode cX11_size 2 = .ok (.iload_n 0, 1) := by decide +kernel
theorem dX11_size_3 : decode cX11_size 3 = .ok (.istore_n 2, 1) := by decide +kernel
theorem dX11_size_4 : decode cX11_size 4 = .ok (.iload_n 2, 1) := by decide +kernel
theorem dX11_size_5 : decode cX11_size 5 = .ok (.ifCond .eq 15, 3) := by decide +kernel
theorem dX11_size_8 : decode cX11_size 8 = .ok (.iinc 1 1, 3) := by decide +kernel
theorem dX11_size_11 : decode cX11_size 11 = .ok (.iload_n 2, 1) := by decide +kernel
theorem dX11_size_12 : decode cX11_size 12 = .ok (.iload_n 2, 1) := by decide +kernel
theorem dX11_size_13 : decode cX11_size 13 = .ok (.iconst 1, 1) := by decide +kernel
theorem dX11_size_14 : decode cX11_size 14 = .ok (.isub, 1) := by decide +kernel
theorem dX11_size_15 : decode cX11_size 15 = .ok (.iand, 1) := by decide +kernel
theorem dX11_size_16 : decode cX11_size 16 = .ok (.istore_n 2, 1) := by decide +kernel
theorem dX11_size_17 : decode cX11_size 17 = .ok (.goto (-13), 3) := by decide +kernel
theorem dX11_size_20 : decode cX11_size 20 = .ok (.iload_n 1, 1) := by decide +kernel
theorem dX11_size_21 : decode cX11_size 21 = .ok (.ireturn, 1) := by decide +kernel
theorem dX11_isBetween_0 : decode cX11_isBetween 0 = .ok (.iload_n 2, 1) := by decide +kernel
theorem dX11_isBetween_1 : decode cX11_isBetween 1 = .ok (.aload_n 0, 1) := by decide +kernel
theorem dX11_isBetween_2 : decode cX11_isBetween 2 = .ok (.getfield 29, 3) := by decide +kernel
theorem dX11_isBetween_5 : decode cX11_isBetween 5 = .ok (.iload_n 1, 1) := by decide +kernel
theorem dX11_isBetween_6 : decode cX11_isBetween 6 = .ok (.iaload, 1) := by decide +kernel
theorem dX11_isBetween_7 : decode cX11_isBetween 7 = .ok (.ishr, 1) := by decide +kernel
theorem dX11_isBetween_8 : decode cX11_isBetween 8 = .ok (.iconst 1, 1) := by decide +kernel
theorem dX11_isBetween_9 : decode cX11_isBetween 9 = .ok (.iand, 1) := by decide +kernel
theorem dX11_isBetween_10 : decode cX11_isBetween 10 = .ok (.ifCond .eq 20, 3) := by decide +kernel
theorem dX11_isBetween_13 : decode cX11_isBetween 13 = .ok (.iload_n 2, 1) := by decide +kernel
theorem dX11_isBetween_14 : decode cX11_isBetween 14 = .ok (.aload_n 0, 1) := by decide +kernel
theorem dX11_isBetween_15 : decode cX11_isBetween 15 = .ok (.getfield 32, 3) := by decide +kernel
theorem dX11_isBetween_18 : decode cX11_isBetween 18 = .ok (.iload_n 1, 1) := by decide +kernel
theorem dX11_isBetween_19 : decode cX11_isBetween 19 = .ok (.iaload, 1) := by decide +kernel
theorem dX11_isBetween_20 : decode cX11_isBetween 20 = .ok (.ishr, 1) := by decide +kernel
theorem dX11_isBetween_21 : decode cX11_isBetween 21 = .ok (.iconst 1, 1) := by decide +kernel
theorem dX11_isBetween_22 : decode cX11_isBetween 22 = .ok (.iand, 1) := by decide +kernel
theorem dX11_isBetween_23 : decode cX11_isBetween 23 = .ok (.ifCond .eq 7, 3) := by decide +kernel
theorem dX11_isBetween_26 : decode cX11_isBetween 26 = .ok (.iconst 1, 1) := by decide +kernel
theorem dX11_isBetween_27 : decode cX11_isBetween 27 = .ok (.goto 4, 3) := by decide +kernel
theorem dX11_isBetween_30 : decode cX11_isBetween 30 = .ok (.iconst 0, 1) := by decide +kernel
theorem dX11_isBetween_31 : decode cX11_isBetween 31 = .ok (.ireturn, 1) := by decide +kernel
theorem dX11_even_0 : decode cX11_even 0 = .ok (.iconst 0, 1) := by decide +kernel
theorem dX11_even_1 : decode cX11_even 1 = .ok (.istore_n 2, 1) := by decide +kernel
theorem dX11_even_2 : decode cX11_even 2 = .ok (.iconst 0, 1) := by decide +kernel
theorem dX11_even_3 : decode cX11_even 3 = .ok (.istore_n 3, 1) := by decide +kernel
theorem dX11_even_4 : decode cX11_even 4 = .ok (.iload_n 3, 1) := by decide +kernel
theorem dX11_even_5 : decode cX11_even 5 = .ok (.aload_n 0, 1) := by decide +kernel
theorem dX11_even_6 : decode cX11_even 6 = .ok (.getfield 91, 3) := by decide +kernel
theorem dX11_even_9 : decode cX11_even 9 = .ok (.if_icmp .ge 65, 3) := by decide +kernel
theorem dX11_even_12 : decode cX11_even 12 = .ok (.aload_n 0, 1) := by decide +kernel
theorem dX11_even_13 : decode cX11_even 13 = .ok (.getfield 60, 3) := by decide +kernel
theorem dX11_even_16 : decode cX11_even 16 = .ok (.iload_n 3, 1) := by decide +kernel
theorem dX11_even_17 : decode cX11_even 17 = .ok (.iconst 0, 1) := by decide +kernel
theorem dX11_even_18 : decode cX11_even 18 = .ok (.bastore, 1) := by decide +kernel
theorem dX11_even_19 : decode cX11_even 19 = .ok (.aload_n 0, 1) := by decide +kernel
theorem dX11_even_20 : decode cX11_even 20 = .ok (.getfield 38, 3) := by decide +kernel
theorem dX11_even_23 : decode cX11_even 23 = .ok (.iload_n 3, 1) := by decide +kernel
theorem dX11_even_24 : decode cX11_even 24 = .ok (.baload, 1) := by decide +kernel
theorem dX11_even_25 : decode cX11_even 25 = .ok (.ifCond .eq 43, 3) := by decide +kernel
theorem dX11_even_28 : decode cX11_even 28 = .ok (.aload_n 0, 1) := by decide +kernel
theorem dX11_even_29 : decode cX11_even 29 = .ok (.iload_n 3, 1) := by decide +kernel
theorem dX11_even_30 : decode cX11_even 30 = .ok (.iload_n 1, 1) := by decide +kernel
theorem dX11_even_31 : decode cX11_even 31 = .ok (.invokevirtual 142, 3) := by decide +kernel
theorem dX11_even_34 : decode cX11_even 34 = .ok (.ifCond .ne 6, 3) := by decide +kernel
theorem dX11_even_37 : decode cX11_even 37 = .ok (.goto 31, 3) := by decide +kernel
theorem dX11_even_40 : decode cX11_even 40 = .ok (.aload_n 0, 1) := by decide +kernel
theorem dX11_even_41 : decode cX11_even 41 = .ok (.getfield 60, 3) := by decide +kernel
theorem dX11_even_44 : decode cX11_even 44 = .ok (.iload_n 3, 1) := by decide +kernel
theorem dX11_even_45 : decode cX11_even 45 = .ok (.iconst 1, 1) := by decide +kernel
theorem dX11_even_46 : decode cX11_even 46 = .ok (.bastore, 1) := by decide +kernel
theorem dX11_even_47 : decode cX11_even 47 = .ok (.aload_n 0, 1) := by decide +kernel
theorem dX11_even_48 : decode cX11_even 48 = .ok (.iload_n 3, 1) := by decide +kernel
theorem dX11_even_49 : decode cX11_even 49 = .ok (.invokevirtual 146, 3) := by decide +kernel
theorem dX11_even_52 : decode cX11_even 52 = .ok (.ifCond .eq 9, 3) := by decide +kernel
theorem dX11_even_55 : decode cX11_even 55 = .ok (.iinc 2 1, 3) := by decide +kernel
theorem dX11_even_58 : decode cX11_even 58 = .ok (.goto 10, 3) := by decide +kernel
theorem dX11_even_61 : decode cX11_even 61 = .ok (.aload_n 0, 1) := by decide +kernel
theorem dX11_even_62 : decode cX11_even 62 = .ok (.getfield 60, 3) := by decide +kernel
theorem dX11_even_65 : decode cX11_even 65 = .ok (.iload_n 3, 1) := by decide +kernel
theorem dX11_even_66 : decode cX11_even 66 = .ok (.iconst 0, 1) := by decide +kernel
theorem dX11_even_67 : decode cX11_even 67 = .ok (.bastore, 1) := by decide +kernel
theorem dX11_even_68 : decode cX11_even 68 = .ok (.iinc 3 1, 3) := by decide +kernel
theorem dX11_even_71 : decode cX11_even 71 = .ok (.goto (-67), 3) := by decide +kernel
theorem dX11_even_74 : decode cX11_even 74 = .ok (.iload_n 2, 1) := by decide +kernel
theorem dX11_even_75 : decode cX11_even 75 = .ok (.ireturn, 1) := by decide +kernel
theorem dX11_isEven_0 : decode cX11_isEven 0 = .ok (.iconst 0, 1) := by decide +kernel
theorem dX11_isEven_1 : decode cX11_isEven 1 = .ok (.istore_n 2, 1) := by decide +kernel
theorem dX11_isEven_2 : decode cX11_isEven 2 = .ok (.iload_n 2, 1) := by decide +kernel
theorem dX11_isEven_3 : decode cX11_isEven 3 = .ok (.iconst 1, 1) := by decide +kernel
theorem dX11_isEven_4 : decode cX11_isEven 4 = .ok (.aload_n 0, 1) := by decide +kernel
theorem dX11_isEven_5 : decode cX11_isEven 5 = .ok (.getfield 87, 3) := by decide +kernel
theorem dX11_isEven_8 : decode cX11_isEven 8 = .ok (.ishl, 1) := by decide +kernel
theorem dX11_isEven_9 : decode cX11_isEven 9 = .ok (.if_icmp .ge 75, 3) := by decide +kernel
theorem dX11_isEven_12 : decode cX11_isEven 12 = .ok (.iload_n 2, 1) := by decide +kernel
theorem dX11_isEven_13 : decode cX11_isEven 13 = .ok (.invokestatic 150, 3) := by decide +kernel
theorem dX11_isEven_16 : decode cX11_isEven 16 = .ok (.istore_n 3, 1) := by decide +kernel
theorem dX11_isEven_17 : decode cX11_isEven 17 = .ok (.iload_n 3, 1) := by decide +kernel
theorem dX11_isEven_18 : decode cX11_isEven 18 = .ok (.iconst 2, 1) := by decide +kernel
theorem dX11_isEven_19 : decode cX11_isEven 19 = .ok (.if_icmp .ge 6, 3) := by decide +kernel
theorem dX11_isEven_22 : decode cX11_isEven 22 = .ok (.goto 56, 3) := by decide +kernel
theorem dX11_isEven_25 : decode cX11_isEven 25 = .ok (.iconst 0, 1) := by decide +kernel
theorem dX11_isEven_26 : decode cX11_isEven 26 = .ok (.istore 4, 2) := by decide +kernel
theorem dX11_isEven_28 : decode cX11_isEven 28 = .ok (.iconst 0, 1) := by decide +kernel
theorem dX11_isEven_29 : decode cX11_isEven 29 = .ok (.istore 5, 2) := by decide +kernel
theorem dX11_isEven_31 : decode cX11_isEven 31 = .ok (.iload 5, 2) := by decide +kernel
theorem dX11_isEven_33 : decode cX11_isEven 33 = .ok (.iload_n 1, 1) := by decide +kernel
theorem dX11_isEven_34 : decode cX11_isEven 34 = .ok (.if_icmp .gt 32, 3) := by decide +kernel
theorem dX11_isEven_37 : decode cX11_isEven 37 = .ok (.aload_n 0, 1) := by decide +kernel
theorem dX11_isEven_38 : decode cX11_isEven 38 = .ok (.getfield 60, 3) := by decide +kernel
theorem dX11_isEven_41 : decode cX11_isEven 41 = .ok (.iload 5, 2) := by decide +kernel
theorem dX11_isEven_43 : decode cX11_isEven 43 = .ok (.baload, 1) := by decide +kernel
theorem dX11_isEven_44 : decode cX11_isEven 44 = .ok (.ifCond .eq 16, 3) := by decide +kernel
theorem dX11_isEven_47 : decode cX11_isEven 47 = .ok (.aload_n 0, 1) := by decide +kernel
theorem dX11_isEven_48 : decode cX11_isEven 48 = .ok (.iload 5, 2) := by decide +kernel
theorem dX11_isEven_50 : decode cX11_isEven 50 = .ok (.iload_n 2, 1) := by decide +kernel
theorem dX11_isEven_51 : decode cX11_isEven 51 = .ok (.invokevirtual 142, 3) := by decide +kernel
theorem dX11_isEven_54 : decode cX11_isEven 54 = .ok (.ifCond .eq 6, 3) := by decide +kernel
theorem dX11_isEven_57 : decode cX11_isEven 57 = .ok (.iinc 4 1, 3) := by decide +kernel
theorem dX11_isEven_60 : decode cX11_isEven 60 = .ok (.iinc 5 1, 3) := by decide +kernel
theorem dX11_isEven_63 : decode cX11_isEven 63 = .ok (.goto (-32), 3) := by decide +kernel
theorem dX11_isEven_66 : decode cX11_isEven 66 = .ok (.iload 4, 2) := by decide +kernel
theorem dX11_isEven_68 : decode cX11_isEven 68 = .ok (.iconst 2, 1) := by decide +kernel
theorem dX11_isEven_69 : decode cX11_isEven 69 = .ok (.iload_n 3, 1) := by decide +kernel
theorem dX11_isEven_70 : decode cX11_isEven 70 = .ok (.imul, 1) := by decide +kernel
theorem dX11_isEven_71 : decode cX11_isEven 71 = .ok (.iconst 3, 1) := by decide +kernel
theorem dX11_isEven_72 : decode cX11_isEven 72 = .ok (.isub, 1) := by decide +kernel
theorem dX11_isEven_73 : decode cX11_isEven 73 = .ok (.if_icmp .le 5, 3) := by decide +kernel
theorem dX11_isEven_76 : decode cX11_isEven 76 = .ok (.iconst 0, 1) := by decide +kernel
theorem dX11_isEven_77 : decode cX11_isEven 77 = .ok (.ireturn, 1) := by decide +kernel
theorem dX11_isEven_78 : decode cX11_isEven 78 = .ok (.iinc 2 1, 3) := by decide +kernel
theorem dX11_isEven_81 : decode cX11_isEven 81 = .ok (.goto (-79), 3) := by decide +kernel
theorem dX11_isEven_84 : decode cX11_isEven 84 = .ok (.iconst 1, 1) := by decide +kernel
theorem dX11_isEven_85 : decode cX11_isEven 85 = .ok (.ireturn, 1) := by decide +kernel
theorem dX11_isAhead_0 : decode cX11_isAhead 0 = .ok (.iload_n 1, 1) := by decide +kernel
theorem dX11_isAhead_1 : decode cX11_isAhead 1 = .ok (.istore_n 3, 1) := by decide +kernel
theorem dX11_isAhead_2 : decode cX11_isAhead 2 = .ok (.iload_n 2, 1) := by decide +kernel
theorem dX11_isAhead_3 : decode cX11_isAhead 3 = .ok (.istore 4, 2) := by decide +kernel
theorem dX11_isAhead_5 : decode cX11_isAhead 5 = .ok (.iload_n 3, 1) := by decide +kernel
theorem dX11_isAhead_6 : decode cX11_isAhead 6 = .ok (.ifCond .eq 60, 3) := by decide +kernel
theorem dX11_isAhead_9 : decode cX11_isAhead 9 = .ok (.iload 4, 2) := by decide +kernel
theorem dX11_isAhead_11 : decode cX11_isAhead 11 = .ok (.ifCond .eq 55, 3) := by decide +kernel
theorem dX11_isAhead_14 : decode cX11_isAhead 14 = .ok (.iload_n 3, 1) := by decide +kernel
theorem dX11_isAhead_15 : decode cX11_isAhead 15 = .ok (.iload_n 3, 1) := by decide +kernel
theorem dX11_isAhead_16 : decode cX11_isAhead 16 = .ok (.ineg, 1) := by decide +kernel
theorem dX11_isAhead_17 : decode cX11_isAhead 17 = .ok (.iand, 1) := by decide +kernel
theorem dX11_isAhead_18 : decode cX11_isAhead 18 = .ok (.istore 5, 2) := by decide +kernel
theorem dX11_isAhead_20 : decode cX11_isAhead 20 = .ok (.iload 4, 2) := by decide +kernel
theorem dX11_isAhead_22 : decode cX11_isAhead 22 = .ok (.iload 4, 2) := by decide +kernel
theorem dX11_isAhead_24 : decode cX11_isAhead 24 = .ok (.ineg, 1) := by decide +kernel
theorem dX11_isAhead_25 : decode cX11_isAhead 25 = .ok (.iand, 1) := by decide +kernel
theorem dX11_isAhead_26 : decode cX11_isAhead 26 = .ok (.istore 6, 2) := by decide +kernel
theorem dX11_isAhead_28 : decode cX11_isAhead 28 = .ok (.iload 5, 2) := by decide +kernel
theorem dX11_isAhead_30 : decode cX11_isAhead 30 = .ok (.iload 6, 2) := by decide +kernel
theorem dX11_isAhead_32 : decode cX11_isAhead 32 = .ok (.if_icmp .eq 16, 3) := by decide +kernel
theorem dX11_isAhead_35 : decode cX11_isAhead 35 = .ok (.iload 5, 2) := by decide +kernel
theorem dX11_isAhead_37 : decode cX11_isAhead 37 = .ok (.iload 6, 2) := by decide +kernel
theorem dX11_isAhead_39 : decode cX11_isAhead 39 = .ok (.if_icmp .ge 7, 3) := by decide +kernel
theorem dX11_isAhead_42 : decode cX11_isAhead 42 = .ok (.iconst 1, 1) := by decide +kernel
theorem dX11_isAhead_43 : decode cX11_isAhead 43 = .ok (.goto 4, 3) := by decide +kernel
theorem dX11_isAhead_46 : decode cX11_isAhead 46 = .ok (.iconst 0, 1) := by decide +kernel
theorem dX11_isAhead_47 : decode cX11_isAhead 47 = .ok (.ireturn, 1) := by decide +kernel
theorem dX11_isAhead_48 : decode cX11_isAhead 48 = .ok (.iload_n 3, 1) := by decide +kernel
theorem dX11_isAhead_49 : decode cX11_isAhead 49 = .ok (.iload_n 3, 1) := by decide +kernel
theorem dX11_isAhead_50 : decode cX11_isAhead 50 = .ok (.iconst 1, 1) := by decide +kernel
theorem dX11_isAhead_51 : decode cX11_isAhead 51 = .ok (.isub, 1) := by decide +kernel
theorem dX11_isAhead_52 : decode cX11_isAhead 52 = .ok (.iand, 1) := by decide +kernel
theorem dX11_isAhead_53 : decode cX11_isAhead 53 = .ok (.istore_n 3, 1) := by decide +kernel
theorem dX11_isAhead_54 : decode cX11_isAhead 54 = .ok (.iload 4, 2) := by decide +kernel
theorem dX11_isAhead_56 : decode cX11_isAhead 56 = .ok (.iload 4, 2) := by decide +kernel
theorem dX11_isAhead_58 : decode cX11_isAhead 58 = .ok (.iconst 1, 1) := by decide +kernel
theorem dX11_isAhead_59 : decode cX11_isAhead 59 = .ok (.isub, 1) := by decide +kernel
theorem dX11_isAhead_60 : decode cX11_isAhead 60 = .ok (.iand, 1) := by decide +kernel
theorem dX11_isAhead_61 : decode cX11_isAhead 61 = .ok (.istore 4, 2) := by decide +kernel
theorem dX11_isAhead_63 : decode cX11_isAhead 63 = .ok (.goto (-58), 3) := by decide +kernel
theorem dX11_isAhead_66 : decode cX11_isAhead 66 = .ok (.iload_n 3, 1) := by decide +kernel
theorem dX11_isAhead_67 : decode cX11_isAhead 67 = .ok (.ifCond .ne 12, 3) := by decide +kernel
theorem dX11_isAhead_70 : decode cX11_isAhead 70 = .ok (.iload 4, 2) := by decide +kernel
theorem dX11_isAhead_72 : decode cX11_isAhead 72 = .ok (.ifCond .eq 7, 3) := by decide +kernel
theorem dX11_isAhead_75 : decode cX11_isAhead 75 = .ok (.iconst 1, 1) := by decide +kernel
theorem dX11_isAhead_76 : decode cX11_isAhead 76 = .ok (.goto 4, 3) := by decide +kernel
theorem dX11_isAhead_79 : decode cX11_isAhead 79 = .ok (.iconst 0, 1) := by decide +kernel
theorem dX11_isAhead_80 : decode cX11_isAhead 80 = .ok (.ireturn, 1) := by decide +kernel
theorem dX11_findBodies_0 : decode cX11_findBodies 0 = .ok (.aload_n 0, 1) := by decide +kernel
theorem dX11_findBodies_1 : decode cX11_findBodies 1 = .ok (.iconst 0, 1) := by decide +kernel
theorem dX11_findBodies_2 : decode cX11_findBodies 2 = .ok (.putfield 153, 3) := by decide +kernel
theorem dX11_findBodies_5 : decode cX11_findBodies 5 = .ok (.iconst 0, 1) := by decide +kernel
theorem dX11_findBodies_6 : decode cX11_findBodies 6 = .ok (.istore_n 1, 1) := by decide +kernel
theorem dX11_findBodies_7 : decode cX11_findBodies 7 = .ok (.iload_n 1, 1) := by decide +kernel
theorem dX11_findBodies_8 : decode cX11_findBodies 8 = .ok (.iconst 1, 1) := by decide +kernel
theorem dX11_findBodies_9 : decode cX11_findBodies 9 = .ok (.aload_n 0, 1) := by decide +kernel
theorem dX11_findBodies_10 : decode cX11_findBodies 10 = .ok (.getfield 87, 3) := by decide +kernel
theorem dX11_findBodies_13 : decode cX11_findBodies 13 = .ok (.ishl, 1) := by decide +kernel
theorem dX11_findBodies_14 : decode cX11_findBodies 14 = .ok (.if_icmp .ge 94, 3) := by decide +kernel
theorem dX11_findBodies_17 : decode cX11_findBodies 17 = .ok (.iload_n 1, 1) := by decide +kernel
theorem dX11_findBodies_18 : decode cX11_findBodies 18 = .ok (.invokestatic 150, 3) := by decide +kernel
theorem dX11_findBodies_21 : decode cX11_findBodies 21 = .ok (.istore_n 2, 1) := by decide +kernel
theorem dX11_findBodies_22 : decode cX11_findBodies 22 = .ok (.iload_n 2, 1) := by decide +kernel
theorem dX11_findBodies_23 : decode cX11_findBodies 23 = .ok (.iconst 2, 1) := by decide +kernel
theorem dX11_findBodies_24 : decode cX11_findBodies 24 = .ok (.if_icmp .lt 78, 3) := by decide +kernel
theorem dX11_findBodies_27 : decode cX11_findBodies 27 = .ok (.aload_n 0, 1) := by decide +kernel
theorem dX11_findBodies_28 : decode cX11_findBodies 28 = .ok (.iload_n 1, 1) := by decide +kernel
theorem dX11_findBodies_29 : decode cX11_findBodies 29 = .ok (.invokevirtual 156, 3) := by decide +kernel
theorem dX11_findBodies_32 : decode cX11_findBodies 32 = .ok (.iconst 2, 1) := by decide +kernel
theorem dX11_findBodies_33 : decode cX11_findBodies 33 = .ok (.iload_n 2, 1) := by decide +kernel
theorem dX11_findBodies_34 : decode cX11_findBodies 34 = .ok (.imul, 1) := by decide +kernel
theorem dX11_findBodies_35 : decode cX11_findBodies 35 = .ok (.iconst 3, 1) := by decide +kernel
theorem dX11_findBodies_36 : decode cX11_findBodies 36 = .ok (.isub, 1) := by decide +kernel
theorem dX11_findBodies_37 : decode cX11_findBodies 37 = .ok (.if_icmp .eq 6, 3) := by decide +kernel
theorem dX11_findBodies_40 : decode cX11_findBodies 40 = .ok (.goto 62, 3) := by decide +kernel
theorem dX11_findBodies_43 : decode cX11_findBodies 43 = .ok (.aload_n 0, 1) := by decide +kernel
theorem dX11_findBodies_44 : decode cX11_findBodies 44 = .ok (.dup, 1) := by decide +kernel
theorem dX11_findBodies_45 : decode cX11_findBodies 45 = .ok (.getfield 153, 3) := by decide +kernel
theorem dX11_findBodies_48 : decode cX11_findBodies 48 = .ok (.dup_x1, 1) := by decide +kernel
theorem dX11_findBodies_49 : decode cX11_findBodies 49 = .ok (.iconst 1, 1) := by decide +kernel
theorem dX11_findBodies_50 : decode cX11_findBodies 50 = .ok (.iadd, 1) := by decide +kernel
theorem dX11_findBodies_51 : decode cX11_findBodies 51 = .ok (.putfield 153, 3) := by decide +kernel
theorem dX11_findBodies_54 : decode cX11_findBodies 54 = .ok (.istore_n 3, 1) := by decide +kernel
theorem dX11_findBodies_55 : decode cX11_findBodies 55 = .ok (.iload_n 3, 1) := by decide +kernel
theorem dX11_findBodies_56 : decode cX11_findBodies 56 = .ok (.ifCond .le 39, 3) := by decide +kernel
theorem dX11_findBodies_59 : decode cX11_findBodies 59 = .ok (.aload_n 0, 1) := by decide +kernel
theorem dX11_findBodies_60 : decode cX11_findBodies 60 = .ok (.iload_n 1, 1) := by decide +kernel
theorem dX11_findBodies_61 : decode cX11_findBodies 61 = .ok (.aload_n 0, 1) := by decide +kernel
theorem dX11_findBodies_62 : decode cX11_findBodies 62 = .ok (.getfield 54, 3) := by decide +kernel
theorem dX11_findBodies_65 : decode cX11_findBodies 65 = .ok (.iload_n 3, 1) := by decide +kernel
theorem dX11_findBodies_66 : decode cX11_findBodies 66 = .ok (.iconst 1, 1) := by decide +kernel
theorem dX11_findBodies_67 : decode cX11_findBodies 67 = .ok (.isub, 1) := by decide +kernel
theorem dX11_findBodies_68 : decode cX11_findBodies 68 = .ok (.iaload, 1) := by decide +kernel
theorem dX11_findBodies_69 : decode cX11_findBodies 69 = .ok (.invokevirtual 159, 3) := by decide +kernel
theorem dX11_findBodies_72 : decode cX11_findBodies 72 = .ok (.ifCond .eq 23, 3) := by decide +kernel
theorem dX11_findBodies_75 : decode cX11_findBodies 75 = .ok (.aload_n 0, 1) := by decide +kernel
theorem dX11_findBodies_76 : decode cX11_findBodies 76 = .ok (.getfield 54, 3) := by decide +kernel
theorem dX11_findBodies_79 : decode cX11_findBodies 79 = .ok (.iload_n 3, 1) := by decide +kernel
theorem dX11_findBodies_80 : decode cX11_findBodies 80 = .ok (.aload_n 0, 1) := by decide +kernel
theorem dX11_findBodies_81 : decode cX11_findBodies 81 = .ok (.getfield 54, 3) := by decide +kernel
theorem dX11_findBodies_84 : decode cX11_findBodies 84 = .ok (.iload_n 3, 1) := by decide +kernel
theorem dX11_findBodies_85 : decode cX11_findBodies 85 = .ok (.iconst 1, 1) := by decide +kernel
theorem dX11_findBodies_86 : decode cX11_findBodies 86 = .ok (.isub, 1) := by decide +kernel
theorem dX11_findBodies_87 : decode cX11_findBodies 87 = .ok (.iaload, 1) := by decide +kernel
theorem dX11_findBodies_88 : decode cX11_findBodies 88 = .ok (.iastore, 1) := by decide +kernel
theorem dX11_findBodies_89 : decode cX11_findBodies 89 = .ok (.iinc 3 (-1), 3) := by decide +kernel
theorem dX11_findBodies_92 : decode cX11_findBodies 92 = .ok (.goto (-37), 3) := by decide +kernel
theorem dX11_findBodies_95 : decode cX11_findBodies 95 = .ok (.aload_n 0, 1) := by decide +kernel
theorem dX11_findBodies_96 : decode cX11_findBodies 96 = .ok (.getfield 54, 3) := by decide +kernel
theorem dX11_findBodies_99 : decode cX11_findBodies 99 = .ok (.iload_n 3, 1) := by decide +kernel
theorem dX11_findBodies_100 : decode cX11_findBodies 100 = .ok (.iload_n 1, 1) := by decide +kernel
theorem dX11_findBodies_101 : decode cX11_findBodies 101 = .ok (.iastore, 1) := by decide +kernel
theorem dX11_findBodies_102 : decode cX11_findBodies 102 = .ok (.iinc 1 1, 3) := by decide +kernel
theorem dX11_findBodies_105 : decode cX11_findBodies 105 = .ok (.goto (-98), 3) := by decide +kernel
theorem dX11_findBodies_108 : decode cX11_findBodies 108 = .ok (.iconst 0, 1) := by decide +kernel
theorem dX11_findBodies_109 : decode cX11_findBodies 109 = .ok (.istore_n 1, 1) := by decide +kernel
theorem dX11_findBodies_110 : decode cX11_findBodies 110 = .ok (.iconst 0, 1) := by decide +kernel
theorem dX11_findBodies_111 : decode cX11_findBodies 111 = .ok (.istore_n 2, 1) := by decide +kernel
theorem dX11_findBodies_112 : decode cX11_findBodies 112 = .ok (.iload_n 2, 1) := by decide +kernel
theorem dX11_findBodies_113 : decode cX11_findBodies 113 = .ok (.aload_n 0, 1) := by decide +kernel
theorem dX11_findBodies_114 : decode cX11_findBodies 114 = .ok (.getfield 153, 3) := by decide +kernel
theorem dX11_findBodies_117 : decode cX11_findBodies 117 = .ok (.if_icmp .ge 75, 3) := by decide +kernel
theorem dX11_findBodies_120 : decode cX11_findBodies 120 = .ok (.iconst 1, 1) := by decide +kernel
theorem dX11_findBodies_121 : decode cX11_findBodies 121 = .ok (.istore_n 3, 1) := by decide +kernel
theorem dX11_findBodies_122 : decode cX11_findBodies 122 = .ok (.iconst 0, 1) := by decide +kernel
theorem dX11_findBodies_123 : decode cX11_findBodies 123 = .ok (.istore 4, 2) := by decide +kernel
theorem dX11_findBodies_125 : decode cX11_findBodies 125 = .ok (.iload 4, 2) := by decide +kernel
theorem dX11_findBodies_127 : decode cX11_findBodies 127 = .ok (.aload_n 0, 1) := by decide +kernel
theorem dX11_findBodies_128 : decode cX11_findBodies 128 = .ok (.getfield 153, 3) := by decide +kernel
theorem dX11_findBodies_131 : decode cX11_findBodies 131 = .ok (.if_icmp .ge 36, 3) := by decide +kernel
theorem dX11_findBodies_134 : decode cX11_findBodies 134 = .ok (.iload 4, 2) := by decide +kernel
theorem dX11_findBodies_136 : decode cX11_findBodies 136 = .ok (.iload_n 2, 1) := by decide +kernel
theorem dX11_findBodies_137 : decode cX11_findBodies 137 = .ok (.if_icmp .eq 24, 3) := by decide +kernel
theorem dX11_findBodies_140 : decode cX11_findBodies 140 = .ok (.aload_n 0, 1) := by decide +kernel
theorem dX11_findBodies_141 : decode cX11_findBodies 141 = .ok (.getfield 54, 3) := by decide +kernel
theorem dX11_findBodies_144 : decode cX11_findBodies 144 = .ok (.iload_n 2, 1) := by decide +kernel
theorem dX11_findBodies_145 : decode cX11_findBodies 145 = .ok (.iaload, 1) := by decide +kernel
theorem dX11_findBodies_146 : decode cX11_findBodies 146 = .ok (.aload_n 0, 1) := by decide +kernel
theorem dX11_findBodies_147 : decode cX11_findBodies 147 = .ok (.getfield 54, 3) := by decide +kernel
theorem dX11_findBodies_150 : decode cX11_findBodies 150 = .ok (.iload 4, 2) := by decide +kernel
theorem dX11_findBodies_152 : decode cX11_findBodies 152 = .ok (.iaload, 1) := by decide +kernel
theorem dX11_findBodies_153 : decode cX11_findBodies 153 = .ok (.iconst (-1), 1) := by decide +kernel
theorem dX11_findBodies_154 : decode cX11_findBodies 154 = .ok (.ixor, 1) := by decide +kernel
theorem dX11_findBodies_155 : decode cX11_findBodies 155 = .ok (.iand, 1) := by decide +kernel
theorem dX11_findBodies_156 : decode cX11_findBodies 156 = .ok (.ifCond .ne 5, 3) := by decide +kernel
theorem dX11_findBodies_159 : decode cX11_findBodies 159 = .ok (.iconst 0, 1) := by decide +kernel
theorem dX11_findBodies_160 : decode cX11_findBodies 160 = .ok (.istore_n 3, 1) := by decide +kernel
theorem dX11_findBodies_161 : decode cX11_findBodies 161 = .ok (.iinc 4 1, 3) := by decide +kernel
theorem dX11_findBodies_164 : decode cX11_findBodies 164 = .ok (.goto (-39), 3) := by decide +kernel
theorem dX11_findBodies_167 : decode cX11_findBodies 167 = .ok (.aload_n 0, 1) := by decide +kernel
theorem dX11_findBodies_168 : decode cX11_findBodies 168 = .ok (.getfield 84, 3) := by decide +kernel
theorem dX11_findBodies_171 : decode cX11_findBodies 171 = .ok (.iload_n 1, 1) := by decide +kernel
theorem dX11_findBodies_172 : decode cX11_findBodies 172 = .ok (.aload_n 0, 1) := by decide +kernel
theorem dX11_findBodies_173 : decode cX11_findBodies 173 = .ok (.getfield 54, 3) := by decide +kernel
theorem dX11_findBodies_176 : decode cX11_findBodies 176 = .ok (.iload_n 2, 1) := by decide +kernel
theorem dX11_findBodies_177 : decode cX11_findBodies 177 = .ok (.iaload, 1) := by decide +kernel
theorem dX11_findBodies_178 : decode cX11_findBodies 178 = .ok (.iastore, 1) := by decide +kernel
theorem dX11_findBodies_179 : decode cX11_findBodies 179 = .ok (.iload_n 3, 1) := by decide +kernel
theorem dX11_findBodies_180 : decode cX11_findBodies 180 = .ok (.ifCond .eq 6, 3) := by decide +kernel
theorem dX11_findBodies_183 : decode cX11_findBodies 183 = .ok (.iinc 1 1, 3) := by decide +kernel
theorem dX11_findBodies_186 : decode cX11_findBodies 186 = .ok (.iinc 2 1, 3) := by decide +kernel
theorem dX11_findBodies_189 : decode cX11_findBodies 189 = .ok (.goto (-77), 3) := by decide +kernel
theorem dX11_findBodies_192 : decode cX11_findBodies 192 = .ok (.iconst 0, 1) := by decide +kernel
theorem dX11_findBodies_193 : decode cX11_findBodies 193 = .ok (.istore_n 2, 1) := by decide +kernel
theorem dX11_findBodies_194 : decode cX11_findBodies 194 = .ok (.iload_n 2, 1) := by decide +kernel
theorem dX11_findBodies_195 : decode cX11_findBodies 195 = .ok (.iload_n 1, 1) := by decide +kernel
theorem dX11_findBodies_196 : decode cX11_findBodies 196 = .ok (.if_icmp .ge 21, 3) := by decide +kernel
theorem dX11_findBodies_199 : decode cX11_findBodies 199 = .ok (.aload_n 0, 1) := by decide +kernel
theorem dX11_findBodies_200 : decode cX11_findBodies 200 = .ok (.getfield 54, 3) := by decide +kernel
theorem dX11_findBodies_203 : decode cX11_findBodies 203 = .ok (.iload_n 2, 1) := by decide +kernel
theorem dX11_findBodies_204 : decode cX11_findBodies 204 = .ok (.aload_n 0, 1) := by decide +kernel
theorem dX11_findBodies_205 : decode cX11_findBodies 205 = .ok (.getfield 84, 3) := by decide +kernel
theorem dX11_findBodies_208 : decode cX11_findBodies 208 = .ok (.iload_n 2, 1) := by decide +kernel
theorem dX11_findBodies_209 : decode cX11_findBodies 209 = .ok (.iaload, 1) := by decide +kernel
theorem dX11_findBodies_210 : decode cX11_findBodies 210 = .ok (.iastore, 1) := by decide +kernel
theorem dX11_findBodies_211 : decode cX11_findBodies 211 = .ok (.iinc 2 1, 3) := by decide +kernel
theorem dX11_findBodies_214 : decode cX11_findBodies 214 = .ok (.goto (-20), 3) := by decide +kernel
theorem dX11_findBodies_217 : decode cX11_findBodies 217 = .ok (.aload_n 0, 1) := by decide +kernel
theorem dX11_findBodies_218 : decode cX11_findBodies 218 = .ok (.iload_n 1, 1) := by decide +kernel
theorem dX11_findBodies_219 : decode cX11_findBodies 219 = .ok (.putfield 153, 3) := by decide +kernel
theorem dX11_findBodies_222 : decode cX11_findBodies 222 = .ok (.return_, 1) := by decide +kernel
theorem dX11_makePlan_0 : decode cX11_makePlan 0 = .ok (.aload_n 0, 1) := by decide +kernel
theorem dX11_makePlan_1 : decode cX11_makePlan 1 = .ok (.iconst 0, 1) := by decide +kernel
theorem dX11_makePlan_2 : decode cX11_makePlan 2 = .ok (.putfield 162, 3) := by decide +kernel
theorem dX11_makePlan_5 : decode cX11_makePlan 5 = .ok (.iconst 0, 1) := by decide +kernel
theorem dX11_makePlan_6 : decode cX11_makePlan 6 = .ok (.istore_n 1, 1) := by decide +kernel
theorem dX11_makePlan_7 : decode cX11_makePlan 7 = .ok (.iload_n 1, 1) := by decide +kernel
theorem dX11_makePlan_8 : decode cX11_makePlan 8 = .ok (.aload_n 0, 1) := by decide +kernel
theorem dX11_makePlan_9 : decode cX11_makePlan 9 = .ok (.getfield 91, 3) := by decide +kernel
theorem dX11_makePlan_12 : decode cX11_makePlan 12 = .ok (.if_icmp .ge 33, 3) := by decide +kernel
theorem dX11_makePlan_15 : decode cX11_makePlan 15 = .ok (.aload_n 0, 1) := by decide +kernel
theorem dX11_makePlan_16 : decode cX11_makePlan 16 = .ok (.getfield 57, 3) := by decide +kernel
theorem dX11_makePlan_19 : decode cX11_makePlan 19 = .ok (.iload_n 1, 1) := by decide +kernel
theorem dX11_makePlan_20 : decode cX11_makePlan 20 = .ok (.aload_n 0, 1) := by decide +kernel
theorem dX11_makePlan_21 : decode cX11_makePlan 21 = .ok (.getfield 38, 3) := by decide +kernel
theorem dX11_makePlan_24 : decode cX11_makePlan 24 = .ok (.iload_n 1, 1) := by decide +kernel
theorem dX11_makePlan_25 : decode cX11_makePlan 25 = .ok (.baload, 1) := by decide +kernel
theorem dX11_makePlan_26 : decode cX11_makePlan 26 = .ok (.bastore, 1) := by decide +kernel
theorem dX11_makePlan_27 : decode cX11_makePlan 27 = .ok (.aload_n 0, 1) := by decide +kernel
theorem dX11_makePlan_28 : decode cX11_makePlan 28 = .ok (.getfield 63, 3) := by decide +kernel
theorem dX11_makePlan_31 : decode cX11_makePlan 31 = .ok (.iload_n 1, 1) := by decide +kernel
theorem dX11_makePlan_32 : decode cX11_makePlan 32 = .ok (.aload_n 0, 1) := by decide +kernel
theorem dX11_makePlan_33 : decode cX11_makePlan 33 = .ok (.getfield 38, 3) := by decide +kernel
theorem dX11_makePlan_36 : decode cX11_makePlan 36 = .ok (.iload_n 1, 1) := by decide +kernel
theorem dX11_makePlan_37 : decode cX11_makePlan 37 = .ok (.baload, 1) := by decide +kernel
theorem dX11_makePlan_38 : decode cX11_makePlan 38 = .ok (.bastore, 1) := by decide +kernel
theorem dX11_makePlan_39 : decode cX11_makePlan 39 = .ok (.iinc 1 1, 3) := by decide +kernel
theorem dX11_makePlan_42 : decode cX11_makePlan 42 = .ok (.goto (-35), 3) := by decide +kernel
theorem dX11_makePlan_45 : decode cX11_makePlan 45 = .ok (.aload_n 0, 1) := by decide +kernel
theorem dX11_makePlan_46 : decode cX11_makePlan 46 = .ok (.aload_n 0, 1) := by decide +kernel
theorem dX11_makePlan_47 : decode cX11_makePlan 47 = .ok (.getfield 57, 3) := by decide +kernel
theorem dX11_makePlan_50 : decode cX11_makePlan 50 = .ok (.invokevirtual 122, 3) := by decide +kernel
theorem dX11_makePlan_53 : decode cX11_makePlan 53 = .ok (.istore_n 1, 1) := by decide +kernel
theorem dX11_makePlan_54 : decode cX11_makePlan 54 = .ok (.aload_n 0, 1) := by decide +kernel
theorem dX11_makePlan_55 : decode cX11_makePlan 55 = .ok (.invokevirtual 165, 3) := by decide +kernel
theorem dX11_makePlan_58 : decode cX11_makePlan 58 = .ok (.istore_n 2, 1) := by decide +kernel
theorem dX11_makePlan_59 : decode cX11_makePlan 59 = .ok (.iload_n 2, 1) := by decide +kernel
theorem dX11_makePlan_60 : decode cX11_makePlan 60 = .ok (.iconst (-1), 1) := by decide +kernel
theorem dX11_makePlan_61 : decode cX11_makePlan 61 = .ok (.if_icmp .eq 68, 3) := by decide +kernel
theorem dX11_makePlan_64 : decode cX11_makePlan 64 = .ok (.aload_n 0, 1) := by decide +kernel
theorem dX11_makePlan_65 : decode cX11_makePlan 65 = .ok (.getfield 63, 3) := by decide +kernel
theorem dX11_makePlan_68 : decode cX11_makePlan 68 = .ok (.iload_n 2, 1) := by decide +kernel
theorem dX11_makePlan_69 : decode cX11_makePlan 69 = .ok (.iconst 1, 1) := by decide +kernel
theorem dX11_makePlan_70 : decode cX11_makePlan 70 = .ok (.bastore, 1) := by decide +kernel
theorem dX11_makePlan_71 : decode cX11_makePlan 71 = .ok (.aload_n 0, 1) := by decide +kernel
theorem dX11_makePlan_72 : decode cX11_makePlan 72 = .ok (.getfield 57, 3) := by decide +kernel
theorem dX11_makePlan_75 : decode cX11_makePlan 75 = .ok (.iload_n 2, 1) := by decide +kernel
theorem dX11_makePlan_76 : decode cX11_makePlan 76 = .ok (.iconst 1, 1) := by decide +kernel
theorem dX11_makePlan_77 : decode cX11_makePlan 77 = .ok (.bastore, 1) := by decide +kernel
theorem dX11_makePlan_78 : decode cX11_makePlan 78 = .ok (.aload_n 0, 1) := by decide +kernel
theorem dX11_makePlan_79 : decode cX11_makePlan 79 = .ok (.aload_n 0, 1) := by decide +kernel
theorem dX11_makePlan_80 : decode cX11_makePlan 80 = .ok (.getfield 57, 3) := by decide +kernel
theorem dX11_makePlan_83 : decode cX11_makePlan 83 = .ok (.invokevirtual 122, 3) := by decide +kernel
theorem dX11_makePlan_86 : decode cX11_makePlan 86 = .ok (.istore_n 3, 1) := by decide +kernel
theorem dX11_makePlan_87 : decode cX11_makePlan 87 = .ok (.iload_n 3, 1) := by decide +kernel
theorem dX11_makePlan_88 : decode cX11_makePlan 88 = .ok (.iload_n 1, 1) := by decide +kernel
theorem dX11_makePlan_89 : decode cX11_makePlan 89 = .ok (.if_icmp .ge 25, 3) := by decide +kernel
theorem dX11_makePlan_92 : decode cX11_makePlan 92 = .ok (.aload_n 0, 1) := by decide +kernel
theorem dX11_makePlan_93 : decode cX11_makePlan 93 = .ok (.getfield 66, 3) := by decide +kernel
theorem dX11_makePlan_96 : decode cX11_makePlan 96 = .ok (.aload_n 0, 1) := by decide +kernel
theorem dX11_makePlan_97 : decode cX11_makePlan 97 = .ok (.dup, 1) := by decide +kernel
theorem dX11_makePlan_98 : decode cX11_makePlan 98 = .ok (.getfield 162, 3) := by decide +kernel
theorem dX11_makePlan_101 : decode cX11_makePlan 101 = .ok (.dup_x1, 1) := by decide +kernel
theorem dX11_makePlan_102 : decode cX11_makePlan 102 = .ok (.iconst 1, 1) := by decide +kernel
theorem dX11_makePlan_103 : decode cX11_makePlan 103 = .ok (.iadd, 1) := by decide +kernel
theorem dX11_makePlan_104 : decode cX11_makePlan 104 = .ok (.putfield 162, 3) := by decide +kernel
theorem dX11_makePlan_107 : decode cX11_makePlan 107 = .ok (.iload_n 2, 1) := by decide +kernel
theorem dX11_makePlan_108 : decode cX11_makePlan 108 = .ok (.iastore, 1) := by decide +kernel
theorem dX11_makePlan_109 : decode cX11_makePlan 109 = .ok (.iload_n 3, 1) := by decide +kernel
theorem dX11_makePlan_110 : decode cX11_makePlan 110 = .ok (.istore_n 1, 1) := by decide +kernel
theorem dX11_makePlan_111 : decode cX11_makePlan 111 = .ok (.goto 10, 3) := by decide +kernel
theorem dX11_makePlan_114 : decode cX11_makePlan 114 = .ok (.aload_n 0, 1) := by decide +kernel
theorem dX11_makePlan_115 : decode cX11_makePlan 115 = .ok (.getfield 57, 3) := by decide +kernel
theorem dX11_makePlan_118 : decode cX11_makePlan 118 = .ok (.iload_n 2, 1) := by decide +kernel
theorem dX11_makePlan_119 : decode cX11_makePlan 119 = .ok (.iconst 0, 1) := by decide +kernel
theorem dX11_makePlan_120 : decode cX11_makePlan 120 = .ok (.bastore, 1) := by decide +kernel
theorem dX11_makePlan_121 : decode cX11_makePlan 121 = .ok (.aload_n 0, 1) := by decide +kernel
theorem dX11_makePlan_122 : decode cX11_makePlan 122 = .ok (.invokevirtual 165, 3) := by decide +kernel
theorem dX11_makePlan_125 : decode cX11_makePlan 125 = .ok (.istore_n 2, 1) := by decide +kernel
theorem dX11_makePlan_126 : decode cX11_makePlan 126 = .ok (.goto (-67), 3) := by decide +kernel
theorem dX11_makePlan_129 : decode cX11_makePlan 129 = .ok (.return_, 1) := by decide +kernel
theorem dX11_cheapestLeft_0 : decode cX11_cheapestLeft 0 = .ok (.iconst (-1), 1) := by decide +kernel
theorem dX11_cheapestLeft_1 : decode cX11_cheapestLeft 1 = .ok (.istore_n 1, 1) := by decide +kernel
theorem dX11_cheapestLeft_2 : decode cX11_cheapestLeft 2 = .ok (.iconst 0, 1) := by decide +kernel
theorem dX11_cheapestLeft_3 : decode cX11_cheapestLeft 3 = .ok (.istore_n 2, 1) := by decide +kernel
theorem dX11_cheapestLeft_4 : decode cX11_cheapestLeft 4 = .ok (.iload_n 2, 1) := by decide +kernel
theorem dX11_cheapestLeft_5 : decode cX11_cheapestLeft 5 = .ok (.aload_n 0, 1) := by decide +kernel
theorem dX11_cheapestLeft_6 : decode cX11_cheapestLeft 6 = .ok (.getfield 91, 3) := by decide +kernel
theorem dX11_cheapestLeft_9 : decode cX11_cheapestLeft 9 = .ok (.if_icmp .ge 40, 3) := by decide +kernel
theorem dX11_cheapestLeft_12 : decode cX11_cheapestLeft 12 = .ok (.aload_n 0, 1) := by decide +kernel
theorem dX11_cheapestLeft_13 : decode cX11_cheapestLeft 13 = .ok (.getfield 63, 3) := by decide +kernel
theorem dX11_cheapestLeft_16 : decode cX11_cheapestLeft 16 = .ok (.iload_n 2, 1) := by decide +kernel
theorem dX11_cheapestLeft_17 : decode cX11_cheapestLeft 17 = .ok (.baload, 1) := by decide +kernel
theorem dX11_cheapestLeft_18 : decode cX11_cheapestLeft 18 = .ok (.ifCond .ne 25, 3) := by decide +kernel
theorem dX11_cheapestLeft_21 : decode cX11_cheapestLeft 21 = .ok (.iload_n 1, 1) := by decide +kernel
theorem dX11_cheapestLeft_22 : decode cX11_cheapestLeft 22 = .ok (.iconst (-1), 1) := by decide +kernel
theorem dX11_cheapestLeft_23 : decode cX11_cheapestLeft 23 = .ok (.if_icmp .eq 18, 3) := by decide +kernel
theorem dX11_cheapestLeft_26 : decode cX11_cheapestLeft 26 = .ok (.aload_n 0, 1) := by decide +kernel
theorem dX11_cheapestLeft_27 : decode cX11_cheapestLeft 27 = .ok (.getfield 35, 3) := by decide +kernel
theorem dX11_cheapestLeft_30 : decode cX11_cheapestLeft 30 = .ok (.iload_n 2, 1) := by decide +kernel
theorem dX11_cheapestLeft_31 : decode cX11_cheapestLeft 31 = .ok (.iaload, 1) := by decide +kernel
theorem dX11_cheapestLeft_32 : decode cX11_cheapestLeft 32 = .ok (.aload_n 0, 1) := by decide +kernel
theorem dX11_cheapestLeft_33 : decode cX11_cheapestLeft 33 = .ok (.getfield 35, 3) := by decide +kernel
theorem dX11_cheapestLeft_36 : decode cX11_cheapestLeft 36 = .ok (.iload_n 1, 1) := by decide +kernel
theorem dX11_cheapestLeft_37 : decode cX11_cheapestLeft 37 = .ok (.iaload, 1) := by decide +kernel
theorem dX11_cheapestLeft_38 : decode cX11_cheapestLeft 38 = .ok (.if_icmp .ge 5, 3) := by decide +kernel
theorem dX11_cheapestLeft_41 : decode cX11_cheapestLeft 41 = .ok (.iload_n 2, 1) := by decide +kernel
theorem dX11_cheapestLeft_42 : decode cX11_cheapestLeft 42 = .ok (.istore_n 1, 1) := by decide +kernel
theorem dX11_cheapestLeft_43 : decode cX11_cheapestLeft 43 = .ok (.iinc 2 1, 3) := by decide +kernel
theorem dX11_cheapestLeft_46 : decode cX11_cheapestLeft 46 = .ok (.goto (-42), 3) := by decide +kernel
theorem dX11_cheapestLeft_49 : decode cX11_cheapestLeft 49 = .ok (.iload_n 1, 1) := by decide +kernel
theorem dX11_cheapestLeft_50 : decode cX11_cheapestLeft 50 = .ok (.ireturn, 1) := by decide +kernel
theorem dX11_pin_0 : decode cX11_pin 0 = .ok (.iload_n 1, 1) := by decide +kernel
theorem dX11_pin_1 : decode cX11_pin 1 = .ok (.invokestatic 168, 3) := by decide +kernel
theorem dX11_pin_4 : decode cX11_pin 4 = .ok (.ifCond .eq 10, 3) := by decide +kernel
theorem dX11_pin_7 : decode cX11_pin 7 = .ok (.iload_n 2, 1) := by decide +kernel
theorem dX11_pin_8 : decode cX11_pin 8 = .ok (.invokestatic 168, 3) := by decide +kernel
theorem dX11_pin_11 : decode cX11_pin 11 = .ok (.ifCond .ne 6, 3) := by decide +kernel
theorem dX11_pin_14 : decode cX11_pin 14 = .ok (.bipush (-2), 2) := by decide +kernel
theorem dX11_pin_16 : decode cX11_pin 16 = .ok (.ireturn, 1) := by decide +kernel
theorem dX11_pin_17 : decode cX11_pin 17 = .ok (.aload_n 0, 1) := by decide +kernel
theorem dX11_pin_18 : decode cX11_pin 18 = .ok (.iload_n 1, 1) := by decide +kernel
theorem dX11_pin_19 : decode cX11_pin 19 = .ok (.iload_n 2, 1) := by decide +kernel
theorem dX11_pin_20 : decode cX11_pin 20 = .ok (.invokevirtual 171, 3) := by decide +kernel
theorem dX11_pin_23 : decode cX11_pin 23 = .ok (.iconst (-1), 1) := by decide +kernel
theorem dX11_pin_24 : decode cX11_pin 24 = .ok (.if_icmp .eq 6, 3) := by decide +kernel
theorem dX11_pin_27 : decode cX11_pin 27 = .ok (.bipush (-3), 2) := by decide +kernel
theorem dX11_pin_29 : decode cX11_pin 29 = .ok (.ireturn, 1) := by decide +kernel
theorem dX11_pin_30 : decode cX11_pin 30 = .ok (.aload_n 0, 1) := by decide +kernel
theorem dX11_pin_31 : decode cX11_pin 31 = .ok (.getfield 87, 3) := by decide +kernel
theorem dX11_pin_34 : decode cX11_pin 34 = .ok (.bipush 6, 2) := by decide +kernel
theorem dX11_pin_36 : decode cX11_pin 36 = .ok (.if_icmp .ne 6, 3) := by decide +kernel
theorem dX11_pin_39 : decode cX11_pin 39 = .ok (.bipush (-4), 2) := by decide +kernel
theorem dX11_pin_41 : decode cX11_pin 41 = .ok (.ireturn, 1) := by decide +kernel
theorem dX11_pin_42 : decode cX11_pin 42 = .ok (.aload_n 0, 1) := by decide +kernel
theorem dX11_pin_43 : decode cX11_pin 43 = .ok (.getfield 7, 3) := by decide +kernel
theorem dX11_pin_46 : decode cX11_pin 46 = .ok (.aload_n 0, 1) := by decide +kernel
theorem dX11_pin_47 : decode cX11_pin 47 = .ok (.getfield 87, 3) := by decide +kernel
theorem dX11_pin_50 : decode cX11_pin 50 = .ok (.iload_n 1, 1) := by decide +kernel
theorem dX11_pin_51 : decode cX11_pin 51 = .ok (.iastore, 1) := by decide +kernel
theorem dX11_pin_52 : decode cX11_pin 52 = .ok (.aload_n 0, 1) := by decide +kernel
theorem dX11_pin_53 : decode cX11_pin 53 = .ok (.getfield 13, 3) := by decide +kernel
theorem dX11_pin_56 : decode cX11_pin 56 = .ok (.aload_n 0, 1) := by decide +kernel
theorem dX11_pin_57 : decode cX11_pin 57 = .ok (.getfield 87, 3) := by decide +kernel
theorem dX11_pin_60 : decode cX11_pin 60 = .ok (.iload_n 2, 1) := by decide +kernel
theorem dX11_pin_61 : decode cX11_pin 61 = .ok (.iastore, 1) := by decide +kernel
theorem dX11_pin_62 : decode cX11_pin 62 = .ok (.aload_n 0, 1) := by decide +kernel
theorem dX11_pin_63 : decode cX11_pin 63 = .ok (.getfield 16, 3) := by decide +kernel
theorem dX11_pin_66 : decode cX11_pin 66 = .ok (.aload_n 0, 1) := by decide +kernel
theorem dX11_pin_67 : decode cX11_pin 67 = .ok (.getfield 87, 3) := by decide +kernel
theorem dX11_pin_70 : decode cX11_pin 70 = .ok (.iconst 0, 1) := by decide +kernel
theorem dX11_pin_71 : decode cX11_pin 71 = .ok (.iastore, 1) := by decide +kernel
theorem dX11_pin_72 : decode cX11_pin 72 = .ok (.aload_n 0, 1) := by decide +kernel
theorem dX11_pin_73 : decode cX11_pin 73 = .ok (.getfield 19, 3) := by decide +kernel
theorem dX11_pin_76 : decode cX11_pin 76 = .ok (.aload_n 0, 1) := by decide +kernel
theorem dX11_pin_77 : decode cX11_pin 77 = .ok (.getfield 87, 3) := by decide +kernel
theorem dX11_pin_80 : decode cX11_pin 80 = .ok (.iconst 0, 1) := by decide +kernel
theorem dX11_pin_81 : decode cX11_pin 81 = .ok (.iastore, 1) := by decide +kernel
theorem dX11_pin_82 : decode cX11_pin 82 = .ok (.aload_n 0, 1) := by decide +kernel
theorem dX11_pin_83 : decode cX11_pin 83 = .ok (.getfield 22, 3) := by decide +kernel
theorem dX11_pin_86 : decode cX11_pin 86 = .ok (.aload_n 0, 1) := by decide +kernel
theorem dX11_pin_87 : decode cX11_pin 87 = .ok (.getfield 87, 3) := by decide +kernel
theorem dX11_pin_90 : decode cX11_pin 90 = .ok (.iconst 0, 1) := by decide +kernel
theorem dX11_pin_91 : decode cX11_pin 91 = .ok (.bastore, 1) := by decide +kernel
theorem dX11_pin_92 : decode cX11_pin 92 = .ok (.aload_n 0, 1) := by decide +kernel
theorem dX11_pin_93 : decode cX11_pin 93 = .ok (.dup, 1) := by decide +kernel
theorem dX11_pin_94 : decode cX11_pin 94 = .ok (.getfield 87, 3) := by decide +kernel
theorem dX11_pin_97 : decode cX11_pin 97 = .ok (.dup_x1, 1) := by decide +kernel
theorem dX11_pin_98 : decode cX11_pin 98 = .ok (.iconst 1, 1) := by decide +kernel
theorem dX11_pin_99 : decode cX11_pin 99 = .ok (.iadd, 1) := by decide +kernel
theorem dX11_pin_100 : decode cX11_pin 100 = .ok (.putfield 87, 3) := by decide +kernel
theorem dX11_pin_103 : decode cX11_pin 103 = .ok (.ireturn, 1) := by decide +kernel
theorem dX11_move_0 : decode cX11_move 0 = .ok (.aload_n 0, 1) := by decide +kernel
theorem dX11_move_1 : decode cX11_move 1 = .ok (.iload_n 1, 1) := by decide +kernel
theorem dX11_move_2 : decode cX11_move 2 = .ok (.invokevirtual 175, 3) := by decide +kernel
theorem dX11_move_5 : decode cX11_move 5 = .ok (.ifCond .eq 17, 3) := by decide +kernel
theorem dX11_move_8 : decode cX11_move 8 = .ok (.iload_n 2, 1) := by decide +kernel
theorem dX11_move_9 : decode cX11_move 9 = .ok (.invokestatic 168, 3) := by decide +kernel
theorem dX11_move_12 : decode cX11_move 12 = .ok (.ifCond .eq 10, 3) := by decide +kernel
theorem dX11_move_15 : decode cX11_move 15 = .ok (.iload_n 3, 1) := by decide +kernel
theorem dX11_move_16 : decode cX11_move 16 = .ok (.invokestatic 168, 3) := by decide +kernel
theorem dX11_move_19 : decode cX11_move 19 = .ok (.ifCond .ne 6, 3) := by decide +kernel
theorem dX11_move_22 : decode cX11_move 22 = .ok (.bipush (-2), 2) := by decide +kernel
theorem dX11_move_24 : decode cX11_move 24 = .ok (.ireturn, 1) := by decide +kernel
theorem dX11_move_25 : decode cX11_move 25 = .ok (.aload_n 0, 1) := by decide +kernel
theorem dX11_move_26 : decode cX11_move 26 = .ok (.iload_n 2, 1) := by decide +kernel
theorem dX11_move_27 : decode cX11_move 27 = .ok (.iload_n 3, 1) := by decide +kernel
theorem dX11_move_28 : decode cX11_move 28 = .ok (.invokevirtual 171, 3) := by decide +kernel
theorem dX11_move_31 : decode cX11_move 31 = .ok (.istore 4, 2) := by decide +kernel
theorem dX11_move_33 : decode cX11_move 33 = .ok (.iload 4, 2) := by decide +kernel
theorem dX11_move_35 : decode cX11_move 35 = .ok (.iconst (-1), 1) := by decide +kernel
theorem dX11_move_36 : decode cX11_move 36 = .ok (.if_icmp .eq 12, 3) := by decide +kernel
theorem dX11_move_39 : decode cX11_move 39 = .ok (.iload 4, 2) := by decide +kernel
theorem dX11_move_41 : decode cX11_move 41 = .ok (.iload_n 1, 1) := by decide +kernel
theorem dX11_move_42 : decode cX11_move 42 = .ok (.if_icmp .eq 6, 3) := by decide +kernel
theorem dX11_move_45 : decode cX11_move 45 = .ok (.bipush (-3), 2) := by decide +kernel
theorem dX11_move_47 : decode cX11_move 47 = .ok (.ireturn, 1) := by decide +kernel
theorem dX11_move_48 : decode cX11_move 48 = .ok (.aload_n 0, 1) := by decide +kernel
theorem dX11_move_49 : decode cX11_move 49 = .ok (.getfield 7, 3) := by decide +kernel
theorem dX11_move_52 : decode cX11_move 52 = .ok (.iload_n 1, 1) := by decide +kernel
theorem dX11_move_53 : decode cX11_move 53 = .ok (.iload_n 2, 1) := by decide +kernel
theorem dX11_move_54 : decode cX11_move 54 = .ok (.iastore, 1) := by decide +kernel
theorem dX11_move_55 : decode cX11_move 55 = .ok (.aload_n 0, 1) := by decide +kernel
theorem dX11_move_56 : decode cX11_move 56 = .ok (.getfield 13, 3) := by decide +kernel
theorem dX11_move_59 : decode cX11_move 59 = .ok (.iload_n 1, 1) := by decide +kernel
theorem dX11_move_60 : decode cX11_move 60 = .ok (.iload_n 3, 1) := by decide +kernel
theorem dX11_move_61 : decode cX11_move 61 = .ok (.iastore, 1) := by decide +kernel
theorem dX11_move_62 : decode cX11_move 62 = .ok (.iconst 1, 1) := by decide +kernel
theorem dX11_move_63 : decode cX11_move 63 = .ok (.ireturn, 1) := by decide +kernel
theorem dX11_hold_0 : decode cX11_hold 0 = .ok (.aload_n 0, 1) := by decide +kernel
theorem dX11_hold_1 : decode cX11_hold 1 = .ok (.iload_n 1, 1) := by decide +kernel
theorem dX11_hold_2 : decode cX11_hold 2 = .ok (.invokevirtual 175, 3) := by decide +kernel
theorem dX11_hold_5 : decode cX11_hold 5 = .ok (.ifCond .ne 6, 3) := by decide +kernel
theorem dX11_hold_8 : decode cX11_hold 8 = .ok (.bipush (-2), 2) := by decide +kernel
theorem dX11_hold_10 : decode cX11_hold 10 = .ok (.ireturn, 1) := by decide +kernel
theorem dX11_hold_11 : decode cX11_hold 11 = .ok (.aload_n 0, 1) := by decide +kernel
theorem dX11_hold_12 : decode cX11_hold 12 = .ok (.getfield 22, 3) := by decide +kernel
theorem dX11_hold_15 : decode cX11_hold 15 = .ok (.iload_n 1, 1) := by decide +kernel
theorem dX11_hold_16 : decode cX11_hold 16 = .ok (.baload, 1) := by decide +kernel
theorem dX11_hold_17 : decode cX11_hold 17 = .ok (.iload_n 2, 1) := by decide +kernel
theorem dX11_hold_18 : decode cX11_hold 18 = .ok (.if_icmp .eq 7, 3) := by decide +kernel
theorem dX11_hold_21 : decode cX11_hold 21 = .ok (.iconst 1, 1) := by decide +kernel
theorem dX11_hold_22 : decode cX11_hold 22 = .ok (.goto 4, 3) := by decide +kernel
theorem dX11_hold_25 : decode cX11_hold 25 = .ok (.iconst 0, 1) := by decide +kernel
theorem dX11_hold_26 : decode cX11_hold 26 = .ok (.istore_n 3, 1) := by decide +kernel
theorem dX11_hold_27 : decode cX11_hold 27 = .ok (.aload_n 0, 1) := by decide +kernel
theorem dX11_hold_28 : decode cX11_hold 28 = .ok (.getfield 22, 3) := by decide +kernel
theorem dX11_hold_31 : decode cX11_hold 31 = .ok (.iload_n 1, 1) := by decide +kernel
theorem dX11_hold_32 : decode cX11_hold 32 = .ok (.iload_n 2, 1) := by decide +kernel
theorem dX11_hold_33 : decode cX11_hold 33 = .ok (.bastore, 1) := by decide +kernel
theorem dX11_hold_34 : decode cX11_hold 34 = .ok (.iload_n 2, 1) := by decide +kernel
theorem dX11_hold_35 : decode cX11_hold 35 = .ok (.ifCond .eq 17, 3) := by decide +kernel
theorem dX11_hold_38 : decode cX11_hold 38 = .ok (.aload_n 0, 1) := by decide +kernel
theorem dX11_hold_39 : decode cX11_hold 39 = .ok (.getfield 16, 3) := by decide +kernel
theorem dX11_hold_42 : decode cX11_hold 42 = .ok (.iload_n 1, 1) := by decide +kernel
theorem dX11_hold_43 : decode cX11_hold 43 = .ok (.iconst 0, 1) := by decide +kernel
theorem dX11_hold_44 : decode cX11_hold 44 = .ok (.iastore, 1) := by decide +kernel
theorem dX11_hold_45 : decode cX11_hold 45 = .ok (.aload_n 0, 1) := by decide +kernel
theorem dX11_hold_46 : decode cX11_hold 46 = .ok (.getfield 19, 3) := by decide +kernel
theorem dX11_hold_49 : decode cX11_hold 49 = .ok (.iload_n 1, 1) := by decide +kernel
theorem dX11_hold_50 : decode cX11_hold 50 = .ok (.iconst 0, 1) := by decide +kernel
theorem dX11_hold_51 : decode cX11_hold 51 = .ok (.iastore, 1) := by decide +kernel
theorem dX11_hold_52 : decode cX11_hold 52 = .ok (.iload_n 3, 1) := by decide +kernel
theorem dX11_hold_53 : decode cX11_hold 53 = .ok (.ireturn, 1) := by decide +kernel
theorem dX11_rod_0 : decode cX11_rod 0 = .ok (.iload_n 1, 1) := by decide +kernel
theorem dX11_rod_1 : decode cX11_rod 1 = .ok (.ifCond .lt 29, 3) := by decide +kernel
theorem dX11_rod_4 : decode cX11_rod 4 = .ok (.iload_n 1, 1) := by decide +kernel
theorem dX11_rod_5 : decode cX11_rod 5 = .ok (.iconst 4, 1) := by decide +kernel
theorem dX11_rod_6 : decode cX11_rod 6 = .ok (.if_icmp .gt 24, 3) := by decide +kernel
theorem dX11_rod_9 : decode cX11_rod 9 = .ok (.aload_n 0, 1) := by decide +kernel
theorem dX11_rod_10 : decode cX11_rod 10 = .ok (.iload_n 2, 1) := by decide +kernel
theorem dX11_rod_11 : decode cX11_rod 11 = .ok (.invokevirtual 175, 3) := by decide +kernel
theorem dX11_rod_14 : decode cX11_rod 14 = .ok (.ifCond .eq 16, 3) := by decide +kernel
theorem dX11_rod_17 : decode cX11_rod 17 = .ok (.aload_n 0, 1) := by decide +kernel
theorem dX11_rod_18 : decode cX11_rod 18 = .ok (.iload_n 3, 1) := by decide +kernel
theorem dX11_rod_19 : decode cX11_rod 19 = .ok (.invokevirtual 175, 3) := by decide +kernel
theorem dX11_rod_22 : decode cX11_rod 22 = .ok (.ifCond .eq 8, 3) := by decide +kernel
theorem dX11_rod_25 : decode cX11_rod 25 = .ok (.iload_n 2, 1) := by decide +kernel
theorem dX11_rod_26 : decode cX11_rod 26 = .ok (.iload_n 3, 1) := by decide +kernel
theorem dX11_rod_27 : decode cX11_rod 27 = .ok (.if_icmp .ne 6, 3) := by decide +kernel
theorem dX11_rod_30 : decode cX11_rod 30 = .ok (.bipush (-2), 2) := by decide +kernel
theorem dX11_rod_32 : decode cX11_rod 32 = .ok (.ireturn, 1) := by decide +kernel
theorem dX11_rod_33 : decode cX11_rod 33 = .ok (.iload_n 1, 1) := by decide +kernel
theorem dX11_rod_34 : decode cX11_rod 34 = .ok (.iconst 3, 1) := by decide +kernel
theorem dX11_rod_35 : decode cX11_rod 35 = .ok (.if_icmp .ne 20, 3) := by decide +kernel
theorem dX11_rod_38 : decode cX11_rod 38 = .ok (.iload 4, 2) := by decide +kernel
theorem dX11_rod_40 : decode cX11_rod 40 = .ok (.iconst 1, 1) := by decide +kernel
theorem dX11_rod_41 : decode cX11_rod 41 = .ok (.if_icmp .lt 19, 3) := by decide +kernel
theorem dX11_rod_44 : decode cX11_rod 44 = .ok (.iload 4, 2) := by decide +kernel
theorem dX11_rod_46 : decode cX11_rod 46 = .ok (.sipush 1000, 3) := by decide +kernel
theorem dX11_rod_49 : decode cX11_rod 49 = .ok (.if_icmp .le 14, 3) := by decide +kernel
theorem dX11_rod_52 : decode cX11_rod 52 = .ok (.goto 8, 3) := by decide +kernel
theorem dX11_rod_55 : decode cX11_rod 55 = .ok (.iload 4, 2) := by decide +kernel
theorem dX11_rod_57 : decode cX11_rod 57 = .ok (.ifCond .eq 6, 3) := by decide +kernel
theorem dX11_rod_60 : decode cX11_rod 60 = .ok (.bipush (-2), 2) := by decide +kernel
theorem dX11_rod_62 : decode cX11_rod 62 = .ok (.ireturn, 1) := by decide +kernel
theorem dX11_rod_63 : decode cX11_rod 63 = .ok (.iconst 0, 1) := by decide +kernel
theorem dX11_rod_64 : decode cX11_rod 64 = .ok (.istore 5, 2) := by decide +kernel
theorem dX11_rod_66 : decode cX11_rod 66 = .ok (.iload 5, 2) := by decide +kernel
theorem dX11_rod_68 : decode cX11_rod 68 = .ok (.aload_n 0, 1) := by decide +kernel
theorem dX11_rod_69 : decode cX11_rod 69 = .ok (.getfield 91, 3) := by decide +kernel
theorem dX11_rod_72 : decode cX11_rod 72 = .ok (.if_icmp .ge 56, 3) := by decide +kernel
theorem dX11_rod_75 : decode cX11_rod 75 = .ok (.aload_n 0, 1) := by decide +kernel
theorem dX11_rod_76 : decode cX11_rod 76 = .ok (.getfield 29, 3) := by decide +kernel
theorem dX11_rod_79 : decode cX11_rod 79 = .ok (.iload 5, 2) := by decide +kernel
theorem dX11_rod_81 : decode cX11_rod 81 = .ok (.iaload, 1) := by decide +kernel
theorem dX11_rod_82 : decode cX11_rod 82 = .ok (.iload_n 2, 1) := by decide +kernel
theorem dX11_rod_83 : decode cX11_rod 83 = .ok (.if_icmp .ne 14, 3) := by decide +kernel
theorem dX11_rod_86 : decode cX11_rod 86 = .ok (.aload_n 0, 1) := by decide +kernel
theorem dX11_rod_87 : decode cX11_rod 87 = .ok (.getfield 32, 3) := by decide +kernel
theorem dX11_rod_90 : decode cX11_rod 90 = .ok (.iload 5, 2) := by decide +kernel
theorem dX11_rod_92 : decode cX11_rod 92 = .ok (.iaload, 1) := by decide +kernel
theorem dX11_rod_93 : decode cX11_rod 93 = .ok (.iload_n 3, 1) := by decide +kernel
theorem dX11_rod_94 : decode cX11_rod 94 = .ok (.if_icmp .eq 25, 3) := by decide +kernel
theorem dX11_rod_97 : decode cX11_rod 97 = .ok (.aload_n 0, 1) := by decide +kernel
theorem dX11_rod_98 : decode cX11_rod 98 = .ok (.getfield 29, 3) := by decide +kernel
theorem dX11_rod_101 : decode cX11_rod 101 = .ok (.iload 5, 2) := by decide +kernel
theorem dX11_rod_103 : decode cX11_rod 103 = .ok (.iaload, 1) := by decide +kernel
theorem dX11_rod_104 : decode cX11_rod 104 = .ok (.iload_n 3, 1) := by decide +kernel
theorem dX11_rod_105 : decode cX11_rod 105 = .ok (.if_icmp .ne 17, 3) := by decide +kernel
theorem dX11_rod_108 : decode cX11_rod 108 = .ok (.aload_n 0, 1) := by decide +kernel
theorem dX11_rod_109 : decode cX11_rod 109 = .ok (.getfield 32, 3) := by decide +kernel
theorem dX11_rod_112 : decode cX11_rod 112 = .ok (.iload 5, 2) := by decide +kernel
theorem dX11_rod_114 : decode cX11_rod 114 = .ok (.iaload, 1) := by decide +kernel
theorem dX11_rod_115 : decode cX11_rod 115 = .ok (.iload_n 2, 1) := by decide +kernel
theorem dX11_rod_116 : decode cX11_rod 116 = .ok (.if_icmp .ne 6, 3) := by decide +kernel
theorem dX11_rod_119 : decode cX11_rod 119 = .ok (.bipush (-3), 2) := by decide +kernel
theorem dX11_rod_121 : decode cX11_rod 121 = .ok (.ireturn, 1) := by decide +kernel
theorem dX11_rod_122 : decode cX11_rod 122 = .ok (.iinc 5 1, 3) := by decide +kernel
theorem dX11_rod_125 : decode cX11_rod 125 = .ok (.goto (-59), 3) := by decide +kernel
theorem dX11_rod_128 : decode cX11_rod 128 = .ok (.aload_n 0, 1) := by decide +kernel
theorem dX11_rod_129 : decode cX11_rod 129 = .ok (.getfield 91, 3) := by decide +kernel
theorem dX11_rod_132 : decode cX11_rod 132 = .ok (.bipush 15, 2) := by decide +kernel
theorem dX11_rod_134 : decode cX11_rod 134 = .ok (.if_icmp .ne 6, 3) := by decide +kernel
theorem dX11_rod_137 : decode cX11_rod 137 = .ok (.bipush (-4), 2) := by decide +kernel
theorem dX11_rod_139 : decode cX11_rod 139 = .ok (.ireturn, 1) := by decide +kernel
theorem dX11_rod_140 : decode cX11_rod 140 = .ok (.aload_n 0, 1) := by decide +kernel
theorem dX11_rod_141 : decode cX11_rod 141 = .ok (.getfield 26, 3) := by decide +kernel
theorem dX11_rod_144 : decode cX11_rod 144 = .ok (.aload_n 0, 1) := by decide +kernel
theorem dX11_rod_145 : decode cX11_rod 145 = .ok (.getfield 91, 3) := by decide +kernel
theorem dX11_rod_148 : decode cX11_rod 148 = .ok (.iload_n 1, 1) := by decide +kernel
theorem dX11_rod_149 : decode cX11_rod 149 = .ok (.iastore, 1) := by decide +kernel
theorem dX11_rod_150 : decode cX11_rod 150 = .ok (.aload_n 0, 1) := by decide +kernel
theorem dX11_rod_151 : decode cX11_rod 151 = .ok (.getfield 29, 3) := by decide +kernel
theorem dX11_rod_154 : decode cX11_rod 154 = .ok (.aload_n 0, 1) := by decide +kernel
theorem dX11_rod_155 : decode cX11_rod 155 = .ok (.getfield 91, 3) := by decide +kernel
theorem dX11_rod_158 : decode cX11_rod 158 = .ok (.iload_n 2, 1) := by decide +kernel
theorem dX11_rod_159 : decode cX11_rod 159 = .ok (.iastore, 1) := by decide +kernel
theorem dX11_rod_160 : decode cX11_rod 160 = .ok (.aload_n 0, 1) := by decide +kernel
theorem dX11_rod_161 : decode cX11_rod 161 = .ok (.getfield 32, 3) := by decide +kernel
theorem dX11_rod_164 : decode cX11_rod 164 = .ok (.aload_n 0, 1) := by decide +kernel
theorem dX11_rod_165 : decode cX11_rod 165 = .ok (.getfield 91, 3) := by decide +kernel
theorem dX11_rod_168 : decode cX11_rod 168 = .ok (.iload_n 3, 1) := by decide +kernel
theorem dX11_rod_169 : decode cX11_rod 169 = .ok (.iastore, 1) := by decide +kernel
theorem dX11_rod_170 : decode cX11_rod 170 = .ok (.aload_n 0, 1) := by decide +kernel
theorem dX11_rod_171 : decode cX11_rod 171 = .ok (.getfield 35, 3) := by decide +kernel
theorem dX11_rod_174 : decode cX11_rod 174 = .ok (.aload_n 0, 1) := by decide +kernel
theorem dX11_rod_175 : decode cX11_rod 175 = .ok (.getfield 91, 3) := by decide +kernel
theorem dX11_rod_178 : decode cX11_rod 178 = .ok (.iload 4, 2) := by decide +kernel
theorem dX11_rod_180 : decode cX11_rod 180 = .ok (.iastore, 1) := by decide +kernel
theorem dX11_rod_181 : decode cX11_rod 181 = .ok (.aload_n 0, 1) := by decide +kernel
theorem dX11_rod_182 : decode cX11_rod 182 = .ok (.getfield 38, 3) := by decide +kernel
theorem dX11_rod_185 : decode cX11_rod 185 = .ok (.aload_n 0, 1) := by decide +kernel
theorem dX11_rod_186 : decode cX11_rod 186 = .ok (.getfield 91, 3) := by decide +kernel
theorem dX11_rod_189 : decode cX11_rod 189 = .ok (.iload_n 1, 1) := by decide +kernel
theorem dX11_rod_190 : decode cX11_rod 190 = .ok (.iconst 2, 1) := by decide +kernel
theorem dX11_rod_191 : decode cX11_rod 191 = .ok (.if_icmp .gt 7, 3) := by decide +kernel
theorem dX11_rod_194 : decode cX11_rod 194 = .ok (.iconst 1, 1) := by decide +kernel
theorem dX11_rod_195 : decode cX11_rod 195 = .ok (.goto 4, 3) := by decide +kernel
theorem dX11_rod_198 : decode cX11_rod 198 = .ok (.iconst 0, 1) := by decide +kernel
theorem dX11_rod_199 : decode cX11_rod 199 = .ok (.bastore, 1) := by decide +kernel
theorem dX11_rod_200 : decode cX11_rod 200 = .ok (.aload_n 0, 1) := by decide +kernel
theorem dX11_rod_201 : decode cX11_rod 201 = .ok (.dup, 1) := by decide +kernel
theorem dX11_rod_202 : decode cX11_rod 202 = .ok (.getfield 91, 3) := by decide +kernel
theorem dX11_rod_205 : decode cX11_rod 205 = .ok (.dup_x1, 1) := by decide +kernel
theorem dX11_rod_206 : decode cX11_rod 206 = .ok (.iconst 1, 1) := by decide +kernel
theorem dX11_rod_207 : decode cX11_rod 207 = .ok (.iadd, 1) := by decide +kernel
theorem dX11_rod_208 : decode cX11_rod 208 = .ok (.putfield 91, 3) := by decide +kernel
theorem dX11_rod_211 : decode cX11_rod 211 = .ok (.ireturn, 1) := by decide +kernel
theorem dX11_put_0 : decode cX11_put 0 = .ok (.aload_n 0, 1) := by decide +kernel
theorem dX11_put_1 : decode cX11_put 1 = .ok (.iload_n 1, 1) := by decide +kernel
theorem dX11_put_2 : decode cX11_put 2 = .ok (.invokevirtual 178, 3) := by decide +kernel
theorem dX11_put_5 : decode cX11_put 5 = .ok (.ifCond .eq 13, 3) := by decide +kernel
theorem dX11_put_8 : decode cX11_put 8 = .ok (.aload_n 0, 1) := by decide +kernel
theorem dX11_put_9 : decode cX11_put 9 = .ok (.getfield 26, 3) := by decide +kernel
theorem dX11_put_12 : decode cX11_put 12 = .ok (.iload_n 1, 1) := by decide +kernel
theorem dX11_put_13 : decode cX11_put 13 = .ok (.iaload, 1) := by decide +kernel
theorem dX11_put_14 : decode cX11_put 14 = .ok (.iconst 3, 1) := by decide +kernel
theorem dX11_put_15 : decode cX11_put 15 = .ok (.if_icmp .ge 6, 3) := by decide +kernel
theorem dX11_put_18 : decode cX11_put 18 = .ok (.bipush (-2), 2) := by decide +kernel
theorem dX11_put_20 : decode cX11_put 20 = .ok (.ireturn, 1) := by decide +kernel
theorem dX11_put_21 : decode cX11_put 21 = .ok (.aload_n 0, 1) := by decide +kernel
theorem dX11_put_22 : decode cX11_put 22 = .ok (.getfield 38, 3) := by decide +kernel
theorem dX11_put_25 : decode cX11_put 25 = .ok (.iload_n 1, 1) := by decide +kernel
theorem dX11_put_26 : decode cX11_put 26 = .ok (.baload, 1) := by decide +kernel
theorem dX11_put_27 : decode cX11_put 27 = .ok (.iload_n 2, 1) := by decide +kernel
theorem dX11_put_28 : decode cX11_put 28 = .ok (.if_icmp .eq 7, 3) := by decide +kernel
theorem dX11_put_31 : decode cX11_put 31 = .ok (.iconst 1, 1) := by decide +kernel
theorem dX11_put_32 : decode cX11_put 32 = .ok (.goto 4, 3) := by decide +kernel
theorem dX11_put_35 : decode cX11_put 35 = .ok (.iconst 0, 1) := by decide +kernel
theorem dX11_put_36 : decode cX11_put 36 = .ok (.istore_n 3, 1) := by decide +kernel
theorem dX11_put_37 : decode cX11_put 37 = .ok (.aload_n 0, 1) := by decide +kernel
theorem dX11_put_38 : decode cX11_put 38 = .ok (.getfield 38, 3) := by decide +kernel
theorem dX11_put_41 : decode cX11_put 41 = .ok (.iload_n 1, 1) := by decide +kernel
theorem dX11_put_42 : decode cX11_put 42 = .ok (.iload_n 2, 1) := by decide +kernel
theorem dX11_put_43 : decode cX11_put 43 = .ok (.bastore, 1) := by decide +kernel
theorem dX11_put_44 : decode cX11_put 44 = .ok (.iload_n 3, 1) := by decide +kernel
theorem dX11_put_45 : decode cX11_put 45 = .ok (.ireturn, 1) := by decide +kernel
theorem dX11_count_0 : decode cX11_count 0 = .ok (.iload_n 1, 1) := by decide +kernel
theorem dX11_count_1 : decode cX11_count 1 = .ok (.tableswitch 155 0 9 #[55, 60, 65, 70, 75, 80, 85, 97, 106, 124], 55) := by decide +kernel
theorem dX11_count_56 : decode cX11_count 56 = .ok (.aload_n 0, 1) := by decide +kernel
theorem dX11_count_57 : decode cX11_count 57 = .ok (.getfield 87, 3) := by decide +kernel
theorem dX11_count_60 : decode cX11_count 60 = .ok (.ireturn, 1) := by decide +kernel
theorem dX11_count_61 : decode cX11_count 61 = .ok (.aload_n 0, 1) := by decide +kernel
theorem dX11_count_62 : decode cX11_count 62 = .ok (.invokevirtual 112, 3) := by decide +kernel
theorem dX11_count_65 : decode cX11_count 65 = .ok (.ireturn, 1) := by decide +kernel
theorem dX11_count_66 : decode cX11_count 66 = .ok (.aload_n 0, 1) := by decide +kernel
theorem dX11_count_67 : decode cX11_count 67 = .ok (.getfield 91, 3) := by decide +kernel
theorem dX11_count_70 : decode cX11_count 70 = .ok (.ireturn, 1) := by decide +kernel
theorem dX11_count_71 : decode cX11_count 71 = .ok (.aload_n 0, 1) := by decide +kernel
theorem dX11_count_72 : decode cX11_count 72 = .ok (.invokevirtual 181, 3) := by decide +kernel
theorem dX11_count_75 : decode cX11_count 75 = .ok (.ireturn, 1) := by decide +kernel
theorem dX11_count_76 : decode cX11_count 76 = .ok (.aload_n 0, 1) := by decide +kernel
theorem dX11_count_77 : decode cX11_count 77 = .ok (.invokevirtual 184, 3) := by decide +kernel
theorem dX11_count_80 : decode cX11_count 80 = .ok (.ireturn, 1) := by decide +kernel
theorem dX11_count_81 : decode cX11_count 81 = .ok (.aload_n 0, 1) := by decide +kernel
theorem dX11_count_82 : decode cX11_count 82 = .ok (.invokevirtual 129, 3) := by decide +kernel
theorem dX11_count_85 : decode cX11_count 85 = .ok (.ireturn, 1) := by decide +kernel
theorem dX11_count_86 : decode cX11_count 86 = .ok (.iconst 2, 1) := by decide +kernel
theorem dX11_count_87 : decode cX11_count 87 = .ok (.aload_n 0, 1) := by decide +kernel
theorem dX11_count_88 : decode cX11_count 88 = .ok (.invokevirtual 112, 3) := by decide +kernel
theorem dX11_count_91 : decode cX11_count 91 = .ok (.imul, 1) := by decide +kernel
theorem dX11_count_92 : decode cX11_count 92 = .ok (.aload_n 0, 1) := by decide +kernel
theorem dX11_count_93 : decode cX11_count 93 = .ok (.invokevirtual 184, 3) := by decide +kernel
theorem dX11_count_96 : decode cX11_count 96 = .ok (.isub, 1) := by decide +kernel
theorem dX11_count_97 : decode cX11_count 97 = .ok (.ireturn, 1) := by decide +kernel
theorem dX11_count_98 : decode cX11_count 98 = .ok (.aload_n 0, 1) := by decide +kernel
theorem dX11_count_99 : decode cX11_count 99 = .ok (.invokevirtual 187, 3) := by decide +kernel
theorem dX11_count_102 : decode cX11_count 102 = .ok (.aload_n 0, 1) := by decide +kernel
theorem dX11_count_103 : decode cX11_count 103 = .ok (.getfield 153, 3) := by decide +kernel
theorem dX11_count_106 : decode cX11_count 106 = .ok (.ireturn, 1) := by decide +kernel
theorem dX11_count_107 : decode cX11_count 107 = .ok (.aload_n 0, 1) := by decide +kernel
theorem dX11_count_108 : decode cX11_count 108 = .ok (.invokevirtual 181, 3) := by decide +kernel
theorem dX11_count_111 : decode cX11_count 111 = .ok (.aload_n 0, 1) := by decide +kernel
theorem dX11_count_112 : decode cX11_count 112 = .ok (.iconst 1, 1) := by decide +kernel
theorem dX11_count_113 : decode cX11_count 113 = .ok (.aload_n 0, 1) := by decide +kernel
theorem dX11_count_114 : decode cX11_count 114 = .ok (.getfield 87, 3) := by decide +kernel
theorem dX11_count_117 : decode cX11_count 117 = .ok (.ishl, 1) := by decide +kernel
theorem dX11_count_118 : decode cX11_count 118 = .ok (.iconst 1, 1) := by decide +kernel
theorem dX11_count_119 : decode cX11_count 119 = .ok (.isub, 1) := by decide +kernel
theorem dX11_count_120 : decode cX11_count 120 = .ok (.invokevirtual 156, 3) := by decide +kernel
theorem dX11_count_123 : decode cX11_count 123 = .ok (.isub, 1) := by decide +kernel
theorem dX11_count_124 : decode cX11_count 124 = .ok (.ireturn, 1) := by decide +kernel
theorem dX11_count_125 : decode cX11_count 125 = .ok (.iconst 0, 1) := by decide +kernel
theorem dX11_count_126 : decode cX11_count 126 = .ok (.istore_n 2, 1) := by decide +kernel
theorem dX11_count_127 : decode cX11_count 127 = .ok (.iconst 0, 1) := by decide +kernel
theorem dX11_count_128 : decode cX11_count 128 = .ok (.istore_n 3, 1) := by decide +kernel
theorem dX11_count_129 : decode cX11_count 129 = .ok (.iload_n 3, 1) := by decide +kernel
theorem dX11_count_130 : decode cX11_count 130 = .ok (.aload_n 0, 1) := by decide +kernel
theorem dX11_count_131 : decode cX11_count 131 = .ok (.getfield 91, 3) := by decide +kernel
theorem dX11_count_134 : decode cX11_count 134 = .ok (.if_icmp .ge 20, 3) := by decide +kernel
theorem dX11_count_137 : decode cX11_count 137 = .ok (.aload_n 0, 1) := by decide +kernel
theorem dX11_count_138 : decode cX11_count 138 = .ok (.iload_n 3, 1) := by decide +kernel
theorem dX11_count_139 : decode cX11_count 139 = .ok (.invokevirtual 190, 3) := by decide +kernel
theorem dX11_count_142 : decode cX11_count 142 = .ok (.ifCond .eq 6, 3) := by decide +kernel
theorem dX11_count_145 : decode cX11_count 145 = .ok (.iinc 2 1, 3) := by decide +kernel
theorem dX11_count_148 : decode cX11_count 148 = .ok (.iinc 3 1, 3) := by decide +kernel
theorem dX11_count_151 : decode cX11_count 151 = .ok (.goto (-22), 3) := by decide +kernel
theorem dX11_count_154 : decode cX11_count 154 = .ok (.iload_n 2, 1) := by decide +kernel
theorem dX11_count_155 : decode cX11_count 155 = .ok (.ireturn, 1) := by decide +kernel
theorem dX11_count_156 : decode cX11_count 156 = .ok (.bipush (-2), 2) := by decide +kernel
theorem dX11_count_158 : decode cX11_count 158 = .ok (.ireturn, 1) := by decide +kernel
theorem dX11_pinTold_0 : decode cX11_pinTold 0 = .ok (.aload_n 0, 1) := by decide +kernel
theorem dX11_pinTold_1 : decode cX11_pinTold 1 = .ok (.iload_n 1, 1) := by decide +kernel
theorem dX11_pinTold_2 : decode cX11_pinTold 2 = .ok (.invokevirtual 175, 3) := by decide +kernel
theorem dX11_pinTold_5 : decode cX11_pinTold 5 = .ok (.ifCond .ne 6, 3) := by decide +kernel
theorem dX11_pinTold_8 : decode cX11_pinTold 8 = .ok (.bipush (-2), 2) := by decide +kernel
theorem dX11_pinTold_10 : decode cX11_pinTold 10 = .ok (.ireturn, 1) := by decide +kernel
theorem dX11_pinTold_11 : decode cX11_pinTold 11 = .ok (.iload_n 2, 1) := by decide +kernel
theorem dX11_pinTold_12 : decode cX11_pinTold 12 = .ok (.tableswitch 140 0 5 #[40, 47, 54, 69, 126, 133], 40) := by decide +kernel
theorem dX11_pinTold_52 : decode cX11_pinTold 52 = .ok (.aload_n 0, 1) := by decide +kernel
theorem dX11_pinTold_53 : decode cX11_pinTold 53 = .ok (.getfield 7, 3) := by decide +kernel
theorem dX11_pinTold_56 : decode cX11_pinTold 56 = .ok (.iload_n 1, 1) := by decide +kernel
theorem dX11_pinTold_57 : decode cX11_pinTold 57 = .ok (.iaload, 1) := by decide +kernel
theorem dX11_pinTold_58 : decode cX11_pinTold 58 = .ok (.ireturn, 1) := by decide +kernel
theorem dX11_pinTold_59 : decode cX11_pinTold 59 = .ok (.aload_n 0, 1) := by decide +kernel
theorem dX11_pinTold_60 : decode cX11_pinTold 60 = .ok (.getfield 13, 3) := by decide +kernel
theorem dX11_pinTold_63 : decode cX11_pinTold 63 = .ok (.iload_n 1, 1) := by decide +kernel
theorem dX11_pinTold_64 : decode cX11_pinTold 64 = .ok (.iaload, 1) := by decide +kernel
theorem dX11_pinTold_65 : decode cX11_pinTold 65 = .ok (.ireturn, 1) := by decide +kernel
theorem dX11_pinTold_66 : decode cX11_pinTold 66 = .ok (.aload_n 0, 1) := by decide +kernel
theorem dX11_pinTold_67 : decode cX11_pinTold 67 = .ok (.getfield 22, 3) := by decide +kernel
theorem dX11_pinTold_70 : decode cX11_pinTold 70 = .ok (.iload_n 1, 1) := by decide +kernel
theorem dX11_pinTold_71 : decode cX11_pinTold 71 = .ok (.baload, 1) := by decide +kernel
theorem dX11_pinTold_72 : decode cX11_pinTold 72 = .ok (.ifCond .eq 7, 3) := by decide +kernel
theorem dX11_pinTold_75 : decode cX11_pinTold 75 = .ok (.iconst 1, 1) := by decide +kernel
theorem dX11_pinTold_76 : decode cX11_pinTold 76 = .ok (.goto 4, 3) := by decide +kernel
theorem dX11_pinTold_79 : decode cX11_pinTold 79 = .ok (.iconst 0, 1) := by decide +kernel
theorem dX11_pinTold_80 : decode cX11_pinTold 80 = .ok (.ireturn, 1) := by decide +kernel
theorem dX11_pinTold_81 : decode cX11_pinTold 81 = .ok (.iconst 0, 1) := by decide +kernel
theorem dX11_pinTold_82 : decode cX11_pinTold 82 = .ok (.istore_n 3, 1) := by decide +kernel
theorem dX11_pinTold_83 : decode cX11_pinTold 83 = .ok (.iconst 0, 1) := by decide +kernel
theorem dX11_pinTold_84 : decode cX11_pinTold 84 = .ok (.istore 4, 2) := by decide +kernel
theorem dX11_pinTold_86 : decode cX11_pinTold 86 = .ok (.iload 4, 2) := by decide +kernel
theorem dX11_pinTold_88 : decode cX11_pinTold 88 = .ok (.aload_n 0, 1) := by decide +kernel
theorem dX11_pinTold_89 : decode cX11_pinTold 89 = .ok (.getfield 91, 3) := by decide +kernel
theorem dX11_pinTold_92 : decode cX11_pinTold 92 = .ok (.if_icmp .ge 44, 3) := by decide +kernel
theorem dX11_pinTold_95 : decode cX11_pinTold 95 = .ok (.aload_n 0, 1) := by decide +kernel
theorem dX11_pinTold_96 : decode cX11_pinTold 96 = .ok (.getfield 38, 3) := by decide +kernel
theorem dX11_pinTold_99 : decode cX11_pinTold 99 = .ok (.iload 4, 2) := by decide +kernel
theorem dX11_pinTold_101 : decode cX11_pinTold 101 = .ok (.baload, 1) := by decide +kernel
theorem dX11_pinTold_102 : decode cX11_pinTold 102 = .ok (.ifCond .eq 28, 3) := by decide +kernel
theorem dX11_pinTold_105 : decode cX11_pinTold 105 = .ok (.aload_n 0, 1) := by decide +kernel
theorem dX11_pinTold_106 : decode cX11_pinTold 106 = .ok (.getfield 29, 3) := by decide +kernel
theorem dX11_pinTold_109 : decode cX11_pinTold 109 = .ok (.iload 4, 2) := by decide +kernel
theorem dX11_pinTold_111 : decode cX11_pinTold 111 = .ok (.iaload, 1) := by decide +kernel
theorem dX11_pinTold_112 : decode cX11_pinTold 112 = .ok (.iload_n 1, 1) := by decide +kernel
theorem dX11_pinTold_113 : decode cX11_pinTold 113 = .ok (.if_icmp .eq 14, 3) := by decide +kernel
theorem dX11_pinTold_116 : decode cX11_pinTold 116 = .ok (.aload_n 0, 1) := by decide +kernel
theorem dX11_pinTold_117 : decode cX11_pinTold 117 = .ok (.getfield 32, 3) := by decide +kernel
theorem dX11_pinTold_120 : decode cX11_pinTold 120 = .ok (.iload 4, 2) := by decide +kernel
theorem dX11_pinTold_122 : decode cX11_pinTold 122 = .ok (.iaload, 1) := by decide +kernel
theorem dX11_pinTold_123 : decode cX11_pinTold 123 = .ok (.iload_n 1, 1) := by decide +kernel
theorem dX11_pinTold_124 : decode cX11_pinTold 124 = .ok (.if_icmp .ne 6, 3) := by decide +kernel
theorem dX11_pinTold_127 : decode cX11_pinTold 127 = .ok (.iinc 3 1, 3) := by decide +kernel
theorem dX11_pinTold_130 : decode cX11_pinTold 130 = .ok (.iinc 4 1, 3) := by decide +kernel
theorem dX11_pinTold_133 : decode cX11_pinTold 133 = .ok (.goto (-47), 3) := by decide +kernel
theorem dX11_pinTold_136 : decode cX11_pinTold 136 = .ok (.iload_n 3, 1) := by decide +kernel
theorem dX11_pinTold_137 : decode cX11_pinTold 137 = .ok (.ireturn, 1) := by decide +kernel
theorem dX11_pinTold_138 : decode cX11_pinTold 138 = .ok (.aload_n 0, 1) := by decide +kernel
theorem dX11_pinTold_139 : decode cX11_pinTold 139 = .ok (.getfield 16, 3) := by decide +kernel
theorem dX11_pinTold_142 : decode cX11_pinTold 142 = .ok (.iload_n 1, 1) := by decide +kernel
theorem dX11_pinTold_143 : decode cX11_pinTold 143 = .ok (.iaload, 1) := by decide +kernel
theorem dX11_pinTold_144 : decode cX11_pinTold 144 = .ok (.ireturn, 1) := by decide +kernel
theorem dX11_pinTold_145 : decode cX11_pinTold 145 = .ok (.aload_n 0, 1) := by decide +kernel
theorem dX11_pinTold_146 : decode cX11_pinTold 146 = .ok (.getfield 19, 3) := by decide +kernel
theorem dX11_pinTold_149 : decode cX11_pinTold 149 = .ok (.iload_n 1, 1) := by decide +kernel
theorem dX11_pinTold_150 : decode cX11_pinTold 150 = .ok (.iaload, 1) := by decide +kernel
theorem dX11_pinTold_151 : decode cX11_pinTold 151 = .ok (.ireturn, 1) := by decide +kernel
theorem dX11_pinTold_152 : decode cX11_pinTold 152 = .ok (.bipush (-2), 2) := by decide +kernel
theorem dX11_pinTold_154 : decode cX11_pinTold 154 = .ok (.ireturn, 1) := by decide +kernel
theorem dX11_rodTold_0 : decode cX11_rodTold 0 = .ok (.aload_n 0, 1) := by decide +kernel
theorem dX11_rodTold_1 : decode cX11_rodTold 1 = .ok (.iload_n 1, 1) := by decide +kernel
theorem dX11_rodTold_2 : decode cX11_rodTold 2 = .ok (.invokevirtual 178, 3) := by decide +kernel
theorem dX11_rodTold_5 : decode cX11_rodTold 5 = .ok (.ifCond .ne 6, 3) := by decide +kernel
theorem dX11_rodTold_8 : decode cX11_rodTold 8 = .ok (.bipush (-2), 2) := by decide +kernel
theorem dX11_rodTold_10 : decode cX11_rodTold 10 = .ok (.ireturn, 1) := by decide +kernel
theorem dX11_rodTold_11 : decode cX11_rodTold 11 = .ok (.iload_n 2, 1) := by decide +kernel
theorem dX11_rodTold_12 : decode cX11_rodTold 12 = .ok (.tableswitch 139 0 6 #[44, 51, 58, 65, 72, 87, 101], 44) := by decide +kernel
theorem dX11_rodTold_56 : decode cX11_rodTold 56 = .ok (.aload_n 0, 1) := by decide +kernel
theorem dX11_rodTold_57 : decode cX11_rodTold 57 = .ok (.getfield 26, 3) := by decide +kernel
theorem dX11_rodTold_60 : decode cX11_rodTold 60 = .ok (.iload_n 1, 1) := by decide +kernel
theorem dX11_rodTold_61 : decode cX11_rodTold 61 = .ok (.iaload, 1) := by decide +kernel
theorem dX11_rodTold_62 : decode cX11_rodTold 62 = .ok (.ireturn, 1) := by decide +kernel
theorem dX11_rodTold_63 : decode cX11_rodTold 63 = .ok (.aload_n 0, 1) := by decide +kernel
theorem dX11_rodTold_64 : decode cX11_rodTold 64 = .ok (.getfield 29, 3) := by decide +kernel
theorem dX11_rodTold_67 : decode cX11_rodTold 67 = .ok (.iload_n 1, 1) := by decide +kernel
theorem dX11_rodTold_68 : decode cX11_rodTold 68 = .ok (.iaload, 1) := by decide +kernel
theorem dX11_rodTold_69 : decode cX11_rodTold 69 = .ok (.ireturn, 1) := by decide +kernel
theorem dX11_rodTold_70 : decode cX11_rodTold 70 = .ok (.aload_n 0, 1) := by decide +kernel
theorem dX11_rodTold_71 : decode cX11_rodTold 71 = .ok (.getfield 32, 3) := by decide +kernel
theorem dX11_rodTold_74 : decode cX11_rodTold 74 = .ok (.iload_n 1, 1) := by decide +kernel
theorem dX11_rodTold_75 : decode cX11_rodTold 75 = .ok (.iaload, 1) := by decide +kernel
theorem dX11_rodTold_76 : decode cX11_rodTold 76 = .ok (.ireturn, 1) := by decide +kernel
theorem dX11_rodTold_77 : decode cX11_rodTold 77 = .ok (.aload_n 0, 1) := by decide +kernel
theorem dX11_rodTold_78 : decode cX11_rodTold 78 = .ok (.getfield 35, 3) := by decide +kernel
theorem dX11_rodTold_81 : decode cX11_rodTold 81 = .ok (.iload_n 1, 1) := by decide +kernel
theorem dX11_rodTold_82 : decode cX11_rodTold 82 = .ok (.iaload, 1) := by decide +kernel
theorem dX11_rodTold_83 : decode cX11_rodTold 83 = .ok (.ireturn, 1) := by decide +kernel
theorem dX11_rodTold_84 : decode cX11_rodTold 84 = .ok (.aload_n 0, 1) := by decide +kernel
theorem dX11_rodTold_85 : decode cX11_rodTold 85 = .ok (.getfield 38, 3) := by decide +kernel
theorem dX11_rodTold_88 : decode cX11_rodTold 88 = .ok (.iload_n 1, 1) := by decide +kernel
theorem dX11_rodTold_89 : decode cX11_rodTold 89 = .ok (.baload, 1) := by decide +kernel
theorem dX11_rodTold_90 : decode cX11_rodTold 90 = .ok (.ifCond .eq 7, 3) := by decide +kernel
theorem dX11_rodTold_93 : decode cX11_rodTold 93 = .ok (.iconst 1, 1) := by decide +kernel
theorem dX11_rodTold_94 : decode cX11_rodTold 94 = .ok (.goto 4, 3) := by decide +kernel
theorem dX11_rodTold_97 : decode cX11_rodTold 97 = .ok (.iconst 0, 1) := by decide +kernel
theorem dX11_rodTold_98 : decode cX11_rodTold 98 = .ok (.ireturn, 1) := by decide +kernel
theorem dX11_rodTold_99 : decode cX11_rodTold 99 = .ok (.aload_n 0, 1) := by decide +kernel
theorem dX11_rodTold_100 : decode cX11_rodTold 100 = .ok (.iload_n 1, 1) := by decide +kernel
theorem dX11_rodTold_101 : decode cX11_rodTold 101 = .ok (.invokevirtual 190, 3) := by decide +kernel
theorem dX11_rodTold_104 : decode cX11_rodTold 104 = .ok (.ifCond .eq 7, 3) := by decide +kernel
theorem dX11_rodTold_107 : decode cX11_rodTold 107 = .ok (.iconst 1, 1) := by decide +kernel
theorem dX11_rodTold_108 : decode cX11_rodTold 108 = .ok (.goto 4, 3) := by decide +kernel
theorem dX11_rodTold_111 : decode cX11_rodTold 111 = .ok (.iconst 0, 1) := by decide +kernel
theorem dX11_rodTold_112 : decode cX11_rodTold 112 = .ok (.ireturn, 1) := by decide +kernel
theorem dX11_rodTold_113 : decode cX11_rodTold 113 = .ok (.aload_n 0, 1) := by decide +kernel
theorem dX11_rodTold_114 : decode cX11_rodTold 114 = .ok (.invokevirtual 187, 3) := by decide +kernel
theorem dX11_rodTold_117 : decode cX11_rodTold 117 = .ok (.iconst 0, 1) := by decide +kernel
theorem dX11_rodTold_118 : decode cX11_rodTold 118 = .ok (.istore_n 3, 1) := by decide +kernel
theorem dX11_rodTold_119 : decode cX11_rodTold 119 = .ok (.iload_n 3, 1) := by decide +kernel
theorem dX11_rodTold_120 : decode cX11_rodTold 120 = .ok (.aload_n 0, 1) := by decide +kernel
theorem dX11_rodTold_121 : decode cX11_rodTold 121 = .ok (.getfield 153, 3) := by decide +kernel
theorem dX11_rodTold_124 : decode cX11_rodTold 124 = .ok (.if_icmp .ge 25, 3) := by decide +kernel
theorem dX11_rodTold_127 : decode cX11_rodTold 127 = .ok (.aload_n 0, 1) := by decide +kernel
theorem dX11_rodTold_128 : decode cX11_rodTold 128 = .ok (.iload_n 1, 1) := by decide +kernel
theorem dX11_rodTold_129 : decode cX11_rodTold 129 = .ok (.aload_n 0, 1) := by decide +kernel
theorem dX11_rodTold_130 : decode cX11_rodTold 130 = .ok (.getfield 54, 3) := by decide +kernel
theorem dX11_rodTold_133 : decode cX11_rodTold 133 = .ok (.iload_n 3, 1) := by decide +kernel
theorem dX11_rodTold_134 : decode cX11_rodTold 134 = .ok (.iaload, 1) := by decide +kernel
theorem dX11_rodTold_135 : decode cX11_rodTold 135 = .ok (.invokevirtual 142, 3) := by decide +kernel
theorem dX11_rodTold_138 : decode cX11_rodTold 138 = .ok (.ifCond .eq 5, 3) := by decide +kernel
theorem dX11_rodTold_141 : decode cX11_rodTold 141 = .ok (.iload_n 3, 1) := by decide +kernel
theorem dX11_rodTold_142 : decode cX11_rodTold 142 = .ok (.ireturn, 1) := by decide +kernel
theorem dX11_rodTold_143 : decode cX11_rodTold 143 = .ok (.iinc 3 1, 3) := by decide +kernel
theorem dX11_rodTold_146 : decode cX11_rodTold 146 = .ok (.goto (-27), 3) := by decide +kernel
theorem dX11_rodTold_149 : decode cX11_rodTold 149 = .ok (.iconst (-1), 1) := by decide +kernel
theorem dX11_rodTold_150 : decode cX11_rodTold 150 = .ok (.ireturn, 1) := by decide +kernel
theorem dX11_rodTold_151 : decode cX11_rodTold 151 = .ok (.bipush (-2), 2) := by decide +kernel
theorem dX11_rodTold_153 : decode cX11_rodTold 153 = .ok (.ireturn, 1) := by decide +kernel
theorem dX11_motion_0 : decode cX11_motion 0 = .ok (.aload_n 0, 1) := by decide +kernel
theorem dX11_motion_1 : decode cX11_motion 1 = .ok (.iload_n 2, 1) := by decide +kernel
theorem dX11_motion_2 : decode cX11_motion 2 = .ok (.invokevirtual 175, 3) := by decide +kernel
theorem dX11_motion_5 : decode cX11_motion 5 = .ok (.ifCond .eq 24, 3) := by decide +kernel
theorem dX11_motion_8 : decode cX11_motion 8 = .ok (.iload_n 3, 1) := by decide +kernel
theorem dX11_motion_9 : decode cX11_motion 9 = .ok (.ifCond .lt 20, 3) := by decide +kernel
theorem dX11_motion_12 : decode cX11_motion 12 = .ok (.iload_n 3, 1) := by decide +kernel
theorem dX11_motion_13 : decode cX11_motion 13 = .ok (.iconst 1, 1) := by decide +kernel
theorem dX11_motion_14 : decode cX11_motion 14 = .ok (.if_icmp .gt 15, 3) := by decide +kernel
theorem dX11_motion_17 : decode cX11_motion 17 = .ok (.iload_n 1, 1) := by decide +kernel
theorem dX11_motion_18 : decode cX11_motion 18 = .ok (.ifCond .lt 11, 3) := by decide +kernel
theorem dX11_motion_21 : decode cX11_motion 21 = .ok (.iload_n 1, 1) := by decide +kernel
theorem dX11_motion_22 : decode cX11_motion 22 = .ok (.aload_n 0, 1) := by decide +kernel
theorem dX11_motion_23 : decode cX11_motion 23 = .ok (.invokevirtual 184, 3) := by decide +kernel
theorem dX11_motion_26 : decode cX11_motion 26 = .ok (.if_icmp .lt 7, 3) := by decide +kernel
theorem dX11_motion_29 : decode cX11_motion 29 = .ok (.ldc2_w 193, 3) := by decide +kernel
theorem dX11_motion_32 : decode cX11_motion 32 = .ok (.lreturn, 1) := by decide +kernel
theorem dX11_motion_33 : decode cX11_motion 33 = .ok (.aload_n 0, 1) := by decide +kernel
theorem dX11_motion_34 : decode cX11_motion 34 = .ok (.iload_n 2, 1) := by decide +kernel
theorem dX11_motion_35 : decode cX11_motion 35 = .ok (.invokevirtual 108, 3) := by decide +kernel
theorem dX11_motion_38 : decode cX11_motion 38 = .ok (.istore 4, 2) := by decide +kernel
theorem dX11_motion_40 : decode cX11_motion 40 = .ok (.iload 4, 2) := by decide +kernel
theorem dX11_motion_42 : decode cX11_motion 42 = .ok (.iconst (-1), 1) := by decide +kernel
theorem dX11_motion_43 : decode cX11_motion 43 = .ok (.if_icmp .ne 5, 3) := by decide +kernel
theorem dX11_motion_46 : decode cX11_motion 46 = .ok (.lconst 0, 1) := by decide +kernel
theorem dX11_motion_47 : decode cX11_motion 47 = .ok (.lreturn, 1) := by decide +kernel
theorem dX11_motion_48 : decode cX11_motion 48 = .ok (.aload_n 0, 1) := by decide +kernel
theorem dX11_motion_49 : decode cX11_motion 49 = .ok (.aload_n 0, 1) := by decide +kernel
theorem dX11_motion_50 : decode cX11_motion 50 = .ok (.iload_n 1, 1) := by decide +kernel
theorem dX11_motion_51 : decode cX11_motion 51 = .ok (.invokevirtual 135, 3) := by decide +kernel
theorem dX11_motion_54 : decode cX11_motion 54 = .ok (.invokevirtual 138, 3) := by decide +kernel
theorem dX11_motion_57 : decode cX11_motion 57 = .ok (.aload_n 0, 1) := by decide +kernel
theorem dX11_motion_58 : decode cX11_motion 58 = .ok (.getfield 48, 3) := by decide +kernel
theorem dX11_motion_61 : decode cX11_motion 61 = .ok (.iload 4, 2) := by decide +kernel
theorem dX11_motion_63 : decode cX11_motion 63 = .ok (.iload_n 3, 1) := by decide +kernel
theorem dX11_motion_64 : decode cX11_motion 64 = .ok (.iadd, 1) := by decide +kernel
theorem dX11_motion_65 : decode cX11_motion 65 = .ok (.laload, 1) := by decide +kernel
theorem dX11_motion_66 : decode cX11_motion 66 = .ok (.lreturn, 1) := by decide +kernel
theorem dX11_stress_0 : decode cX11_stress 0 = .ok (.aload_n 0, 1) := by decide +kernel
theorem dX11_stress_1 : decode cX11_stress 1 = .ok (.iload_n 2, 1) := by decide +kernel
theorem dX11_stress_2 : decode cX11_stress 2 = .ok (.invokevirtual 178, 3) := by decide +kernel
theorem dX11_stress_5 : decode cX11_stress 5 = .ok (.ifCond .eq 15, 3) := by decide +kernel
theorem dX11_stress_8 : decode cX11_stress 8 = .ok (.iload_n 1, 1) := by decide +kernel
theorem dX11_stress_9 : decode cX11_stress 9 = .ok (.ifCond .lt 11, 3) := by decide +kernel
theorem dX11_stress_12 : decode cX11_stress 12 = .ok (.iload_n 1, 1) := by decide +kernel
theorem dX11_stress_13 : decode cX11_stress 13 = .ok (.aload_n 0, 1) := by decide +kernel
theorem dX11_stress_14 : decode cX11_stress 14 = .ok (.invokevirtual 129, 3) := by decide +kernel
theorem dX11_stress_17 : decode cX11_stress 17 = .ok (.if_icmp .lt 7, 3) := by decide +kernel
theorem dX11_stress_20 : decode cX11_stress 20 = .ok (.ldc2_w 193, 3) := by decide +kernel
theorem dX11_stress_23 : decode cX11_stress 23 = .ok (.lreturn, 1) := by decide +kernel
theorem dX11_stress_24 : decode cX11_stress 24 = .ok (.aload_n 0, 1) := by decide +kernel
theorem dX11_stress_25 : decode cX11_stress 25 = .ok (.getfield 38, 3) := by decide +kernel
theorem dX11_stress_28 : decode cX11_stress 28 = .ok (.iload_n 2, 1) := by decide +kernel
theorem dX11_stress_29 : decode cX11_stress 29 = .ok (.baload, 1) := by decide +kernel
theorem dX11_stress_30 : decode cX11_stress 30 = .ok (.ifCond .ne 5, 3) := by decide +kernel
theorem dX11_stress_33 : decode cX11_stress 33 = .ok (.lconst 0, 1) := by decide +kernel
theorem dX11_stress_34 : decode cX11_stress 34 = .ok (.lreturn, 1) := by decide +kernel
theorem dX11_stress_35 : decode cX11_stress 35 = .ok (.aload_n 0, 1) := by decide +kernel
theorem dX11_stress_36 : decode cX11_stress 36 = .ok (.aload_n 0, 1) := by decide +kernel
theorem dX11_stress_37 : decode cX11_stress 37 = .ok (.iload_n 1, 1) := by decide +kernel
theorem dX11_stress_38 : decode cX11_stress 38 = .ok (.invokevirtual 135, 3) := by decide +kernel
theorem dX11_stress_41 : decode cX11_stress 41 = .ok (.invokevirtual 138, 3) := by decide +kernel
theorem dX11_stress_44 : decode cX11_stress 44 = .ok (.aload_n 0, 1) := by decide +kernel
theorem dX11_stress_45 : decode cX11_stress 45 = .ok (.getfield 48, 3) := by decide +kernel
theorem dX11_stress_48 : decode cX11_stress 48 = .ok (.aload_n 0, 1) := by decide +kernel
theorem dX11_stress_49 : decode cX11_stress 49 = .ok (.iload_n 2, 1) := by decide +kernel
theorem dX11_stress_50 : decode cX11_stress 50 = .ok (.invokevirtual 132, 3) := by decide +kernel
theorem dX11_stress_53 : decode cX11_stress 53 = .ok (.laload, 1) := by decide +kernel
theorem dX11_stress_54 : decode cX11_stress 54 = .ok (.lreturn, 1) := by decide +kernel
theorem dX11_stiff_0 : decode cX11_stiff 0 = .ok (.aload_n 0, 1) := by decide +kernel
theorem dX11_stiff_1 : decode cX11_stiff 1 = .ok (.aload_n 0, 1) := by decide +kernel
theorem dX11_stiff_2 : decode cX11_stiff 2 = .ok (.getfield 38, 3) := by decide +kernel
theorem dX11_stiff_5 : decode cX11_stiff 5 = .ok (.invokevirtual 195, 3) := by decide +kernel
theorem dX11_stiff_8 : decode cX11_stiff 8 = .ok (.ifCond .eq 7, 3) := by decide +kernel
theorem dX11_stiff_11 : decode cX11_stiff 11 = .ok (.iconst 1, 1) := by decide +kernel
theorem dX11_stiff_12 : decode cX11_stiff 12 = .ok (.goto 4, 3) := by decide +kernel
theorem dX11_stiff_15 : decode cX11_stiff 15 = .ok (.iconst 0, 1) := by decide +kernel
theorem dX11_stiff_16 : decode cX11_stiff 16 = .ok (.ireturn, 1) := by decide +kernel
theorem dX11_tight_0 : decode cX11_tight 0 = .ok (.aload_n 0, 1) := by decide +kernel
theorem dX11_tight_1 : decode cX11_tight 1 = .ok (.invokevirtual 129, 3) := by decide +kernel
theorem dX11_tight_4 : decode cX11_tight 4 = .ok (.iconst 1, 1) := by decide +kernel
theorem dX11_tight_5 : decode cX11_tight 5 = .ok (.if_icmp .eq 5, 3) := by decide +kernel
theorem dX11_tight_8 : decode cX11_tight 8 = .ok (.iconst (-1), 1) := by decide +kernel
theorem dX11_tight_9 : decode cX11_tight 9 = .ok (.ireturn, 1) := by decide +kernel
theorem dX11_tight_10 : decode cX11_tight 10 = .ok (.aload_n 0, 1) := by decide +kernel
theorem dX11_tight_11 : decode cX11_tight 11 = .ok (.aload_n 0, 1) := by decide +kernel
theorem dX11_tight_12 : decode cX11_tight 12 = .ok (.iconst 0, 1) := by decide +kernel
theorem dX11_tight_13 : decode cX11_tight 13 = .ok (.invokevirtual 135, 3) := by decide +kernel
theorem dX11_tight_16 : decode cX11_tight 16 = .ok (.invokevirtual 138, 3) := by decide +kernel
theorem dX11_tight_19 : decode cX11_tight 19 = .ok (.iconst 1, 1) := by decide +kernel
theorem dX11_tight_20 : decode cX11_tight 20 = .ok (.istore_n 1, 1) := by decide +kernel
theorem dX11_tight_21 : decode cX11_tight 21 = .ok (.iconst 1, 1) := by decide +kernel
theorem dX11_tight_22 : decode cX11_tight 22 = .ok (.istore_n 2, 1) := by decide +kernel
theorem dX11_tight_23 : decode cX11_tight 23 = .ok (.iconst 0, 1) := by decide +kernel
theorem dX11_tight_24 : decode cX11_tight 24 = .ok (.istore_n 3, 1) := by decide +kernel
theorem dX11_tight_25 : decode cX11_tight 25 = .ok (.iload_n 3, 1) := by decide +kernel
theorem dX11_tight_26 : decode cX11_tight 26 = .ok (.aload_n 0, 1) := by decide +kernel
theorem dX11_tight_27 : decode cX11_tight 27 = .ok (.getfield 105, 3) := by decide +kernel
theorem dX11_tight_30 : decode cX11_tight 30 = .ok (.if_icmp .ge 79, 3) := by decide +kernel
theorem dX11_tight_33 : decode cX11_tight 33 = .ok (.aload_n 0, 1) := by decide +kernel
theorem dX11_tight_34 : decode cX11_tight 34 = .ok (.getfield 26, 3) := by decide +kernel
theorem dX11_tight_37 : decode cX11_tight 37 = .ok (.aload_n 0, 1) := by decide +kernel
theorem dX11_tight_38 : decode cX11_tight 38 = .ok (.getfield 51, 3) := by decide +kernel
theorem dX11_tight_41 : decode cX11_tight 41 = .ok (.iload_n 3, 1) := by decide +kernel
theorem dX11_tight_42 : decode cX11_tight 42 = .ok (.iaload, 1) := by decide +kernel
theorem dX11_tight_43 : decode cX11_tight 43 = .ok (.iaload, 1) := by decide +kernel
theorem dX11_tight_44 : decode cX11_tight 44 = .ok (.istore 4, 2) := by decide +kernel
theorem dX11_tight_46 : decode cX11_tight 46 = .ok (.iload 4, 2) := by decide +kernel
theorem dX11_tight_48 : decode cX11_tight 48 = .ok (.iconst 1, 1) := by decide +kernel
theorem dX11_tight_49 : decode cX11_tight 49 = .ok (.if_icmp .eq 12, 3) := by decide +kernel
theorem dX11_tight_52 : decode cX11_tight 52 = .ok (.iload 4, 2) := by decide +kernel
theorem dX11_tight_54 : decode cX11_tight 54 = .ok (.iconst 2, 1) := by decide +kernel
theorem dX11_tight_55 : decode cX11_tight 55 = .ok (.if_icmp .eq 6, 3) := by decide +kernel
theorem dX11_tight_58 : decode cX11_tight 58 = .ok (.goto 45, 3) := by decide +kernel
theorem dX11_tight_61 : decode cX11_tight 61 = .ok (.iload 4, 2) := by decide +kernel
theorem dX11_tight_63 : decode cX11_tight 63 = .ok (.iconst 1, 1) := by decide +kernel
theorem dX11_tight_64 : decode cX11_tight 64 = .ok (.if_icmp .ne 12, 3) := by decide +kernel
theorem dX11_tight_67 : decode cX11_tight 67 = .ok (.aload_n 0, 1) := by decide +kernel
theorem dX11_tight_68 : decode cX11_tight 68 = .ok (.getfield 48, 3) := by decide +kernel
theorem dX11_tight_71 : decode cX11_tight 71 = .ok (.iload_n 3, 1) := by decide +kernel
theorem dX11_tight_72 : decode cX11_tight 72 = .ok (.laload, 1) := by decide +kernel
theorem dX11_tight_73 : decode cX11_tight 73 = .ok (.goto 10, 3) := by decide +kernel
theorem dX11_tight_76 : decode cX11_tight 76 = .ok (.aload_n 0, 1) := by decide +kernel
theorem dX11_tight_77 : decode cX11_tight 77 = .ok (.getfield 48, 3) := by decide +kernel
theorem dX11_tight_80 : decode cX11_tight 80 = .ok (.iload_n 3, 1) := by decide +kernel
theorem dX11_tight_81 : decode cX11_tight 81 = .ok (.laload, 1) := by decide +kernel
theorem dX11_tight_82 : decode cX11_tight 82 = .ok (.lneg, 1) := by decide +kernel
theorem dX11_tight_83 : decode cX11_tight 83 = .ok (.lstore 5, 2) := by decide +kernel
theorem dX11_tight_85 : decode cX11_tight 85 = .ok (.lload 5, 2) := by decide +kernel
theorem dX11_tight_87 : decode cX11_tight 87 = .ok (.lconst 0, 1) := by decide +kernel
theorem dX11_tight_88 : decode cX11_tight 88 = .ok (.lcmp, 1) := by decide +kernel
theorem dX11_tight_89 : decode cX11_tight 89 = .ok (.ifCond .gt 5, 3) := by decide +kernel
theorem dX11_tight_92 : decode cX11_tight 92 = .ok (.iconst 0, 1) := by decide +kernel
theorem dX11_tight_93 : decode cX11_tight 93 = .ok (.istore_n 1, 1) := by decide +kernel
theorem dX11_tight_94 : decode cX11_tight 94 = .ok (.lload 5, 2) := by decide +kernel
theorem dX11_tight_96 : decode cX11_tight 96 = .ok (.lconst 0, 1) := by decide +kernel
theorem dX11_tight_97 : decode cX11_tight 97 = .ok (.lcmp, 1) := by decide +kernel
theorem dX11_tight_98 : decode cX11_tight 98 = .ok (.ifCond .lt 5, 3) := by decide +kernel
theorem dX11_tight_101 : decode cX11_tight 101 = .ok (.iconst 0, 1) := by decide +kernel
theorem dX11_tight_102 : decode cX11_tight 102 = .ok (.istore_n 2, 1) := by decide +kernel
theorem dX11_tight_103 : decode cX11_tight 103 = .ok (.iinc 3 1, 3) := by decide +kernel
theorem dX11_tight_106 : decode cX11_tight 106 = .ok (.goto (-81), 3) := by decide +kernel
theorem dX11_tight_109 : decode cX11_tight 109 = .ok (.iload_n 1, 1) := by decide +kernel
theorem dX11_tight_110 : decode cX11_tight 110 = .ok (.ifCond .ne 7, 3) := by decide +kernel
theorem dX11_tight_113 : decode cX11_tight 113 = .ok (.iload_n 2, 1) := by decide +kernel
theorem dX11_tight_114 : decode cX11_tight 114 = .ok (.ifCond .eq 7, 3) := by decide +kernel
theorem dX11_tight_117 : decode cX11_tight 117 = .ok (.iconst 1, 1) := by decide +kernel
theorem dX11_tight_118 : decode cX11_tight 118 = .ok (.goto 4, 3) := by decide +kernel
theorem dX11_tight_121 : decode cX11_tight 121 = .ok (.iconst 0, 1) := by decide +kernel
theorem dX11_tight_122 : decode cX11_tight 122 = .ok (.ireturn, 1) := by decide +kernel
theorem dX11_load_0 : decode cX11_load 0 = .ok (.aload_n 0, 1) := by decide +kernel
theorem dX11_load_1 : decode cX11_load 1 = .ok (.iload_n 1, 1) := by decide +kernel
theorem dX11_load_2 : decode cX11_load 2 = .ok (.invokevirtual 175, 3) := by decide +kernel
theorem dX11_load_5 : decode cX11_load 5 = .ok (.ifCond .eq 27, 3) := by decide +kernel
theorem dX11_load_8 : decode cX11_load 8 = .ok (.iload_n 2, 1) := by decide +kernel
theorem dX11_load_9 : decode cX11_load 9 = .ok (.bipush (-20), 2) := by decide +kernel
theorem dX11_load_11 : decode cX11_load 11 = .ok (.if_icmp .lt 21, 3) := by decide +kernel
theorem dX11_load_14 : decode cX11_load 14 = .ok (.iload_n 2, 1) := by decide +kernel
theorem dX11_load_15 : decode cX11_load 15 = .ok (.bipush 20, 2) := by decide +kernel
theorem dX11_load_17 : decode cX11_load 17 = .ok (.if_icmp .gt 15, 3) := by decide +kernel
theorem dX11_load_20 : decode cX11_load 20 = .ok (.iload_n 3, 1) := by decide +kernel
theorem dX11_load_21 : decode cX11_load 21 = .ok (.bipush (-20), 2) := by decide +kernel
theorem dX11_load_23 : decode cX11_load 23 = .ok (.if_icmp .lt 9, 3) := by decide +kernel
theorem dX11_load_26 : decode cX11_load 26 = .ok (.iload_n 3, 1) := by decide +kernel
theorem dX11_load_27 : decode cX11_load 27 = .ok (.bipush 20, 2) := by decide +kernel
theorem dX11_load_29 : decode cX11_load 29 = .ok (.if_icmp .le 6, 3) := by decide +kernel
theorem dX11_load_32 : decode cX11_load 32 = .ok (.bipush (-2), 2) := by decide +kernel
theorem dX11_load_34 : decode cX11_load 34 = .ok (.ireturn, 1) := by decide +kernel
theorem dX11_load_35 : decode cX11_load 35 = .ok (.aload_n 0, 1) := by decide +kernel
theorem dX11_load_36 : decode cX11_load 36 = .ok (.getfield 22, 3) := by decide +kernel
theorem dX11_load_39 : decode cX11_load 39 = .ok (.iload_n 1, 1) := by decide +kernel
theorem dX11_load_40 : decode cX11_load 40 = .ok (.baload, 1) := by decide +kernel
theorem dX11_load_41 : decode cX11_load 41 = .ok (.ifCond .eq 6, 3) := by decide +kernel
theorem dX11_load_44 : decode cX11_load 44 = .ok (.bipush (-3), 2) := by decide +kernel
theorem dX11_load_46 : decode cX11_load 46 = .ok (.ireturn, 1) := by decide +kernel
theorem dX11_load_47 : decode cX11_load 47 = .ok (.aload_n 0, 1) := by decide +kernel
theorem dX11_load_48 : decode cX11_load 48 = .ok (.getfield 16, 3) := by decide +kernel
theorem dX11_load_51 : decode cX11_load 51 = .ok (.iload_n 1, 1) := by decide +kernel
theorem dX11_load_52 : decode cX11_load 52 = .ok (.iload_n 2, 1) := by decide +kernel
theorem dX11_load_53 : decode cX11_load 53 = .ok (.iastore, 1) := by decide +kernel
theorem dX11_load_54 : decode cX11_load 54 = .ok (.aload_n 0, 1) := by decide +kernel
theorem dX11_load_55 : decode cX11_load 55 = .ok (.getfield 19, 3) := by decide +kernel
theorem dX11_load_58 : decode cX11_load 58 = .ok (.iload_n 1, 1) := by decide +kernel
theorem dX11_load_59 : decode cX11_load 59 = .ok (.iload_n 3, 1) := by decide +kernel
theorem dX11_load_60 : decode cX11_load 60 = .ok (.iastore, 1) := by decide +kernel
theorem dX11_load_61 : decode cX11_load 61 = .ok (.iconst 1, 1) := by decide +kernel
theorem dX11_load_62 : decode cX11_load 62 = .ok (.ireturn, 1) := by decide +kernel
theorem dX11_carry_0 : decode cX11_carry 0 = .ok (.aload_n 0, 1) := by decide +kernel
theorem dX11_carry_1 : decode cX11_carry 1 = .ok (.invokevirtual 129, 3) := by decide +kernel
theorem dX11_carry_4 : decode cX11_carry 4 = .ok (.pop, 1) := by decide +kernel
theorem dX11_carry_5 : decode cX11_carry 5 = .ok (.aload_n 0, 1) := by decide +kernel
theorem dX11_carry_6 : decode cX11_carry 6 = .ok (.invokevirtual 199, 3) := by decide +kernel
theorem dX11_carry_9 : decode cX11_carry 9 = .ok (.ifCond .eq 7, 3) := by decide +kernel
theorem dX11_carry_12 : decode cX11_carry 12 = .ok (.iconst 1, 1) := by decide +kernel
theorem dX11_carry_13 : decode cX11_carry 13 = .ok (.goto 4, 3) := by decide +kernel
theorem dX11_carry_16 : decode cX11_carry 16 = .ok (.iconst 0, 1) := by decide +kernel
theorem dX11_carry_17 : decode cX11_carry 17 = .ok (.ireturn, 1) := by decide +kernel
theorem dX11_force_0 : decode cX11_force 0 = .ok (.aload_n 0, 1) := by decide +kernel
theorem dX11_force_1 : decode cX11_force 1 = .ok (.iload_n 1, 1) := by decide +kernel
theorem dX11_force_2 : decode cX11_force 2 = .ok (.invokevirtual 178, 3) := by decide +kernel
theorem dX11_force_5 : decode cX11_force 5 = .ok (.ifCond .eq 12, 3) := by decide +kernel
theorem dX11_force_8 : decode cX11_force 8 = .ok (.iload_n 2, 1) := by decide +kernel
theorem dX11_force_9 : decode cX11_force 9 = .ok (.ifCond .lt 8, 3) := by decide +kernel
theorem dX11_force_12 : decode cX11_force 12 = .ok (.iload_n 2, 1) := by decide +kernel
theorem dX11_force_13 : decode cX11_force 13 = .ok (.iconst 1, 1) := by decide +kernel
theorem dX11_force_14 : decode cX11_force 14 = .ok (.if_icmp .le 7, 3) := by decide +kernel
theorem dX11_force_17 : decode cX11_force 17 = .ok (.ldc2_w 193, 3) := by decide +kernel
theorem dX11_force_20 : decode cX11_force 20 = .ok (.lreturn, 1) := by decide +kernel
theorem dX11_force_21 : decode cX11_force 21 = .ok (.aload_n 0, 1) := by decide +kernel
theorem dX11_force_22 : decode cX11_force 22 = .ok (.invokevirtual 129, 3) := by decide +kernel
theorem dX11_force_25 : decode cX11_force 25 = .ok (.pop, 1) := by decide +kernel
theorem dX11_force_26 : decode cX11_force 26 = .ok (.aload_n 0, 1) := by decide +kernel
theorem dX11_force_27 : decode cX11_force 27 = .ok (.invokevirtual 199, 3) := by decide +kernel
theorem dX11_force_30 : decode cX11_force 30 = .ok (.ifCond .ne 7, 3) := by decide +kernel
theorem dX11_force_33 : decode cX11_force 33 = .ok (.ldc2_w 193, 3) := by decide +kernel
theorem dX11_force_36 : decode cX11_force 36 = .ok (.lreturn, 1) := by decide +kernel
theorem dX11_force_37 : decode cX11_force 37 = .ok (.aload_n 0, 1) := by decide +kernel
theorem dX11_force_38 : decode cX11_force 38 = .ok (.getfield 38, 3) := by decide +kernel
theorem dX11_force_41 : decode cX11_force 41 = .ok (.iload_n 1, 1) := by decide +kernel
theorem dX11_force_42 : decode cX11_force 42 = .ok (.baload, 1) := by decide +kernel
theorem dX11_force_43 : decode cX11_force 43 = .ok (.ifCond .eq 11, 3) := by decide +kernel
theorem dX11_force_46 : decode cX11_force 46 = .ok (.aload_n 0, 1) := by decide +kernel
theorem dX11_force_47 : decode cX11_force 47 = .ok (.iload_n 1, 1) := by decide +kernel
theorem dX11_force_48 : decode cX11_force 48 = .ok (.invokevirtual 132, 3) := by decide +kernel
theorem dX11_force_51 : decode cX11_force 51 = .ok (.goto 4, 3) := by decide +kernel
theorem dX11_force_54 : decode cX11_force 54 = .ok (.iconst (-1), 1) := by decide +kernel
theorem dX11_force_55 : decode cX11_force 55 = .ok (.istore_n 3, 1) := by decide +kernel
theorem dX11_force_56 : decode cX11_force 56 = .ok (.iload_n 3, 1) := by decide +kernel
theorem dX11_force_57 : decode cX11_force 57 = .ok (.iconst (-1), 1) := by decide +kernel
theorem dX11_force_58 : decode cX11_force 58 = .ok (.if_icmp .eq 13, 3) := by decide +kernel
theorem dX11_force_61 : decode cX11_force 61 = .ok (.aload_n 0, 1) := by decide +kernel
theorem dX11_force_62 : decode cX11_force 62 = .ok (.getfield 45, 3) := by decide +kernel
theorem dX11_force_65 : decode cX11_force 65 = .ok (.iload_n 3, 1) := by decide +kernel
theorem dX11_force_66 : decode cX11_force 66 = .ok (.iaload, 1) := by decide +kernel
theorem dX11_force_67 : decode cX11_force 67 = .ok (.iconst (-1), 1) := by decide +kernel
theorem dX11_force_68 : decode cX11_force 68 = .ok (.if_icmp .ne 6, 3) := by decide +kernel
theorem dX11_force_71 : decode cX11_force 71 = .ok (.iload_n 2, 1) := by decide +kernel
theorem dX11_force_72 : decode cX11_force 72 = .ok (.i2l, 1) := by decide +kernel
theorem dX11_force_73 : decode cX11_force 73 = .ok (.lreturn, 1) := by decide +kernel
theorem dX11_force_74 : decode cX11_force 74 = .ok (.aload_n 0, 1) := by decide +kernel
theorem dX11_force_75 : decode cX11_force 75 = .ok (.getfield 41, 3) := by decide +kernel
theorem dX11_force_78 : decode cX11_force 78 = .ok (.bipush 16, 2) := by decide +kernel
theorem dX11_force_80 : decode cX11_force 80 = .ok (.aload_n 0, 1) := by decide +kernel
theorem dX11_force_81 : decode cX11_force 81 = .ok (.getfield 45, 3) := by decide +kernel
theorem dX11_force_84 : decode cX11_force 84 = .ok (.iload_n 3, 1) := by decide +kernel
theorem dX11_force_85 : decode cX11_force 85 = .ok (.iaload, 1) := by decide +kernel
theorem dX11_force_86 : decode cX11_force 86 = .ok (.imul, 1) := by decide +kernel
theorem dX11_force_87 : decode cX11_force 87 = .ok (.aload_n 0, 1) := by decide +kernel
theorem dX11_force_88 : decode cX11_force 88 = .ok (.getfield 105, 3) := by decide +kernel
theorem dX11_force_91 : decode cX11_force 91 = .ok (.iadd, 1) := by decide +kernel
theorem dX11_force_92 : decode cX11_force 92 = .ok (.laload, 1) := by decide +kernel
theorem dX11_force_93 : decode cX11_force 93 = .ok (.lstore 4, 2) := by decide +kernel
theorem dX11_force_95 : decode cX11_force 95 = .ok (.aload_n 0, 1) := by decide +kernel
theorem dX11_force_96 : decode cX11_force 96 = .ok (.getfield 41, 3) := by decide +kernel
theorem dX11_force_99 : decode cX11_force 99 = .ok (.bipush 16, 2) := by decide +kernel
theorem dX11_force_101 : decode cX11_force 101 = .ok (.aload_n 0, 1) := by decide +kernel
theorem dX11_force_102 : decode cX11_force 102 = .ok (.getfield 45, 3) := by decide +kernel
theorem dX11_force_105 : decode cX11_force 105 = .ok (.iload_n 3, 1) := by decide +kernel
theorem dX11_force_106 : decode cX11_force 106 = .ok (.iaload, 1) := by decide +kernel
theorem dX11_force_107 : decode cX11_force 107 = .ok (.imul, 1) := by decide +kernel
theorem dX11_force_108 : decode cX11_force 108 = .ok (.iload_n 3, 1) := by decide +kernel
theorem dX11_force_109 : decode cX11_force 109 = .ok (.iadd, 1) := by decide +kernel
theorem dX11_force_110 : decode cX11_force 110 = .ok (.laload, 1) := by decide +kernel
theorem dX11_force_111 : decode cX11_force 111 = .ok (.lstore 6, 2) := by decide +kernel
theorem dX11_force_113 : decode cX11_force 113 = .ok (.lload 4, 2) := by decide +kernel
theorem dX11_force_115 : decode cX11_force 115 = .ok (.lload 6, 2) := by decide +kernel
theorem dX11_force_117 : decode cX11_force 117 = .ok (.invokestatic 94, 3) := by decide +kernel
theorem dX11_force_120 : decode cX11_force 120 = .ok (.lstore 8, 2) := by decide +kernel
theorem dX11_force_122 : decode cX11_force 122 = .ok (.lload 6, 2) := by decide +kernel
theorem dX11_force_124 : decode cX11_force 124 = .ok (.lconst 0, 1) := by decide +kernel
theorem dX11_force_125 : decode cX11_force 125 = .ok (.lcmp, 1) := by decide +kernel
theorem dX11_force_126 : decode cX11_force 126 = .ok (.ifCond .ge 8, 3) := by decide +kernel
theorem dX11_force_129 : decode cX11_force 129 = .ok (.lload 8, 2) := by decide +kernel
theorem dX11_force_131 : decode cX11_force 131 = .ok (.lneg, 1) := by decide +kernel
theorem dX11_force_132 : decode cX11_force 132 = .ok (.lstore 8, 2) := by decide +kernel
theorem dX11_force_134 : decode cX11_force 134 = .ok (.iload_n 2, 1) := by decide +kernel
theorem dX11_force_135 : decode cX11_force 135 = .ok (.ifCond .ne 11, 3) := by decide +kernel
theorem dX11_force_138 : decode cX11_force 138 = .ok (.lload 4, 2) := by decide +kernel
theorem dX11_force_140 : decode cX11_force 140 = .ok (.lload 8, 2) := by decide +kernel
theorem dX11_force_142 : decode cX11_force 142 = .ok (.ldiv, 1) := by decide +kernel
theorem dX11_force_143 : decode cX11_force 143 = .ok (.goto 8, 3) := by decide +kernel
theorem dX11_force_146 : decode cX11_force 146 = .ok (.lload 6, 2) := by decide +kernel
theorem dX11_force_148 : decode cX11_force 148 = .ok (.lload 8, 2) := by decide +kernel
theorem dX11_force_150 : decode cX11_force 150 = .ok (.ldiv, 1) := by decide +kernel
theorem dX11_force_151 : decode cX11_force 151 = .ok (.lreturn, 1) := by decide +kernel
theorem dX11_gives_0 : decode cX11_gives 0 = .ok (.aload_n 0, 1) := by decide +kernel
theorem dX11_gives_1 : decode cX11_gives 1 = .ok (.invokevirtual 184, 3) := by decide +kernel
theorem dX11_gives_4 : decode cX11_gives 4 = .ok (.istore_n 1, 1) := by decide +kernel
theorem dX11_gives_5 : decode cX11_gives 5 = .ok (.iconst 0, 1) := by decide +kernel
theorem dX11_gives_6 : decode cX11_gives 6 = .ok (.istore_n 2, 1) := by decide +kernel
theorem dX11_gives_7 : decode cX11_gives 7 = .ok (.iload_n 2, 1) := by decide +kernel
theorem dX11_gives_8 : decode cX11_gives 8 = .ok (.iload_n 1, 1) := by decide +kernel
theorem dX11_gives_9 : decode cX11_gives 9 = .ok (.if_icmp .ge 98, 3) := by decide +kernel
theorem dX11_gives_12 : decode cX11_gives 12 = .ok (.aload_n 0, 1) := by decide +kernel
theorem dX11_gives_13 : decode cX11_gives 13 = .ok (.aload_n 0, 1) := by decide +kernel
theorem dX11_gives_14 : decode cX11_gives 14 = .ok (.iload_n 2, 1) := by decide +kernel
theorem dX11_gives_15 : decode cX11_gives 15 = .ok (.invokevirtual 135, 3) := by decide +kernel
theorem dX11_gives_18 : decode cX11_gives 18 = .ok (.invokevirtual 138, 3) := by decide +kernel
theorem dX11_gives_21 : decode cX11_gives 21 = .ok (.lconst 0, 1) := by decide +kernel
theorem dX11_gives_22 : decode cX11_gives 22 = .ok (.lstore_n 3, 1) := by decide +kernel
theorem dX11_gives_23 : decode cX11_gives 23 = .ok (.iconst 0, 1) := by decide +kernel
theorem dX11_gives_24 : decode cX11_gives 24 = .ok (.istore 5, 2) := by decide +kernel
theorem dX11_gives_26 : decode cX11_gives 26 = .ok (.iload 5, 2) := by decide +kernel
theorem dX11_gives_28 : decode cX11_gives 28 = .ok (.aload_n 0, 1) := by decide +kernel
theorem dX11_gives_29 : decode cX11_gives 29 = .ok (.getfield 87, 3) := by decide +kernel
theorem dX11_gives_32 : decode cX11_gives 32 = .ok (.if_icmp .ge 61, 3) := by decide +kernel
theorem dX11_gives_35 : decode cX11_gives 35 = .ok (.aload_n 0, 1) := by decide +kernel
theorem dX11_gives_36 : decode cX11_gives 36 = .ok (.iload 5, 2) := by decide +kernel
theorem dX11_gives_38 : decode cX11_gives 38 = .ok (.invokevirtual 108, 3) := by decide +kernel
theorem dX11_gives_41 : decode cX11_gives 41 = .ok (.istore 6, 2) := by decide +kernel
theorem dX11_gives_43 : decode cX11_gives 43 = .ok (.iload 6, 2) := by decide +kernel
theorem dX11_gives_45 : decode cX11_gives 45 = .ok (.iconst (-1), 1) := by decide +kernel
theorem dX11_gives_46 : decode cX11_gives 46 = .ok (.if_icmp .eq 41, 3) := by decide +kernel
theorem dX11_gives_49 : decode cX11_gives 49 = .ok (.lload_n 3, 1) := by decide +kernel
theorem dX11_gives_50 : decode cX11_gives 50 = .ok (.aload_n 0, 1) := by decide +kernel
theorem dX11_gives_51 : decode cX11_gives 51 = .ok (.getfield 48, 3) := by decide +kernel
theorem dX11_gives_54 : decode cX11_gives 54 = .ok (.iload 6, 2) := by decide +kernel
theorem dX11_gives_56 : decode cX11_gives 56 = .ok (.laload, 1) := by decide +kernel
theorem dX11_gives_57 : decode cX11_gives 57 = .ok (.aload_n 0, 1) := by decide +kernel
theorem dX11_gives_58 : decode cX11_gives 58 = .ok (.getfield 16, 3) := by decide +kernel
theorem dX11_gives_61 : decode cX11_gives 61 = .ok (.iload 5, 2) := by decide +kernel
theorem dX11_gives_63 : decode cX11_gives 63 = .ok (.iaload, 1) := by decide +kernel
theorem dX11_gives_64 : decode cX11_gives 64 = .ok (.i2l, 1) := by decide +kernel
theorem dX11_gives_65 : decode cX11_gives 65 = .ok (.lmul, 1) := by decide +kernel
theorem dX11_gives_66 : decode cX11_gives 66 = .ok (.aload_n 0, 1) := by decide +kernel
theorem dX11_gives_67 : decode cX11_gives 67 = .ok (.getfield 48, 3) := by decide +kernel
theorem dX11_gives_70 : decode cX11_gives 70 = .ok (.iload 6, 2) := by decide +kernel
theorem dX11_gives_72 : decode cX11_gives 72 = .ok (.iconst 1, 1) := by decide +kernel
theorem dX11_gives_73 : decode cX11_gives 73 = .ok (.iadd, 1) := by decide +kernel
theorem dX11_gives_74 : decode cX11_gives 74 = .ok (.laload, 1) := by decide +kernel
theorem dX11_gives_75 : decode cX11_gives 75 = .ok (.aload_n 0, 1) := by decide +kernel
theorem dX11_gives_76 : decode cX11_gives 76 = .ok (.getfield 19, 3) := by decide +kernel
theorem dX11_gives_79 : decode cX11_gives 79 = .ok (.iload 5, 2) := by decide +kernel
theorem dX11_gives_81 : decode cX11_gives 81 = .ok (.iaload, 1) := by decide +kernel
theorem dX11_gives_82 : decode cX11_gives 82 = .ok (.i2l, 1) := by decide +kernel
theorem dX11_gives_83 : decode cX11_gives 83 = .ok (.lmul, 1) := by decide +kernel
theorem dX11_gives_84 : decode cX11_gives 84 = .ok (.ladd, 1) := by decide +kernel
theorem dX11_gives_85 : decode cX11_gives 85 = .ok (.ladd, 1) := by decide +kernel
theorem dX11_gives_86 : decode cX11_gives 86 = .ok (.lstore_n 3, 1) := by decide +kernel
theorem dX11_gives_87 : decode cX11_gives 87 = .ok (.iinc 5 1, 3) := by decide +kernel
theorem dX11_gives_90 : decode cX11_gives 90 = .ok (.goto (-64), 3) := by decide +kernel
theorem dX11_gives_93 : decode cX11_gives 93 = .ok (.lload_n 3, 1) := by decide +kernel
theorem dX11_gives_94 : decode cX11_gives 94 = .ok (.lconst 0, 1) := by decide +kernel
theorem dX11_gives_95 : decode cX11_gives 95 = .ok (.lcmp, 1) := by decide +kernel
theorem dX11_gives_96 : decode cX11_gives 96 = .ok (.ifCond .eq 5, 3) := by decide +kernel
theorem dX11_gives_99 : decode cX11_gives 99 = .ok (.iload_n 2, 1) := by decide +kernel
theorem dX11_gives_100 : decode cX11_gives 100 = .ok (.ireturn, 1) := by decide +kernel
theorem dX11_gives_101 : decode cX11_gives 101 = .ok (.iinc 2 1, 3) := by decide +kernel
theorem dX11_gives_104 : decode cX11_gives 104 = .ok (.goto (-97), 3) := by decide +kernel
theorem dX11_gives_107 : decode cX11_gives 107 = .ok (.iconst (-1), 1) := by decide +kernel
theorem dX11_gives_108 : decode cX11_gives 108 = .ok (.ireturn, 1) := by decide +kernel
theorem dX11_could_0 : decode cX11_could 0 = .ok (.aload_n 0, 1) := by decide +kernel
theorem dX11_could_1 : decode cX11_could 1 = .ok (.getfield 87, 3) := by decide +kernel
theorem dX11_could_4 : decode cX11_could 4 = .ok (.iconst 2, 1) := by decide +kernel
theorem dX11_could_5 : decode cX11_could 5 = .ok (.if_icmp .lt 30, 3) := by decide +kernel
theorem dX11_could_8 : decode cX11_could 8 = .ok (.aload_n 0, 1) := by decide +kernel
theorem dX11_could_9 : decode cX11_could 9 = .ok (.iconst 1, 1) := by decide +kernel
theorem dX11_could_10 : decode cX11_could 10 = .ok (.aload_n 0, 1) := by decide +kernel
theorem dX11_could_11 : decode cX11_could 11 = .ok (.getfield 87, 3) := by decide +kernel
theorem dX11_could_14 : decode cX11_could 14 = .ok (.ishl, 1) := by decide +kernel
theorem dX11_could_15 : decode cX11_could 15 = .ok (.iconst 1, 1) := by decide +kernel
theorem dX11_could_16 : decode cX11_could 16 = .ok (.isub, 1) := by decide +kernel
theorem dX11_could_17 : decode cX11_could 17 = .ok (.invokevirtual 156, 3) := by decide +kernel
theorem dX11_could_20 : decode cX11_could 20 = .ok (.iconst 2, 1) := by decide +kernel
theorem dX11_could_21 : decode cX11_could 21 = .ok (.aload_n 0, 1) := by decide +kernel
theorem dX11_could_22 : decode cX11_could 22 = .ok (.getfield 87, 3) := by decide +kernel
theorem dX11_could_25 : decode cX11_could 25 = .ok (.imul, 1) := by decide +kernel
theorem dX11_could_26 : decode cX11_could 26 = .ok (.iconst 3, 1) := by decide +kernel
theorem dX11_could_27 : decode cX11_could 27 = .ok (.isub, 1) := by decide +kernel
theorem dX11_could_28 : decode cX11_could 28 = .ok (.if_icmp .ne 7, 3) := by decide +kernel
theorem dX11_could_31 : decode cX11_could 31 = .ok (.iconst 1, 1) := by decide +kernel
theorem dX11_could_32 : decode cX11_could 32 = .ok (.goto 4, 3) := by decide +kernel
theorem dX11_could_35 : decode cX11_could 35 = .ok (.iconst 0, 1) := by decide +kernel
theorem dX11_could_36 : decode cX11_could 36 = .ok (.ireturn, 1) := by decide +kernel
theorem dX11_body_0 : decode cX11_body 0 = .ok (.aload_n 0, 1) := by decide +kernel
theorem dX11_body_1 : decode cX11_body 1 = .ok (.invokevirtual 187, 3) := by decide +kernel
theorem dX11_body_4 : decode cX11_body 4 = .ok (.iload_n 1, 1) := by decide +kernel
theorem dX11_body_5 : decode cX11_body 5 = .ok (.ifCond .lt 11, 3) := by decide +kernel
theorem dX11_body_8 : decode cX11_body 8 = .ok (.iload_n 1, 1) := by decide +kernel
theorem dX11_body_9 : decode cX11_body 9 = .ok (.aload_n 0, 1) := by decide +kernel
theorem dX11_body_10 : decode cX11_body 10 = .ok (.getfield 153, 3) := by decide +kernel
theorem dX11_body_13 : decode cX11_body 13 = .ok (.if_icmp .lt 6, 3) := by decide +kernel
theorem dX11_body_16 : decode cX11_body 16 = .ok (.bipush (-2), 2) := by decide +kernel
theorem dX11_body_18 : decode cX11_body 18 = .ok (.ireturn, 1) := by decide +kernel
theorem dX11_body_19 : decode cX11_body 19 = .ok (.iload_n 2, 1) := by decide +kernel
theorem dX11_body_20 : decode cX11_body 20 = .ok (.istore_n 3, 1) := by decide +kernel
theorem dX11_body_21 : decode cX11_body 21 = .ok (.iconst 0, 1) := by decide +kernel
theorem dX11_body_22 : decode cX11_body 22 = .ok (.istore 4, 2) := by decide +kernel
theorem dX11_body_24 : decode cX11_body 24 = .ok (.iload 4, 2) := by decide +kernel
theorem dX11_body_26 : decode cX11_body 26 = .ok (.aload_n 0, 1) := by decide +kernel
theorem dX11_body_27 : decode cX11_body 27 = .ok (.getfield 87, 3) := by decide +kernel
theorem dX11_body_30 : decode cX11_body 30 = .ok (.if_icmp .ge 37, 3) := by decide +kernel
theorem dX11_body_33 : decode cX11_body 33 = .ok (.iload_n 2, 1) := by decide +kernel
theorem dX11_body_34 : decode cX11_body 34 = .ok (.ifCond .lt 33, 3) := by decide +kernel
theorem dX11_body_37 : decode cX11_body 37 = .ok (.aload_n 0, 1) := by decide +kernel
theorem dX11_body_38 : decode cX11_body 38 = .ok (.getfield 54, 3) := by decide +kernel
theorem dX11_body_41 : decode cX11_body 41 = .ok (.iload_n 1, 1) := by decide +kernel
theorem dX11_body_42 : decode cX11_body 42 = .ok (.iaload, 1) := by decide +kernel
theorem dX11_body_43 : decode cX11_body 43 = .ok (.iload 4, 2) := by decide +kernel
theorem dX11_body_45 : decode cX11_body 45 = .ok (.ishr, 1) := by decide +kernel
theorem dX11_body_46 : decode cX11_body 46 = .ok (.iconst 1, 1) := by decide +kernel
theorem dX11_body_47 : decode cX11_body 47 = .ok (.iand, 1) := by decide +kernel
theorem dX11_body_48 : decode cX11_body 48 = .ok (.ifCond .eq 13, 3) := by decide +kernel
theorem dX11_body_51 : decode cX11_body 51 = .ok (.iload_n 3, 1) := by decide +kernel
theorem dX11_body_52 : decode cX11_body 52 = .ok (.iinc 3 (-1), 3) := by decide +kernel
theorem dX11_body_55 : decode cX11_body 55 = .ok (.ifCond .ne 6, 3) := by decide +kernel
theorem dX11_body_58 : decode cX11_body 58 = .ok (.iload 4, 2) := by decide +kernel
theorem dX11_body_60 : decode cX11_body 60 = .ok (.ireturn, 1) := by decide +kernel
theorem dX11_body_61 : decode cX11_body 61 = .ok (.iinc 4 1, 3) := by decide +kernel
theorem dX11_body_64 : decode cX11_body 64 = .ok (.goto (-40), 3) := by decide +kernel
theorem dX11_body_67 : decode cX11_body 67 = .ok (.iconst (-1), 1) := by decide +kernel
theorem dX11_body_68 : decode cX11_body 68 = .ok (.ireturn, 1) := by decide +kernel
theorem dX11_plan_0 : decode cX11_plan 0 = .ok (.aload_n 0, 1) := by decide +kernel
theorem dX11_plan_1 : decode cX11_plan 1 = .ok (.invokevirtual 203, 3) := by decide +kernel
theorem dX11_plan_4 : decode cX11_plan 4 = .ok (.iload_n 1, 1) := by decide +kernel
theorem dX11_plan_5 : decode cX11_plan 5 = .ok (.ifCond .lt 11, 3) := by decide +kernel
theorem dX11_plan_8 : decode cX11_plan 8 = .ok (.iload_n 1, 1) := by decide +kernel
theorem dX11_plan_9 : decode cX11_plan 9 = .ok (.aload_n 0, 1) := by decide +kernel
theorem dX11_plan_10 : decode cX11_plan 10 = .ok (.getfield 162, 3) := by decide +kernel
theorem dX11_plan_13 : decode cX11_plan 13 = .ok (.if_icmp .lt 7, 3) := by decide +kernel
theorem dX11_plan_16 : decode cX11_plan 16 = .ok (.iconst (-1), 1) := by decide +kernel
theorem dX11_plan_17 : decode cX11_plan 17 = .ok (.goto 9, 3) := by decide +kernel
theorem dX11_plan_20 : decode cX11_plan 20 = .ok (.aload_n 0, 1) := by decide +kernel
theorem dX11_plan_21 : decode cX11_plan 21 = .ok (.getfield 66, 3) := by decide +kernel
theorem dX11_plan_24 : decode cX11_plan 24 = .ok (.iload_n 1, 1) := by decide +kernel
theorem dX11_plan_25 : decode cX11_plan 25 = .ok (.iaload, 1) := by decide +kernel
theorem dX11_plan_26 : decode cX11_plan 26 = .ok (.ireturn, 1) := by decide +kernel
theorem dX11_cheapest_0 : decode cX11_cheapest 0 = .ok (.aload_n 0, 1) := by decide +kernel
theorem dX11_cheapest_1 : decode cX11_cheapest 1 = .ok (.invokevirtual 203, 3) := by decide +kernel
theorem dX11_cheapest_4 : decode cX11_cheapest 4 = .ok (.iconst 0, 1) := by decide +kernel
theorem dX11_cheapest_5 : decode cX11_cheapest 5 = .ok (.istore_n 1, 1) := by decide +kernel
theorem dX11_cheapest_6 : decode cX11_cheapest 6 = .ok (.iconst 0, 1) := by decide +kernel
theorem dX11_cheapest_7 : decode cX11_cheapest 7 = .ok (.istore_n 2, 1) := by decide +kernel
theorem dX11_cheapest_8 : decode cX11_cheapest 8 = .ok (.iload_n 2, 1) := by decide +kernel
theorem dX11_cheapest_9 : decode cX11_cheapest 9 = .ok (.aload_n 0, 1) := by decide +kernel
theorem dX11_cheapest_10 : decode cX11_cheapest 10 = .ok (.getfield 162, 3) := by decide +kernel
theorem dX11_cheapest_13 : decode cX11_cheapest 13 = .ok (.if_icmp .ge 23, 3) := by decide +kernel
theorem dX11_cheapest_16 : decode cX11_cheapest 16 = .ok (.iload_n 1, 1) := by decide +kernel
theorem dX11_cheapest_17 : decode cX11_cheapest 17 = .ok (.aload_n 0, 1) := by decide +kernel
theorem dX11_cheapest_18 : decode cX11_cheapest 18 = .ok (.getfield 35, 3) := by decide +kernel
theorem dX11_cheapest_21 : decode cX11_cheapest 21 = .ok (.aload_n 0, 1) := by decide +kernel
theorem dX11_cheapest_22 : decode cX11_cheapest 22 = .ok (.getfield 66, 3) := by decide +kernel
theorem dX11_cheapest_25 : decode cX11_cheapest 25 = .ok (.iload_n 2, 1) := by decide +kernel
theorem dX11_cheapest_26 : decode cX11_cheapest 26 = .ok (.iaload, 1) := by decide +kernel
theorem dX11_cheapest_27 : decode cX11_cheapest 27 = .ok (.iaload, 1) := by decide +kernel
theorem dX11_cheapest_28 : decode cX11_cheapest 28 = .ok (.iadd, 1) := by decide +kernel
theorem dX11_cheapest_29 : decode cX11_cheapest 29 = .ok (.istore_n 1, 1) := by decide +kernel
theorem dX11_cheapest_30 : decode cX11_cheapest 30 = .ok (.iinc 2 1, 3) := by decide +kernel
theorem dX11_cheapest_33 : decode cX11_cheapest 33 = .ok (.goto (-25), 3) := by decide +kernel
theorem dX11_cheapest_36 : decode cX11_cheapest 36 = .ok (.aload_n 0, 1) := by decide +kernel
theorem dX11_cheapest_37 : decode cX11_cheapest 37 = .ok (.aload_n 0, 1) := by decide +kernel
theorem dX11_cheapest_38 : decode cX11_cheapest 38 = .ok (.getfield 57, 3) := by decide +kernel
theorem dX11_cheapest_41 : decode cX11_cheapest 41 = .ok (.invokevirtual 195, 3) := by decide +kernel
theorem dX11_cheapest_44 : decode cX11_cheapest 44 = .ok (.ifCond .eq 7, 3) := by decide +kernel
theorem dX11_cheapest_47 : decode cX11_cheapest 47 = .ok (.iload_n 1, 1) := by decide +kernel
theorem dX11_cheapest_48 : decode cX11_cheapest 48 = .ok (.goto 4, 3) := by decide +kernel
theorem dX11_cheapest_51 : decode cX11_cheapest 51 = .ok (.iconst (-1), 1) := by decide +kernel
theorem dX11_cheapest_52 : decode cX11_cheapest 52 = .ok (.ireturn, 1) := by decide +kernel
theorem dX11_refused_0 : decode cX11_refused 0 = .ok (.aload_n 0, 1) := by decide +kernel
theorem dX11_refused_1 : decode cX11_refused 1 = .ok (.iload_n 1, 1) := by decide +kernel
theorem dX11_refused_2 : decode cX11_refused 2 = .ok (.putfield 206, 3) := by decide +kernel
theorem dX11_refused_5 : decode cX11_refused 5 = .ok (.iconst (-1), 1) := by decide +kernel
theorem dX11_refused_6 : decode cX11_refused 6 = .ok (.ireturn, 1) := by decide +kernel
theorem dX11_done_0 : decode cX11_done 0 = .ok (.aload_n 0, 1) := by decide +kernel
theorem dX11_done_1 : decode cX11_done 1 = .ok (.iconst 0, 1) := by decide +kernel
theorem dX11_done_2 : decode cX11_done 2 = .ok (.putfield 206, 3) := by decide +kernel
theorem dX11_done_5 : decode cX11_done 5 = .ok (.iload_n 1, 1) := by decide +kernel
theorem dX11_done_6 : decode cX11_done 6 = .ok (.ireturn, 1) := by decide +kernel
theorem dX11_tray_0 : decode cX11_tray 0 = .ok (.iload_n 1, 1) := by decide +kernel
theorem dX11_tray_1 : decode cX11_tray 1 = .ok (.ifCond .lt 17, 3) := by decide +kernel
theorem dX11_tray_4 : decode cX11_tray 4 = .ok (.iload_n 1, 1) := by decide +kernel
theorem dX11_tray_5 : decode cX11_tray 5 = .ok (.iconst 5, 1) := by decide +kernel
theorem dX11_tray_6 : decode cX11_tray 6 = .ok (.if_icmp .gt 12, 3) := by decide +kernel
theorem dX11_tray_9 : decode cX11_tray 9 = .ok (.iload_n 2, 1) := by decide +kernel
theorem dX11_tray_10 : decode cX11_tray 10 = .ok (.ifCond .lt 8, 3) := by decide +kernel
theorem dX11_tray_13 : decode cX11_tray 13 = .ok (.iload_n 2, 1) := by decide +kernel
theorem dX11_tray_14 : decode cX11_tray 14 = .ok (.iconst 4, 1) := by decide +kernel
theorem dX11_tray_15 : decode cX11_tray 15 = .ok (.if_icmp .le 9, 3) := by decide +kernel
theorem dX11_tray_18 : decode cX11_tray 18 = .ok (.aload_n 0, 1) := by decide +kernel
theorem dX11_tray_19 : decode cX11_tray 19 = .ok (.iconst 1, 1) := by decide +kernel
theorem dX11_tray_20 : decode cX11_tray 20 = .ok (.invokevirtual 209, 3) := by decide +kernel
theorem dX11_tray_23 : decode cX11_tray 23 = .ok (.ireturn, 1) := by decide +kernel
theorem dX11_tray_24 : decode cX11_tray 24 = .ok (.iload_n 2, 1) := by decide +kernel
theorem dX11_tray_25 : decode cX11_tray 25 = .ok (.iconst 1, 1) := by decide +kernel
theorem dX11_tray_26 : decode cX11_tray 26 = .ok (.if_icmp .ne 11, 3) := by decide +kernel
theorem dX11_tray_29 : decode cX11_tray 29 = .ok (.aload_n 0, 1) := by decide +kernel
theorem dX11_tray_30 : decode cX11_tray 30 = .ok (.iload_n 3, 1) := by decide +kernel
theorem dX11_tray_31 : decode cX11_tray 31 = .ok (.invokevirtual 178, 3) := by decide +kernel
theorem dX11_tray_34 : decode cX11_tray 34 = .ok (.ifCond .eq 20, 3) := by decide +kernel
theorem dX11_tray_37 : decode cX11_tray 37 = .ok (.iload_n 2, 1) := by decide +kernel
theorem dX11_tray_38 : decode cX11_tray 38 = .ok (.iconst 2, 1) := by decide +kernel
theorem dX11_tray_39 : decode cX11_tray 39 = .ok (.if_icmp .ne 21, 3) := by decide +kernel
theorem dX11_tray_42 : decode cX11_tray 42 = .ok (.iload_n 3, 1) := by decide +kernel
theorem dX11_tray_43 : decode cX11_tray 43 = .ok (.ifCond .lt 11, 3) := by decide +kernel
theorem dX11_tray_46 : decode cX11_tray 46 = .ok (.iload_n 3, 1) := by decide +kernel
theorem dX11_tray_47 : decode cX11_tray 47 = .ok (.aload_n 0, 1) := by decide +kernel
theorem dX11_tray_48 : decode cX11_tray 48 = .ok (.invokevirtual 184, 3) := by decide +kernel
theorem dX11_tray_51 : decode cX11_tray 51 = .ok (.if_icmp .lt 9, 3) := by decide +kernel
theorem dX11_tray_54 : decode cX11_tray 54 = .ok (.aload_n 0, 1) := by decide +kernel
theorem dX11_tray_55 : decode cX11_tray 55 = .ok (.iconst 1, 1) := by decide +kernel
theorem dX11_tray_56 : decode cX11_tray 56 = .ok (.invokevirtual 209, 3) := by decide +kernel
theorem dX11_tray_59 : decode cX11_tray 59 = .ok (.ireturn, 1) := by decide +kernel
theorem dX11_tray_60 : decode cX11_tray 60 = .ok (.aload_n 0, 1) := by decide +kernel
theorem dX11_tray_61 : decode cX11_tray 61 = .ok (.getfield 69, 3) := by decide +kernel
theorem dX11_tray_64 : decode cX11_tray 64 = .ok (.iload_n 1, 1) := by decide +kernel
theorem dX11_tray_65 : decode cX11_tray 65 = .ok (.iload_n 2, 1) := by decide +kernel
theorem dX11_tray_66 : decode cX11_tray 66 = .ok (.iastore, 1) := by decide +kernel
theorem dX11_tray_67 : decode cX11_tray 67 = .ok (.aload_n 0, 1) := by decide +kernel
theorem dX11_tray_68 : decode cX11_tray 68 = .ok (.getfield 72, 3) := by decide +kernel
theorem dX11_tray_71 : decode cX11_tray 71 = .ok (.iload_n 1, 1) := by decide +kernel
theorem dX11_tray_72 : decode cX11_tray 72 = .ok (.iconst 0, 1) := by decide +kernel
theorem dX11_tray_73 : decode cX11_tray 73 = .ok (.iastore, 1) := by decide +kernel
theorem dX11_tray_74 : decode cX11_tray 74 = .ok (.bipush 16, 2) := by decide +kernel
theorem dX11_tray_76 : decode cX11_tray 76 = .ok (.iload_n 1, 1) := by decide +kernel
theorem dX11_tray_77 : decode cX11_tray 77 = .ok (.imul, 1) := by decide +kernel
theorem dX11_tray_78 : decode cX11_tray 78 = .ok (.istore 4, 2) := by decide +kernel
theorem dX11_tray_80 : decode cX11_tray 80 = .ok (.iload_n 2, 1) := by decide +kernel
theorem dX11_tray_81 : decode cX11_tray 81 = .ok (.tableswitch 253 1 4 #[31, 70, 182, 182], 31) := by decide +kernel
theorem dX11_tray_112 : decode cX11_tray 112 = .ok (.aload_n 0, 1) := by decide +kernel
theorem dX11_tray_113 : decode cX11_tray 113 = .ok (.getfield 75, 3) := by decide +kernel
theorem dX11_tray_116 : decode cX11_tray 116 = .ok (.iload_n 1, 1) := by decide +kernel
theorem dX11_tray_117 : decode cX11_tray 117 = .ok (.aload_n 0, 1) := by decide +kernel
theorem dX11_tray_118 : decode cX11_tray 118 = .ok (.getfield 26, 3) := by decide +kernel
theorem dX11_tray_121 : decode cX11_tray 121 = .ok (.iload_n 3, 1) := by decide +kernel
theorem dX11_tray_122 : decode cX11_tray 122 = .ok (.iaload, 1) := by decide +kernel
theorem dX11_tray_123 : decode cX11_tray 123 = .ok (.iastore, 1) := by decide +kernel
theorem dX11_tray_124 : decode cX11_tray 124 = .ok (.aload_n 0, 1) := by decide +kernel
theorem dX11_tray_125 : decode cX11_tray 125 = .ok (.getfield 78, 3) := by decide +kernel
theorem dX11_tray_128 : decode cX11_tray 128 = .ok (.iload_n 1, 1) := by decide +kernel
theorem dX11_tray_129 : decode cX11_tray 129 = .ok (.aload_n 0, 1) := by decide +kernel
theorem dX11_tray_130 : decode cX11_tray 130 = .ok (.getfield 29, 3) := by decide +kernel
theorem dX11_tray_133 : decode cX11_tray 133 = .ok (.iload_n 3, 1) := by decide +kernel
theorem dX11_tray_134 : decode cX11_tray 134 = .ok (.iaload, 1) := by decide +kernel
theorem dX11_tray_135 : decode cX11_tray 135 = .ok (.iastore, 1) := by decide +kernel
theorem dX11_tray_136 : decode cX11_tray 136 = .ok (.aload_n 0, 1) := by decide +kernel
theorem dX11_tray_137 : decode cX11_tray 137 = .ok (.getfield 72, 3) := by decide +kernel
theorem dX11_tray_140 : decode cX11_tray 140 = .ok (.iload_n 1, 1) := by decide +kernel
theorem dX11_tray_141 : decode cX11_tray 141 = .ok (.aload_n 0, 1) := by decide +kernel
theorem dX11_tray_142 : decode cX11_tray 142 = .ok (.getfield 35, 3) := by decide +kernel
theorem dX11_tray_145 : decode cX11_tray 145 = .ok (.iload_n 3, 1) := by decide +kernel
theorem dX11_tray_146 : decode cX11_tray 146 = .ok (.iaload, 1) := by decide +kernel
theorem dX11_tray_147 : decode cX11_tray 147 = .ok (.iastore, 1) := by decide +kernel
theorem dX11_tray_148 : decode cX11_tray 148 = .ok (.goto 186, 3) := by decide +kernel
theorem dX11_tray_151 : decode cX11_tray 151 = .ok (.aload_n 0, 1) := by decide +kernel
theorem dX11_tray_152 : decode cX11_tray 152 = .ok (.aload_n 0, 1) := by decide +kernel
theorem dX11_tray_153 : decode cX11_tray 153 = .ok (.iload_n 3, 1) := by decide +kernel
theorem dX11_tray_154 : decode cX11_tray 154 = .ok (.invokevirtual 135, 3) := by decide +kernel
theorem dX11_tray_157 : decode cX11_tray 157 = .ok (.invokevirtual 138, 3) := by decide +kernel
theorem dX11_tray_160 : decode cX11_tray 160 = .ok (.iconst 0, 1) := by decide +kernel
theorem dX11_tray_161 : decode cX11_tray 161 = .ok (.istore 5, 2) := by decide +kernel
theorem dX11_tray_163 : decode cX11_tray 163 = .ok (.iload 5, 2) := by decide +kernel
theorem dX11_tray_165 : decode cX11_tray 165 = .ok (.aload_n 0, 1) := by decide +kernel
theorem dX11_tray_166 : decode cX11_tray 166 = .ok (.getfield 87, 3) := by decide +kernel
theorem dX11_tray_169 : decode cX11_tray 169 = .ok (.if_icmp .ge 91, 3) := by decide +kernel
theorem dX11_tray_172 : decode cX11_tray 172 = .ok (.aload_n 0, 1) := by decide +kernel
theorem dX11_tray_173 : decode cX11_tray 173 = .ok (.iload 5, 2) := by decide +kernel
theorem dX11_tray_175 : decode cX11_tray 175 = .ok (.invokevirtual 108, 3) := by decide +kernel
theorem dX11_tray_178 : decode cX11_tray 178 = .ok (.istore 6, 2) := by decide +kernel
theorem dX11_tray_180 : decode cX11_tray 180 = .ok (.aload_n 0, 1) := by decide +kernel
theorem dX11_tray_181 : decode cX11_tray 181 = .ok (.getfield 81, 3) := by decide +kernel
theorem dX11_tray_184 : decode cX11_tray 184 = .ok (.iload 4, 2) := by decide +kernel
theorem dX11_tray_186 : decode cX11_tray 186 = .ok (.aload_n 0, 1) := by decide +kernel
theorem dX11_tray_187 : decode cX11_tray 187 = .ok (.getfield 72, 3) := by decide +kernel
theorem dX11_tray_190 : decode cX11_tray 190 = .ok (.iload_n 1, 1) := by decide +kernel
theorem dX11_tray_191 : decode cX11_tray 191 = .ok (.dup2, 1) := by decide +kernel
theorem dX11_tray_192 : decode cX11_tray 192 = .ok (.iaload, 1) := by decide +kernel
theorem dX11_tray_193 : decode cX11_tray 193 = .ok (.dup_x2, 1) := by decide +kernel
theorem dX11_tray_194 : decode cX11_tray 194 = .ok (.iconst 1, 1) := by decide +kernel
theorem dX11_tray_195 : decode cX11_tray 195 = .ok (.iadd, 1) := by decide +kernel
theorem dX11_tray_196 : decode cX11_tray 196 = .ok (.iastore, 1) := by decide +kernel
theorem dX11_tray_197 : decode cX11_tray 197 = .ok (.iadd, 1) := by decide +kernel
theorem dX11_tray_198 : decode cX11_tray 198 = .ok (.iload 6, 2) := by decide +kernel
theorem dX11_tray_200 : decode cX11_tray 200 = .ok (.iconst (-1), 1) := by decide +kernel
theorem dX11_tray_201 : decode cX11_tray 201 = .ok (.if_icmp .ne 7, 3) := by decide +kernel
theorem dX11_tray_204 : decode cX11_tray 204 = .ok (.lconst 0, 1) := by decide +kernel
theorem dX11_tray_205 : decode cX11_tray 205 = .ok (.goto 10, 3) := by decide +kernel
theorem dX11_tray_208 : decode cX11_tray 208 = .ok (.aload_n 0, 1) := by decide +kernel
theorem dX11_tray_209 : decode cX11_tray 209 = .ok (.getfield 48, 3) := by decide +kernel
theorem dX11_tray_212 : decode cX11_tray 212 = .ok (.iload 6, 2) := by decide +kernel
theorem dX11_tray_214 : decode cX11_tray 214 = .ok (.laload, 1) := by decide +kernel
theorem dX11_tray_215 : decode cX11_tray 215 = .ok (.lastore, 1) := by decide +kernel
theorem dX11_tray_216 : decode cX11_tray 216 = .ok (.aload_n 0, 1) := by decide +kernel
theorem dX11_tray_217 : decode cX11_tray 217 = .ok (.getfield 81, 3) := by decide +kernel
theorem dX11_tray_220 : decode cX11_tray 220 = .ok (.iload 4, 2) := by decide +kernel
theorem dX11_tray_222 : decode cX11_tray 222 = .ok (.aload_n 0, 1) := by decide +kernel
theorem dX11_tray_223 : decode cX11_tray 223 = .ok (.getfield 72, 3) := by decide +kernel
theorem dX11_tray_226 : decode cX11_tray 226 = .ok (.iload_n 1, 1) := by decide +kernel
theorem dX11_tray_227 : decode cX11_tray 227 = .ok (.dup2, 1) := by decide +kernel
theorem dX11_tray_228 : decode cX11_tray 228 = .ok (.iaload, 1) := by decide +kernel
theorem dX11_tray_229 : decode cX11_tray 229 = .ok (.dup_x2, 1) := by decide +kernel
theorem dX11_tray_230 : decode cX11_tray 230 = .ok (.iconst 1, 1) := by decide +kernel
theorem dX11_tray_231 : decode cX11_tray 231 = .ok (.iadd, 1) := by decide +kernel
theorem dX11_tray_232 : decode cX11_tray 232 = .ok (.iastore, 1) := by decide +kernel
theorem dX11_tray_233 : decode cX11_tray 233 = .ok (.iadd, 1) := by decide +kernel
theorem dX11_tray_234 : decode cX11_tray 234 = .ok (.iload 6, 2) := by decide +kernel
theorem dX11_tray_236 : decode cX11_tray 236 = .ok (.iconst (-1), 1) := by decide +kernel
theorem dX11_tray_237 : decode cX11_tray 237 = .ok (.if_icmp .ne 7, 3) := by decide +kernel
theorem dX11_tray_240 : decode cX11_tray 240 = .ok (.lconst 0, 1) := by decide +kernel
theorem dX11_tray_241 : decode cX11_tray 241 = .ok (.goto 12, 3) := by decide +kernel
theorem dX11_tray_244 : decode cX11_tray 244 = .ok (.aload_n 0, 1) := by decide +kernel
theorem dX11_tray_245 : decode cX11_tray 245 = .ok (.getfield 48, 3) := by decide +kernel
theorem dX11_tray_248 : decode cX11_tray 248 = .ok (.iload 6, 2) := by decide +kernel
theorem dX11_tray_250 : decode cX11_tray 250 = .ok (.iconst 1, 1) := by decide +kernel
theorem dX11_tray_251 : decode cX11_tray 251 = .ok (.iadd, 1) := by decide +kernel
theorem dX11_tray_252 : decode cX11_tray 252 = .ok (.laload, 1) := by decide +kernel
theorem dX11_tray_253 : decode cX11_tray 253 = .ok (.lastore, 1) := by decide +kernel
theorem dX11_tray_254 : decode cX11_tray 254 = .ok (.iinc 5 1, 3) := by decide +kernel
theorem dX11_tray_257 : decode cX11_tray 257 = .ok (.goto (-94), 3) := by decide +kernel
theorem dX11_tray_260 : decode cX11_tray 260 = .ok (.goto 74, 3) := by decide +kernel
theorem dX11_tray_263 : decode cX11_tray 263 = .ok (.iconst 0, 1) := by decide +kernel
theorem dX11_tray_264 : decode cX11_tray 264 = .ok (.istore 5, 2) := by decide +kernel
theorem dX11_tray_266 : decode cX11_tray 266 = .ok (.iload 5, 2) := by decide +kernel
theorem dX11_tray_268 : decode cX11_tray 268 = .ok (.aload_n 0, 1) := by decide +kernel
theorem dX11_tray_269 : decode cX11_tray 269 = .ok (.getfield 91, 3) := by decide +kernel
theorem dX11_tray_272 : decode cX11_tray 272 = .ok (.if_icmp .ge 59, 3) := by decide +kernel
theorem dX11_tray_275 : decode cX11_tray 275 = .ok (.aload_n 0, 1) := by decide +kernel
theorem dX11_tray_276 : decode cX11_tray 276 = .ok (.getfield 81, 3) := by decide +kernel
theorem dX11_tray_279 : decode cX11_tray 279 = .ok (.iload 4, 2) := by decide +kernel
theorem dX11_tray_281 : decode cX11_tray 281 = .ok (.aload_n 0, 1) := by decide +kernel
theorem dX11_tray_282 : decode cX11_tray 282 = .ok (.getfield 72, 3) := by decide +kernel
theorem dX11_tray_285 : decode cX11_tray 285 = .ok (.iload_n 1, 1) := by decide +kernel
theorem dX11_tray_286 : decode cX11_tray 286 = .ok (.dup2, 1) := by decide +kernel
theorem dX11_tray_287 : decode cX11_tray 287 = .ok (.iaload, 1) := by decide +kernel
theorem dX11_tray_288 : decode cX11_tray 288 = .ok (.dup_x2, 1) := by decide +kernel
theorem dX11_tray_289 : decode cX11_tray 289 = .ok (.iconst 1, 1) := by decide +kernel
theorem dX11_tray_290 : decode cX11_tray 290 = .ok (.iadd, 1) := by decide +kernel
theorem dX11_tray_291 : decode cX11_tray 291 = .ok (.iastore, 1) := by decide +kernel
theorem dX11_tray_292 : decode cX11_tray 292 = .ok (.iadd, 1) := by decide +kernel
theorem dX11_tray_293 : decode cX11_tray 293 = .ok (.iload_n 2, 1) := by decide +kernel
theorem dX11_tray_294 : decode cX11_tray 294 = .ok (.iconst 3, 1) := by decide +kernel
theorem dX11_tray_295 : decode cX11_tray 295 = .ok (.if_icmp .ne 14, 3) := by decide +kernel
theorem dX11_tray_298 : decode cX11_tray 298 = .ok (.aload_n 0, 1) := by decide +kernel
theorem dX11_tray_299 : decode cX11_tray 299 = .ok (.getfield 35, 3) := by decide +kernel
theorem dX11_tray_302 : decode cX11_tray 302 = .ok (.iload 5, 2) := by decide +kernel
theorem dX11_tray_304 : decode cX11_tray 304 = .ok (.iaload, 1) := by decide +kernel
theorem dX11_tray_305 : decode cX11_tray 305 = .ok (.i2l, 1) := by decide +kernel
theorem dX11_tray_306 : decode cX11_tray 306 = .ok (.goto 18, 3) := by decide +kernel
theorem dX11_tray_309 : decode cX11_tray 309 = .ok (.aload_n 0, 1) := by decide +kernel
theorem dX11_tray_310 : decode cX11_tray 310 = .ok (.getfield 38, 3) := by decide +kernel
theorem dX11_tray_313 : decode cX11_tray 313 = .ok (.iload 5, 2) := by decide +kernel
theorem dX11_tray_315 : decode cX11_tray 315 = .ok (.baload, 1) := by decide +kernel
theorem dX11_tray_316 : decode cX11_tray 316 = .ok (.ifCond .eq 7, 3) := by decide +kernel
theorem dX11_tray_319 : decode cX11_tray 319 = .ok (.lconst 1, 1) := by decide +kernel
theorem dX11_tray_320 : decode cX11_tray 320 = .ok (.goto 4, 3) := by decide +kernel
theorem dX11_tray_323 : decode cX11_tray 323 = .ok (.lconst 0, 1) := by decide +kernel
theorem dX11_tray_324 : decode cX11_tray 324 = .ok (.lastore, 1) := by decide +kernel
theorem dX11_tray_325 : decode cX11_tray 325 = .ok (.iinc 5 1, 3) := by decide +kernel
theorem dX11_tray_328 : decode cX11_tray 328 = .ok (.goto (-62), 3) := by decide +kernel
theorem dX11_tray_331 : decode cX11_tray 331 = .ok (.goto 3, 3) := by decide +kernel
theorem dX11_tray_334 : decode cX11_tray 334 = .ok (.aload_n 0, 1) := by decide +kernel
theorem dX11_tray_335 : decode cX11_tray 335 = .ok (.iconst 1, 1) := by decide +kernel
theorem dX11_tray_336 : decode cX11_tray 336 = .ok (.invokevirtual 212, 3) := by decide +kernel
theorem dX11_tray_339 : decode cX11_tray 339 = .ok (.ireturn, 1) := by decide +kernel
theorem dX11_forge_0 : decode cX11_forge 0 = .ok (.iload_n 1, 1) := by decide +kernel
theorem dX11_forge_1 : decode cX11_forge 1 = .ok (.ifCond .lt 30, 3) := by decide +kernel
theorem dX11_forge_4 : decode cX11_forge 4 = .ok (.iload_n 1, 1) := by decide +kernel
theorem dX11_forge_5 : decode cX11_forge 5 = .ok (.iconst 5, 1) := by decide +kernel
theorem dX11_forge_6 : decode cX11_forge 6 = .ok (.if_icmp .gt 25, 3) := by decide +kernel
theorem dX11_forge_9 : decode cX11_forge 9 = .ok (.iload_n 2, 1) := by decide +kernel
theorem dX11_forge_10 : decode cX11_forge 10 = .ok (.ifCond .lt 21, 3) := by decide +kernel
theorem dX11_forge_13 : decode cX11_forge 13 = .ok (.iload_n 2, 1) := by decide +kernel
theorem dX11_forge_14 : decode cX11_forge 14 = .ok (.bipush 8, 2) := by decide +kernel
theorem dX11_forge_16 : decode cX11_forge 16 = .ok (.if_icmp .gt 15, 3) := by decide +kernel
theorem dX11_forge_19 : decode cX11_forge 19 = .ok (.iload_n 3, 1) := by decide +kernel
theorem dX11_forge_20 : decode cX11_forge 20 = .ok (.bipush (-100), 2) := by decide +kernel
theorem dX11_forge_22 : decode cX11_forge 22 = .ok (.if_icmp .lt 9, 3) := by decide +kernel
theorem dX11_forge_25 : decode cX11_forge 25 = .ok (.iload_n 3, 1) := by decide +kernel
theorem dX11_forge_26 : decode cX11_forge 26 = .ok (.bipush 100, 2) := by decide +kernel
theorem dX11_forge_28 : decode cX11_forge 28 = .ok (.if_icmp .le 9, 3) := by decide +kernel
theorem dX11_forge_31 : decode cX11_forge 31 = .ok (.aload_n 0, 1) := by decide +kernel
theorem dX11_forge_32 : decode cX11_forge 32 = .ok (.iconst 1, 1) := by decide +kernel
theorem dX11_forge_33 : decode cX11_forge 33 = .ok (.invokevirtual 209, 3) := by decide +kernel
theorem dX11_forge_36 : decode cX11_forge 36 = .ok (.ireturn, 1) := by decide +kernel
theorem dX11_forge_37 : decode cX11_forge 37 = .ok (.aload_n 0, 1) := by decide +kernel
theorem dX11_forge_38 : decode cX11_forge 38 = .ok (.getfield 69, 3) := by decide +kernel
theorem dX11_forge_41 : decode cX11_forge 41 = .ok (.iload_n 1, 1) := by decide +kernel
theorem dX11_forge_42 : decode cX11_forge 42 = .ok (.iaload, 1) := by decide +kernel
theorem dX11_forge_43 : decode cX11_forge 43 = .ok (.istore 4, 2) := by decide +kernel
theorem dX11_forge_45 : decode cX11_forge 45 = .ok (.bipush 16, 2) := by decide +kernel
theorem dX11_forge_47 : decode cX11_forge 47 = .ok (.iload_n 1, 1) := by decide +kernel
theorem dX11_forge_48 : decode cX11_forge 48 = .ok (.imul, 1) := by decide +kernel
theorem dX11_forge_49 : decode cX11_forge 49 = .ok (.istore 5, 2) := by decide +kernel
theorem dX11_forge_51 : decode cX11_forge 51 = .ok (.iload_n 2, 1) := by decide +kernel
theorem dX11_forge_52 : decode cX11_forge 52 = .ok (.iconst 3, 1) := by decide +kernel
theorem dX11_forge_53 : decode cX11_forge 53 = .ok (.if_icmp .le 8, 3) := by decide +kernel
theorem dX11_forge_56 : decode cX11_forge 56 = .ok (.iload_n 2, 1) := by decide +kernel
theorem dX11_forge_57 : decode cX11_forge 57 = .ok (.iconst 5, 1) := by decide +kernel
theorem dX11_forge_58 : decode cX11_forge 58 = .ok (.if_icmp .ne 39, 3) := by decide +kernel
theorem dX11_forge_61 : decode cX11_forge 61 = .ok (.iload 4, 2) := by decide +kernel
theorem dX11_forge_63 : decode cX11_forge 63 = .ok (.ifCond .ne 10, 3) := by decide +kernel
theorem dX11_forge_66 : decode cX11_forge 66 = .ok (.aload_n 0, 1) := by decide +kernel
theorem dX11_forge_67 : decode cX11_forge 67 = .ok (.bipush 10, 2) := by decide +kernel
theorem dX11_forge_69 : decode cX11_forge 69 = .ok (.invokevirtual 209, 3) := by decide +kernel
theorem dX11_forge_72 : decode cX11_forge 72 = .ok (.ireturn, 1) := by decide +kernel
theorem dX11_forge_73 : decode cX11_forge 73 = .ok (.iload 4, 2) := by decide +kernel
theorem dX11_forge_75 : decode cX11_forge 75 = .ok (.iload_n 2, 1) := by decide +kernel
theorem dX11_forge_76 : decode cX11_forge 76 = .ok (.iconst 5, 1) := by decide +kernel
theorem dX11_forge_77 : decode cX11_forge 77 = .ok (.if_icmp .ne 7, 3) := by decide +kernel
theorem dX11_forge_80 : decode cX11_forge 80 = .ok (.iconst 3, 1) := by decide +kernel
theorem dX11_forge_81 : decode cX11_forge 81 = .ok (.goto 6, 3) := by decide +kernel
theorem dX11_forge_84 : decode cX11_forge 84 = .ok (.iload_n 2, 1) := by decide +kernel
theorem dX11_forge_85 : decode cX11_forge 85 = .ok (.iconst 1, 1) := by decide +kernel
theorem dX11_forge_86 : decode cX11_forge 86 = .ok (.iadd, 1) := by decide +kernel
theorem dX11_forge_87 : decode cX11_forge 87 = .ok (.if_icmp .eq 10, 3) := by decide +kernel
theorem dX11_forge_90 : decode cX11_forge 90 = .ok (.aload_n 0, 1) := by decide +kernel
theorem dX11_forge_91 : decode cX11_forge 91 = .ok (.bipush 11, 2) := by decide +kernel
theorem dX11_forge_93 : decode cX11_forge 93 = .ok (.invokevirtual 209, 3) := by decide +kernel
theorem dX11_forge_96 : decode cX11_forge 96 = .ok (.ireturn, 1) := by decide +kernel
theorem dX11_forge_97 : decode cX11_forge 97 = .ok (.iload_n 2, 1) := by decide +kernel
theorem dX11_forge_98 : decode cX11_forge 98 = .ok (.tableswitch 375 0 7 #[46, 123, 172, 172, 210, 229, 303, 352], 46) := by decide +kernel
theorem dX11_forge_144 : decode cX11_forge 144 = .ok (.iload_n 3, 1) := by decide +kernel
theorem dX11_forge_145 : decode cX11_forge 145 = .ok (.iconst 5, 1) := by decide +kernel
theorem dX11_forge_146 : decode cX11_forge 146 = .ok (.irem, 1) := by decide +kernel
theorem dX11_forge_147 : decode cX11_forge 147 = .ok (.istore 6, 2) := by decide +kernel
theorem dX11_forge_149 : decode cX11_forge 149 = .ok (.iload 6, 2) := by decide +kernel
theorem dX11_forge_151 : decode cX11_forge 151 = .ok (.ifCond .ge 6, 3) := by decide +kernel
theorem dX11_forge_154 : decode cX11_forge 154 = .ok (.iinc 6 5, 3) := by decide +kernel
theorem dX11_forge_157 : decode cX11_forge 157 = .ok (.iload 6, 2) := by decide +kernel
theorem dX11_forge_159 : decode cX11_forge 159 = .ok (.ifCond .eq 30, 3) := by decide +kernel
theorem dX11_forge_162 : decode cX11_forge 162 = .ok (.aload_n 0, 1) := by decide +kernel
theorem dX11_forge_163 : decode cX11_forge 163 = .ok (.getfield 75, 3) := by decide +kernel
theorem dX11_forge_166 : decode cX11_forge 166 = .ok (.iload_n 1, 1) := by decide +kernel
theorem dX11_forge_167 : decode cX11_forge 167 = .ok (.iaload, 1) := by decide +kernel
theorem dX11_forge_168 : decode cX11_forge 168 = .ok (.iload 6, 2) := by decide +kernel
theorem dX11_forge_170 : decode cX11_forge 170 = .ok (.if_icmp .eq 19, 3) := by decide +kernel
theorem dX11_forge_173 : decode cX11_forge 173 = .ok (.iload 6, 2) := by decide +kernel
theorem dX11_forge_175 : decode cX11_forge 175 = .ok (.iconst 3, 1) := by decide +kernel
theorem dX11_forge_176 : decode cX11_forge 176 = .ok (.if_icmp .ne 17, 3) := by decide +kernel
theorem dX11_forge_179 : decode cX11_forge 179 = .ok (.aload_n 0, 1) := by decide +kernel
theorem dX11_forge_180 : decode cX11_forge 180 = .ok (.getfield 75, 3) := by decide +kernel
theorem dX11_forge_183 : decode cX11_forge 183 = .ok (.iload_n 1, 1) := by decide +kernel
theorem dX11_forge_184 : decode cX11_forge 184 = .ok (.iaload, 1) := by decide +kernel
theorem dX11_forge_185 : decode cX11_forge 185 = .ok (.iconst 4, 1) := by decide +kernel
theorem dX11_forge_186 : decode cX11_forge 186 = .ok (.if_icmp .ne 7, 3) := by decide +kernel
theorem dX11_forge_189 : decode cX11_forge 189 = .ok (.iconst 1, 1) := by decide +kernel
theorem dX11_forge_190 : decode cX11_forge 190 = .ok (.goto 4, 3) := by decide +kernel
theorem dX11_forge_193 : decode cX11_forge 193 = .ok (.iconst 0, 1) := by decide +kernel
theorem dX11_forge_194 : decode cX11_forge 194 = .ok (.istore 7, 2) := by decide +kernel
theorem dX11_forge_196 : decode cX11_forge 196 = .ok (.iload 7, 2) := by decide +kernel
theorem dX11_forge_198 : decode cX11_forge 198 = .ok (.ifCond .eq 16, 3) := by decide +kernel
theorem dX11_forge_201 : decode cX11_forge 201 = .ok (.aload_n 0, 1) := by decide +kernel
theorem dX11_forge_202 : decode cX11_forge 202 = .ok (.aload_n 0, 1) := by decide +kernel
theorem dX11_forge_203 : decode cX11_forge 203 = .ok (.getfield 78, 3) := by decide +kernel
theorem dX11_forge_206 : decode cX11_forge 206 = .ok (.iload_n 1, 1) := by decide +kernel
theorem dX11_forge_207 : decode cX11_forge 207 = .ok (.iaload, 1) := by decide +kernel
theorem dX11_forge_208 : decode cX11_forge 208 = .ok (.invokevirtual 212, 3) := by decide +kernel
theorem dX11_forge_211 : decode cX11_forge 211 = .ok (.goto 9, 3) := by decide +kernel
theorem dX11_forge_214 : decode cX11_forge 214 = .ok (.aload_n 0, 1) := by decide +kernel
theorem dX11_forge_215 : decode cX11_forge 215 = .ok (.bipush 11, 2) := by decide +kernel
theorem dX11_forge_217 : decode cX11_forge 217 = .ok (.invokevirtual 209, 3) := by decide +kernel
theorem dX11_forge_220 : decode cX11_forge 220 = .ok (.ireturn, 1) := by decide +kernel
theorem dX11_forge_221 : decode cX11_forge 221 = .ok (.iconst 0, 1) := by decide +kernel
theorem dX11_forge_222 : decode cX11_forge 222 = .ok (.istore 6, 2) := by decide +kernel
theorem dX11_forge_224 : decode cX11_forge 224 = .ok (.iconst 0, 1) := by decide +kernel
theorem dX11_forge_225 : decode cX11_forge 225 = .ok (.istore 7, 2) := by decide +kernel
theorem dX11_forge_227 : decode cX11_forge 227 = .ok (.iload 7, 2) := by decide +kernel
theorem dX11_forge_229 : decode cX11_forge 229 = .ok (.aload_n 0, 1) := by decide +kernel
theorem dX11_forge_230 : decode cX11_forge 230 = .ok (.getfield 72, 3) := by decide +kernel
theorem dX11_forge_233 : decode cX11_forge 233 = .ok (.iload_n 1, 1) := by decide +kernel
theorem dX11_forge_234 : decode cX11_forge 234 = .ok (.iaload, 1) := by decide +kernel
theorem dX11_forge_235 : decode cX11_forge 235 = .ok (.if_icmp .ge 28, 3) := by decide +kernel
theorem dX11_forge_238 : decode cX11_forge 238 = .ok (.aload_n 0, 1) := by decide +kernel
theorem dX11_forge_239 : decode cX11_forge 239 = .ok (.getfield 81, 3) := by decide +kernel
theorem dX11_forge_242 : decode cX11_forge 242 = .ok (.iload 5, 2) := by decide +kernel
theorem dX11_forge_244 : decode cX11_forge 244 = .ok (.iload 7, 2) := by decide +kernel
theorem dX11_forge_246 : decode cX11_forge 246 = .ok (.iadd, 1) := by decide +kernel
theorem dX11_forge_247 : decode cX11_forge 247 = .ok (.laload, 1) := by decide +kernel
theorem dX11_forge_248 : decode cX11_forge 248 = .ok (.iload_n 3, 1) := by decide +kernel
theorem dX11_forge_249 : decode cX11_forge 249 = .ok (.i2l, 1) := by decide +kernel
theorem dX11_forge_250 : decode cX11_forge 250 = .ok (.lcmp, 1) := by decide +kernel
theorem dX11_forge_251 : decode cX11_forge 251 = .ok (.ifCond .ne 6, 3) := by decide +kernel
theorem dX11_forge_254 : decode cX11_forge 254 = .ok (.iinc 6 1, 3) := by decide +kernel
theorem dX11_forge_257 : decode cX11_forge 257 = .ok (.iinc 7 1, 3) := by decide +kernel
theorem dX11_forge_260 : decode cX11_forge 260 = .ok (.goto (-33), 3) := by decide +kernel
theorem dX11_forge_263 : decode cX11_forge 263 = .ok (.aload_n 0, 1) := by decide +kernel
theorem dX11_forge_264 : decode cX11_forge 264 = .ok (.iload 6, 2) := by decide +kernel
theorem dX11_forge_266 : decode cX11_forge 266 = .ok (.invokevirtual 212, 3) := by decide +kernel
theorem dX11_forge_269 : decode cX11_forge 269 = .ok (.ireturn, 1) := by decide +kernel
theorem dX11_forge_270 : decode cX11_forge 270 = .ok (.iload_n 3, 1) := by decide +kernel
theorem dX11_forge_271 : decode cX11_forge 271 = .ok (.ifCond .lt 13, 3) := by decide +kernel
theorem dX11_forge_274 : decode cX11_forge 274 = .ok (.iload_n 3, 1) := by decide +kernel
theorem dX11_forge_275 : decode cX11_forge 275 = .ok (.aload_n 0, 1) := by decide +kernel
theorem dX11_forge_276 : decode cX11_forge 276 = .ok (.getfield 72, 3) := by decide +kernel
theorem dX11_forge_279 : decode cX11_forge 279 = .ok (.iload_n 1, 1) := by decide +kernel
theorem dX11_forge_280 : decode cX11_forge 280 = .ok (.iaload, 1) := by decide +kernel
theorem dX11_forge_281 : decode cX11_forge 281 = .ok (.if_icmp .lt 12, 3) := by decide +kernel
theorem dX11_forge_284 : decode cX11_forge 284 = .ok (.aload_n 0, 1) := by decide +kernel
theorem dX11_forge_285 : decode cX11_forge 285 = .ok (.bipush 12, 2) := by decide +kernel
theorem dX11_forge_287 : decode cX11_forge 287 = .ok (.invokevirtual 209, 3) := by decide +kernel
theorem dX11_forge_290 : decode cX11_forge 290 = .ok (.goto 17, 3) := by decide +kernel
theorem dX11_forge_293 : decode cX11_forge 293 = .ok (.aload_n 0, 1) := by decide +kernel
theorem dX11_forge_294 : decode cX11_forge 294 = .ok (.aload_n 0, 1) := by decide +kernel
theorem dX11_forge_295 : decode cX11_forge 295 = .ok (.getfield 81, 3) := by decide +kernel
theorem dX11_forge_298 : decode cX11_forge 298 = .ok (.iload 5, 2) := by decide +kernel
theorem dX11_forge_300 : decode cX11_forge 300 = .ok (.iload_n 3, 1) := by decide +kernel
theorem dX11_forge_301 : decode cX11_forge 301 = .ok (.iadd, 1) := by decide +kernel
theorem dX11_forge_302 : decode cX11_forge 302 = .ok (.laload, 1) := by decide +kernel
theorem dX11_forge_303 : decode cX11_forge 303 = .ok (.l2i, 1) := by decide +kernel
theorem dX11_forge_304 : decode cX11_forge 304 = .ok (.invokevirtual 212, 3) := by decide +kernel
theorem dX11_forge_307 : decode cX11_forge 307 = .ok (.ireturn, 1) := by decide +kernel
theorem dX11_forge_308 : decode cX11_forge 308 = .ok (.iload_n 3, 1) := by decide +kernel
theorem dX11_forge_309 : decode cX11_forge 309 = .ok (.ifCond .ge 12, 3) := by decide +kernel
theorem dX11_forge_312 : decode cX11_forge 312 = .ok (.aload_n 0, 1) := by decide +kernel
theorem dX11_forge_313 : decode cX11_forge 313 = .ok (.bipush 13, 2) := by decide +kernel
theorem dX11_forge_315 : decode cX11_forge 315 = .ok (.invokevirtual 209, 3) := by decide +kernel
theorem dX11_forge_318 : decode cX11_forge 318 = .ok (.goto 8, 3) := by decide +kernel
theorem dX11_forge_321 : decode cX11_forge 321 = .ok (.aload_n 0, 1) := by decide +kernel
theorem dX11_forge_322 : decode cX11_forge 322 = .ok (.iload_n 3, 1) := by decide +kernel
theorem dX11_forge_323 : decode cX11_forge 323 = .ok (.invokevirtual 212, 3) := by decide +kernel
theorem dX11_forge_326 : decode cX11_forge 326 = .ok (.ireturn, 1) := by decide +kernel
theorem dX11_forge_327 : decode cX11_forge 327 = .ok (.iload_n 3, 1) := by decide +kernel
theorem dX11_forge_328 : decode cX11_forge 328 = .ok (.ifCond .lt 23, 3) := by decide +kernel
theorem dX11_forge_331 : decode cX11_forge 331 = .ok (.iconst 1, 1) := by decide +kernel
theorem dX11_forge_332 : decode cX11_forge 332 = .ok (.iload_n 3, 1) := by decide +kernel
theorem dX11_forge_333 : decode cX11_forge 333 = .ok (.iadd, 1) := by decide +kernel
theorem dX11_forge_334 : decode cX11_forge 334 = .ok (.aload_n 0, 1) := by decide +kernel
theorem dX11_forge_335 : decode cX11_forge 335 = .ok (.getfield 72, 3) := by decide +kernel
theorem dX11_forge_338 : decode cX11_forge 338 = .ok (.iload_n 1, 1) := by decide +kernel
theorem dX11_forge_339 : decode cX11_forge 339 = .ok (.iaload, 1) := by decide +kernel
theorem dX11_forge_340 : decode cX11_forge 340 = .ok (.if_icmp .gt 11, 3) := by decide +kernel
theorem dX11_forge_343 : decode cX11_forge 343 = .ok (.iload_n 3, 1) := by decide +kernel
theorem dX11_forge_344 : decode cX11_forge 344 = .ok (.iload_n 3, 1) := by decide +kernel
theorem dX11_forge_345 : decode cX11_forge 345 = .ok (.iadd, 1) := by decide +kernel
theorem dX11_forge_346 : decode cX11_forge 346 = .ok (.bipush 9, 2) := by decide +kernel
theorem dX11_forge_348 : decode cX11_forge 348 = .ok (.if_icmp .le 10, 3) := by decide +kernel
theorem dX11_forge_351 : decode cX11_forge 351 = .ok (.aload_n 0, 1) := by decide +kernel
theorem dX11_forge_352 : decode cX11_forge 352 = .ok (.bipush 12, 2) := by decide +kernel
theorem dX11_forge_354 : decode cX11_forge 354 = .ok (.invokevirtual 209, 3) := by decide +kernel
theorem dX11_forge_357 : decode cX11_forge 357 = .ok (.ireturn, 1) := by decide +kernel
theorem dX11_forge_358 : decode cX11_forge 358 = .ok (.iconst 0, 1) := by decide +kernel
theorem dX11_forge_359 : decode cX11_forge 359 = .ok (.istore 6, 2) := by decide +kernel
theorem dX11_forge_361 : decode cX11_forge 361 = .ok (.iconst 0, 1) := by decide +kernel
theorem dX11_forge_362 : decode cX11_forge 362 = .ok (.istore 7, 2) := by decide +kernel
theorem dX11_forge_364 : decode cX11_forge 364 = .ok (.iload 7, 2) := by decide +kernel
theorem dX11_forge_366 : decode cX11_forge 366 = .ok (.iload_n 3, 1) := by decide +kernel
theorem dX11_forge_367 : decode cX11_forge 367 = .ok (.if_icmp .ge 27, 3) := by decide +kernel
theorem dX11_forge_370 : decode cX11_forge 370 = .ok (.iload 6, 2) := by decide +kernel
theorem dX11_forge_372 : decode cX11_forge 372 = .ok (.aload_n 0, 1) := by decide +kernel
theorem dX11_forge_373 : decode cX11_forge 373 = .ok (.getfield 81, 3) := by decide +kernel
theorem dX11_forge_376 : decode cX11_forge 376 = .ok (.iload 5, 2) := by decide +kernel
theorem dX11_forge_378 : decode cX11_forge 378 = .ok (.iconst 1, 1) := by decide +kernel
theorem dX11_forge_379 : decode cX11_forge 379 = .ok (.iadd, 1) := by decide +kernel
theorem dX11_forge_380 : decode cX11_forge 380 = .ok (.iload 7, 2) := by decide +kernel
theorem dX11_forge_382 : decode cX11_forge 382 = .ok (.iadd, 1) := by decide +kernel
theorem dX11_forge_383 : decode cX11_forge 383 = .ok (.laload, 1) := by decide +kernel
theorem dX11_forge_384 : decode cX11_forge 384 = .ok (.l2i, 1) := by decide +kernel
theorem dX11_forge_385 : decode cX11_forge 385 = .ok (.iadd, 1) := by decide +kernel
theorem dX11_forge_386 : decode cX11_forge 386 = .ok (.istore 6, 2) := by decide +kernel
theorem dX11_forge_388 : decode cX11_forge 388 = .ok (.iinc 7 1, 3) := by decide +kernel
theorem dX11_forge_391 : decode cX11_forge 391 = .ok (.goto (-27), 3) := by decide +kernel
theorem dX11_forge_394 : decode cX11_forge 394 = .ok (.aload_n 0, 1) := by decide +kernel
theorem dX11_forge_395 : decode cX11_forge 395 = .ok (.iload 6, 2) := by decide +kernel
theorem dX11_forge_397 : decode cX11_forge 397 = .ok (.invokevirtual 212, 3) := by decide +kernel
theorem dX11_forge_400 : decode cX11_forge 400 = .ok (.ireturn, 1) := by decide +kernel
theorem dX11_forge_401 : decode cX11_forge 401 = .ok (.iload 4, 2) := by decide +kernel
theorem dX11_forge_403 : decode cX11_forge 403 = .ok (.ifCond .ne 11, 3) := by decide +kernel
theorem dX11_forge_406 : decode cX11_forge 406 = .ok (.aload_n 0, 1) := by decide +kernel
theorem dX11_forge_407 : decode cX11_forge 407 = .ok (.iconst 0, 1) := by decide +kernel
theorem dX11_forge_408 : decode cX11_forge 408 = .ok (.invokevirtual 212, 3) := by decide +kernel
theorem dX11_forge_411 : decode cX11_forge 411 = .ok (.goto 38, 3) := by decide +kernel
theorem dX11_forge_414 : decode cX11_forge 414 = .ok (.iload 4, 2) := by decide +kernel
theorem dX11_forge_416 : decode cX11_forge 416 = .ok (.iconst 1, 1) := by decide +kernel
theorem dX11_forge_417 : decode cX11_forge 417 = .ok (.if_icmp .ne 26, 3) := by decide +kernel
theorem dX11_forge_420 : decode cX11_forge 420 = .ok (.aload_n 0, 1) := by decide +kernel
theorem dX11_forge_421 : decode cX11_forge 421 = .ok (.getfield 75, 3) := by decide +kernel
theorem dX11_forge_424 : decode cX11_forge 424 = .ok (.iload_n 1, 1) := by decide +kernel
theorem dX11_forge_425 : decode cX11_forge 425 = .ok (.iaload, 1) := by decide +kernel
theorem dX11_forge_426 : decode cX11_forge 426 = .ok (.iconst 3, 1) := by decide +kernel
theorem dX11_forge_427 : decode cX11_forge 427 = .ok (.if_icmp .lt 16, 3) := by decide +kernel
theorem dX11_forge_430 : decode cX11_forge 430 = .ok (.aload_n 0, 1) := by decide +kernel
theorem dX11_forge_431 : decode cX11_forge 431 = .ok (.aload_n 0, 1) := by decide +kernel
theorem dX11_forge_432 : decode cX11_forge 432 = .ok (.getfield 72, 3) := by decide +kernel
theorem dX11_forge_435 : decode cX11_forge 435 = .ok (.iload_n 1, 1) := by decide +kernel
theorem dX11_forge_436 : decode cX11_forge 436 = .ok (.iaload, 1) := by decide +kernel
theorem dX11_forge_437 : decode cX11_forge 437 = .ok (.invokevirtual 212, 3) := by decide +kernel
theorem dX11_forge_440 : decode cX11_forge 440 = .ok (.goto 9, 3) := by decide +kernel
theorem dX11_forge_443 : decode cX11_forge 443 = .ok (.aload_n 0, 1) := by decide +kernel
theorem dX11_forge_444 : decode cX11_forge 444 = .ok (.bipush 14, 2) := by decide +kernel
theorem dX11_forge_446 : decode cX11_forge 446 = .ok (.invokevirtual 209, 3) := by decide +kernel
theorem dX11_forge_449 : decode cX11_forge 449 = .ok (.ireturn, 1) := by decide +kernel
theorem dX11_forge_450 : decode cX11_forge 450 = .ok (.iload_n 3, 1) := by decide +kernel
theorem dX11_forge_451 : decode cX11_forge 451 = .ok (.ifCond .ne 12, 3) := by decide +kernel
theorem dX11_forge_454 : decode cX11_forge 454 = .ok (.aload_n 0, 1) := by decide +kernel
theorem dX11_forge_455 : decode cX11_forge 455 = .ok (.bipush 15, 2) := by decide +kernel
theorem dX11_forge_457 : decode cX11_forge 457 = .ok (.invokevirtual 209, 3) := by decide +kernel
theorem dX11_forge_460 : decode cX11_forge 460 = .ok (.goto 12, 3) := by decide +kernel
theorem dX11_forge_463 : decode cX11_forge 463 = .ok (.aload_n 0, 1) := by decide +kernel
theorem dX11_forge_464 : decode cX11_forge 464 = .ok (.sipush 1000, 3) := by decide +kernel
theorem dX11_forge_467 : decode cX11_forge 467 = .ok (.iload_n 3, 1) := by decide +kernel
theorem dX11_forge_468 : decode cX11_forge 468 = .ok (.idiv, 1) := by decide +kernel
theorem dX11_forge_469 : decode cX11_forge 469 = .ok (.invokevirtual 212, 3) := by decide +kernel
theorem dX11_forge_472 : decode cX11_forge 472 = .ok (.ireturn, 1) := by decide +kernel
theorem dX11_forge_473 : decode cX11_forge 473 = .ok (.aload_n 0, 1) := by decide +kernel
theorem dX11_forge_474 : decode cX11_forge 474 = .ok (.bipush 10, 2) := by decide +kernel
theorem dX11_forge_476 : decode cX11_forge 476 = .ok (.invokevirtual 209, 3) := by decide +kernel
theorem dX11_forge_479 : decode cX11_forge 479 = .ok (.ireturn, 1) := by decide +kernel
theorem dX11_status_0 : decode cX11_status 0 = .ok (.aload_n 0, 1) := by decide +kernel
theorem dX11_status_1 : decode cX11_status 1 = .ok (.getfield 206, 3) := by decide +kernel
theorem dX11_status_4 : decode cX11_status 4 = .ok (.ireturn, 1) := by decide +kernel
theorem dJ6_bitCount_0f7a4_0 : decode cJ6_bitCount_0f7a4 0 = .ok (.iload_n 0, 1) := by decide +kernel
theorem dJ6_bitCount_0f7a4_1 : decode cJ6_bitCount_0f7a4 1 = .ok (.iload_n 0, 1) := by decide +kernel
theorem dJ6_bitCount_0f7a4_2 : decode cJ6_bitCount_0f7a4 2 = .ok (.iconst 1, 1) := by decide +kernel
theorem dJ6_bitCount_0f7a4_3 : decode cJ6_bitCount_0f7a4 3 = .ok (.iushr, 1) := by decide +kernel
theorem dJ6_bitCount_0f7a4_4 : decode cJ6_bitCount_0f7a4 4 = .ok (.ldc_w 265, 3) := by decide +kernel
theorem dJ6_bitCount_0f7a4_7 : decode cJ6_bitCount_0f7a4 7 = .ok (.iand, 1) := by decide +kernel
theorem dJ6_bitCount_0f7a4_8 : decode cJ6_bitCount_0f7a4 8 = .ok (.isub, 1) := by decide +kernel
theorem dJ6_bitCount_0f7a4_9 : decode cJ6_bitCount_0f7a4 9 = .ok (.istore_n 0, 1) := by decide +kernel
theorem dJ6_bitCount_0f7a4_10 : decode cJ6_bitCount_0f7a4 10 = .ok (.iload_n 0, 1) := by decide +kernel
theorem dJ6_bitCount_0f7a4_11 : decode cJ6_bitCount_0f7a4 11 = .ok (.ldc_w 266, 3) := by decide +kernel
theorem dJ6_bitCount_0f7a4_14 : decode cJ6_bitCount_0f7a4 14 = .ok (.iand, 1) := by decide +kernel
theorem dJ6_bitCount_0f7a4_15 : decode cJ6_bitCount_0f7a4 15 = .ok (.iload_n 0, 1) := by decide +kernel
theorem dJ6_bitCount_0f7a4_16 : decode cJ6_bitCount_0f7a4 16 = .ok (.iconst 2, 1) := by decide +kernel
theorem dJ6_bitCount_0f7a4_17 : decode cJ6_bitCount_0f7a4 17 = .ok (.iushr, 1) := by decide +kernel
theorem dJ6_bitCount_0f7a4_18 : decode cJ6_bitCount_0f7a4 18 = .ok (.ldc_w 266, 3) := by decide +kernel
theorem dJ6_bitCount_0f7a4_21 : decode cJ6_bitCount_0f7a4 21 = .ok (.iand, 1) := by decide +kernel
theorem dJ6_bitCount_0f7a4_22 : decode cJ6_bitCount_0f7a4 22 = .ok (.iadd, 1) := by decide +kernel
theorem dJ6_bitCount_0f7a4_23 : decode cJ6_bitCount_0f7a4 23 = .ok (.istore_n 0, 1) := by decide +kernel
theorem dJ6_bitCount_0f7a4_24 : decode cJ6_bitCount_0f7a4 24 = .ok (.iload_n 0, 1) := by decide +kernel
theorem dJ6_bitCount_0f7a4_25 : decode cJ6_bitCount_0f7a4 25 = .ok (.iload_n 0, 1) := by decide +kernel
theorem dJ6_bitCount_0f7a4_26 : decode cJ6_bitCount_0f7a4 26 = .ok (.iconst 4, 1) := by decide +kernel
theorem dJ6_bitCount_0f7a4_27 : decode cJ6_bitCount_0f7a4 27 = .ok (.iushr, 1) := by decide +kernel
theorem dJ6_bitCount_0f7a4_28 : decode cJ6_bitCount_0f7a4 28 = .ok (.iadd, 1) := by decide +kernel
theorem dJ6_bitCount_0f7a4_29 : decode cJ6_bitCount_0f7a4 29 = .ok (.ldc_w 267, 3) := by decide +kernel
theorem dJ6_bitCount_0f7a4_32 : decode cJ6_bitCount_0f7a4 32 = .ok (.iand, 1) := by decide +kernel
theorem dJ6_bitCount_0f7a4_33 : decode cJ6_bitCount_0f7a4 33 = .ok (.istore_n 0, 1) := by decide +kernel
theorem dJ6_bitCount_0f7a4_34 : decode cJ6_bitCount_0f7a4 34 = .ok (.iload_n 0, 1) := by decide +kernel
theorem dJ6_bitCount_0f7a4_35 : decode cJ6_bitCount_0f7a4 35 = .ok (.iload_n 0, 1) := by decide +kernel
theorem dJ6_bitCount_0f7a4_36 : decode cJ6_bitCount_0f7a4 36 = .ok (.bipush 8, 2) := by decide +kernel
theorem dJ6_bitCount_0f7a4_38 : decode cJ6_bitCount_0f7a4 38 = .ok (.iushr, 1) := by decide +kernel
theorem dJ6_bitCount_0f7a4_39 : decode cJ6_bitCount_0f7a4 39 = .ok (.iadd, 1) := by decide +kernel
theorem dJ6_bitCount_0f7a4_40 : decode cJ6_bitCount_0f7a4 40 = .ok (.istore_n 0, 1) := by decide +kernel
theorem dJ6_bitCount_0f7a4_41 : decode cJ6_bitCount_0f7a4 41 = .ok (.iload_n 0, 1) := by decide +kernel
theorem dJ6_bitCount_0f7a4_42 : decode cJ6_bitCount_0f7a4 42 = .ok (.iload_n 0, 1) := by decide +kernel
theorem dJ6_bitCount_0f7a4_43 : decode cJ6_bitCount_0f7a4 43 = .ok (.bipush 16, 2) := by decide +kernel
theorem dJ6_bitCount_0f7a4_45 : decode cJ6_bitCount_0f7a4 45 = .ok (.iushr, 1) := by decide +kernel
theorem dJ6_bitCount_0f7a4_46 : decode cJ6_bitCount_0f7a4 46 = .ok (.iadd, 1) := by decide +kernel
theorem dJ6_bitCount_0f7a4_47 : decode cJ6_bitCount_0f7a4 47 = .ok (.istore_n 0, 1) := by decide +kernel
theorem dJ6_bitCount_0f7a4_48 : decode cJ6_bitCount_0f7a4 48 = .ok (.iload_n 0, 1) := by decide +kernel
theorem dJ6_bitCount_0f7a4_49 : decode cJ6_bitCount_0f7a4 49 = .ok (.bipush 63, 2) := by decide +kernel
theorem dJ6_bitCount_0f7a4_51 : decode cJ6_bitCount_0f7a4 51 = .ok (.iand, 1) := by decide +kernel
theorem dJ6_bitCount_0f7a4_52 : decode cJ6_bitCount_0f7a4 52 = .ok (.ireturn, 1) := by decide +kernel
theorem dJ9_floorMod_7cf53_0 : decode cJ9_floorMod_7cf53 0 = .ok (.iload_n 0, 1) := by decide +kernel
theorem dJ9_floorMod_7cf53_1 : decode cJ9_floorMod_7cf53 1 = .ok (.iload_n 1, 1) := by decide +kernel
theorem dJ9_floorMod_7cf53_2 : decode cJ9_floorMod_7cf53 2 = .ok (.irem, 1) := by decide +kernel
theorem dJ9_floorMod_7cf53_3 : decode cJ9_floorMod_7cf53 3 = .ok (.istore_n 2, 1) := by decide +kernel
theorem dJ9_floorMod_7cf53_4 : decode cJ9_floorMod_7cf53 4 = .ok (.iload_n 0, 1) := by decide +kernel
theorem dJ9_floorMod_7cf53_5 : decode cJ9_floorMod_7cf53 5 = .ok (.iload_n 1, 1) := by decide +kernel
theorem dJ9_floorMod_7cf53_6 : decode cJ9_floorMod_7cf53 6 = .ok (.ixor, 1) := by decide +kernel
theorem dJ9_floorMod_7cf53_7 : decode cJ9_floorMod_7cf53 7 = .ok (.ifCond .ge 11, 3) := by decide +kernel
theorem dJ9_floorMod_7cf53_10 : decode cJ9_floorMod_7cf53 10 = .ok (.iload_n 2, 1) := by decide +kernel
theorem dJ9_floorMod_7cf53_11 : decode cJ9_floorMod_7cf53 11 = .ok (.ifCond .eq 7, 3) := by decide +kernel
theorem dJ9_floorMod_7cf53_14 : decode cJ9_floorMod_7cf53 14 = .ok (.iload_n 2, 1) := by decide +kernel
theorem dJ9_floorMod_7cf53_15 : decode cJ9_floorMod_7cf53 15 = .ok (.iload_n 1, 1) := by decide +kernel
theorem dJ9_floorMod_7cf53_16 : decode cJ9_floorMod_7cf53 16 = .ok (.iadd, 1) := by decide +kernel
theorem dJ9_floorMod_7cf53_17 : decode cJ9_floorMod_7cf53 17 = .ok (.ireturn, 1) := by decide +kernel
theorem dJ9_floorMod_7cf53_18 : decode cJ9_floorMod_7cf53 18 = .ok (.iload_n 2, 1) := by decide +kernel
theorem dJ9_floorMod_7cf53_19 : decode cJ9_floorMod_7cf53 19 = .ok (.ireturn, 1) := by decide +kernel
theorem dJ9_abs_067f4_0 : decode cJ9_abs_067f4 0 = .ok (.lload_n 0, 1) := by decide +kernel
theorem dJ9_abs_067f4_1 : decode cJ9_abs_067f4 1 = .ok (.lconst 0, 1) := by decide +kernel
theorem dJ9_abs_067f4_2 : decode cJ9_abs_067f4 2 = .ok (.lcmp, 1) := by decide +kernel
theorem dJ9_abs_067f4_3 : decode cJ9_abs_067f4 3 = .ok (.ifCond .ge 8, 3) := by decide +kernel
theorem dJ9_abs_067f4_6 : decode cJ9_abs_067f4 6 = .ok (.lload_n 0, 1) := by decide +kernel
theorem dJ9_abs_067f4_7 : decode cJ9_abs_067f4 7 = .ok (.lneg, 1) := by decide +kernel
theorem dJ9_abs_067f4_8 : decode cJ9_abs_067f4 8 = .ok (.goto 4, 3) := by decide +kernel
theorem dJ9_abs_067f4_11 : decode cJ9_abs_067f4 11 = .ok (.lload_n 0, 1) := by decide +kernel
theorem dJ9_abs_067f4_12 : decode cJ9_abs_067f4 12 = .ok (.lreturn, 1) := by decide +kernel
theorem dJ9_max_7cf53_0 : decode cJ9_max_7cf53 0 = .ok (.iload_n 0, 1) := by decide +kernel
theorem dJ9_max_7cf53_1 : decode cJ9_max_7cf53 1 = .ok (.iload_n 1, 1) := by decide +kernel
theorem dJ9_max_7cf53_2 : decode cJ9_max_7cf53 2 = .ok (.if_icmp .lt 7, 3) := by decide +kernel
theorem dJ9_max_7cf53_5 : decode cJ9_max_7cf53 5 = .ok (.iload_n 0, 1) := by decide +kernel
theorem dJ9_max_7cf53_6 : decode cJ9_max_7cf53 6 = .ok (.goto 4, 3) := by decide +kernel
theorem dJ9_max_7cf53_9 : decode cJ9_max_7cf53 9 = .ok (.iload_n 1, 1) := by decide +kernel
theorem dJ9_max_7cf53_10 : decode cJ9_max_7cf53 10 = .ok (.ireturn, 1) := by decide +kernel
theorem dJ9_min_7cf53_0 : decode cJ9_min_7cf53 0 = .ok (.iload_n 0, 1) := by decide +kernel
theorem dJ9_min_7cf53_1 : decode cJ9_min_7cf53 1 = .ok (.iload_n 1, 1) := by decide +kernel
theorem dJ9_min_7cf53_2 : decode cJ9_min_7cf53 2 = .ok (.if_icmp .gt 7, 3) := by decide +kernel
theorem dJ9_min_7cf53_5 : decode cJ9_min_7cf53 5 = .ok (.iload_n 0, 1) := by decide +kernel
theorem dJ9_min_7cf53_6 : decode cJ9_min_7cf53 6 = .ok (.goto 4, 3) := by decide +kernel
theorem dJ9_min_7cf53_9 : decode cJ9_min_7cf53 9 = .ok (.iload_n 1, 1) := by decide +kernel
theorem dJ9_min_7cf53_10 : decode cJ9_min_7cf53 10 = .ok (.ireturn, 1) := by decide +kernel
theorem dJxa1e45_init_da8c8_0 : decode cJxa1e45_init_da8c8 0 = .ok (.aload_n 0, 1) := by decide +kernel
theorem dJxa1e45_init_da8c8_1 : decode cJxa1e45_init_da8c8 1 = .ok (.invokespecial 1, 3) := by decide +kernel
theorem dJxa1e45_init_da8c8_4 : decode cJxa1e45_init_da8c8 4 = .ok (.return_, 1) := by decide +kernel
theorem dJxc12de_init_da8c8_0 : decode cJxc12de_init_da8c8 0 = .ok (.aload_n 0, 1) := by decide +kernel
theorem dJxc12de_init_da8c8_1 : decode cJxc12de_init_da8c8 1 = .ok (.invokespecial 1, 3) := by decide +kernel
theorem dJxc12de_init_da8c8_4 : decode cJxc12de_init_da8c8 4 = .ok (.aload_n 0, 1) := by decide +kernel
theorem dJxc12de_init_da8c8_5 : decode cJxc12de_init_da8c8 5 = .ok (.iconst 0, 1) := by decide +kernel
theorem dJxc12de_init_da8c8_6 : decode cJxc12de_init_da8c8 6 = .ok (.putfield 7, 3) := by decide +kernel
theorem dJxc12de_init_da8c8_9 : decode cJxc12de_init_da8c8 9 = .ok (.return_, 1) := by decide +kernel
theorem dJx4a65c_init_da8c8_0 : decode cJx4a65c_init_da8c8 0 = .ok (.aload_n 0, 1) := by decide +kernel
theorem dJx4a65c_init_da8c8_1 : decode cJx4a65c_init_da8c8 1 = .ok (.invokespecial 1, 3) := by decide +kernel
theorem dJx4a65c_init_da8c8_4 : decode cJx4a65c_init_da8c8 4 = .ok (.aload_n 0, 1) := by decide +kernel
theorem dJx4a65c_init_da8c8_5 : decode cJx4a65c_init_da8c8 5 = .ok (.getstatic 39, 3) := by decide +kernel
theorem dJx4a65c_init_da8c8_8 : decode cJx4a65c_init_da8c8 8 = .ok (.putfield 9, 3) := by decide +kernel
theorem dJx4a65c_init_da8c8_11 : decode cJx4a65c_init_da8c8 11 = .ok (.return_, 1) := by decide +kernel
theorem dJx4a65c_grow_92f84_0 : decode cJx4a65c_grow_92f84 0 = .ok (.aload_n 0, 1) := by decide +kernel
theorem dJx4a65c_grow_92f84_1 : decode cJx4a65c_grow_92f84 1 = .ok (.getfield 9, 3) := by decide +kernel
theorem dJx4a65c_grow_92f84_4 : decode cJx4a65c_grow_92f84 4 = .ok (.arraylength, 1) := by decide +kernel
theorem dJx4a65c_grow_92f84_5 : decode cJx4a65c_grow_92f84 5 = .ok (.istore_n 2, 1) := by decide +kernel
theorem dJx4a65c_grow_92f84_6 : decode cJx4a65c_grow_92f84 6 = .ok (.iload_n 2, 1) := by decide +kernel
theorem dJx4a65c_grow_92f84_7 : decode cJx4a65c_grow_92f84 7 = .ok (.ifCond .gt 13, 3) := by decide +kernel
theorem dJx4a65c_grow_92f84_10 : decode cJx4a65c_grow_92f84 10 = .ok (.aload_n 0, 1) := by decide +kernel
theorem dJx4a65c_grow_92f84_11 : decode cJx4a65c_grow_92f84 11 = .ok (.getfield 9, 3) := by decide +kernel
theorem dJx4a65c_grow_92f84_14 : decode cJx4a65c_grow_92f84 14 = .ok (.getstatic 39, 3) := by decide +kernel
theorem dJx4a65c_grow_92f84_17 : decode cJx4a65c_grow_92f84 17 = .ok (.if_acmp .eq 28, 3) := by decide +kernel
theorem dJx4a65c_grow_92f84_20 : decode cJx4a65c_grow_92f84 20 = .ok (.iload_n 2, 1) := by decide +kernel
theorem dJx4a65c_grow_92f84_21 : decode cJx4a65c_grow_92f84 21 = .ok (.iload_n 1, 1) := by decide +kernel
theorem dJx4a65c_grow_92f84_22 : decode cJx4a65c_grow_92f84 22 = .ok (.iload_n 2, 1) := by decide +kernel
theorem dJx4a65c_grow_92f84_23 : decode cJx4a65c_grow_92f84 23 = .ok (.isub, 1) := by decide +kernel
theorem dJx4a65c_grow_92f84_24 : decode cJx4a65c_grow_92f84 24 = .ok (.iload_n 2, 1) := by decide +kernel
theorem dJx4a65c_grow_92f84_25 : decode cJx4a65c_grow_92f84 25 = .ok (.iconst 1, 1) := by decide +kernel
theorem dJx4a65c_grow_92f84_26 : decode cJx4a65c_grow_92f84 26 = .ok (.ishr, 1) := by decide +kernel
theorem dJx4a65c_grow_92f84_27 : decode cJx4a65c_grow_92f84 27 = .ok (.invokestatic 73, 3) := by decide +kernel
theorem dJx4a65c_grow_92f84_30 : decode cJx4a65c_grow_92f84 30 = .ok (.istore_n 3, 1) := by decide +kernel
theorem dJx4a65c_grow_92f84_31 : decode cJx4a65c_grow_92f84 31 = .ok (.aload_n 0, 1) := by decide +kernel
theorem dJx4a65c_grow_92f84_32 : decode cJx4a65c_grow_92f84 32 = .ok (.aload_n 0, 1) := by decide +kernel
theorem dJx4a65c_grow_92f84_33 : decode cJx4a65c_grow_92f84 33 = .ok (.getfield 9, 3) := by decide +kernel
theorem dJx4a65c_grow_92f84_36 : decode cJx4a65c_grow_92f84 36 = .ok (.iload_n 3, 1) := by decide +kernel
theorem dJx4a65c_grow_92f84_37 : decode cJx4a65c_grow_92f84 37 = .ok (.invokestatic 66, 3) := by decide +kernel
theorem dJx4a65c_grow_92f84_40 : decode cJx4a65c_grow_92f84 40 = .ok (.dup_x1, 1) := by decide +kernel
theorem dJx4a65c_grow_92f84_41 : decode cJx4a65c_grow_92f84 41 = .ok (.putfield 9, 3) := by decide +kernel
theorem dJx4a65c_grow_92f84_44 : decode cJx4a65c_grow_92f84 44 = .ok (.areturn, 1) := by decide +kernel
theorem dJx4a65c_grow_92f84_45 : decode cJx4a65c_grow_92f84 45 = .ok (.aload_n 0, 1) := by decide +kernel
theorem dJx4a65c_grow_92f84_46 : decode cJx4a65c_grow_92f84 46 = .ok (.bipush 10, 2) := by decide +kernel
theorem dJx4a65c_grow_92f84_48 : decode cJx4a65c_grow_92f84 48 = .ok (.iload_n 1, 1) := by decide +kernel
theorem dJx4a65c_grow_92f84_49 : decode cJx4a65c_grow_92f84 49 = .ok (.invokestatic 79, 3) := by decide +kernel
theorem dJx4a65c_grow_92f84_52 : decode cJx4a65c_grow_92f84 52 = .ok (.anewarray 7, 3) := by decide +kernel
theorem dJx4a65c_grow_92f84_55 : decode cJx4a65c_grow_92f84 55 = .ok (.dup_x1, 1) := by decide +kernel
theorem dJx4a65c_grow_92f84_56 : decode cJx4a65c_grow_92f84 56 = .ok (.putfield 9, 3) := by decide +kernel
theorem dJx4a65c_grow_92f84_59 : decode cJx4a65c_grow_92f84 59 = .ok (.areturn, 1) := by decide +kernel
theorem dJx4a65c_grow_d5877_0 : decode cJx4a65c_grow_d5877 0 = .ok (.aload_n 0, 1) := by decide +kernel
theorem dJx4a65c_grow_d5877_1 : decode cJx4a65c_grow_d5877 1 = .ok (.aload_n 0, 1) := by decide +kernel
theorem dJx4a65c_grow_d5877_2 : decode cJx4a65c_grow_d5877 2 = .ok (.getfield 48, 3) := by decide +kernel
theorem dJx4a65c_grow_d5877_5 : decode cJx4a65c_grow_d5877 5 = .ok (.iconst 1, 1) := by decide +kernel
theorem dJx4a65c_grow_d5877_6 : decode cJx4a65c_grow_d5877 6 = .ok (.iadd, 1) := by decide +kernel
theorem dJx4a65c_grow_d5877_7 : decode cJx4a65c_grow_d5877 7 = .ok (.invokevirtual 69, 3) := by decide +kernel
theorem dJx4a65c_grow_d5877_10 : decode cJx4a65c_grow_d5877 10 = .ok (.areturn, 1) := by decide +kernel
theorem dJx4a65c_size_8abf5_0 : decode cJx4a65c_size_8abf5 0 = .ok (.aload_n 0, 1) := by decide +kernel
theorem dJx4a65c_size_8abf5_1 : decode cJx4a65c_size_8abf5 1 = .ok (.getfield 48, 3) := by decide +kernel
theorem dJx4a65c_size_8abf5_4 : decode cJx4a65c_size_8abf5 4 = .ok (.ireturn, 1) := by decide +kernel
theorem dJx4a65c_elementData_915e3_0 : decode cJx4a65c_elementData_915e3 0 = .ok (.aload_n 0, 1) := by decide +kernel
theorem dJx4a65c_elementData_915e3_1 : decode cJx4a65c_elementData_915e3 1 = .ok (.getfield 9, 3) := by decide +kernel
theorem dJx4a65c_elementData_915e3_4 : decode cJx4a65c_elementData_915e3 4 = .ok (.iload_n 1, 1) := by decide +kernel
theorem dJx4a65c_elementData_915e3_5 : decode cJx4a65c_elementData_915e3 5 = .ok (.aaload, 1) := by decide +kernel
theorem dJx4a65c_elementData_915e3_6 : decode cJx4a65c_elementData_915e3 6 = .ok (.areturn, 1) := by decide +kernel
theorem dJx4a65c_get_915e3_0 : decode cJx4a65c_get_915e3 0 = .ok (.iload_n 1, 1) := by decide +kernel
theorem dJx4a65c_get_915e3_1 : decode cJx4a65c_get_915e3 1 = .ok (.aload_n 0, 1) := by decide +kernel
theorem dJx4a65c_get_915e3_2 : decode cJx4a65c_get_915e3 2 = .ok (.getfield 48, 3) := by decide +kernel
theorem dJx4a65c_get_915e3_5 : decode cJx4a65c_get_915e3 5 = .ok (.invokestatic 118, 3) := by decide +kernel
theorem dJx4a65c_get_915e3_8 : decode cJx4a65c_get_915e3 8 = .ok (.pop, 1) := by decide +kernel
theorem dJx4a65c_get_915e3_9 : decode cJx4a65c_get_915e3 9 = .ok (.aload_n 0, 1) := by decide +kernel
theorem dJx4a65c_get_915e3_10 : decode cJx4a65c_get_915e3 10 = .ok (.iload_n 1, 1) := by decide +kernel
theorem dJx4a65c_get_915e3_11 : decode cJx4a65c_get_915e3 11 = .ok (.invokevirtual 123, 3) := by decide +kernel
theorem dJx4a65c_get_915e3_14 : decode cJx4a65c_get_915e3 14 = .ok (.areturn, 1) := by decide +kernel
theorem dJx4a65c_add_72be8_0 : decode cJx4a65c_add_72be8 0 = .ok (.iload_n 3, 1) := by decide +kernel
theorem dJx4a65c_add_72be8_1 : decode cJx4a65c_add_72be8 1 = .ok (.aload_n 2, 1) := by decide +kernel
theorem dJx4a65c_add_72be8_2 : decode cJx4a65c_add_72be8 2 = .ok (.arraylength, 1) := by decide +kernel
theorem dJx4a65c_add_72be8_3 : decode cJx4a65c_add_72be8 3 = .ok (.if_icmp .ne 8, 3) := by decide +kernel
theorem dJx4a65c_add_72be8_6 : decode cJx4a65c_add_72be8 6 = .ok (.aload_n 0, 1) := by decide +kernel
theorem dJx4a65c_add_72be8_7 : decode cJx4a65c_add_72be8 7 = .ok (.invokevirtual 129, 3) := by decide +kernel
theorem dJx4a65c_add_72be8_10 : decode cJx4a65c_add_72be8 10 = .ok (.astore_n 2, 1) := by decide +kernel
theorem dJx4a65c_add_72be8_11 : decode cJx4a65c_add_72be8 11 = .ok (.aload_n 2, 1) := by decide +kernel
theorem dJx4a65c_add_72be8_12 : decode cJx4a65c_add_72be8 12 = .ok (.iload_n 3, 1) := by decide +kernel
theorem dJx4a65c_add_72be8_13 : decode cJx4a65c_add_72be8 13 = .ok (.aload_n 1, 1) := by decide +kernel
theorem dJx4a65c_add_72be8_14 : decode cJx4a65c_add_72be8 14 = .ok (.aastore, 1) := by decide +kernel
theorem dJx4a65c_add_72be8_15 : decode cJx4a65c_add_72be8 15 = .ok (.aload_n 0, 1) := by decide +kernel
theorem dJx4a65c_add_72be8_16 : decode cJx4a65c_add_72be8 16 = .ok (.iload_n 3, 1) := by decide +kernel
theorem dJx4a65c_add_72be8_17 : decode cJx4a65c_add_72be8 17 = .ok (.iconst 1, 1) := by decide +kernel
theorem dJx4a65c_add_72be8_18 : decode cJx4a65c_add_72be8 18 = .ok (.iadd, 1) := by decide +kernel
theorem dJx4a65c_add_72be8_19 : decode cJx4a65c_add_72be8 19 = .ok (.putfield 48, 3) := by decide +kernel
theorem dJx4a65c_add_72be8_22 : decode cJx4a65c_add_72be8 22 = .ok (.return_, 1) := by decide +kernel
theorem dJx4a65c_add_9ea2d_0 : decode cJx4a65c_add_9ea2d 0 = .ok (.aload_n 0, 1) := by decide +kernel
theorem dJx4a65c_add_9ea2d_1 : decode cJx4a65c_add_9ea2d 1 = .ok (.dup, 1) := by decide +kernel
theorem dJx4a65c_add_9ea2d_2 : decode cJx4a65c_add_9ea2d 2 = .ok (.getfield 63, 3) := by decide +kernel
theorem dJx4a65c_add_9ea2d_5 : decode cJx4a65c_add_9ea2d 5 = .ok (.iconst 1, 1) := by decide +kernel
theorem dJx4a65c_add_9ea2d_6 : decode cJx4a65c_add_9ea2d 6 = .ok (.iadd, 1) := by decide +kernel
theorem dJx4a65c_add_9ea2d_7 : decode cJx4a65c_add_9ea2d 7 = .ok (.putfield 63, 3) := by decide +kernel
theorem dJx4a65c_add_9ea2d_10 : decode cJx4a65c_add_9ea2d 10 = .ok (.aload_n 0, 1) := by decide +kernel
theorem dJx4a65c_add_9ea2d_11 : decode cJx4a65c_add_9ea2d 11 = .ok (.aload_n 1, 1) := by decide +kernel
theorem dJx4a65c_add_9ea2d_12 : decode cJx4a65c_add_9ea2d 12 = .ok (.aload_n 0, 1) := by decide +kernel
theorem dJx4a65c_add_9ea2d_13 : decode cJx4a65c_add_9ea2d 13 = .ok (.getfield 9, 3) := by decide +kernel
theorem dJx4a65c_add_9ea2d_16 : decode cJx4a65c_add_9ea2d 16 = .ok (.aload_n 0, 1) := by decide +kernel
theorem dJx4a65c_add_9ea2d_17 : decode cJx4a65c_add_9ea2d 17 = .ok (.getfield 48, 3) := by decide +kernel
theorem dJx4a65c_add_9ea2d_20 : decode cJx4a65c_add_9ea2d 20 = .ok (.invokevirtual 131, 3) := by decide +kernel
theorem dJx4a65c_add_9ea2d_23 : decode cJx4a65c_add_9ea2d 23 = .ok (.iconst 1, 1) := by decide +kernel
theorem dJx4a65c_add_9ea2d_24 : decode cJx4a65c_add_9ea2d 24 = .ok (.ireturn, 1) := by decide +kernel
theorem dJx4a65c_add_7a177_0 : decode cJx4a65c_add_7a177 0 = .ok (.aload_n 0, 1) := by decide +kernel
theorem dJx4a65c_add_7a177_1 : decode cJx4a65c_add_7a177 1 = .ok (.iload_n 1, 1) := by decide +kernel
theorem dJx4a65c_add_7a177_2 : decode cJx4a65c_add_7a177 2 = .ok (.invokevirtual 135, 3) := by decide +kernel
theorem dJx4a65c_add_7a177_5 : decode cJx4a65c_add_7a177 5 = .ok (.aload_n 0, 1) := by decide +kernel
theorem dJx4a65c_add_7a177_6 : decode cJx4a65c_add_7a177 6 = .ok (.dup, 1) := by decide +kernel
theorem dJx4a65c_add_7a177_7 : decode cJx4a65c_add_7a177 7 = .ok (.getfield 63, 3) := by decide +kernel
theorem dJx4a65c_add_7a177_10 : decode cJx4a65c_add_7a177 10 = .ok (.iconst 1, 1) := by decide +kernel
theorem dJx4a65c_add_7a177_11 : decode cJx4a65c_add_7a177 11 = .ok (.iadd, 1) := by decide +kernel
theorem dJx4a65c_add_7a177_12 : decode cJx4a65c_add_7a177 12 = .ok (.putfield 63, 3) := by decide +kernel
theorem dJx4a65c_add_7a177_15 : decode cJx4a65c_add_7a177 15 = .ok (.aload_n 0, 1) := by decide +kernel
theorem dJx4a65c_add_7a177_16 : decode cJx4a65c_add_7a177 16 = .ok (.getfield 48, 3) := by decide +kernel
theorem dJx4a65c_add_7a177_19 : decode cJx4a65c_add_7a177 19 = .ok (.dup, 1) := by decide +kernel
theorem dJx4a65c_add_7a177_20 : decode cJx4a65c_add_7a177 20 = .ok (.istore_n 3, 1) := by decide +kernel
theorem dJx4a65c_add_7a177_21 : decode cJx4a65c_add_7a177 21 = .ok (.aload_n 0, 1) := by decide +kernel
theorem dJx4a65c_add_7a177_22 : decode cJx4a65c_add_7a177 22 = .ok (.getfield 9, 3) := by decide +kernel
theorem dJx4a65c_add_7a177_25 : decode cJx4a65c_add_7a177 25 = .ok (.dup, 1) := by decide +kernel
theorem dJx4a65c_add_7a177_26 : decode cJx4a65c_add_7a177 26 = .ok (.astore 4, 2) := by decide +kernel
theorem dJx4a65c_add_7a177_28 : decode cJx4a65c_add_7a177 28 = .ok (.arraylength, 1) := by decide +kernel
theorem dJx4a65c_add_7a177_29 : decode cJx4a65c_add_7a177 29 = .ok (.if_icmp .ne 9, 3) := by decide +kernel
theorem dJx4a65c_add_7a177_32 : decode cJx4a65c_add_7a177 32 = .ok (.aload_n 0, 1) := by decide +kernel
theorem dJx4a65c_add_7a177_33 : decode cJx4a65c_add_7a177 33 = .ok (.invokevirtual 129, 3) := by decide +kernel
theorem dJx4a65c_add_7a177_36 : decode cJx4a65c_add_7a177 36 = .ok (.astore 4, 2) := by decide +kernel
theorem dJx4a65c_add_7a177_38 : decode cJx4a65c_add_7a177 38 = .ok (.aload 4, 2) := by decide +kernel
theorem dJx4a65c_add_7a177_40 : decode cJx4a65c_add_7a177 40 = .ok (.iload_n 1, 1) := by decide +kernel
theorem dJx4a65c_add_7a177_41 : decode cJx4a65c_add_7a177 41 = .ok (.aload 4, 2) := by decide +kernel
theorem dJx4a65c_add_7a177_43 : decode cJx4a65c_add_7a177 43 = .ok (.iload_n 1, 1) := by decide +kernel
theorem dJx4a65c_add_7a177_44 : decode cJx4a65c_add_7a177 44 = .ok (.iconst 1, 1) := by decide +kernel
theorem dJx4a65c_add_7a177_45 : decode cJx4a65c_add_7a177 45 = .ok (.iadd, 1) := by decide +kernel
theorem dJx4a65c_add_7a177_46 : decode cJx4a65c_add_7a177 46 = .ok (.iload_n 3, 1) := by decide +kernel
theorem dJx4a65c_add_7a177_47 : decode cJx4a65c_add_7a177 47 = .ok (.iload_n 1, 1) := by decide +kernel
theorem dJx4a65c_add_7a177_48 : decode cJx4a65c_add_7a177 48 = .ok (.isub, 1) := by decide +kernel
theorem dJx4a65c_add_7a177_49 : decode cJx4a65c_add_7a177 49 = .ok (.invokestatic 112, 3) := by decide +kernel
theorem dJx4a65c_add_7a177_52 : decode cJx4a65c_add_7a177 52 = .ok (.aload 4, 2) := by decide +kernel
theorem dJx4a65c_add_7a177_54 : decode cJx4a65c_add_7a177 54 = .ok (.iload_n 1, 1) := by decide +kernel
theorem dJx4a65c_add_7a177_55 : decode cJx4a65c_add_7a177 55 = .ok (.aload_n 2, 1) := by decide +kernel
theorem dJx4a65c_add_7a177_56 : decode cJx4a65c_add_7a177 56 = .ok (.aastore, 1) := by decide +kernel
theorem dJx4a65c_add_7a177_57 : decode cJx4a65c_add_7a177 57 = .ok (.aload_n 0, 1) := by decide +kernel
theorem dJx4a65c_add_7a177_58 : decode cJx4a65c_add_7a177 58 = .ok (.iload_n 3, 1) := by decide +kernel
theorem dJx4a65c_add_7a177_59 : decode cJx4a65c_add_7a177 59 = .ok (.iconst 1, 1) := by decide +kernel
theorem dJx4a65c_add_7a177_60 : decode cJx4a65c_add_7a177 60 = .ok (.iadd, 1) := by decide +kernel
theorem dJx4a65c_add_7a177_61 : decode cJx4a65c_add_7a177 61 = .ok (.putfield 48, 3) := by decide +kernel
theorem dJx4a65c_add_7a177_64 : decode cJx4a65c_add_7a177 64 = .ok (.return_, 1) := by decide +kernel
theorem dJx4a65c_clear_da8c8_0 : decode cJx4a65c_clear_da8c8 0 = .ok (.aload_n 0, 1) := by decide +kernel
theorem dJx4a65c_clear_da8c8_1 : decode cJx4a65c_clear_da8c8 1 = .ok (.dup, 1) := by decide +kernel
theorem dJx4a65c_clear_da8c8_2 : decode cJx4a65c_clear_da8c8 2 = .ok (.getfield 63, 3) := by decide +kernel
theorem dJx4a65c_clear_da8c8_5 : decode cJx4a65c_clear_da8c8 5 = .ok (.iconst 1, 1) := by decide +kernel
theorem dJx4a65c_clear_da8c8_6 : decode cJx4a65c_clear_da8c8 6 = .ok (.iadd, 1) := by decide +kernel
theorem dJx4a65c_clear_da8c8_7 : decode cJx4a65c_clear_da8c8 7 = .ok (.putfield 63, 3) := by decide +kernel
theorem dJx4a65c_clear_da8c8_10 : decode cJx4a65c_clear_da8c8 10 = .ok (.aload_n 0, 1) := by decide +kernel
theorem dJx4a65c_clear_da8c8_11 : decode cJx4a65c_clear_da8c8 11 = .ok (.getfield 9, 3) := by decide +kernel
theorem dJx4a65c_clear_da8c8_14 : decode cJx4a65c_clear_da8c8 14 = .ok (.astore_n 1, 1) := by decide +kernel
theorem dJx4a65c_clear_da8c8_15 : decode cJx4a65c_clear_da8c8 15 = .ok (.aload_n 0, 1) := by decide +kernel
theorem dJx4a65c_clear_da8c8_16 : decode cJx4a65c_clear_da8c8 16 = .ok (.getfield 48, 3) := by decide +kernel
theorem dJx4a65c_clear_da8c8_19 : decode cJx4a65c_clear_da8c8 19 = .ok (.istore_n 2, 1) := by decide +kernel
theorem dJx4a65c_clear_da8c8_20 : decode cJx4a65c_clear_da8c8 20 = .ok (.aload_n 0, 1) := by decide +kernel
theorem dJx4a65c_clear_da8c8_21 : decode cJx4a65c_clear_da8c8 21 = .ok (.iconst 0, 1) := by decide +kernel
theorem dJx4a65c_clear_da8c8_22 : decode cJx4a65c_clear_da8c8 22 = .ok (.dup_x1, 1) := by decide +kernel
theorem dJx4a65c_clear_da8c8_23 : decode cJx4a65c_clear_da8c8 23 = .ok (.putfield 48, 3) := by decide +kernel
theorem dJx4a65c_clear_da8c8_26 : decode cJx4a65c_clear_da8c8 26 = .ok (.istore_n 3, 1) := by decide +kernel
theorem dJx4a65c_clear_da8c8_27 : decode cJx4a65c_clear_da8c8 27 = .ok (.iload_n 3, 1) := by decide +kernel
theorem dJx4a65c_clear_da8c8_28 : decode cJx4a65c_clear_da8c8 28 = .ok (.iload_n 2, 1) := by decide +kernel
theorem dJx4a65c_clear_da8c8_29 : decode cJx4a65c_clear_da8c8 29 = .ok (.if_icmp .ge 13, 3) := by decide +kernel
theorem dJx4a65c_clear_da8c8_32 : decode cJx4a65c_clear_da8c8 32 = .ok (.aload_n 1, 1) := by decide +kernel
theorem dJx4a65c_clear_da8c8_33 : decode cJx4a65c_clear_da8c8 33 = .ok (.iload_n 3, 1) := by decide +kernel
theorem dJx4a65c_clear_da8c8_34 : decode cJx4a65c_clear_da8c8 34 = .ok (.aconst_null, 1) := by decide +kernel
theorem dJx4a65c_clear_da8c8_35 : decode cJx4a65c_clear_da8c8 35 = .ok (.aastore, 1) := by decide +kernel
theorem dJx4a65c_clear_da8c8_36 : decode cJx4a65c_clear_da8c8 36 = .ok (.iinc 3 1, 3) := by decide +kernel
theorem dJx4a65c_clear_da8c8_39 : decode cJx4a65c_clear_da8c8 39 = .ok (.goto (-12), 3) := by decide +kernel
theorem dJx4a65c_clear_da8c8_42 : decode cJx4a65c_clear_da8c8 42 = .ok (.return_, 1) := by decide +kernel
theorem dJx4a65c_rangeCheckForAdd_d00df_0 : decode cJx4a65c_rangeCheckForAdd_d00df 0 = .ok (.iload_n 1, 1) := by decide +kernel
theorem dJx4a65c_rangeCheckForAdd_d00df_1 : decode cJx4a65c_rangeCheckForAdd_d00df 1 = .ok (.aload_n 0, 1) := by decide +kernel
theorem dJx4a65c_rangeCheckForAdd_d00df_2 : decode cJx4a65c_rangeCheckForAdd_d00df 2 = .ok (.getfield 48, 3) := by decide +kernel
theorem dJx4a65c_rangeCheckForAdd_d00df_5 : decode cJx4a65c_rangeCheckForAdd_d00df 5 = .ok (.if_icmp .gt 7, 3) := by decide +kernel
theorem dJx4a65c_rangeCheckForAdd_d00df_8 : decode cJx4a65c_rangeCheckForAdd_d00df 8 = .ok (.iload_n 1, 1) := by decide +kernel
theorem dJx4a65c_rangeCheckForAdd_d00df_9 : decode cJx4a65c_rangeCheckForAdd_d00df 9 = .ok (.ifCond .ge 16, 3) := by decide +kernel
theorem dJx4a65c_rangeCheckForAdd_d00df_12 : decode cJx4a65c_rangeCheckForAdd_d00df 12 = .ok (.new 187, 3) := by decide +kernel
theorem dJx4a65c_rangeCheckForAdd_d00df_15 : decode cJx4a65c_rangeCheckForAdd_d00df 15 = .ok (.dup, 1) := by decide +kernel
theorem dJx4a65c_rangeCheckForAdd_d00df_16 : decode cJx4a65c_rangeCheckForAdd_d00df 16 = .ok (.aload_n 0, 1) := by decide +kernel
theorem dJx4a65c_rangeCheckForAdd_d00df_17 : decode cJx4a65c_rangeCheckForAdd_d00df 17 = .ok (.iload_n 1, 1) := by decide +kernel
theorem dJx4a65c_rangeCheckForAdd_d00df_18 : decode cJx4a65c_rangeCheckForAdd_d00df 18 = .ok (.invokevirtual 198, 3) := by decide +kernel
theorem dJx4a65c_rangeCheckForAdd_d00df_21 : decode cJx4a65c_rangeCheckForAdd_d00df 21 = .ok (.invokespecial 193, 3) := by decide +kernel
theorem dJx4a65c_rangeCheckForAdd_d00df_24 : decode cJx4a65c_rangeCheckForAdd_d00df 24 = .ok (.athrow, 1) := by decide +kernel
theorem dJx4a65c_rangeCheckForAdd_d00df_25 : decode cJx4a65c_rangeCheckForAdd_d00df 25 = .ok (.return_, 1) := by decide +kernel
theorem dJ7_copyOf_1904c_0 : decode cJ7_copyOf_1904c 0 = .ok (.aload_n 0, 1) := by decide +kernel
theorem dJ7_copyOf_1904c_1 : decode cJ7_copyOf_1904c 1 = .ok (.iload_n 1, 1) := by decide +kernel
theorem dJ7_copyOf_1904c_2 : decode cJ7_copyOf_1904c 2 = .ok (.aload_n 0, 1) := by decide +kernel
theorem dJ7_copyOf_1904c_3 : decode cJ7_copyOf_1904c 3 = .ok (.invokevirtual 86, 3) := by decide +kernel
theorem dJ7_copyOf_1904c_6 : decode cJ7_copyOf_1904c 6 = .ok (.invokestatic 300, 3) := by decide +kernel
theorem dJ7_copyOf_1904c_9 : decode cJ7_copyOf_1904c 9 = .ok (.areturn, 1) := by decide +kernel
theorem dJ7_copyOf_6403c_0 : decode cJ7_copyOf_6403c 0 = .ok (.aload_n 2, 1) := by decide +kernel
theorem dJ7_copyOf_6403c_1 : decode cJ7_copyOf_6403c 1 = .ok (.ldc 110, 2) := by decide +kernel
theorem dJ7_copyOf_6403c_3 : decode cJ7_copyOf_6403c 3 = .ok (.if_acmp .ne 10, 3) := by decide +kernel
theorem dJ7_copyOf_6403c_6 : decode cJ7_copyOf_6403c 6 = .ok (.iload_n 1, 1) := by decide +kernel
theorem dJ7_copyOf_6403c_7 : decode cJ7_copyOf_6403c 7 = .ok (.anewarray 2, 3) := by decide +kernel
theorem dJ7_copyOf_6403c_10 : decode cJ7_copyOf_6403c 10 = .ok (.goto 14, 3) := by decide +kernel
theorem dJ7_copyOf_6403c_13 : decode cJ7_copyOf_6403c 13 = .ok (.aload_n 2, 1) := by decide +kernel
theorem dJ7_copyOf_6403c_14 : decode cJ7_copyOf_6403c 14 = .ok (.invokevirtual 90, 3) := by decide +kernel
theorem dJ7_copyOf_6403c_17 : decode cJ7_copyOf_6403c 17 = .ok (.iload_n 1, 1) := by decide +kernel
theorem dJ7_copyOf_6403c_18 : decode cJ7_copyOf_6403c 18 = .ok (.invokestatic 95, 3) := by decide +kernel
theorem dJ7_copyOf_6403c_21 : decode cJ7_copyOf_6403c 21 = .ok (.checkcast 110, 3) := by decide +kernel
theorem dJ7_copyOf_6403c_24 : decode cJ7_copyOf_6403c 24 = .ok (.astore_n 3, 1) := by decide +kernel
theorem dJ7_copyOf_6403c_25 : decode cJ7_copyOf_6403c 25 = .ok (.aload_n 0, 1) := by decide +kernel
theorem dJ7_copyOf_6403c_26 : decode cJ7_copyOf_6403c 26 = .ok (.iconst 0, 1) := by decide +kernel
theorem dJ7_copyOf_6403c_27 : decode cJ7_copyOf_6403c 27 = .ok (.aload_n 3, 1) := by decide +kernel
theorem dJ7_copyOf_6403c_28 : decode cJ7_copyOf_6403c 28 = .ok (.iconst 0, 1) := by decide +kernel
theorem dJ7_copyOf_6403c_29 : decode cJ7_copyOf_6403c 29 = .ok (.aload_n 0, 1) := by decide +kernel
theorem dJ7_copyOf_6403c_30 : decode cJ7_copyOf_6403c 30 = .ok (.arraylength, 1) := by decide +kernel
theorem dJ7_copyOf_6403c_31 : decode cJ7_copyOf_6403c 31 = .ok (.iload_n 1, 1) := by decide +kernel
theorem dJ7_copyOf_6403c_32 : decode cJ7_copyOf_6403c 32 = .ok (.invokestatic 304, 3) := by decide +kernel
theorem dJ7_copyOf_6403c_35 : decode cJ7_copyOf_6403c 35 = .ok (.invokestatic 150, 3) := by decide +kernel
theorem dJ7_copyOf_6403c_38 : decode cJ7_copyOf_6403c 38 = .ok (.aload_n 3, 1) := by decide +kernel
theorem dJ7_copyOf_6403c_39 : decode cJ7_copyOf_6403c 39 = .ok (.areturn, 1) := by decide +kernel
theorem dJ15_checkIndex_7cf53_0 : decode cJ15_checkIndex_7cf53 0 = .ok (.iload_n 0, 1) := by decide +kernel
theorem dJ15_checkIndex_7cf53_1 : decode cJ15_checkIndex_7cf53 1 = .ok (.iload_n 1, 1) := by decide +kernel
theorem dJ15_checkIndex_7cf53_2 : decode cJ15_checkIndex_7cf53 2 = .ok (.aconst_null, 1) := by decide +kernel
theorem dJ15_checkIndex_7cf53_3 : decode cJ15_checkIndex_7cf53 3 = .ok (.invokestatic 105, 3) := by decide +kernel
theorem dJ15_checkIndex_7cf53_6 : decode cJ15_checkIndex_7cf53 6 = .ok (.ireturn, 1) := by decide +kernel
theorem dJ8_newLength_cabcc_0 : decode cJ8_newLength_cabcc 0 = .ok (.iload_n 0, 1) := by decide +kernel
theorem dJ8_newLength_cabcc_1 : decode cJ8_newLength_cabcc 1 = .ok (.iload_n 1, 1) := by decide +kernel
theorem dJ8_newLength_cabcc_2 : decode cJ8_newLength_cabcc 2 = .ok (.iload_n 2, 1) := by decide +kernel
theorem dJ8_newLength_cabcc_3 : decode cJ8_newLength_cabcc 3 = .ok (.invokestatic 194, 3) := by decide +kernel
theorem dJ8_newLength_cabcc_6 : decode cJ8_newLength_cabcc 6 = .ok (.iadd, 1) := by decide +kernel
theorem dJ8_newLength_cabcc_7 : decode cJ8_newLength_cabcc 7 = .ok (.istore_n 3, 1) := by decide +kernel
theorem dJ8_newLength_cabcc_8 : decode cJ8_newLength_cabcc 8 = .ok (.iconst 0, 1) := by decide +kernel
theorem dJ8_newLength_cabcc_9 : decode cJ8_newLength_cabcc 9 = .ok (.iload_n 3, 1) := by decide +kernel
theorem dJ8_newLength_cabcc_10 : decode cJ8_newLength_cabcc 10 = .ok (.if_icmp .ge 11, 3) := by decide +kernel
theorem dJ8_newLength_cabcc_13 : decode cJ8_newLength_cabcc 13 = .ok (.iload_n 3, 1) := by decide +kernel
theorem dJ8_newLength_cabcc_14 : decode cJ8_newLength_cabcc 14 = .ok (.ldc 200, 2) := by decide +kernel
theorem dJ8_newLength_cabcc_16 : decode cJ8_newLength_cabcc 16 = .ok (.if_icmp .gt 5, 3) := by decide +kernel
theorem dJ8_newLength_cabcc_19 : decode cJ8_newLength_cabcc 19 = .ok (.iload_n 3, 1) := by decide +kernel
theorem dJ8_newLength_cabcc_20 : decode cJ8_newLength_cabcc 20 = .ok (.ireturn, 1) := by decide +kernel
theorem dJ8_newLength_cabcc_21 : decode cJ8_newLength_cabcc 21 = .ok (.iload_n 0, 1) := by decide +kernel
theorem dJ8_newLength_cabcc_22 : decode cJ8_newLength_cabcc 22 = .ok (.iload_n 1, 1) := by decide +kernel
theorem dJ8_newLength_cabcc_23 : decode cJ8_newLength_cabcc 23 = .ok (.invokestatic 201, 3) := by decide +kernel
theorem dJ8_newLength_cabcc_26 : decode cJ8_newLength_cabcc 26 = .ok (.ireturn, 1) := by decide +kernel
theorem dJ8_hugeLength_7cf53_0 : decode cJ8_hugeLength_7cf53 0 = .ok (.iload_n 0, 1) := by decide +kernel
theorem dJ8_hugeLength_7cf53_1 : decode cJ8_hugeLength_7cf53 1 = .ok (.iload_n 1, 1) := by decide +kernel
theorem dJ8_hugeLength_7cf53_2 : decode cJ8_hugeLength_7cf53 2 = .ok (.iadd, 1) := by decide +kernel
theorem dJ8_hugeLength_7cf53_3 : decode cJ8_hugeLength_7cf53 3 = .ok (.istore_n 2, 1) := by decide +kernel
theorem dJ8_hugeLength_7cf53_4 : decode cJ8_hugeLength_7cf53 4 = .ok (.iload_n 2, 1) := by decide +kernel
theorem dJ8_hugeLength_7cf53_5 : decode cJ8_hugeLength_7cf53 5 = .ok (.ifCond .ge 44, 3) := by decide +kernel
theorem dJ8_hugeLength_7cf53_8 : decode cJ8_hugeLength_7cf53 8 = .ok (.new 204, 3) := by decide +kernel
theorem dJ8_hugeLength_7cf53_11 : decode cJ8_hugeLength_7cf53 11 = .ok (.dup, 1) := by decide +kernel
theorem dJ8_hugeLength_7cf53_12 : decode cJ8_hugeLength_7cf53 12 = .ok (.new 89, 3) := by decide +kernel
theorem dJ8_hugeLength_7cf53_15 : decode cJ8_hugeLength_7cf53 15 = .ok (.dup, 1) := by decide +kernel
theorem dJ8_hugeLength_7cf53_16 : decode cJ8_hugeLength_7cf53 16 = .ok (.invokespecial 91, 3) := by decide +kernel
theorem dJ8_hugeLength_7cf53_19 : decode cJ8_hugeLength_7cf53 19 = .ok (.ldc 206, 2) := by decide +kernel
theorem dJ8_hugeLength_7cf53_21 : decode cJ8_hugeLength_7cf53 21 = .ok (.invokevirtual 94, 3) := by decide +kernel
theorem dJ8_hugeLength_7cf53_24 : decode cJ8_hugeLength_7cf53 24 = .ok (.iload_n 0, 1) := by decide +kernel
theorem dJ8_hugeLength_7cf53_25 : decode cJ8_hugeLength_7cf53 25 = .ok (.invokevirtual 98, 3) := by decide +kernel
theorem dJ8_hugeLength_7cf53_28 : decode cJ8_hugeLength_7cf53 28 = .ok (.ldc 208, 2) := by decide +kernel
theorem dJ8_hugeLength_7cf53_30 : decode cJ8_hugeLength_7cf53 30 = .ok (.invokevirtual 94, 3) := by decide +kernel
theorem dJ8_hugeLength_7cf53_33 : decode cJ8_hugeLength_7cf53 33 = .ok (.iload_n 1, 1) := by decide +kernel
theorem dJ8_hugeLength_7cf53_34 : decode cJ8_hugeLength_7cf53 34 = .ok (.invokevirtual 98, 3) := by decide +kernel
theorem dJ8_hugeLength_7cf53_37 : decode cJ8_hugeLength_7cf53 37 = .ok (.ldc 210, 2) := by decide +kernel
theorem dJ8_hugeLength_7cf53_39 : decode cJ8_hugeLength_7cf53 39 = .ok (.invokevirtual 94, 3) := by decide +kernel
theorem dJ8_hugeLength_7cf53_42 : decode cJ8_hugeLength_7cf53 42 = .ok (.invokevirtual 101, 3) := by decide +kernel
theorem dJ8_hugeLength_7cf53_45 : decode cJ8_hugeLength_7cf53 45 = .ok (.invokespecial 212, 3) := by decide +kernel
theorem dJ8_hugeLength_7cf53_48 : decode cJ8_hugeLength_7cf53 48 = .ok (.athrow, 1) := by decide +kernel
theorem dJ8_hugeLength_7cf53_49 : decode cJ8_hugeLength_7cf53 49 = .ok (.iload_n 2, 1) := by decide +kernel
theorem dJ8_hugeLength_7cf53_50 : decode cJ8_hugeLength_7cf53 50 = .ok (.ldc 200, 2) := by decide +kernel
theorem dJ8_hugeLength_7cf53_52 : decode cJ8_hugeLength_7cf53 52 = .ok (.if_icmp .gt 6, 3) := by decide +kernel
theorem dJ8_hugeLength_7cf53_55 : decode cJ8_hugeLength_7cf53 55 = .ok (.ldc 200, 2) := by decide +kernel
theorem dJ8_hugeLength_7cf53_57 : decode cJ8_hugeLength_7cf53 57 = .ok (.ireturn, 1) := by decide +kernel
theorem dJ8_hugeLength_7cf53_58 : decode cJ8_hugeLength_7cf53 58 = .ok (.iload_n 2, 1) := by decide +kernel
theorem dJ8_hugeLength_7cf53_59 : decode cJ8_hugeLength_7cf53 59 = .ok (.ireturn, 1) := by decide +kernel
theorem dJ3_checkIndex_8e157_0 : decode cJ3_checkIndex_8e157 0 = .ok (.iload_n 0, 1) := by decide +kernel
theorem dJ3_checkIndex_8e157_1 : decode cJ3_checkIndex_8e157 1 = .ok (.ifCond .lt 8, 3) := by decide +kernel
theorem dJ3_checkIndex_8e157_4 : decode cJ3_checkIndex_8e157 4 = .ok (.iload_n 0, 1) := by decide +kernel
theorem dJ3_checkIndex_8e157_5 : decode cJ3_checkIndex_8e157 5 = .ok (.iload_n 1, 1) := by decide +kernel
theorem dJ3_checkIndex_8e157_6 : decode cJ3_checkIndex_8e157 6 = .ok (.if_icmp .lt 10, 3) := by decide +kernel
theorem dJ3_checkIndex_8e157_9 : decode cJ3_checkIndex_8e157 9 = .ok (.aload_n 2, 1) := by decide +kernel
theorem dJ3_checkIndex_8e157_10 : decode cJ3_checkIndex_8e157 10 = .ok (.iload_n 0, 1) := by decide +kernel
theorem dJ3_checkIndex_8e157_11 : decode cJ3_checkIndex_8e157 11 = .ok (.iload_n 1, 1) := by decide +kernel
theorem dJ3_checkIndex_8e157_12 : decode cJ3_checkIndex_8e157 12 = .ok (.invokestatic 95, 3) := by decide +kernel
theorem dJ3_checkIndex_8e157_15 : decode cJ3_checkIndex_8e157 15 = .ok (.athrow, 1) := by decide +kernel
theorem dJ3_checkIndex_8e157_16 : decode cJ3_checkIndex_8e157 16 = .ok (.iload_n 0, 1) := by decide +kernel
theorem dJ3_checkIndex_8e157_17 : decode cJ3_checkIndex_8e157 17 = .ok (.ireturn, 1) := by decide +kernel
theorem dL_law_0 : decode cL_law 0 = .ok (.new 7, 3) := by decide +kernel
theorem dL_law_3 : decode cL_law 3 = .ok (.dup, 1) := by decide +kernel
theorem dL_law_4 : decode cL_law 4 = .ok (.invokespecial 9, 3) := by decide +kernel
theorem dL_law_7 : decode cL_law 7 = .ok (.astore_n 1, 1) := by decide +kernel
theorem dL_law_8 : decode cL_law 8 = .ok (.new 10, 3) := by decide +kernel
theorem dL_law_11 : decode cL_law 11 = .ok (.dup, 1) := by decide +kernel
theorem dL_law_12 : decode cL_law 12 = .ok (.invokespecial 12, 3) := by decide +kernel
theorem dL_law_15 : decode cL_law 15 = .ok (.astore_n 2, 1) := by decide +kernel
theorem dL_law_16 : decode cL_law 16 = .ok (.iconst 0, 1) := by decide +kernel
theorem dL_law_17 : decode cL_law 17 = .ok (.istore_n 3, 1) := by decide +kernel
theorem dL_law_18 : decode cL_law 18 = .ok (.iload_n 3, 1) := by decide +kernel
theorem dL_law_19 : decode cL_law 19 = .ok (.aload_n 0, 1) := by decide +kernel
theorem dL_law_20 : decode cL_law 20 = .ok (.arraylength, 1) := by decide +kernel
theorem dL_law_21 : decode cL_law 21 = .ok (.iconst 5, 1) := by decide +kernel
theorem dL_law_22 : decode cL_law 22 = .ok (.isub, 1) := by decide +kernel
theorem dL_law_23 : decode cL_law 23 = .ok (.if_icmp .gt 827, 3) := by decide +kernel
theorem dL_law_26 : decode cL_law 26 = .ok (.aload_n 0, 1) := by decide +kernel
theorem dL_law_27 : decode cL_law 27 = .ok (.iload_n 3, 1) := by decide +kernel
theorem dL_law_28 : decode cL_law 28 = .ok (.iaload, 1) := by decide +kernel
theorem dL_law_29 : decode cL_law 29 = .ok (.bipush 31, 2) := by decide +kernel
theorem dL_law_31 : decode cL_law 31 = .ok (.iand, 1) := by decide +kernel
theorem dL_law_32 : decode cL_law 32 = .ok (.tableswitch 812 0 22 #[108, 141, 184, 233, 286, 335, 358, 391, 424, 468, 502, 515, 528, 571, 584, 618, 631, 644, 677, 700, 713, 756, 799], 108) := by decide +kernel
theorem dL_law_140 : decode cL_law 140 = .ok (.aload_n 1, 1) := by decide +kernel
theorem dL_law_141 : decode cL_law 141 = .ok (.aload_n 0, 1) := by decide +kernel
theorem dL_law_142 : decode cL_law 142 = .ok (.iload_n 3, 1) := by decide +kernel
theorem dL_law_143 : decode cL_law 143 = .ok (.iconst 1, 1) := by decide +kernel
theorem dL_law_144 : decode cL_law 144 = .ok (.iadd, 1) := by decide +kernel
theorem dL_law_145 : decode cL_law 145 = .ok (.iaload, 1) := by decide +kernel
theorem dL_law_146 : decode cL_law 146 = .ok (.aload_n 0, 1) := by decide +kernel
theorem dL_law_147 : decode cL_law 147 = .ok (.iload_n 3, 1) := by decide +kernel
theorem dL_law_148 : decode cL_law 148 = .ok (.iconst 2, 1) := by decide +kernel
theorem dL_law_149 : decode cL_law 149 = .ok (.iadd, 1) := by decide +kernel
theorem dL_law_150 : decode cL_law 150 = .ok (.iaload, 1) := by decide +kernel
theorem dL_law_151 : decode cL_law 151 = .ok (.invokevirtual 13, 3) := by decide +kernel
theorem dL_law_154 : decode cL_law 154 = .ok (.aload_n 2, 1) := by decide +kernel
theorem dL_law_155 : decode cL_law 155 = .ok (.aload_n 0, 1) := by decide +kernel
theorem dL_law_156 : decode cL_law 156 = .ok (.iload_n 3, 1) := by decide +kernel
theorem dL_law_157 : decode cL_law 157 = .ok (.iconst 1, 1) := by decide +kernel
theorem dL_law_158 : decode cL_law 158 = .ok (.iadd, 1) := by decide +kernel
theorem dL_law_159 : decode cL_law 159 = .ok (.iaload, 1) := by decide +kernel
theorem dL_law_160 : decode cL_law 160 = .ok (.aload_n 0, 1) := by decide +kernel
theorem dL_law_161 : decode cL_law 161 = .ok (.iload_n 3, 1) := by decide +kernel
theorem dL_law_162 : decode cL_law 162 = .ok (.iconst 2, 1) := by decide +kernel
theorem dL_law_163 : decode cL_law 163 = .ok (.iadd, 1) := by decide +kernel
theorem dL_law_164 : decode cL_law 164 = .ok (.iaload, 1) := by decide +kernel
theorem dL_law_165 : decode cL_law 165 = .ok (.invokevirtual 17, 3) := by decide +kernel
theorem dL_law_168 : decode cL_law 168 = .ok (.if_icmp .eq 676, 3) := by decide +kernel
theorem dL_law_171 : decode cL_law 171 = .ok (.iconst 0, 1) := by decide +kernel
theorem dL_law_172 : decode cL_law 172 = .ok (.ireturn, 1) := by decide +kernel
theorem dL_law_173 : decode cL_law 173 = .ok (.aload_n 1, 1) := by decide +kernel
theorem dL_law_174 : decode cL_law 174 = .ok (.aload_n 0, 1) := by decide +kernel
theorem dL_law_175 : decode cL_law 175 = .ok (.iload_n 3, 1) := by decide +kernel
theorem dL_law_176 : decode cL_law 176 = .ok (.iconst 1, 1) := by decide +kernel
theorem dL_law_177 : decode cL_law 177 = .ok (.iadd, 1) := by decide +kernel
theorem dL_law_178 : decode cL_law 178 = .ok (.iaload, 1) := by decide +kernel
theorem dL_law_179 : decode cL_law 179 = .ok (.aload_n 0, 1) := by decide +kernel
theorem dL_law_180 : decode cL_law 180 = .ok (.iload_n 3, 1) := by decide +kernel
theorem dL_law_181 : decode cL_law 181 = .ok (.iconst 2, 1) := by decide +kernel
theorem dL_law_182 : decode cL_law 182 = .ok (.iadd, 1) := by decide +kernel
theorem dL_law_183 : decode cL_law 183 = .ok (.iaload, 1) := by decide +kernel
theorem dL_law_184 : decode cL_law 184 = .ok (.aload_n 0, 1) := by decide +kernel
theorem dL_law_185 : decode cL_law 185 = .ok (.iload_n 3, 1) := by decide +kernel
theorem dL_law_186 : decode cL_law 186 = .ok (.iconst 3, 1) := by decide +kernel
theorem dL_law_187 : decode cL_law 187 = .ok (.iadd, 1) := by decide +kernel
theorem dL_law_188 : decode cL_law 188 = .ok (.iaload, 1) := by decide +kernel
theorem dL_law_189 : decode cL_law 189 = .ok (.invokevirtual 18, 3) := by decide +kernel
theorem dL_law_192 : decode cL_law 192 = .ok (.aload_n 2, 1) := by decide +kernel
theorem dL_law_193 : decode cL_law 193 = .ok (.aload_n 0, 1) := by decide +kernel
theorem dL_law_194 : decode cL_law 194 = .ok (.iload_n 3, 1) := by decide +kernel
theorem dL_law_195 : decode cL_law 195 = .ok (.iconst 1, 1) := by decide +kernel
theorem dL_law_196 : decode cL_law 196 = .ok (.iadd, 1) := by decide +kernel
theorem dL_law_197 : decode cL_law 197 = .ok (.iaload, 1) := by decide +kernel
theorem dL_law_198 : decode cL_law 198 = .ok (.aload_n 0, 1) := by decide +kernel
theorem dL_law_199 : decode cL_law 199 = .ok (.iload_n 3, 1) := by decide +kernel
theorem dL_law_200 : decode cL_law 200 = .ok (.iconst 2, 1) := by decide +kernel
theorem dL_law_201 : decode cL_law 201 = .ok (.iadd, 1) := by decide +kernel
theorem dL_law_202 : decode cL_law 202 = .ok (.iaload, 1) := by decide +kernel
theorem dL_law_203 : decode cL_law 203 = .ok (.aload_n 0, 1) := by decide +kernel
theorem dL_law_204 : decode cL_law 204 = .ok (.iload_n 3, 1) := by decide +kernel
theorem dL_law_205 : decode cL_law 205 = .ok (.iconst 3, 1) := by decide +kernel
theorem dL_law_206 : decode cL_law 206 = .ok (.iadd, 1) := by decide +kernel
theorem dL_law_207 : decode cL_law 207 = .ok (.iaload, 1) := by decide +kernel
theorem dL_law_208 : decode cL_law 208 = .ok (.invokevirtual 22, 3) := by decide +kernel
theorem dL_law_211 : decode cL_law 211 = .ok (.if_icmp .eq 633, 3) := by decide +kernel
theorem dL_law_214 : decode cL_law 214 = .ok (.iconst 0, 1) := by decide +kernel
theorem dL_law_215 : decode cL_law 215 = .ok (.ireturn, 1) := by decide +kernel
theorem dL_law_216 : decode cL_law 216 = .ok (.aload_n 1, 1) := by decide +kernel
theorem dL_law_217 : decode cL_law 217 = .ok (.aload_n 0, 1) := by decide +kernel
theorem dL_law_218 : decode cL_law 218 = .ok (.iload_n 3, 1) := by decide +kernel
theorem dL_law_219 : decode cL_law 219 = .ok (.iconst 1, 1) := by decide +kernel
theorem dL_law_220 : decode cL_law 220 = .ok (.iadd, 1) := by decide +kernel
theorem dL_law_221 : decode cL_law 221 = .ok (.iaload, 1) := by decide +kernel
theorem dL_law_222 : decode cL_law 222 = .ok (.aload_n 0, 1) := by decide +kernel
theorem dL_law_223 : decode cL_law 223 = .ok (.iload_n 3, 1) := by decide +kernel
theorem dL_law_224 : decode cL_law 224 = .ok (.iconst 2, 1) := by decide +kernel
theorem dL_law_225 : decode cL_law 225 = .ok (.iadd, 1) := by decide +kernel
theorem dL_law_226 : decode cL_law 226 = .ok (.iaload, 1) := by decide +kernel
theorem dL_law_227 : decode cL_law 227 = .ok (.ifCond .eq 7, 3) := by decide +kernel
theorem dL_law_230 : decode cL_law 230 = .ok (.iconst 1, 1) := by decide +kernel
theorem dL_law_231 : decode cL_law 231 = .ok (.goto 4, 3) := by decide +kernel
theorem dL_law_234 : decode cL_law 234 = .ok (.iconst 0, 1) := by decide +kernel
theorem dL_law_235 : decode cL_law 235 = .ok (.invokevirtual 23, 3) := by decide +kernel
theorem dL_law_238 : decode cL_law 238 = .ok (.aload_n 2, 1) := by decide +kernel
theorem dL_law_239 : decode cL_law 239 = .ok (.aload_n 0, 1) := by decide +kernel
theorem dL_law_240 : decode cL_law 240 = .ok (.iload_n 3, 1) := by decide +kernel
theorem dL_law_241 : decode cL_law 241 = .ok (.iconst 1, 1) := by decide +kernel
theorem dL_law_242 : decode cL_law 242 = .ok (.iadd, 1) := by decide +kernel
theorem dL_law_243 : decode cL_law 243 = .ok (.iaload, 1) := by decide +kernel
theorem dL_law_244 : decode cL_law 244 = .ok (.aload_n 0, 1) := by decide +kernel
theorem dL_law_245 : decode cL_law 245 = .ok (.iload_n 3, 1) := by decide +kernel
theorem dL_law_246 : decode cL_law 246 = .ok (.iconst 2, 1) := by decide +kernel
theorem dL_law_247 : decode cL_law 247 = .ok (.iadd, 1) := by decide +kernel
theorem dL_law_248 : decode cL_law 248 = .ok (.iaload, 1) := by decide +kernel
theorem dL_law_249 : decode cL_law 249 = .ok (.ifCond .eq 7, 3) := by decide +kernel
theorem dL_law_252 : decode cL_law 252 = .ok (.iconst 1, 1) := by decide +kernel
theorem dL_law_253 : decode cL_law 253 = .ok (.goto 4, 3) := by decide +kernel
theorem dL_law_256 : decode cL_law 256 = .ok (.iconst 0, 1) := by decide +kernel
theorem dL_law_257 : decode cL_law 257 = .ok (.invokevirtual 27, 3) := by decide +kernel
theorem dL_law_260 : decode cL_law 260 = .ok (.if_icmp .eq 584, 3) := by decide +kernel
theorem dL_law_263 : decode cL_law 263 = .ok (.iconst 0, 1) := by decide +kernel
theorem dL_law_264 : decode cL_law 264 = .ok (.ireturn, 1) := by decide +kernel
theorem dL_law_265 : decode cL_law 265 = .ok (.aload_n 1, 1) := by decide +kernel
theorem dL_law_266 : decode cL_law 266 = .ok (.aload_n 0, 1) := by decide +kernel
theorem dL_law_267 : decode cL_law 267 = .ok (.iload_n 3, 1) := by decide +kernel
theorem dL_law_268 : decode cL_law 268 = .ok (.iconst 1, 1) := by decide +kernel
theorem dL_law_269 : decode cL_law 269 = .ok (.iadd, 1) := by decide +kernel
theorem dL_law_270 : decode cL_law 270 = .ok (.iaload, 1) := by decide +kernel
theorem dL_law_271 : decode cL_law 271 = .ok (.aload_n 0, 1) := by decide +kernel
theorem dL_law_272 : decode cL_law 272 = .ok (.iload_n 3, 1) := by decide +kernel
theorem dL_law_273 : decode cL_law 273 = .ok (.iconst 2, 1) := by decide +kernel
theorem dL_law_274 : decode cL_law 274 = .ok (.iadd, 1) := by decide +kernel
theorem dL_law_275 : decode cL_law 275 = .ok (.iaload, 1) := by decide +kernel
theorem dL_law_276 : decode cL_law 276 = .ok (.aload_n 0, 1) := by decide +kernel
theorem dL_law_277 : decode cL_law 277 = .ok (.iload_n 3, 1) := by decide +kernel
theorem dL_law_278 : decode cL_law 278 = .ok (.iconst 3, 1) := by decide +kernel
theorem dL_law_279 : decode cL_law 279 = .ok (.iadd, 1) := by decide +kernel
theorem dL_law_280 : decode cL_law 280 = .ok (.iaload, 1) := by decide +kernel
theorem dL_law_281 : decode cL_law 281 = .ok (.aload_n 0, 1) := by decide +kernel
theorem dL_law_282 : decode cL_law 282 = .ok (.iload_n 3, 1) := by decide +kernel
theorem dL_law_283 : decode cL_law 283 = .ok (.iconst 4, 1) := by decide +kernel
theorem dL_law_284 : decode cL_law 284 = .ok (.iadd, 1) := by decide +kernel
theorem dL_law_285 : decode cL_law 285 = .ok (.iaload, 1) := by decide +kernel
theorem dL_law_286 : decode cL_law 286 = .ok (.invokevirtual 28, 3) := by decide +kernel
theorem dL_law_289 : decode cL_law 289 = .ok (.aload_n 2, 1) := by decide +kernel
theorem dL_law_290 : decode cL_law 290 = .ok (.aload_n 0, 1) := by decide +kernel
theorem dL_law_291 : decode cL_law 291 = .ok (.iload_n 3, 1) := by decide +kernel
theorem dL_law_292 : decode cL_law 292 = .ok (.iconst 1, 1) := by decide +kernel
theorem dL_law_293 : decode cL_law 293 = .ok (.iadd, 1) := by decide +kernel
theorem dL_law_294 : decode cL_law 294 = .ok (.iaload, 1) := by decide +kernel
theorem dL_law_295 : decode cL_law 295 = .ok (.aload_n 0, 1) := by decide +kernel
theorem dL_law_296 : decode cL_law 296 = .ok (.iload_n 3, 1) := by decide +kernel
theorem dL_law_297 : decode cL_law 297 = .ok (.iconst 2, 1) := by decide +kernel
theorem dL_law_298 : decode cL_law 298 = .ok (.iadd, 1) := by decide +kernel
theorem dL_law_299 : decode cL_law 299 = .ok (.iaload, 1) := by decide +kernel
theorem dL_law_300 : decode cL_law 300 = .ok (.aload_n 0, 1) := by decide +kernel
theorem dL_law_301 : decode cL_law 301 = .ok (.iload_n 3, 1) := by decide +kernel
theorem dL_law_302 : decode cL_law 302 = .ok (.iconst 3, 1) := by decide +kernel
theorem dL_law_303 : decode cL_law 303 = .ok (.iadd, 1) := by decide +kernel
theorem dL_law_304 : decode cL_law 304 = .ok (.iaload, 1) := by decide +kernel
theorem dL_law_305 : decode cL_law 305 = .ok (.aload_n 0, 1) := by decide +kernel
theorem dL_law_306 : decode cL_law 306 = .ok (.iload_n 3, 1) := by decide +kernel
theorem dL_law_307 : decode cL_law 307 = .ok (.iconst 4, 1) := by decide +kernel
theorem dL_law_308 : decode cL_law 308 = .ok (.iadd, 1) := by decide +kernel
theorem dL_law_309 : decode cL_law 309 = .ok (.iaload, 1) := by decide +kernel
theorem dL_law_310 : decode cL_law 310 = .ok (.invokevirtual 32, 3) := by decide +kernel
theorem dL_law_313 : decode cL_law 313 = .ok (.if_icmp .eq 531, 3) := by decide +kernel
theorem dL_law_316 : decode cL_law 316 = .ok (.iconst 0, 1) := by decide +kernel
theorem dL_law_317 : decode cL_law 317 = .ok (.ireturn, 1) := by decide +kernel
theorem dL_law_318 : decode cL_law 318 = .ok (.aload_n 1, 1) := by decide +kernel
theorem dL_law_319 : decode cL_law 319 = .ok (.aload_n 0, 1) := by decide +kernel
theorem dL_law_320 : decode cL_law 320 = .ok (.iload_n 3, 1) := by decide +kernel
theorem dL_law_321 : decode cL_law 321 = .ok (.iconst 1, 1) := by decide +kernel
theorem dL_law_322 : decode cL_law 322 = .ok (.iadd, 1) := by decide +kernel
theorem dL_law_323 : decode cL_law 323 = .ok (.iaload, 1) := by decide +kernel
theorem dL_law_324 : decode cL_law 324 = .ok (.aload_n 0, 1) := by decide +kernel
theorem dL_law_325 : decode cL_law 325 = .ok (.iload_n 3, 1) := by decide +kernel
theorem dL_law_326 : decode cL_law 326 = .ok (.iconst 2, 1) := by decide +kernel
theorem dL_law_327 : decode cL_law 327 = .ok (.iadd, 1) := by decide +kernel
theorem dL_law_328 : decode cL_law 328 = .ok (.iaload, 1) := by decide +kernel
theorem dL_law_329 : decode cL_law 329 = .ok (.ifCond .eq 7, 3) := by decide +kernel
theorem dL_law_332 : decode cL_law 332 = .ok (.iconst 1, 1) := by decide +kernel
theorem dL_law_333 : decode cL_law 333 = .ok (.goto 4, 3) := by decide +kernel
theorem dL_law_336 : decode cL_law 336 = .ok (.iconst 0, 1) := by decide +kernel
theorem dL_law_337 : decode cL_law 337 = .ok (.invokevirtual 33, 3) := by decide +kernel
theorem dL_law_340 : decode cL_law 340 = .ok (.aload_n 2, 1) := by decide +kernel
theorem dL_law_341 : decode cL_law 341 = .ok (.aload_n 0, 1) := by decide +kernel
theorem dL_law_342 : decode cL_law 342 = .ok (.iload_n 3, 1) := by decide +kernel
theorem dL_law_343 : decode cL_law 343 = .ok (.iconst 1, 1) := by decide +kernel
theorem dL_law_344 : decode cL_law 344 = .ok (.iadd, 1) := by decide +kernel
theorem dL_law_345 : decode cL_law 345 = .ok (.iaload, 1) := by decide +kernel
theorem dL_law_346 : decode cL_law 346 = .ok (.aload_n 0, 1) := by decide +kernel
theorem dL_law_347 : decode cL_law 347 = .ok (.iload_n 3, 1) := by decide +kernel
theorem dL_law_348 : decode cL_law 348 = .ok (.iconst 2, 1) := by decide +kernel
theorem dL_law_349 : decode cL_law 349 = .ok (.iadd, 1) := by decide +kernel
theorem dL_law_350 : decode cL_law 350 = .ok (.iaload, 1) := by decide +kernel
theorem dL_law_351 : decode cL_law 351 = .ok (.ifCond .eq 7, 3) := by decide +kernel
theorem dL_law_354 : decode cL_law 354 = .ok (.iconst 1, 1) := by decide +kernel
theorem dL_law_355 : decode cL_law 355 = .ok (.goto 4, 3) := by decide +kernel
theorem dL_law_358 : decode cL_law 358 = .ok (.iconst 0, 1) := by decide +kernel
theorem dL_law_359 : decode cL_law 359 = .ok (.invokevirtual 36, 3) := by decide +kernel
theorem dL_law_362 : decode cL_law 362 = .ok (.if_icmp .eq 482, 3) := by decide +kernel
theorem dL_law_365 : decode cL_law 365 = .ok (.iconst 0, 1) := by decide +kernel
theorem dL_law_366 : decode cL_law 366 = .ok (.ireturn, 1) := by decide +kernel
theorem dL_law_367 : decode cL_law 367 = .ok (.aload_n 1, 1) := by decide +kernel
theorem dL_law_368 : decode cL_law 368 = .ok (.aload_n 0, 1) := by decide +kernel
theorem dL_law_369 : decode cL_law 369 = .ok (.iload_n 3, 1) := by decide +kernel
theorem dL_law_370 : decode cL_law 370 = .ok (.iconst 1, 1) := by decide +kernel
theorem dL_law_371 : decode cL_law 371 = .ok (.iadd, 1) := by decide +kernel
theorem dL_law_372 : decode cL_law 372 = .ok (.iaload, 1) := by decide +kernel
theorem dL_law_373 : decode cL_law 373 = .ok (.invokevirtual 37, 3) := by decide +kernel
theorem dL_law_376 : decode cL_law 376 = .ok (.aload_n 2, 1) := by decide +kernel
theorem dL_law_377 : decode cL_law 377 = .ok (.aload_n 0, 1) := by decide +kernel
theorem dL_law_378 : decode cL_law 378 = .ok (.iload_n 3, 1) := by decide +kernel
theorem dL_law_379 : decode cL_law 379 = .ok (.iconst 1, 1) := by decide +kernel
theorem dL_law_380 : decode cL_law 380 = .ok (.iadd, 1) := by decide +kernel
theorem dL_law_381 : decode cL_law 381 = .ok (.iaload, 1) := by decide +kernel
theorem dL_law_382 : decode cL_law 382 = .ok (.invokevirtual 41, 3) := by decide +kernel
theorem dL_law_385 : decode cL_law 385 = .ok (.if_icmp .eq 459, 3) := by decide +kernel
theorem dL_law_388 : decode cL_law 388 = .ok (.iconst 0, 1) := by decide +kernel
theorem dL_law_389 : decode cL_law 389 = .ok (.ireturn, 1) := by decide +kernel
theorem dL_law_390 : decode cL_law 390 = .ok (.aload_n 1, 1) := by decide +kernel
theorem dL_law_391 : decode cL_law 391 = .ok (.aload_n 0, 1) := by decide +kernel
theorem dL_law_392 : decode cL_law 392 = .ok (.iload_n 3, 1) := by decide +kernel
theorem dL_law_393 : decode cL_law 393 = .ok (.iconst 1, 1) := by decide +kernel
theorem dL_law_394 : decode cL_law 394 = .ok (.iadd, 1) := by decide +kernel
theorem dL_law_395 : decode cL_law 395 = .ok (.iaload, 1) := by decide +kernel
theorem dL_law_396 : decode cL_law 396 = .ok (.aload_n 0, 1) := by decide +kernel
theorem dL_law_397 : decode cL_law 397 = .ok (.iload_n 3, 1) := by decide +kernel
theorem dL_law_398 : decode cL_law 398 = .ok (.iconst 2, 1) := by decide +kernel
theorem dL_law_399 : decode cL_law 399 = .ok (.iadd, 1) := by decide +kernel
theorem dL_law_400 : decode cL_law 400 = .ok (.iaload, 1) := by decide +kernel
theorem dL_law_401 : decode cL_law 401 = .ok (.invokevirtual 42, 3) := by decide +kernel
theorem dL_law_404 : decode cL_law 404 = .ok (.aload_n 2, 1) := by decide +kernel
theorem dL_law_405 : decode cL_law 405 = .ok (.aload_n 0, 1) := by decide +kernel
theorem dL_law_406 : decode cL_law 406 = .ok (.iload_n 3, 1) := by decide +kernel
theorem dL_law_407 : decode cL_law 407 = .ok (.iconst 1, 1) := by decide +kernel
theorem dL_law_408 : decode cL_law 408 = .ok (.iadd, 1) := by decide +kernel
theorem dL_law_409 : decode cL_law 409 = .ok (.iaload, 1) := by decide +kernel
theorem dL_law_410 : decode cL_law 410 = .ok (.aload_n 0, 1) := by decide +kernel
theorem dL_law_411 : decode cL_law 411 = .ok (.iload_n 3, 1) := by decide +kernel
theorem dL_law_412 : decode cL_law 412 = .ok (.iconst 2, 1) := by decide +kernel
theorem dL_law_413 : decode cL_law 413 = .ok (.iadd, 1) := by decide +kernel
theorem dL_law_414 : decode cL_law 414 = .ok (.iaload, 1) := by decide +kernel
theorem dL_law_415 : decode cL_law 415 = .ok (.invokevirtual 45, 3) := by decide +kernel
theorem dL_law_418 : decode cL_law 418 = .ok (.if_icmp .eq 426, 3) := by decide +kernel
theorem dL_law_421 : decode cL_law 421 = .ok (.iconst 0, 1) := by decide +kernel
theorem dL_law_422 : decode cL_law 422 = .ok (.ireturn, 1) := by decide +kernel
theorem dL_law_423 : decode cL_law 423 = .ok (.aload_n 1, 1) := by decide +kernel
theorem dL_law_424 : decode cL_law 424 = .ok (.aload_n 0, 1) := by decide +kernel
theorem dL_law_425 : decode cL_law 425 = .ok (.iload_n 3, 1) := by decide +kernel
theorem dL_law_426 : decode cL_law 426 = .ok (.iconst 1, 1) := by decide +kernel
theorem dL_law_427 : decode cL_law 427 = .ok (.iadd, 1) := by decide +kernel
theorem dL_law_428 : decode cL_law 428 = .ok (.iaload, 1) := by decide +kernel
theorem dL_law_429 : decode cL_law 429 = .ok (.aload_n 0, 1) := by decide +kernel
theorem dL_law_430 : decode cL_law 430 = .ok (.iload_n 3, 1) := by decide +kernel
theorem dL_law_431 : decode cL_law 431 = .ok (.iconst 2, 1) := by decide +kernel
theorem dL_law_432 : decode cL_law 432 = .ok (.iadd, 1) := by decide +kernel
theorem dL_law_433 : decode cL_law 433 = .ok (.iaload, 1) := by decide +kernel
theorem dL_law_434 : decode cL_law 434 = .ok (.invokevirtual 46, 3) := by decide +kernel
theorem dL_law_437 : decode cL_law 437 = .ok (.aload_n 2, 1) := by decide +kernel
theorem dL_law_438 : decode cL_law 438 = .ok (.aload_n 0, 1) := by decide +kernel
theorem dL_law_439 : decode cL_law 439 = .ok (.iload_n 3, 1) := by decide +kernel
theorem dL_law_440 : decode cL_law 440 = .ok (.iconst 1, 1) := by decide +kernel
theorem dL_law_441 : decode cL_law 441 = .ok (.iadd, 1) := by decide +kernel
theorem dL_law_442 : decode cL_law 442 = .ok (.iaload, 1) := by decide +kernel
theorem dL_law_443 : decode cL_law 443 = .ok (.aload_n 0, 1) := by decide +kernel
theorem dL_law_444 : decode cL_law 444 = .ok (.iload_n 3, 1) := by decide +kernel
theorem dL_law_445 : decode cL_law 445 = .ok (.iconst 2, 1) := by decide +kernel
theorem dL_law_446 : decode cL_law 446 = .ok (.iadd, 1) := by decide +kernel
theorem dL_law_447 : decode cL_law 447 = .ok (.iaload, 1) := by decide +kernel
theorem dL_law_448 : decode cL_law 448 = .ok (.invokevirtual 49, 3) := by decide +kernel
theorem dL_law_451 : decode cL_law 451 = .ok (.if_icmp .eq 393, 3) := by decide +kernel
theorem dL_law_454 : decode cL_law 454 = .ok (.iconst 0, 1) := by decide +kernel
theorem dL_law_455 : decode cL_law 455 = .ok (.ireturn, 1) := by decide +kernel
theorem dL_law_456 : decode cL_law 456 = .ok (.aload_n 1, 1) := by decide +kernel
theorem dL_law_457 : decode cL_law 457 = .ok (.aload_n 0, 1) := by decide +kernel
theorem dL_law_458 : decode cL_law 458 = .ok (.iload_n 3, 1) := by decide +kernel
theorem dL_law_459 : decode cL_law 459 = .ok (.iconst 1, 1) := by decide +kernel
theorem dL_law_460 : decode cL_law 460 = .ok (.iadd, 1) := by decide +kernel
theorem dL_law_461 : decode cL_law 461 = .ok (.iaload, 1) := by decide +kernel
theorem dL_law_462 : decode cL_law 462 = .ok (.aload_n 0, 1) := by decide +kernel
theorem dL_law_463 : decode cL_law 463 = .ok (.iload_n 3, 1) := by decide +kernel
theorem dL_law_464 : decode cL_law 464 = .ok (.iconst 2, 1) := by decide +kernel
theorem dL_law_465 : decode cL_law 465 = .ok (.iadd, 1) := by decide +kernel
theorem dL_law_466 : decode cL_law 466 = .ok (.iaload, 1) := by decide +kernel
theorem dL_law_467 : decode cL_law 467 = .ok (.aload_n 0, 1) := by decide +kernel
theorem dL_law_468 : decode cL_law 468 = .ok (.iload_n 3, 1) := by decide +kernel
theorem dL_law_469 : decode cL_law 469 = .ok (.iconst 3, 1) := by decide +kernel
theorem dL_law_470 : decode cL_law 470 = .ok (.iadd, 1) := by decide +kernel
theorem dL_law_471 : decode cL_law 471 = .ok (.iaload, 1) := by decide +kernel
theorem dL_law_472 : decode cL_law 472 = .ok (.invokevirtual 50, 3) := by decide +kernel
theorem dL_law_475 : decode cL_law 475 = .ok (.aload_n 2, 1) := by decide +kernel
theorem dL_law_476 : decode cL_law 476 = .ok (.aload_n 0, 1) := by decide +kernel
theorem dL_law_477 : decode cL_law 477 = .ok (.iload_n 3, 1) := by decide +kernel
theorem dL_law_478 : decode cL_law 478 = .ok (.iconst 1, 1) := by decide +kernel
theorem dL_law_479 : decode cL_law 479 = .ok (.iadd, 1) := by decide +kernel
theorem dL_law_480 : decode cL_law 480 = .ok (.iaload, 1) := by decide +kernel
theorem dL_law_481 : decode cL_law 481 = .ok (.aload_n 0, 1) := by decide +kernel
theorem dL_law_482 : decode cL_law 482 = .ok (.iload_n 3, 1) := by decide +kernel
theorem dL_law_483 : decode cL_law 483 = .ok (.iconst 2, 1) := by decide +kernel
theorem dL_law_484 : decode cL_law 484 = .ok (.iadd, 1) := by decide +kernel
theorem dL_law_485 : decode cL_law 485 = .ok (.iaload, 1) := by decide +kernel
theorem dL_law_486 : decode cL_law 486 = .ok (.aload_n 0, 1) := by decide +kernel
theorem dL_law_487 : decode cL_law 487 = .ok (.iload_n 3, 1) := by decide +kernel
theorem dL_law_488 : decode cL_law 488 = .ok (.iconst 3, 1) := by decide +kernel
theorem dL_law_489 : decode cL_law 489 = .ok (.iadd, 1) := by decide +kernel
theorem dL_law_490 : decode cL_law 490 = .ok (.iaload, 1) := by decide +kernel
theorem dL_law_491 : decode cL_law 491 = .ok (.invokevirtual 54, 3) := by decide +kernel
theorem dL_law_494 : decode cL_law 494 = .ok (.lcmp, 1) := by decide +kernel
theorem dL_law_495 : decode cL_law 495 = .ok (.ifCond .eq 349, 3) := by decide +kernel
theorem dL_law_498 : decode cL_law 498 = .ok (.iconst 0, 1) := by decide +kernel
theorem dL_law_499 : decode cL_law 499 = .ok (.ireturn, 1) := by decide +kernel
theorem dL_law_500 : decode cL_law 500 = .ok (.aload_n 1, 1) := by decide +kernel
theorem dL_law_501 : decode cL_law 501 = .ok (.aload_n 0, 1) := by decide +kernel
theorem dL_law_502 : decode cL_law 502 = .ok (.iload_n 3, 1) := by decide +kernel
theorem dL_law_503 : decode cL_law 503 = .ok (.iconst 1, 1) := by decide +kernel
theorem dL_law_504 : decode cL_law 504 = .ok (.iadd, 1) := by decide +kernel
theorem dL_law_505 : decode cL_law 505 = .ok (.iaload, 1) := by decide +kernel
theorem dL_law_506 : decode cL_law 506 = .ok (.aload_n 0, 1) := by decide +kernel
theorem dL_law_507 : decode cL_law 507 = .ok (.iload_n 3, 1) := by decide +kernel
theorem dL_law_508 : decode cL_law 508 = .ok (.iconst 2, 1) := by decide +kernel
theorem dL_law_509 : decode cL_law 509 = .ok (.iadd, 1) := by decide +kernel
theorem dL_law_510 : decode cL_law 510 = .ok (.iaload, 1) := by decide +kernel
theorem dL_law_511 : decode cL_law 511 = .ok (.invokevirtual 55, 3) := by decide +kernel
theorem dL_law_514 : decode cL_law 514 = .ok (.aload_n 2, 1) := by decide +kernel
theorem dL_law_515 : decode cL_law 515 = .ok (.aload_n 0, 1) := by decide +kernel
theorem dL_law_516 : decode cL_law 516 = .ok (.iload_n 3, 1) := by decide +kernel
theorem dL_law_517 : decode cL_law 517 = .ok (.iconst 1, 1) := by decide +kernel
theorem dL_law_518 : decode cL_law 518 = .ok (.iadd, 1) := by decide +kernel
theorem dL_law_519 : decode cL_law 519 = .ok (.iaload, 1) := by decide +kernel
theorem dL_law_520 : decode cL_law 520 = .ok (.aload_n 0, 1) := by decide +kernel
theorem dL_law_521 : decode cL_law 521 = .ok (.iload_n 3, 1) := by decide +kernel
theorem dL_law_522 : decode cL_law 522 = .ok (.iconst 2, 1) := by decide +kernel
theorem dL_law_523 : decode cL_law 523 = .ok (.iadd, 1) := by decide +kernel
theorem dL_law_524 : decode cL_law 524 = .ok (.iaload, 1) := by decide +kernel
theorem dL_law_525 : decode cL_law 525 = .ok (.invokevirtual 59, 3) := by decide +kernel
theorem dL_law_528 : decode cL_law 528 = .ok (.lcmp, 1) := by decide +kernel
theorem dL_law_529 : decode cL_law 529 = .ok (.ifCond .eq 315, 3) := by decide +kernel
theorem dL_law_532 : decode cL_law 532 = .ok (.iconst 0, 1) := by decide +kernel
theorem dL_law_533 : decode cL_law 533 = .ok (.ireturn, 1) := by decide +kernel
theorem dL_law_534 : decode cL_law 534 = .ok (.aload_n 1, 1) := by decide +kernel
theorem dL_law_535 : decode cL_law 535 = .ok (.invokevirtual 60, 3) := by decide +kernel
theorem dL_law_538 : decode cL_law 538 = .ok (.aload_n 2, 1) := by decide +kernel
theorem dL_law_539 : decode cL_law 539 = .ok (.invokevirtual 64, 3) := by decide +kernel
theorem dL_law_542 : decode cL_law 542 = .ok (.if_icmp .eq 302, 3) := by decide +kernel
theorem dL_law_545 : decode cL_law 545 = .ok (.iconst 0, 1) := by decide +kernel
theorem dL_law_546 : decode cL_law 546 = .ok (.ireturn, 1) := by decide +kernel
theorem dL_law_547 : decode cL_law 547 = .ok (.aload_n 1, 1) := by decide +kernel
theorem dL_law_548 : decode cL_law 548 = .ok (.invokevirtual 65, 3) := by decide +kernel
theorem dL_law_551 : decode cL_law 551 = .ok (.aload_n 2, 1) := by decide +kernel
theorem dL_law_552 : decode cL_law 552 = .ok (.invokevirtual 68, 3) := by decide +kernel
theorem dL_law_555 : decode cL_law 555 = .ok (.if_icmp .eq 289, 3) := by decide +kernel
theorem dL_law_558 : decode cL_law 558 = .ok (.iconst 0, 1) := by decide +kernel
theorem dL_law_559 : decode cL_law 559 = .ok (.ireturn, 1) := by decide +kernel
theorem dL_law_560 : decode cL_law 560 = .ok (.aload_n 1, 1) := by decide +kernel
theorem dL_law_561 : decode cL_law 561 = .ok (.aload_n 0, 1) := by decide +kernel
theorem dL_law_562 : decode cL_law 562 = .ok (.iload_n 3, 1) := by decide +kernel
theorem dL_law_563 : decode cL_law 563 = .ok (.iconst 1, 1) := by decide +kernel
theorem dL_law_564 : decode cL_law 564 = .ok (.iadd, 1) := by decide +kernel
theorem dL_law_565 : decode cL_law 565 = .ok (.iaload, 1) := by decide +kernel
theorem dL_law_566 : decode cL_law 566 = .ok (.aload_n 0, 1) := by decide +kernel
theorem dL_law_567 : decode cL_law 567 = .ok (.iload_n 3, 1) := by decide +kernel
theorem dL_law_568 : decode cL_law 568 = .ok (.iconst 2, 1) := by decide +kernel
theorem dL_law_569 : decode cL_law 569 = .ok (.iadd, 1) := by decide +kernel
theorem dL_law_570 : decode cL_law 570 = .ok (.iaload, 1) := by decide +kernel
theorem dL_law_571 : decode cL_law 571 = .ok (.aload_n 0, 1) := by decide +kernel
theorem dL_law_572 : decode cL_law 572 = .ok (.iload_n 3, 1) := by decide +kernel
theorem dL_law_573 : decode cL_law 573 = .ok (.iconst 3, 1) := by decide +kernel
theorem dL_law_574 : decode cL_law 574 = .ok (.iadd, 1) := by decide +kernel
theorem dL_law_575 : decode cL_law 575 = .ok (.iaload, 1) := by decide +kernel
theorem dL_law_576 : decode cL_law 576 = .ok (.invokevirtual 69, 3) := by decide +kernel
theorem dL_law_579 : decode cL_law 579 = .ok (.aload_n 2, 1) := by decide +kernel
theorem dL_law_580 : decode cL_law 580 = .ok (.aload_n 0, 1) := by decide +kernel
theorem dL_law_581 : decode cL_law 581 = .ok (.iload_n 3, 1) := by decide +kernel
theorem dL_law_582 : decode cL_law 582 = .ok (.iconst 1, 1) := by decide +kernel
theorem dL_law_583 : decode cL_law 583 = .ok (.iadd, 1) := by decide +kernel
theorem dL_law_584 : decode cL_law 584 = .ok (.iaload, 1) := by decide +kernel
theorem dL_law_585 : decode cL_law 585 = .ok (.aload_n 0, 1) := by decide +kernel
theorem dL_law_586 : decode cL_law 586 = .ok (.iload_n 3, 1) := by decide +kernel
theorem dL_law_587 : decode cL_law 587 = .ok (.iconst 2, 1) := by decide +kernel
theorem dL_law_588 : decode cL_law 588 = .ok (.iadd, 1) := by decide +kernel
theorem dL_law_589 : decode cL_law 589 = .ok (.iaload, 1) := by decide +kernel
theorem dL_law_590 : decode cL_law 590 = .ok (.aload_n 0, 1) := by decide +kernel
theorem dL_law_591 : decode cL_law 591 = .ok (.iload_n 3, 1) := by decide +kernel
theorem dL_law_592 : decode cL_law 592 = .ok (.iconst 3, 1) := by decide +kernel
theorem dL_law_593 : decode cL_law 593 = .ok (.iadd, 1) := by decide +kernel
theorem dL_law_594 : decode cL_law 594 = .ok (.iaload, 1) := by decide +kernel
theorem dL_law_595 : decode cL_law 595 = .ok (.invokevirtual 72, 3) := by decide +kernel
theorem dL_law_598 : decode cL_law 598 = .ok (.if_icmp .eq 246, 3) := by decide +kernel
theorem dL_law_601 : decode cL_law 601 = .ok (.iconst 0, 1) := by decide +kernel
theorem dL_law_602 : decode cL_law 602 = .ok (.ireturn, 1) := by decide +kernel
theorem dL_law_603 : decode cL_law 603 = .ok (.aload_n 1, 1) := by decide +kernel
theorem dL_law_604 : decode cL_law 604 = .ok (.invokevirtual 73, 3) := by decide +kernel
theorem dL_law_607 : decode cL_law 607 = .ok (.aload_n 2, 1) := by decide +kernel
theorem dL_law_608 : decode cL_law 608 = .ok (.invokevirtual 76, 3) := by decide +kernel
theorem dL_law_611 : decode cL_law 611 = .ok (.if_icmp .eq 233, 3) := by decide +kernel
theorem dL_law_614 : decode cL_law 614 = .ok (.iconst 0, 1) := by decide +kernel
theorem dL_law_615 : decode cL_law 615 = .ok (.ireturn, 1) := by decide +kernel
theorem dL_law_616 : decode cL_law 616 = .ok (.aload_n 1, 1) := by decide +kernel
theorem dL_law_617 : decode cL_law 617 = .ok (.aload_n 0, 1) := by decide +kernel
theorem dL_law_618 : decode cL_law 618 = .ok (.iload_n 3, 1) := by decide +kernel
theorem dL_law_619 : decode cL_law 619 = .ok (.iconst 1, 1) := by decide +kernel
theorem dL_law_620 : decode cL_law 620 = .ok (.iadd, 1) := by decide +kernel
theorem dL_law_621 : decode cL_law 621 = .ok (.iaload, 1) := by decide +kernel
theorem dL_law_622 : decode cL_law 622 = .ok (.aload_n 0, 1) := by decide +kernel
theorem dL_law_623 : decode cL_law 623 = .ok (.iload_n 3, 1) := by decide +kernel
theorem dL_law_624 : decode cL_law 624 = .ok (.iconst 2, 1) := by decide +kernel
theorem dL_law_625 : decode cL_law 625 = .ok (.iadd, 1) := by decide +kernel
theorem dL_law_626 : decode cL_law 626 = .ok (.iaload, 1) := by decide +kernel
theorem dL_law_627 : decode cL_law 627 = .ok (.invokevirtual 77, 3) := by decide +kernel
theorem dL_law_630 : decode cL_law 630 = .ok (.aload_n 2, 1) := by decide +kernel
theorem dL_law_631 : decode cL_law 631 = .ok (.aload_n 0, 1) := by decide +kernel
theorem dL_law_632 : decode cL_law 632 = .ok (.iload_n 3, 1) := by decide +kernel
theorem dL_law_633 : decode cL_law 633 = .ok (.iconst 1, 1) := by decide +kernel
theorem dL_law_634 : decode cL_law 634 = .ok (.iadd, 1) := by decide +kernel
theorem dL_law_635 : decode cL_law 635 = .ok (.iaload, 1) := by decide +kernel
theorem dL_law_636 : decode cL_law 636 = .ok (.aload_n 0, 1) := by decide +kernel
theorem dL_law_637 : decode cL_law 637 = .ok (.iload_n 3, 1) := by decide +kernel
theorem dL_law_638 : decode cL_law 638 = .ok (.iconst 2, 1) := by decide +kernel
theorem dL_law_639 : decode cL_law 639 = .ok (.iadd, 1) := by decide +kernel
theorem dL_law_640 : decode cL_law 640 = .ok (.iaload, 1) := by decide +kernel
theorem dL_law_641 : decode cL_law 641 = .ok (.invokevirtual 80, 3) := by decide +kernel
theorem dL_law_644 : decode cL_law 644 = .ok (.lcmp, 1) := by decide +kernel
theorem dL_law_645 : decode cL_law 645 = .ok (.ifCond .eq 199, 3) := by decide +kernel
theorem dL_law_648 : decode cL_law 648 = .ok (.iconst 0, 1) := by decide +kernel
theorem dL_law_649 : decode cL_law 649 = .ok (.ireturn, 1) := by decide +kernel
theorem dL_law_650 : decode cL_law 650 = .ok (.aload_n 1, 1) := by decide +kernel
theorem dL_law_651 : decode cL_law 651 = .ok (.invokevirtual 81, 3) := by decide +kernel
theorem dL_law_654 : decode cL_law 654 = .ok (.aload_n 2, 1) := by decide +kernel
theorem dL_law_655 : decode cL_law 655 = .ok (.invokevirtual 84, 3) := by decide +kernel
theorem dL_law_658 : decode cL_law 658 = .ok (.if_icmp .eq 186, 3) := by decide +kernel
theorem dL_law_661 : decode cL_law 661 = .ok (.iconst 0, 1) := by decide +kernel
theorem dL_law_662 : decode cL_law 662 = .ok (.ireturn, 1) := by decide +kernel
theorem dL_law_663 : decode cL_law 663 = .ok (.aload_n 1, 1) := by decide +kernel
theorem dL_law_664 : decode cL_law 664 = .ok (.invokevirtual 85, 3) := by decide +kernel
theorem dL_law_667 : decode cL_law 667 = .ok (.aload_n 2, 1) := by decide +kernel
theorem dL_law_668 : decode cL_law 668 = .ok (.invokevirtual 88, 3) := by decide +kernel
theorem dL_law_671 : decode cL_law 671 = .ok (.if_icmp .eq 173, 3) := by decide +kernel
theorem dL_law_674 : decode cL_law 674 = .ok (.iconst 0, 1) := by decide +kernel
theorem dL_law_675 : decode cL_law 675 = .ok (.ireturn, 1) := by decide +kernel
theorem dL_law_676 : decode cL_law 676 = .ok (.aload_n 1, 1) := by decide +kernel
theorem dL_law_677 : decode cL_law 677 = .ok (.aload_n 0, 1) := by decide +kernel
theorem dL_law_678 : decode cL_law 678 = .ok (.iload_n 3, 1) := by decide +kernel
theorem dL_law_679 : decode cL_law 679 = .ok (.iconst 1, 1) := by decide +kernel
theorem dL_law_680 : decode cL_law 680 = .ok (.iadd, 1) := by decide +kernel
theorem dL_law_681 : decode cL_law 681 = .ok (.iaload, 1) := by decide +kernel
theorem dL_law_682 : decode cL_law 682 = .ok (.aload_n 0, 1) := by decide +kernel
theorem dL_law_683 : decode cL_law 683 = .ok (.iload_n 3, 1) := by decide +kernel
theorem dL_law_684 : decode cL_law 684 = .ok (.iconst 2, 1) := by decide +kernel
theorem dL_law_685 : decode cL_law 685 = .ok (.iadd, 1) := by decide +kernel
theorem dL_law_686 : decode cL_law 686 = .ok (.iaload, 1) := by decide +kernel
theorem dL_law_687 : decode cL_law 687 = .ok (.invokevirtual 89, 3) := by decide +kernel
theorem dL_law_690 : decode cL_law 690 = .ok (.aload_n 2, 1) := by decide +kernel
theorem dL_law_691 : decode cL_law 691 = .ok (.aload_n 0, 1) := by decide +kernel
theorem dL_law_692 : decode cL_law 692 = .ok (.iload_n 3, 1) := by decide +kernel
theorem dL_law_693 : decode cL_law 693 = .ok (.iconst 1, 1) := by decide +kernel
theorem dL_law_694 : decode cL_law 694 = .ok (.iadd, 1) := by decide +kernel
theorem dL_law_695 : decode cL_law 695 = .ok (.iaload, 1) := by decide +kernel
theorem dL_law_696 : decode cL_law 696 = .ok (.aload_n 0, 1) := by decide +kernel
theorem dL_law_697 : decode cL_law 697 = .ok (.iload_n 3, 1) := by decide +kernel
theorem dL_law_698 : decode cL_law 698 = .ok (.iconst 2, 1) := by decide +kernel
theorem dL_law_699 : decode cL_law 699 = .ok (.iadd, 1) := by decide +kernel
theorem dL_law_700 : decode cL_law 700 = .ok (.iaload, 1) := by decide +kernel
theorem dL_law_701 : decode cL_law 701 = .ok (.invokevirtual 92, 3) := by decide +kernel
theorem dL_law_704 : decode cL_law 704 = .ok (.if_icmp .eq 140, 3) := by decide +kernel
theorem dL_law_707 : decode cL_law 707 = .ok (.iconst 0, 1) := by decide +kernel
theorem dL_law_708 : decode cL_law 708 = .ok (.ireturn, 1) := by decide +kernel
theorem dL_law_709 : decode cL_law 709 = .ok (.aload_n 1, 1) := by decide +kernel
theorem dL_law_710 : decode cL_law 710 = .ok (.aload_n 0, 1) := by decide +kernel
theorem dL_law_711 : decode cL_law 711 = .ok (.iload_n 3, 1) := by decide +kernel
theorem dL_law_712 : decode cL_law 712 = .ok (.iconst 1, 1) := by decide +kernel
theorem dL_law_713 : decode cL_law 713 = .ok (.iadd, 1) := by decide +kernel
theorem dL_law_714 : decode cL_law 714 = .ok (.iaload, 1) := by decide +kernel
theorem dL_law_715 : decode cL_law 715 = .ok (.invokevirtual 93, 3) := by decide +kernel
theorem dL_law_718 : decode cL_law 718 = .ok (.aload_n 2, 1) := by decide +kernel
theorem dL_law_719 : decode cL_law 719 = .ok (.aload_n 0, 1) := by decide +kernel
theorem dL_law_720 : decode cL_law 720 = .ok (.iload_n 3, 1) := by decide +kernel
theorem dL_law_721 : decode cL_law 721 = .ok (.iconst 1, 1) := by decide +kernel
theorem dL_law_722 : decode cL_law 722 = .ok (.iadd, 1) := by decide +kernel
theorem dL_law_723 : decode cL_law 723 = .ok (.iaload, 1) := by decide +kernel
theorem dL_law_724 : decode cL_law 724 = .ok (.invokevirtual 96, 3) := by decide +kernel
theorem dL_law_727 : decode cL_law 727 = .ok (.if_icmp .eq 117, 3) := by decide +kernel
theorem dL_law_730 : decode cL_law 730 = .ok (.iconst 0, 1) := by decide +kernel
theorem dL_law_731 : decode cL_law 731 = .ok (.ireturn, 1) := by decide +kernel
theorem dL_law_732 : decode cL_law 732 = .ok (.aload_n 1, 1) := by decide +kernel
theorem dL_law_733 : decode cL_law 733 = .ok (.invokevirtual 97, 3) := by decide +kernel
theorem dL_law_736 : decode cL_law 736 = .ok (.aload_n 2, 1) := by decide +kernel
theorem dL_law_737 : decode cL_law 737 = .ok (.invokevirtual 100, 3) := by decide +kernel
theorem dL_law_740 : decode cL_law 740 = .ok (.if_icmp .eq 104, 3) := by decide +kernel
theorem dL_law_743 : decode cL_law 743 = .ok (.iconst 0, 1) := by decide +kernel
theorem dL_law_744 : decode cL_law 744 = .ok (.ireturn, 1) := by decide +kernel
theorem dL_law_745 : decode cL_law 745 = .ok (.aload_n 1, 1) := by decide +kernel
theorem dL_law_746 : decode cL_law 746 = .ok (.aload_n 0, 1) := by decide +kernel
theorem dL_law_747 : decode cL_law 747 = .ok (.iload_n 3, 1) := by decide +kernel
theorem dL_law_748 : decode cL_law 748 = .ok (.iconst 1, 1) := by decide +kernel
theorem dL_law_749 : decode cL_law 749 = .ok (.iadd, 1) := by decide +kernel
theorem dL_law_750 : decode cL_law 750 = .ok (.iaload, 1) := by decide +kernel
theorem dL_law_751 : decode cL_law 751 = .ok (.aload_n 0, 1) := by decide +kernel
theorem dL_law_752 : decode cL_law 752 = .ok (.iload_n 3, 1) := by decide +kernel
theorem dL_law_753 : decode cL_law 753 = .ok (.iconst 2, 1) := by decide +kernel
theorem dL_law_754 : decode cL_law 754 = .ok (.iadd, 1) := by decide +kernel
theorem dL_law_755 : decode cL_law 755 = .ok (.iaload, 1) := by decide +kernel
theorem dL_law_756 : decode cL_law 756 = .ok (.aload_n 0, 1) := by decide +kernel
theorem dL_law_757 : decode cL_law 757 = .ok (.iload_n 3, 1) := by decide +kernel
theorem dL_law_758 : decode cL_law 758 = .ok (.iconst 3, 1) := by decide +kernel
theorem dL_law_759 : decode cL_law 759 = .ok (.iadd, 1) := by decide +kernel
theorem dL_law_760 : decode cL_law 760 = .ok (.iaload, 1) := by decide +kernel
theorem dL_law_761 : decode cL_law 761 = .ok (.invokevirtual 101, 3) := by decide +kernel
theorem dL_law_764 : decode cL_law 764 = .ok (.aload_n 2, 1) := by decide +kernel
theorem dL_law_765 : decode cL_law 765 = .ok (.aload_n 0, 1) := by decide +kernel
theorem dL_law_766 : decode cL_law 766 = .ok (.iload_n 3, 1) := by decide +kernel
theorem dL_law_767 : decode cL_law 767 = .ok (.iconst 1, 1) := by decide +kernel
theorem dL_law_768 : decode cL_law 768 = .ok (.iadd, 1) := by decide +kernel
theorem dL_law_769 : decode cL_law 769 = .ok (.iaload, 1) := by decide +kernel
theorem dL_law_770 : decode cL_law 770 = .ok (.aload_n 0, 1) := by decide +kernel
theorem dL_law_771 : decode cL_law 771 = .ok (.iload_n 3, 1) := by decide +kernel
theorem dL_law_772 : decode cL_law 772 = .ok (.iconst 2, 1) := by decide +kernel
theorem dL_law_773 : decode cL_law 773 = .ok (.iadd, 1) := by decide +kernel
theorem dL_law_774 : decode cL_law 774 = .ok (.iaload, 1) := by decide +kernel
theorem dL_law_775 : decode cL_law 775 = .ok (.aload_n 0, 1) := by decide +kernel
theorem dL_law_776 : decode cL_law 776 = .ok (.iload_n 3, 1) := by decide +kernel
theorem dL_law_777 : decode cL_law 777 = .ok (.iconst 3, 1) := by decide +kernel
theorem dL_law_778 : decode cL_law 778 = .ok (.iadd, 1) := by decide +kernel
theorem dL_law_779 : decode cL_law 779 = .ok (.iaload, 1) := by decide +kernel
theorem dL_law_780 : decode cL_law 780 = .ok (.invokevirtual 104, 3) := by decide +kernel
theorem dL_law_783 : decode cL_law 783 = .ok (.if_icmp .eq 61, 3) := by decide +kernel
theorem dL_law_786 : decode cL_law 786 = .ok (.iconst 0, 1) := by decide +kernel
theorem dL_law_787 : decode cL_law 787 = .ok (.ireturn, 1) := by decide +kernel
theorem dL_law_788 : decode cL_law 788 = .ok (.aload_n 1, 1) := by decide +kernel
theorem dL_law_789 : decode cL_law 789 = .ok (.aload_n 0, 1) := by decide +kernel
theorem dL_law_790 : decode cL_law 790 = .ok (.iload_n 3, 1) := by decide +kernel
theorem dL_law_791 : decode cL_law 791 = .ok (.iconst 1, 1) := by decide +kernel
theorem dL_law_792 : decode cL_law 792 = .ok (.iadd, 1) := by decide +kernel
theorem dL_law_793 : decode cL_law 793 = .ok (.iaload, 1) := by decide +kernel
theorem dL_law_794 : decode cL_law 794 = .ok (.aload_n 0, 1) := by decide +kernel
theorem dL_law_795 : decode cL_law 795 = .ok (.iload_n 3, 1) := by decide +kernel
theorem dL_law_796 : decode cL_law 796 = .ok (.iconst 2, 1) := by decide +kernel
theorem dL_law_797 : decode cL_law 797 = .ok (.iadd, 1) := by decide +kernel
theorem dL_law_798 : decode cL_law 798 = .ok (.iaload, 1) := by decide +kernel
theorem dL_law_799 : decode cL_law 799 = .ok (.aload_n 0, 1) := by decide +kernel
theorem dL_law_800 : decode cL_law 800 = .ok (.iload_n 3, 1) := by decide +kernel
theorem dL_law_801 : decode cL_law 801 = .ok (.iconst 3, 1) := by decide +kernel
theorem dL_law_802 : decode cL_law 802 = .ok (.iadd, 1) := by decide +kernel
theorem dL_law_803 : decode cL_law 803 = .ok (.iaload, 1) := by decide +kernel
theorem dL_law_804 : decode cL_law 804 = .ok (.invokevirtual 105, 3) := by decide +kernel
theorem dL_law_807 : decode cL_law 807 = .ok (.aload_n 2, 1) := by decide +kernel
theorem dL_law_808 : decode cL_law 808 = .ok (.aload_n 0, 1) := by decide +kernel
theorem dL_law_809 : decode cL_law 809 = .ok (.iload_n 3, 1) := by decide +kernel
theorem dL_law_810 : decode cL_law 810 = .ok (.iconst 1, 1) := by decide +kernel
theorem dL_law_811 : decode cL_law 811 = .ok (.iadd, 1) := by decide +kernel
theorem dL_law_812 : decode cL_law 812 = .ok (.iaload, 1) := by decide +kernel
theorem dL_law_813 : decode cL_law 813 = .ok (.aload_n 0, 1) := by decide +kernel
theorem dL_law_814 : decode cL_law 814 = .ok (.iload_n 3, 1) := by decide +kernel
theorem dL_law_815 : decode cL_law 815 = .ok (.iconst 2, 1) := by decide +kernel
theorem dL_law_816 : decode cL_law 816 = .ok (.iadd, 1) := by decide +kernel
theorem dL_law_817 : decode cL_law 817 = .ok (.iaload, 1) := by decide +kernel
theorem dL_law_818 : decode cL_law 818 = .ok (.aload_n 0, 1) := by decide +kernel
theorem dL_law_819 : decode cL_law 819 = .ok (.iload_n 3, 1) := by decide +kernel
theorem dL_law_820 : decode cL_law 820 = .ok (.iconst 3, 1) := by decide +kernel
theorem dL_law_821 : decode cL_law 821 = .ok (.iadd, 1) := by decide +kernel
theorem dL_law_822 : decode cL_law 822 = .ok (.iaload, 1) := by decide +kernel
theorem dL_law_823 : decode cL_law 823 = .ok (.invokevirtual 108, 3) := by decide +kernel
theorem dL_law_826 : decode cL_law 826 = .ok (.if_icmp .eq 18, 3) := by decide +kernel
theorem dL_law_829 : decode cL_law 829 = .ok (.iconst 0, 1) := by decide +kernel
theorem dL_law_830 : decode cL_law 830 = .ok (.ireturn, 1) := by decide +kernel
theorem dL_law_831 : decode cL_law 831 = .ok (.aload_n 1, 1) := by decide +kernel
theorem dL_law_832 : decode cL_law 832 = .ok (.invokevirtual 109, 3) := by decide +kernel
theorem dL_law_835 : decode cL_law 835 = .ok (.aload_n 2, 1) := by decide +kernel
theorem dL_law_836 : decode cL_law 836 = .ok (.invokevirtual 112, 3) := by decide +kernel
theorem dL_law_839 : decode cL_law 839 = .ok (.if_icmp .eq 5, 3) := by decide +kernel
theorem dL_law_842 : decode cL_law 842 = .ok (.iconst 0, 1) := by decide +kernel
theorem dL_law_843 : decode cL_law 843 = .ok (.ireturn, 1) := by decide +kernel
theorem dL_law_844 : decode cL_law 844 = .ok (.iinc 3 5, 3) := by decide +kernel
theorem dL_law_847 : decode cL_law 847 = .ok (.goto (-829), 3) := by decide +kernel
theorem dL_law_850 : decode cL_law 850 = .ok (.iconst 1, 1) := by decide +kernel
theorem dL_law_851 : decode cL_law 851 = .ok (.ireturn, 1) := by decide +kernel
