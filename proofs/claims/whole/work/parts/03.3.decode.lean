theorem dX12_look_144 : decode cX12_look 144 = .ok (.aload_n 0, 1) := by decide +kernel
theorem dX12_look_145 : decode cX12_look 145 = .ok (.getfield 230, 3) := by decide +kernel
theorem dX12_look_148 : decode cX12_look 148 = .ok (.iadd, 1) := by decide +kernel
theorem dX12_look_149 : decode cX12_look 149 = .ok (.aload_n 0, 1) := by decide +kernel
theorem dX12_look_150 : decode cX12_look 150 = .ok (.getfield 214, 3) := by decide +kernel
theorem dX12_look_153 : decode cX12_look 153 = .ok (.if_icmp .ge 62, 3) := by decide +kernel
theorem dX12_look_156 : decode cX12_look 156 = .ok (.aload_n 0, 1) := by decide +kernel
theorem dX12_look_157 : decode cX12_look 157 = .ok (.getfield 45, 3) := by decide +kernel
theorem dX12_look_160 : decode cX12_look 160 = .ok (.aload_n 0, 1) := by decide +kernel
theorem dX12_look_161 : decode cX12_look 161 = .ok (.getfield 227, 3) := by decide +kernel
theorem dX12_look_164 : decode cX12_look 164 = .ok (.aload_n 0, 1) := by decide +kernel
theorem dX12_look_165 : decode cX12_look 165 = .ok (.getfield 230, 3) := by decide +kernel
theorem dX12_look_168 : decode cX12_look 168 = .ok (.iadd, 1) := by decide +kernel
theorem dX12_look_169 : decode cX12_look 169 = .ok (.iaload, 1) := by decide +kernel
theorem dX12_look_170 : decode cX12_look 170 = .ok (.istore 4, 2) := by decide +kernel
theorem dX12_look_172 : decode cX12_look 172 = .ok (.aload_n 0, 1) := by decide +kernel
theorem dX12_look_173 : decode cX12_look 173 = .ok (.getfield 233, 3) := by decide +kernel
theorem dX12_look_176 : decode cX12_look 176 = .ok (.iconst 1, 1) := by decide +kernel
theorem dX12_look_177 : decode cX12_look 177 = .ok (.if_icmp .ne 11, 3) := by decide +kernel
theorem dX12_look_180 : decode cX12_look 180 = .ok (.iload 4, 2) := by decide +kernel
theorem dX12_look_182 : decode cX12_look 182 = .ok (.invokestatic 239, 3) := by decide +kernel
theorem dX12_look_185 : decode cX12_look 185 = .ok (.goto 8, 3) := by decide +kernel
theorem dX12_look_188 : decode cX12_look 188 = .ok (.iload 4, 2) := by decide +kernel
theorem dX12_look_190 : decode cX12_look 190 = .ok (.invokestatic 242, 3) := by decide +kernel
theorem dX12_look_193 : decode cX12_look 193 = .ok (.istore_n 3, 1) := by decide +kernel
theorem dX12_look_194 : decode cX12_look 194 = .ok (.aload_n 0, 1) := by decide +kernel
theorem dX12_look_195 : decode cX12_look 195 = .ok (.dup, 1) := by decide +kernel
theorem dX12_look_196 : decode cX12_look 196 = .ok (.getfield 230, 3) := by decide +kernel
theorem dX12_look_199 : decode cX12_look 199 = .ok (.iload_n 3, 1) := by decide +kernel
theorem dX12_look_200 : decode cX12_look 200 = .ok (.ifCond .eq 7, 3) := by decide +kernel
theorem dX12_look_203 : decode cX12_look 203 = .ok (.iconst 1, 1) := by decide +kernel
theorem dX12_look_204 : decode cX12_look 204 = .ok (.goto 4, 3) := by decide +kernel
theorem dX12_look_207 : decode cX12_look 207 = .ok (.iconst 0, 1) := by decide +kernel
theorem dX12_look_208 : decode cX12_look 208 = .ok (.iadd, 1) := by decide +kernel
theorem dX12_look_209 : decode cX12_look 209 = .ok (.putfield 230, 3) := by decide +kernel
theorem dX12_look_212 : decode cX12_look 212 = .ok (.goto (-76), 3) := by decide +kernel
theorem dX12_look_215 : decode cX12_look 215 = .ok (.iconst 0, 1) := by decide +kernel
theorem dX12_look_216 : decode cX12_look 216 = .ok (.istore 4, 2) := by decide +kernel
theorem dX12_look_218 : decode cX12_look 218 = .ok (.iload 4, 2) := by decide +kernel
theorem dX12_look_220 : decode cX12_look 220 = .ok (.aload_n 0, 1) := by decide +kernel
theorem dX12_look_221 : decode cX12_look 221 = .ok (.getfield 230, 3) := by decide +kernel
theorem dX12_look_224 : decode cX12_look 224 = .ok (.if_icmp .ge 50, 3) := by decide +kernel
theorem dX12_look_227 : decode cX12_look 227 = .ok (.iload 4, 2) := by decide +kernel
theorem dX12_look_229 : decode cX12_look 229 = .ok (.iconst 3, 1) := by decide +kernel
theorem dX12_look_230 : decode cX12_look 230 = .ok (.if_icmp .ge 44, 3) := by decide +kernel
theorem dX12_look_233 : decode cX12_look 233 = .ok (.aload_n 0, 1) := by decide +kernel
theorem dX12_look_234 : decode cX12_look 234 = .ok (.getfield 233, 3) := by decide +kernel
theorem dX12_look_237 : decode cX12_look 237 = .ok (.iconst 2, 1) := by decide +kernel
theorem dX12_look_238 : decode cX12_look 238 = .ok (.if_icmp .ne 36, 3) := by decide +kernel
theorem dX12_look_241 : decode cX12_look 241 = .ok (.aload_n 0, 1) := by decide +kernel
theorem dX12_look_242 : decode cX12_look 242 = .ok (.bipush 10, 2) := by decide +kernel
theorem dX12_look_244 : decode cX12_look 244 = .ok (.aload_n 0, 1) := by decide +kernel
theorem dX12_look_245 : decode cX12_look 245 = .ok (.getfield 236, 3) := by decide +kernel
theorem dX12_look_248 : decode cX12_look 248 = .ok (.imul, 1) := by decide +kernel
theorem dX12_look_249 : decode cX12_look 249 = .ok (.aload_n 0, 1) := by decide +kernel
theorem dX12_look_250 : decode cX12_look 250 = .ok (.getfield 45, 3) := by decide +kernel
theorem dX12_look_253 : decode cX12_look 253 = .ok (.aload_n 0, 1) := by decide +kernel
theorem dX12_look_254 : decode cX12_look 254 = .ok (.getfield 227, 3) := by decide +kernel
theorem dX12_look_257 : decode cX12_look 257 = .ok (.iload 4, 2) := by decide +kernel
theorem dX12_look_259 : decode cX12_look 259 = .ok (.iadd, 1) := by decide +kernel
theorem dX12_look_260 : decode cX12_look 260 = .ok (.iaload, 1) := by decide +kernel
theorem dX12_look_261 : decode cX12_look 261 = .ok (.iadd, 1) := by decide +kernel
theorem dX12_look_262 : decode cX12_look 262 = .ok (.bipush 48, 2) := by decide +kernel
theorem dX12_look_264 : decode cX12_look 264 = .ok (.isub, 1) := by decide +kernel
theorem dX12_look_265 : decode cX12_look 265 = .ok (.putfield 236, 3) := by decide +kernel
theorem dX12_look_268 : decode cX12_look 268 = .ok (.iinc 4 1, 3) := by decide +kernel
theorem dX12_look_271 : decode cX12_look 271 = .ok (.goto (-53), 3) := by decide +kernel
theorem dX12_look_274 : decode cX12_look 274 = .ok (.aload_n 0, 1) := by decide +kernel
theorem dX12_look_275 : decode cX12_look 275 = .ok (.aload_n 0, 1) := by decide +kernel
theorem dX12_look_276 : decode cX12_look 276 = .ok (.getfield 233, 3) := by decide +kernel
theorem dX12_look_279 : decode cX12_look 279 = .ok (.iconst 2, 1) := by decide +kernel
theorem dX12_look_280 : decode cX12_look 280 = .ok (.if_icmp .ne 15, 3) := by decide +kernel
theorem dX12_look_283 : decode cX12_look 283 = .ok (.aload_n 0, 1) := by decide +kernel
theorem dX12_look_284 : decode cX12_look 284 = .ok (.getfield 230, 3) := by decide +kernel
theorem dX12_look_287 : decode cX12_look 287 = .ok (.iconst 3, 1) := by decide +kernel
theorem dX12_look_288 : decode cX12_look 288 = .ok (.if_icmp .le 7, 3) := by decide +kernel
theorem dX12_look_291 : decode cX12_look 291 = .ok (.iconst 4, 1) := by decide +kernel
theorem dX12_look_292 : decode cX12_look 292 = .ok (.goto 7, 3) := by decide +kernel
theorem dX12_look_295 : decode cX12_look 295 = .ok (.aload_n 0, 1) := by decide +kernel
theorem dX12_look_296 : decode cX12_look 296 = .ok (.getfield 233, 3) := by decide +kernel
theorem dX12_look_299 : decode cX12_look 299 = .ok (.putfield 233, 3) := by decide +kernel
theorem dX12_look_302 : decode cX12_look 302 = .ok (.return_, 1) := by decide +kernel
theorem dX12_goOn_0 : decode cX12_goOn 0 = .ok (.aload_n 0, 1) := by decide +kernel
theorem dX12_goOn_1 : decode cX12_goOn 1 = .ok (.aload_n 0, 1) := by decide +kernel
theorem dX12_goOn_2 : decode cX12_goOn 2 = .ok (.getfield 227, 3) := by decide +kernel
theorem dX12_goOn_5 : decode cX12_goOn 5 = .ok (.aload_n 0, 1) := by decide +kernel
theorem dX12_goOn_6 : decode cX12_goOn 6 = .ok (.getfield 230, 3) := by decide +kernel
theorem dX12_goOn_9 : decode cX12_goOn 9 = .ok (.iadd, 1) := by decide +kernel
theorem dX12_goOn_10 : decode cX12_goOn 10 = .ok (.invokevirtual 245, 3) := by decide +kernel
theorem dX12_goOn_13 : decode cX12_goOn 13 = .ok (.return_, 1) := by decide +kernel
theorem dX12_isWord_0 : decode cX12_isWord 0 = .ok (.iload 5, 2) := by decide +kernel
theorem dX12_isWord_2 : decode cX12_isWord 2 = .ok (.ifCond .ne 7, 3) := by decide +kernel
theorem dX12_isWord_5 : decode cX12_isWord 5 = .ok (.iconst 4, 1) := by decide +kernel
theorem dX12_isWord_6 : decode cX12_isWord 6 = .ok (.goto 4, 3) := by decide +kernel
theorem dX12_isWord_9 : decode cX12_isWord 9 = .ok (.iconst 5, 1) := by decide +kernel
theorem dX12_isWord_10 : decode cX12_isWord 10 = .ok (.istore 6, 2) := by decide +kernel
theorem dX12_isWord_12 : decode cX12_isWord 12 = .ok (.aload_n 0, 1) := by decide +kernel
theorem dX12_isWord_13 : decode cX12_isWord 13 = .ok (.getfield 233, 3) := by decide +kernel
theorem dX12_isWord_16 : decode cX12_isWord 16 = .ok (.iconst 1, 1) := by decide +kernel
theorem dX12_isWord_17 : decode cX12_isWord 17 = .ok (.if_icmp .ne 16, 3) := by decide +kernel
theorem dX12_isWord_20 : decode cX12_isWord 20 = .ok (.aload_n 0, 1) := by decide +kernel
theorem dX12_isWord_21 : decode cX12_isWord 21 = .ok (.getfield 230, 3) := by decide +kernel
theorem dX12_isWord_24 : decode cX12_isWord 24 = .ok (.iload 6, 2) := by decide +kernel
theorem dX12_isWord_26 : decode cX12_isWord 26 = .ok (.if_icmp .ne 7, 3) := by decide +kernel
theorem dX12_isWord_29 : decode cX12_isWord 29 = .ok (.iconst 1, 1) := by decide +kernel
theorem dX12_isWord_30 : decode cX12_isWord 30 = .ok (.goto 4, 3) := by decide +kernel
theorem dX12_isWord_33 : decode cX12_isWord 33 = .ok (.iconst 0, 1) := by decide +kernel
theorem dX12_isWord_34 : decode cX12_isWord 34 = .ok (.istore 7, 2) := by decide +kernel
theorem dX12_isWord_36 : decode cX12_isWord 36 = .ok (.iconst 0, 1) := by decide +kernel
theorem dX12_isWord_37 : decode cX12_isWord 37 = .ok (.istore 8, 2) := by decide +kernel
theorem dX12_isWord_39 : decode cX12_isWord 39 = .ok (.iload 8, 2) := by decide +kernel
theorem dX12_isWord_41 : decode cX12_isWord 41 = .ok (.iload 6, 2) := by decide +kernel
theorem dX12_isWord_43 : decode cX12_isWord 43 = .ok (.if_icmp .ge 78, 3) := by decide +kernel
theorem dX12_isWord_46 : decode cX12_isWord 46 = .ok (.iload 7, 2) := by decide +kernel
theorem dX12_isWord_48 : decode cX12_isWord 48 = .ok (.ifCond .eq 73, 3) := by decide +kernel
theorem dX12_isWord_51 : decode cX12_isWord 51 = .ok (.aload_n 0, 1) := by decide +kernel
theorem dX12_isWord_52 : decode cX12_isWord 52 = .ok (.getfield 45, 3) := by decide +kernel
theorem dX12_isWord_55 : decode cX12_isWord 55 = .ok (.aload_n 0, 1) := by decide +kernel
theorem dX12_isWord_56 : decode cX12_isWord 56 = .ok (.getfield 227, 3) := by decide +kernel
theorem dX12_isWord_59 : decode cX12_isWord 59 = .ok (.iload 8, 2) := by decide +kernel
theorem dX12_isWord_61 : decode cX12_isWord 61 = .ok (.iadd, 1) := by decide +kernel
theorem dX12_isWord_62 : decode cX12_isWord 62 = .ok (.iaload, 1) := by decide +kernel
theorem dX12_isWord_63 : decode cX12_isWord 63 = .ok (.iload 8, 2) := by decide +kernel
theorem dX12_isWord_65 : decode cX12_isWord 65 = .ok (.ifCond .ne 7, 3) := by decide +kernel
theorem dX12_isWord_68 : decode cX12_isWord 68 = .ok (.iload_n 1, 1) := by decide +kernel
theorem dX12_isWord_69 : decode cX12_isWord 69 = .ok (.goto 36, 3) := by decide +kernel
theorem dX12_isWord_72 : decode cX12_isWord 72 = .ok (.iload 8, 2) := by decide +kernel
theorem dX12_isWord_74 : decode cX12_isWord 74 = .ok (.iconst 1, 1) := by decide +kernel
theorem dX12_isWord_75 : decode cX12_isWord 75 = .ok (.if_icmp .ne 7, 3) := by decide +kernel
theorem dX12_isWord_78 : decode cX12_isWord 78 = .ok (.iload_n 2, 1) := by decide +kernel
theorem dX12_isWord_79 : decode cX12_isWord 79 = .ok (.goto 26, 3) := by decide +kernel
theorem dX12_isWord_82 : decode cX12_isWord 82 = .ok (.iload 8, 2) := by decide +kernel
theorem dX12_isWord_84 : decode cX12_isWord 84 = .ok (.iconst 2, 1) := by decide +kernel
theorem dX12_isWord_85 : decode cX12_isWord 85 = .ok (.if_icmp .ne 7, 3) := by decide +kernel
theorem dX12_isWord_88 : decode cX12_isWord 88 = .ok (.iload_n 3, 1) := by decide +kernel
theorem dX12_isWord_89 : decode cX12_isWord 89 = .ok (.goto 16, 3) := by decide +kernel
theorem dX12_isWord_92 : decode cX12_isWord 92 = .ok (.iload 8, 2) := by decide +kernel
theorem dX12_isWord_94 : decode cX12_isWord 94 = .ok (.iconst 3, 1) := by decide +kernel
theorem dX12_isWord_95 : decode cX12_isWord 95 = .ok (.if_icmp .ne 8, 3) := by decide +kernel
theorem dX12_isWord_98 : decode cX12_isWord 98 = .ok (.iload 4, 2) := by decide +kernel
theorem dX12_isWord_100 : decode cX12_isWord 100 = .ok (.goto 5, 3) := by decide +kernel
theorem dX12_isWord_103 : decode cX12_isWord 103 = .ok (.iload 5, 2) := by decide +kernel
theorem dX12_isWord_105 : decode cX12_isWord 105 = .ok (.if_icmp .ne 7, 3) := by decide +kernel
theorem dX12_isWord_108 : decode cX12_isWord 108 = .ok (.iconst 1, 1) := by decide +kernel
theorem dX12_isWord_109 : decode cX12_isWord 109 = .ok (.goto 4, 3) := by decide +kernel
theorem dX12_isWord_112 : decode cX12_isWord 112 = .ok (.iconst 0, 1) := by decide +kernel
theorem dX12_isWord_113 : decode cX12_isWord 113 = .ok (.istore 7, 2) := by decide +kernel
theorem dX12_isWord_115 : decode cX12_isWord 115 = .ok (.iinc 8 1, 3) := by decide +kernel
theorem dX12_isWord_118 : decode cX12_isWord 118 = .ok (.goto (-79), 3) := by decide +kernel
theorem dX12_isWord_121 : decode cX12_isWord 121 = .ok (.iload 7, 2) := by decide +kernel
theorem dX12_isWord_123 : decode cX12_isWord 123 = .ok (.ireturn, 1) := by decide +kernel
theorem dX12_takes_0 : decode cX12_takes 0 = .ok (.aload_n 0, 1) := by decide +kernel
theorem dX12_takes_1 : decode cX12_takes 1 = .ok (.getfield 233, 3) := by decide +kernel
theorem dX12_takes_4 : decode cX12_takes 4 = .ok (.iconst 2, 1) := by decide +kernel
theorem dX12_takes_5 : decode cX12_takes 5 = .ok (.if_icmp .ne 18, 3) := by decide +kernel
theorem dX12_takes_8 : decode cX12_takes 8 = .ok (.aload_n 0, 1) := by decide +kernel
theorem dX12_takes_9 : decode cX12_takes 9 = .ok (.getfield 236, 3) := by decide +kernel
theorem dX12_takes_12 : decode cX12_takes 12 = .ok (.i2l, 1) := by decide +kernel
theorem dX12_takes_13 : decode cX12_takes 13 = .ok (.iload_n 2, 1) := by decide +kernel
theorem dX12_takes_14 : decode cX12_takes 14 = .ok (.i2l, 1) := by decide +kernel
theorem dX12_takes_15 : decode cX12_takes 15 = .ok (.iload_n 3, 1) := by decide +kernel
theorem dX12_takes_16 : decode cX12_takes 16 = .ok (.i2l, 1) := by decide +kernel
theorem dX12_takes_17 : decode cX12_takes 17 = .ok (.invokestatic 60, 3) := by decide +kernel
theorem dX12_takes_20 : decode cX12_takes 20 = .ok (.ifCond .ne 5, 3) := by decide +kernel
theorem dX12_takes_23 : decode cX12_takes 23 = .ok (.iconst 0, 1) := by decide +kernel
theorem dX12_takes_24 : decode cX12_takes 24 = .ok (.ireturn, 1) := by decide +kernel
theorem dX12_takes_25 : decode cX12_takes 25 = .ok (.aload_n 0, 1) := by decide +kernel
theorem dX12_takes_26 : decode cX12_takes 26 = .ok (.getfield 51, 3) := by decide +kernel
theorem dX12_takes_29 : decode cX12_takes 29 = .ok (.iload_n 1, 1) := by decide +kernel
theorem dX12_takes_30 : decode cX12_takes 30 = .ok (.aload_n 0, 1) := by decide +kernel
theorem dX12_takes_31 : decode cX12_takes 31 = .ok (.getfield 236, 3) := by decide +kernel
theorem dX12_takes_34 : decode cX12_takes 34 = .ok (.iastore, 1) := by decide +kernel
theorem dX12_takes_35 : decode cX12_takes 35 = .ok (.aload_n 0, 1) := by decide +kernel
theorem dX12_takes_36 : decode cX12_takes 36 = .ok (.invokevirtual 248, 3) := by decide +kernel
theorem dX12_takes_39 : decode cX12_takes 39 = .ok (.iconst 1, 1) := by decide +kernel
theorem dX12_takes_40 : decode cX12_takes 40 = .ok (.ireturn, 1) := by decide +kernel
theorem dX12_readsFirst_0 : decode cX12_readsFirst 0 = .ok (.aload_n 0, 1) := by decide +kernel
theorem dX12_readsFirst_1 : decode cX12_readsFirst 1 = .ok (.bipush 114, 2) := by decide +kernel
theorem dX12_readsFirst_3 : decode cX12_readsFirst 3 = .ok (.bipush 105, 2) := by decide +kernel
theorem dX12_readsFirst_5 : decode cX12_readsFirst 5 = .ok (.bipush 110, 2) := by decide +kernel
theorem dX12_readsFirst_7 : decode cX12_readsFirst 7 = .ok (.bipush 103, 2) := by decide +kernel
theorem dX12_readsFirst_9 : decode cX12_readsFirst 9 = .ok (.iconst 0, 1) := by decide +kernel
theorem dX12_readsFirst_10 : decode cX12_readsFirst 10 = .ok (.invokevirtual 251, 3) := by decide +kernel
theorem dX12_readsFirst_13 : decode cX12_readsFirst 13 = .ok (.ifCond .ne 5, 3) := by decide +kernel
theorem dX12_readsFirst_16 : decode cX12_readsFirst 16 = .ok (.iconst 0, 1) := by decide +kernel
theorem dX12_readsFirst_17 : decode cX12_readsFirst 17 = .ok (.ireturn, 1) := by decide +kernel
theorem dX12_readsFirst_18 : decode cX12_readsFirst 18 = .ok (.aload_n 0, 1) := by decide +kernel
theorem dX12_readsFirst_19 : decode cX12_readsFirst 19 = .ok (.invokevirtual 248, 3) := by decide +kernel
theorem dX12_readsFirst_22 : decode cX12_readsFirst 22 = .ok (.aload_n 0, 1) := by decide +kernel
theorem dX12_readsFirst_23 : decode cX12_readsFirst 23 = .ok (.iconst 0, 1) := by decide +kernel
theorem dX12_readsFirst_24 : decode cX12_readsFirst 24 = .ok (.iconst 4, 1) := by decide +kernel
theorem dX12_readsFirst_25 : decode cX12_readsFirst 25 = .ok (.bipush 24, 2) := by decide +kernel
theorem dX12_readsFirst_27 : decode cX12_readsFirst 27 = .ok (.invokevirtual 255, 3) := by decide +kernel
theorem dX12_readsFirst_30 : decode cX12_readsFirst 30 = .ok (.istore_n 1, 1) := by decide +kernel
theorem dX12_readsFirst_31 : decode cX12_readsFirst 31 = .ok (.aload_n 0, 1) := by decide +kernel
theorem dX12_readsFirst_32 : decode cX12_readsFirst 32 = .ok (.getfield 48, 3) := by decide +kernel
theorem dX12_readsFirst_35 : decode cX12_readsFirst 35 = .ok (.aload_n 0, 1) := by decide +kernel
theorem dX12_readsFirst_36 : decode cX12_readsFirst 36 = .ok (.getfield 51, 3) := by decide +kernel
theorem dX12_readsFirst_39 : decode cX12_readsFirst 39 = .ok (.iconst 0, 1) := by decide +kernel
theorem dX12_readsFirst_40 : decode cX12_readsFirst 40 = .ok (.iaload, 1) := by decide +kernel
theorem dX12_readsFirst_41 : decode cX12_readsFirst 41 = .ok (.invokestatic 54, 3) := by decide +kernel
theorem dX12_readsFirst_44 : decode cX12_readsFirst 44 = .ok (.iload_n 1, 1) := by decide +kernel
theorem dX12_readsFirst_45 : decode cX12_readsFirst 45 = .ok (.ifCond .eq 15, 3) := by decide +kernel
theorem dX12_readsFirst_48 : decode cX12_readsFirst 48 = .ok (.aload_n 0, 1) := by decide +kernel
theorem dX12_readsFirst_49 : decode cX12_readsFirst 49 = .ok (.getfield 233, 3) := by decide +kernel
theorem dX12_readsFirst_52 : decode cX12_readsFirst 52 = .ok (.iconst 3, 1) := by decide +kernel
theorem dX12_readsFirst_53 : decode cX12_readsFirst 53 = .ok (.if_icmp .ne 7, 3) := by decide +kernel
theorem dX12_readsFirst_56 : decode cX12_readsFirst 56 = .ok (.iconst 1, 1) := by decide +kernel
theorem dX12_readsFirst_57 : decode cX12_readsFirst 57 = .ok (.goto 4, 3) := by decide +kernel
theorem dX12_readsFirst_60 : decode cX12_readsFirst 60 = .ok (.iconst 0, 1) := by decide +kernel
theorem dX12_readsFirst_61 : decode cX12_readsFirst 61 = .ok (.ireturn, 1) := by decide +kernel
theorem dX12_lastPlace_0 : decode cX12_lastPlace 0 = .ok (.aload_n 0, 1) := by decide +kernel
theorem dX12_lastPlace_1 : decode cX12_lastPlace 1 = .ok (.getfield 48, 3) := by decide +kernel
theorem dX12_lastPlace_4 : decode cX12_lastPlace 4 = .ok (.iconst 0, 1) := by decide +kernel
theorem dX12_lastPlace_5 : decode cX12_lastPlace 5 = .ok (.iaload, 1) := by decide +kernel
theorem dX12_lastPlace_6 : decode cX12_lastPlace 6 = .ok (.iconst 1, 1) := by decide +kernel
theorem dX12_lastPlace_7 : decode cX12_lastPlace 7 = .ok (.isub, 1) := by decide +kernel
theorem dX12_lastPlace_8 : decode cX12_lastPlace 8 = .ok (.ireturn, 1) := by decide +kernel
theorem dX12_readsItem_0 : decode cX12_readsItem 0 = .ok (.aload_n 0, 1) := by decide +kernel
theorem dX12_readsItem_1 : decode cX12_readsItem 1 = .ok (.bipush 115, 2) := by decide +kernel
theorem dX12_readsItem_3 : decode cX12_readsItem 3 = .ok (.bipush 116, 2) := by decide +kernel
theorem dX12_readsItem_5 : decode cX12_readsItem 5 = .ok (.bipush 101, 2) := by decide +kernel
theorem dX12_readsItem_7 : decode cX12_readsItem 7 = .ok (.bipush 112, 2) := by decide +kernel
theorem dX12_readsItem_9 : decode cX12_readsItem 9 = .ok (.iconst 0, 1) := by decide +kernel
theorem dX12_readsItem_10 : decode cX12_readsItem 10 = .ok (.invokevirtual 251, 3) := by decide +kernel
theorem dX12_readsItem_13 : decode cX12_readsItem 13 = .ok (.ifCond .eq 63, 3) := by decide +kernel
theorem dX12_readsItem_16 : decode cX12_readsItem 16 = .ok (.aload_n 0, 1) := by decide +kernel
theorem dX12_readsItem_17 : decode cX12_readsItem 17 = .ok (.invokevirtual 248, 3) := by decide +kernel
theorem dX12_readsItem_20 : decode cX12_readsItem 20 = .ok (.aload_n 0, 1) := by decide +kernel
theorem dX12_readsItem_21 : decode cX12_readsItem 21 = .ok (.iconst 0, 1) := by decide +kernel
theorem dX12_readsItem_22 : decode cX12_readsItem 22 = .ok (.iconst 0, 1) := by decide +kernel
theorem dX12_readsItem_23 : decode cX12_readsItem 23 = .ok (.iconst 4, 1) := by decide +kernel
theorem dX12_readsItem_24 : decode cX12_readsItem 24 = .ok (.invokevirtual 255, 3) := by decide +kernel
theorem dX12_readsItem_27 : decode cX12_readsItem 27 = .ok (.ifCond .eq 18, 3) := by decide +kernel
theorem dX12_readsItem_30 : decode cX12_readsItem 30 = .ok (.aload_n 0, 1) := by decide +kernel
theorem dX12_readsItem_31 : decode cX12_readsItem 31 = .ok (.iconst 1, 1) := by decide +kernel
theorem dX12_readsItem_32 : decode cX12_readsItem 32 = .ok (.iconst 0, 1) := by decide +kernel
theorem dX12_readsItem_33 : decode cX12_readsItem 33 = .ok (.bipush 9, 2) := by decide +kernel
theorem dX12_readsItem_35 : decode cX12_readsItem 35 = .ok (.invokevirtual 255, 3) := by decide +kernel
theorem dX12_readsItem_38 : decode cX12_readsItem 38 = .ok (.ifCond .eq 7, 3) := by decide +kernel
theorem dX12_readsItem_41 : decode cX12_readsItem 41 = .ok (.iconst 1, 1) := by decide +kernel
theorem dX12_readsItem_42 : decode cX12_readsItem 42 = .ok (.goto 4, 3) := by decide +kernel
theorem dX12_readsItem_45 : decode cX12_readsItem 45 = .ok (.iconst 0, 1) := by decide +kernel
theorem dX12_readsItem_46 : decode cX12_readsItem 46 = .ok (.istore_n 1, 1) := by decide +kernel
theorem dX12_readsItem_47 : decode cX12_readsItem 47 = .ok (.aload_n 0, 1) := by decide +kernel
theorem dX12_readsItem_48 : decode cX12_readsItem 48 = .ok (.getfield 48, 3) := by decide +kernel
theorem dX12_readsItem_51 : decode cX12_readsItem 51 = .ok (.iconst 1, 1) := by decide +kernel
theorem dX12_readsItem_52 : decode cX12_readsItem 52 = .ok (.aload_n 0, 1) := by decide +kernel
theorem dX12_readsItem_53 : decode cX12_readsItem 53 = .ok (.getfield 51, 3) := by decide +kernel
theorem dX12_readsItem_56 : decode cX12_readsItem 56 = .ok (.iconst 0, 1) := by decide +kernel
theorem dX12_readsItem_57 : decode cX12_readsItem 57 = .ok (.iaload, 1) := by decide +kernel
theorem dX12_readsItem_58 : decode cX12_readsItem 58 = .ok (.iadd, 1) := by decide +kernel
theorem dX12_readsItem_59 : decode cX12_readsItem 59 = .ok (.iload_n 1, 1) := by decide +kernel
theorem dX12_readsItem_60 : decode cX12_readsItem 60 = .ok (.ifCond .eq 12, 3) := by decide +kernel
theorem dX12_readsItem_63 : decode cX12_readsItem 63 = .ok (.aload_n 0, 1) := by decide +kernel
theorem dX12_readsItem_64 : decode cX12_readsItem 64 = .ok (.getfield 51, 3) := by decide +kernel
theorem dX12_readsItem_67 : decode cX12_readsItem 67 = .ok (.iconst 1, 1) := by decide +kernel
theorem dX12_readsItem_68 : decode cX12_readsItem 68 = .ok (.iaload, 1) := by decide +kernel
theorem dX12_readsItem_69 : decode cX12_readsItem 69 = .ok (.goto 4, 3) := by decide +kernel
theorem dX12_readsItem_72 : decode cX12_readsItem 72 = .ok (.iconst 0, 1) := by decide +kernel
theorem dX12_readsItem_73 : decode cX12_readsItem 73 = .ok (.iastore, 1) := by decide +kernel
theorem dX12_readsItem_74 : decode cX12_readsItem 74 = .ok (.iload_n 1, 1) := by decide +kernel
theorem dX12_readsItem_75 : decode cX12_readsItem 75 = .ok (.ireturn, 1) := by decide +kernel
theorem dX12_readsItem_76 : decode cX12_readsItem 76 = .ok (.aload_n 0, 1) := by decide +kernel
theorem dX12_readsItem_77 : decode cX12_readsItem 77 = .ok (.bipush 108, 2) := by decide +kernel
theorem dX12_readsItem_79 : decode cX12_readsItem 79 = .ok (.bipush 117, 2) := by decide +kernel
theorem dX12_readsItem_81 : decode cX12_readsItem 81 = .ok (.bipush 109, 2) := by decide +kernel
theorem dX12_readsItem_83 : decode cX12_readsItem 83 = .ok (.bipush 112, 2) := by decide +kernel
theorem dX12_readsItem_85 : decode cX12_readsItem 85 = .ok (.bipush 115, 2) := by decide +kernel
theorem dX12_readsItem_87 : decode cX12_readsItem 87 = .ok (.invokevirtual 251, 3) := by decide +kernel
theorem dX12_readsItem_90 : decode cX12_readsItem 90 = .ok (.ifCond .eq 84, 3) := by decide +kernel
theorem dX12_readsItem_93 : decode cX12_readsItem 93 = .ok (.aload_n 0, 1) := by decide +kernel
theorem dX12_readsItem_94 : decode cX12_readsItem 94 = .ok (.invokevirtual 248, 3) := by decide +kernel
theorem dX12_readsItem_97 : decode cX12_readsItem 97 = .ok (.aload_n 0, 1) := by decide +kernel
theorem dX12_readsItem_98 : decode cX12_readsItem 98 = .ok (.iconst 0, 1) := by decide +kernel
theorem dX12_readsItem_99 : decode cX12_readsItem 99 = .ok (.iconst 0, 1) := by decide +kernel
theorem dX12_readsItem_100 : decode cX12_readsItem 100 = .ok (.iconst 4, 1) := by decide +kernel
theorem dX12_readsItem_101 : decode cX12_readsItem 101 = .ok (.invokevirtual 255, 3) := by decide +kernel
theorem dX12_readsItem_104 : decode cX12_readsItem 104 = .ok (.ifCond .eq 32, 3) := by decide +kernel
theorem dX12_readsItem_107 : decode cX12_readsItem 107 = .ok (.aload_n 0, 1) := by decide +kernel
theorem dX12_readsItem_108 : decode cX12_readsItem 108 = .ok (.iconst 1, 1) := by decide +kernel
theorem dX12_readsItem_109 : decode cX12_readsItem 109 = .ok (.iconst 0, 1) := by decide +kernel
theorem dX12_readsItem_110 : decode cX12_readsItem 110 = .ok (.aload_n 0, 1) := by decide +kernel
theorem dX12_readsItem_111 : decode cX12_readsItem 111 = .ok (.invokevirtual 259, 3) := by decide +kernel
theorem dX12_readsItem_114 : decode cX12_readsItem 114 = .ok (.invokevirtual 255, 3) := by decide +kernel
theorem dX12_readsItem_117 : decode cX12_readsItem 117 = .ok (.ifCond .eq 19, 3) := by decide +kernel
theorem dX12_readsItem_120 : decode cX12_readsItem 120 = .ok (.aload_n 0, 1) := by decide +kernel
theorem dX12_readsItem_121 : decode cX12_readsItem 121 = .ok (.iconst 2, 1) := by decide +kernel
theorem dX12_readsItem_122 : decode cX12_readsItem 122 = .ok (.iconst 0, 1) := by decide +kernel
theorem dX12_readsItem_123 : decode cX12_readsItem 123 = .ok (.sipush 999, 3) := by decide +kernel
theorem dX12_readsItem_126 : decode cX12_readsItem 126 = .ok (.invokevirtual 255, 3) := by decide +kernel
theorem dX12_readsItem_129 : decode cX12_readsItem 129 = .ok (.ifCond .eq 7, 3) := by decide +kernel
theorem dX12_readsItem_132 : decode cX12_readsItem 132 = .ok (.iconst 1, 1) := by decide +kernel
theorem dX12_readsItem_133 : decode cX12_readsItem 133 = .ok (.goto 4, 3) := by decide +kernel
theorem dX12_readsItem_136 : decode cX12_readsItem 136 = .ok (.iconst 0, 1) := by decide +kernel
theorem dX12_readsItem_137 : decode cX12_readsItem 137 = .ok (.istore_n 1, 1) := by decide +kernel
theorem dX12_readsItem_138 : decode cX12_readsItem 138 = .ok (.iload_n 1, 1) := by decide +kernel
theorem dX12_readsItem_139 : decode cX12_readsItem 139 = .ok (.ifCond .eq 33, 3) := by decide +kernel
theorem dX12_readsItem_142 : decode cX12_readsItem 142 = .ok (.aload_n 0, 1) := by decide +kernel
theorem dX12_readsItem_143 : decode cX12_readsItem 143 = .ok (.getfield 48, 3) := by decide +kernel
theorem dX12_readsItem_146 : decode cX12_readsItem 146 = .ok (.bipush 6, 2) := by decide +kernel
theorem dX12_readsItem_148 : decode cX12_readsItem 148 = .ok (.bipush 24, 2) := by decide +kernel
theorem dX12_readsItem_150 : decode cX12_readsItem 150 = .ok (.aload_n 0, 1) := by decide +kernel
theorem dX12_readsItem_151 : decode cX12_readsItem 151 = .ok (.getfield 51, 3) := by decide +kernel
theorem dX12_readsItem_154 : decode cX12_readsItem 154 = .ok (.iconst 0, 1) := by decide +kernel
theorem dX12_readsItem_155 : decode cX12_readsItem 155 = .ok (.iaload, 1) := by decide +kernel
theorem dX12_readsItem_156 : decode cX12_readsItem 156 = .ok (.imul, 1) := by decide +kernel
theorem dX12_readsItem_157 : decode cX12_readsItem 157 = .ok (.iadd, 1) := by decide +kernel
theorem dX12_readsItem_158 : decode cX12_readsItem 158 = .ok (.aload_n 0, 1) := by decide +kernel
theorem dX12_readsItem_159 : decode cX12_readsItem 159 = .ok (.getfield 51, 3) := by decide +kernel
theorem dX12_readsItem_162 : decode cX12_readsItem 162 = .ok (.iconst 1, 1) := by decide +kernel
theorem dX12_readsItem_163 : decode cX12_readsItem 163 = .ok (.iaload, 1) := by decide +kernel
theorem dX12_readsItem_164 : decode cX12_readsItem 164 = .ok (.iadd, 1) := by decide +kernel
theorem dX12_readsItem_165 : decode cX12_readsItem 165 = .ok (.aload_n 0, 1) := by decide +kernel
theorem dX12_readsItem_166 : decode cX12_readsItem 166 = .ok (.getfield 51, 3) := by decide +kernel
theorem dX12_readsItem_169 : decode cX12_readsItem 169 = .ok (.iconst 2, 1) := by decide +kernel
theorem dX12_readsItem_170 : decode cX12_readsItem 170 = .ok (.iaload, 1) := by decide +kernel
theorem dX12_readsItem_171 : decode cX12_readsItem 171 = .ok (.iastore, 1) := by decide +kernel
theorem dX12_readsItem_172 : decode cX12_readsItem 172 = .ok (.iload_n 1, 1) := by decide +kernel
theorem dX12_readsItem_173 : decode cX12_readsItem 173 = .ok (.ireturn, 1) := by decide +kernel
theorem dX12_readsItem_174 : decode cX12_readsItem 174 = .ok (.aload_n 0, 1) := by decide +kernel
theorem dX12_readsItem_175 : decode cX12_readsItem 175 = .ok (.bipush 109, 2) := by decide +kernel
theorem dX12_readsItem_177 : decode cX12_readsItem 177 = .ok (.bipush 111, 2) := by decide +kernel
theorem dX12_readsItem_179 : decode cX12_readsItem 179 = .ok (.bipush 111, 2) := by decide +kernel
theorem dX12_readsItem_181 : decode cX12_readsItem 181 = .ok (.bipush 110, 2) := by decide +kernel
theorem dX12_readsItem_183 : decode cX12_readsItem 183 = .ok (.iconst 0, 1) := by decide +kernel
theorem dX12_readsItem_184 : decode cX12_readsItem 184 = .ok (.invokevirtual 251, 3) := by decide +kernel
theorem dX12_readsItem_187 : decode cX12_readsItem 187 = .ok (.ifCond .eq 14, 3) := by decide +kernel
theorem dX12_readsItem_190 : decode cX12_readsItem 190 = .ok (.aload_n 0, 1) := by decide +kernel
theorem dX12_readsItem_191 : decode cX12_readsItem 191 = .ok (.getfield 48, 3) := by decide +kernel
theorem dX12_readsItem_194 : decode cX12_readsItem 194 = .ok (.bipush 126, 2) := by decide +kernel
theorem dX12_readsItem_196 : decode cX12_readsItem 196 = .ok (.iaload, 1) := by decide +kernel
theorem dX12_readsItem_197 : decode cX12_readsItem 197 = .ok (.iconst 4, 1) := by decide +kernel
theorem dX12_readsItem_198 : decode cX12_readsItem 198 = .ok (.if_icmp .ne 5, 3) := by decide +kernel
theorem dX12_readsItem_201 : decode cX12_readsItem 201 = .ok (.iconst 0, 1) := by decide +kernel
theorem dX12_readsItem_202 : decode cX12_readsItem 202 = .ok (.ireturn, 1) := by decide +kernel
theorem dX12_readsItem_203 : decode cX12_readsItem 203 = .ok (.aload_n 0, 1) := by decide +kernel
theorem dX12_readsItem_204 : decode cX12_readsItem 204 = .ok (.invokevirtual 248, 3) := by decide +kernel
theorem dX12_readsItem_207 : decode cX12_readsItem 207 = .ok (.aload_n 0, 1) := by decide +kernel
theorem dX12_readsItem_208 : decode cX12_readsItem 208 = .ok (.iconst 0, 1) := by decide +kernel
theorem dX12_readsItem_209 : decode cX12_readsItem 209 = .ok (.iconst 0, 1) := by decide +kernel
theorem dX12_readsItem_210 : decode cX12_readsItem 210 = .ok (.iconst 4, 1) := by decide +kernel
theorem dX12_readsItem_211 : decode cX12_readsItem 211 = .ok (.invokevirtual 255, 3) := by decide +kernel
theorem dX12_readsItem_214 : decode cX12_readsItem 214 = .ok (.ifCond .eq 37, 3) := by decide +kernel
theorem dX12_readsItem_217 : decode cX12_readsItem 217 = .ok (.aload_n 0, 1) := by decide +kernel
theorem dX12_readsItem_218 : decode cX12_readsItem 218 = .ok (.iconst 1, 1) := by decide +kernel
theorem dX12_readsItem_219 : decode cX12_readsItem 219 = .ok (.iconst 0, 1) := by decide +kernel
theorem dX12_readsItem_220 : decode cX12_readsItem 220 = .ok (.iconst 5, 1) := by decide +kernel
theorem dX12_readsItem_221 : decode cX12_readsItem 221 = .ok (.invokevirtual 255, 3) := by decide +kernel
theorem dX12_readsItem_224 : decode cX12_readsItem 224 = .ok (.ifCond .eq 27, 3) := by decide +kernel
theorem dX12_readsItem_227 : decode cX12_readsItem 227 = .ok (.aload_n 0, 1) := by decide +kernel
theorem dX12_readsItem_228 : decode cX12_readsItem 228 = .ok (.iconst 2, 1) := by decide +kernel
theorem dX12_readsItem_229 : decode cX12_readsItem 229 = .ok (.iconst 0, 1) := by decide +kernel
theorem dX12_readsItem_230 : decode cX12_readsItem 230 = .ok (.aload_n 0, 1) := by decide +kernel
theorem dX12_readsItem_231 : decode cX12_readsItem 231 = .ok (.invokevirtual 259, 3) := by decide +kernel
theorem dX12_readsItem_234 : decode cX12_readsItem 234 = .ok (.invokevirtual 255, 3) := by decide +kernel
theorem dX12_readsItem_237 : decode cX12_readsItem 237 = .ok (.ifCond .eq 14, 3) := by decide +kernel
theorem dX12_readsItem_240 : decode cX12_readsItem 240 = .ok (.aload_n 0, 1) := by decide +kernel
theorem dX12_readsItem_241 : decode cX12_readsItem 241 = .ok (.iconst 3, 1) := by decide +kernel
theorem dX12_readsItem_242 : decode cX12_readsItem 242 = .ok (.iconst 0, 1) := by decide +kernel
theorem dX12_readsItem_243 : decode cX12_readsItem 243 = .ok (.bipush 9, 2) := by decide +kernel
theorem dX12_readsItem_245 : decode cX12_readsItem 245 = .ok (.invokevirtual 255, 3) := by decide +kernel
theorem dX12_readsItem_248 : decode cX12_readsItem 248 = .ok (.ifCond .ne 5, 3) := by decide +kernel
theorem dX12_readsItem_251 : decode cX12_readsItem 251 = .ok (.iconst 0, 1) := by decide +kernel
theorem dX12_readsItem_252 : decode cX12_readsItem 252 = .ok (.ireturn, 1) := by decide +kernel
theorem dX12_readsItem_253 : decode cX12_readsItem 253 = .ok (.aload_n 0, 1) := by decide +kernel
theorem dX12_readsItem_254 : decode cX12_readsItem 254 = .ok (.getfield 48, 3) := by decide +kernel
theorem dX12_readsItem_257 : decode cX12_readsItem 257 = .ok (.aload_n 0, 1) := by decide +kernel
theorem dX12_readsItem_258 : decode cX12_readsItem 258 = .ok (.getfield 51, 3) := by decide +kernel
theorem dX12_readsItem_261 : decode cX12_readsItem 261 = .ok (.iconst 0, 1) := by decide +kernel
theorem dX12_readsItem_262 : decode cX12_readsItem 262 = .ok (.iaload, 1) := by decide +kernel
theorem dX12_readsItem_263 : decode cX12_readsItem 263 = .ok (.aload_n 0, 1) := by decide +kernel
theorem dX12_readsItem_264 : decode cX12_readsItem 264 = .ok (.getfield 51, 3) := by decide +kernel
theorem dX12_readsItem_267 : decode cX12_readsItem 267 = .ok (.iconst 1, 1) := by decide +kernel
theorem dX12_readsItem_268 : decode cX12_readsItem 268 = .ok (.iaload, 1) := by decide +kernel
theorem dX12_readsItem_269 : decode cX12_readsItem 269 = .ok (.aload_n 0, 1) := by decide +kernel
theorem dX12_readsItem_270 : decode cX12_readsItem 270 = .ok (.getfield 51, 3) := by decide +kernel
theorem dX12_readsItem_273 : decode cX12_readsItem 273 = .ok (.iconst 2, 1) := by decide +kernel
theorem dX12_readsItem_274 : decode cX12_readsItem 274 = .ok (.iaload, 1) := by decide +kernel
theorem dX12_readsItem_275 : decode cX12_readsItem 275 = .ok (.aload_n 0, 1) := by decide +kernel
theorem dX12_readsItem_276 : decode cX12_readsItem 276 = .ok (.getfield 51, 3) := by decide +kernel
theorem dX12_readsItem_279 : decode cX12_readsItem 279 = .ok (.iconst 3, 1) := by decide +kernel
theorem dX12_readsItem_280 : decode cX12_readsItem 280 = .ok (.iaload, 1) := by decide +kernel
theorem dX12_readsItem_281 : decode cX12_readsItem 281 = .ok (.invokestatic 93, 3) := by decide +kernel
theorem dX12_readsItem_284 : decode cX12_readsItem 284 = .ok (.iconst 1, 1) := by decide +kernel
theorem dX12_readsItem_285 : decode cX12_readsItem 285 = .ok (.ireturn, 1) := by decide +kernel
theorem dX12_read_0 : decode cX12_read 0 = .ok (.aload_n 0, 1) := by decide +kernel
theorem dX12_read_1 : decode cX12_read 1 = .ok (.getfield 51, 3) := by decide +kernel
theorem dX12_read_4 : decode cX12_read 4 = .ok (.iconst 0, 1) := by decide +kernel
theorem dX12_read_5 : decode cX12_read 5 = .ok (.iconst 4, 1) := by decide +kernel
theorem dX12_read_6 : decode cX12_read 6 = .ok (.iastore, 1) := by decide +kernel
theorem dX12_read_7 : decode cX12_read 7 = .ok (.aload_n 0, 1) := by decide +kernel
theorem dX12_read_8 : decode cX12_read 8 = .ok (.iconst 0, 1) := by decide +kernel
theorem dX12_read_9 : decode cX12_read 9 = .ok (.invokevirtual 245, 3) := by decide +kernel
theorem dX12_read_12 : decode cX12_read 12 = .ok (.aload_n 0, 1) := by decide +kernel
theorem dX12_read_13 : decode cX12_read 13 = .ok (.invokevirtual 262, 3) := by decide +kernel
theorem dX12_read_16 : decode cX12_read 16 = .ok (.ifCond .ne 11, 3) := by decide +kernel
theorem dX12_read_19 : decode cX12_read 19 = .ok (.bipush (-10), 2) := by decide +kernel
theorem dX12_read_21 : decode cX12_read 21 = .ok (.aload_n 0, 1) := by decide +kernel
theorem dX12_read_22 : decode cX12_read 22 = .ok (.getfield 227, 3) := by decide +kernel
theorem dX12_read_25 : decode cX12_read 25 = .ok (.isub, 1) := by decide +kernel
theorem dX12_read_26 : decode cX12_read 26 = .ok (.ireturn, 1) := by decide +kernel
theorem dX12_read_27 : decode cX12_read 27 = .ok (.aload_n 0, 1) := by decide +kernel
theorem dX12_read_28 : decode cX12_read 28 = .ok (.invokevirtual 248, 3) := by decide +kernel
theorem dX12_read_31 : decode cX12_read 31 = .ok (.iconst 1, 1) := by decide +kernel
theorem dX12_read_32 : decode cX12_read 32 = .ok (.istore_n 1, 1) := by decide +kernel
theorem dX12_read_33 : decode cX12_read 33 = .ok (.aload_n 0, 1) := by decide +kernel
theorem dX12_read_34 : decode cX12_read 34 = .ok (.getfield 233, 3) := by decide +kernel
theorem dX12_read_37 : decode cX12_read 37 = .ok (.ifCond .eq 36, 3) := by decide +kernel
theorem dX12_read_40 : decode cX12_read 40 = .ok (.aload_n 0, 1) := by decide +kernel
theorem dX12_read_41 : decode cX12_read 41 = .ok (.invokevirtual 266, 3) := by decide +kernel
theorem dX12_read_44 : decode cX12_read 44 = .ok (.ifCond .eq 11, 3) := by decide +kernel
theorem dX12_read_47 : decode cX12_read 47 = .ok (.aload_n 0, 1) := by decide +kernel
theorem dX12_read_48 : decode cX12_read 48 = .ok (.getfield 233, 3) := by decide +kernel
theorem dX12_read_51 : decode cX12_read 51 = .ok (.iconst 3, 1) := by decide +kernel
theorem dX12_read_52 : decode cX12_read 52 = .ok (.if_icmp .eq 11, 3) := by decide +kernel
theorem dX12_read_55 : decode cX12_read 55 = .ok (.bipush (-10), 2) := by decide +kernel
theorem dX12_read_57 : decode cX12_read 57 = .ok (.aload_n 0, 1) := by decide +kernel
theorem dX12_read_58 : decode cX12_read 58 = .ok (.getfield 227, 3) := by decide +kernel
theorem dX12_read_61 : decode cX12_read 61 = .ok (.isub, 1) := by decide +kernel
theorem dX12_read_62 : decode cX12_read 62 = .ok (.ireturn, 1) := by decide +kernel
theorem dX12_read_63 : decode cX12_read 63 = .ok (.aload_n 0, 1) := by decide +kernel
theorem dX12_read_64 : decode cX12_read 64 = .ok (.invokevirtual 248, 3) := by decide +kernel
theorem dX12_read_67 : decode cX12_read 67 = .ok (.iinc 1 1, 3) := by decide +kernel
theorem dX12_read_70 : decode cX12_read 70 = .ok (.goto (-37), 3) := by decide +kernel
theorem dX12_read_73 : decode cX12_read 73 = .ok (.iconst 0, 1) := by decide +kernel
theorem dX12_read_74 : decode cX12_read 74 = .ok (.istore_n 2, 1) := by decide +kernel
theorem dX12_read_75 : decode cX12_read 75 = .ok (.iload_n 2, 1) := by decide +kernel
theorem dX12_read_76 : decode cX12_read 76 = .ok (.sipush 151, 3) := by decide +kernel
theorem dX12_read_79 : decode cX12_read 79 = .ok (.if_icmp .ge 21, 3) := by decide +kernel
theorem dX12_read_82 : decode cX12_read 82 = .ok (.aload_n 0, 1) := by decide +kernel
theorem dX12_read_83 : decode cX12_read 83 = .ok (.getfield 7, 3) := by decide +kernel
theorem dX12_read_86 : decode cX12_read 86 = .ok (.iload_n 2, 1) := by decide +kernel
theorem dX12_read_87 : decode cX12_read 87 = .ok (.aload_n 0, 1) := by decide +kernel
theorem dX12_read_88 : decode cX12_read 88 = .ok (.getfield 48, 3) := by decide +kernel
theorem dX12_read_91 : decode cX12_read 91 = .ok (.iload_n 2, 1) := by decide +kernel
theorem dX12_read_92 : decode cX12_read 92 = .ok (.iaload, 1) := by decide +kernel
theorem dX12_read_93 : decode cX12_read 93 = .ok (.iastore, 1) := by decide +kernel
theorem dX12_read_94 : decode cX12_read 94 = .ok (.iinc 2 1, 3) := by decide +kernel
theorem dX12_read_97 : decode cX12_read 97 = .ok (.goto (-22), 3) := by decide +kernel
theorem dX12_read_100 : decode cX12_read 100 = .ok (.iload_n 1, 1) := by decide +kernel
theorem dX12_read_101 : decode cX12_read 101 = .ok (.ireturn, 1) := by decide +kernel
theorem dX12_part_0 : decode cX12_part 0 = .ok (.iload_n 1, 1) := by decide +kernel
theorem dX12_part_1 : decode cX12_part 1 = .ok (.ifCond .ne 10, 3) := by decide +kernel
theorem dX12_part_4 : decode cX12_part 4 = .ok (.aload_n 0, 1) := by decide +kernel
theorem dX12_part_5 : decode cX12_part 5 = .ok (.getfield 209, 3) := by decide +kernel
theorem dX12_part_8 : decode cX12_part 8 = .ok (.goto 22, 3) := by decide +kernel
theorem dX12_part_11 : decode cX12_part 11 = .ok (.iload_n 1, 1) := by decide +kernel
theorem dX12_part_12 : decode cX12_part 12 = .ok (.iconst 1, 1) := by decide +kernel
theorem dX12_part_13 : decode cX12_part 13 = .ok (.if_icmp .ne 10, 3) := by decide +kernel
theorem dX12_part_16 : decode cX12_part 16 = .ok (.aload_n 0, 1) := by decide +kernel
theorem dX12_part_17 : decode cX12_part 17 = .ok (.getfield 23, 3) := by decide +kernel
theorem dX12_part_20 : decode cX12_part 20 = .ok (.goto 10, 3) := by decide +kernel
theorem dX12_part_23 : decode cX12_part 23 = .ok (.aload_n 0, 1) := by decide +kernel
theorem dX12_part_24 : decode cX12_part 24 = .ok (.ldc 198, 2) := by decide +kernel
theorem dX12_part_26 : decode cX12_part 26 = .ok (.invokevirtual 73, 3) := by decide +kernel
theorem dX12_part_29 : decode cX12_part 29 = .ok (.i2l, 1) := by decide +kernel
theorem dX12_part_30 : decode cX12_part 30 = .ok (.lreturn, 1) := by decide +kernel
theorem dX12_image_0 : decode cX12_image 0 = .ok (.iload_n 1, 1) := by decide +kernel
theorem dX12_image_1 : decode cX12_image 1 = .ok (.i2l, 1) := by decide +kernel
theorem dX12_image_2 : decode cX12_image 2 = .ok (.lconst 0, 1) := by decide +kernel
theorem dX12_image_3 : decode cX12_image 3 = .ok (.lconst 1, 1) := by decide +kernel
theorem dX12_image_4 : decode cX12_image 4 = .ok (.invokestatic 60, 3) := by decide +kernel
theorem dX12_image_7 : decode cX12_image 7 = .ok (.ifCond .ne 10, 3) := by decide +kernel
theorem dX12_image_10 : decode cX12_image 10 = .ok (.aload_n 0, 1) := by decide +kernel
theorem dX12_image_11 : decode cX12_image 11 = .ok (.bipush (-2), 2) := by decide +kernel
theorem dX12_image_13 : decode cX12_image 13 = .ok (.invokevirtual 73, 3) := by decide +kernel
theorem dX12_image_16 : decode cX12_image 16 = .ok (.ireturn, 1) := by decide +kernel
theorem dX12_image_17 : decode cX12_image 17 = .ok (.iconst 0, 1) := by decide +kernel
theorem dX12_image_18 : decode cX12_image 18 = .ok (.istore_n 2, 1) := by decide +kernel
theorem dX12_image_19 : decode cX12_image 19 = .ok (.iload_n 2, 1) := by decide +kernel
theorem dX12_image_20 : decode cX12_image 20 = .ok (.sipush 913, 3) := by decide +kernel
theorem dX12_image_23 : decode cX12_image 23 = .ok (.if_icmp .ge 27, 3) := by decide +kernel
theorem dX12_image_26 : decode cX12_image 26 = .ok (.aload_n 0, 1) := by decide +kernel
theorem dX12_image_27 : decode cX12_image 27 = .ok (.getfield 13, 3) := by decide +kernel
theorem dX12_image_30 : decode cX12_image 30 = .ok (.sipush 913, 3) := by decide +kernel
theorem dX12_image_33 : decode cX12_image 33 = .ok (.iload_n 1, 1) := by decide +kernel
theorem dX12_image_34 : decode cX12_image 34 = .ok (.imul, 1) := by decide +kernel
theorem dX12_image_35 : decode cX12_image 35 = .ok (.iload_n 2, 1) := by decide +kernel
theorem dX12_image_36 : decode cX12_image 36 = .ok (.iadd, 1) := by decide +kernel
theorem dX12_image_37 : decode cX12_image 37 = .ok (.aload_n 0, 1) := by decide +kernel
theorem dX12_image_38 : decode cX12_image 38 = .ok (.getfield 7, 3) := by decide +kernel
theorem dX12_image_41 : decode cX12_image 41 = .ok (.iload_n 2, 1) := by decide +kernel
theorem dX12_image_42 : decode cX12_image 42 = .ok (.iaload, 1) := by decide +kernel
theorem dX12_image_43 : decode cX12_image 43 = .ok (.iastore, 1) := by decide +kernel
theorem dX12_image_44 : decode cX12_image 44 = .ok (.iinc 2 1, 3) := by decide +kernel
theorem dX12_image_47 : decode cX12_image 47 = .ok (.goto (-28), 3) := by decide +kernel
theorem dX12_image_50 : decode cX12_image 50 = .ok (.aload_n 0, 1) := by decide +kernel
theorem dX12_image_51 : decode cX12_image 51 = .ok (.getfield 16, 3) := by decide +kernel
theorem dX12_image_54 : decode cX12_image 54 = .ok (.iload_n 1, 1) := by decide +kernel
theorem dX12_image_55 : decode cX12_image 55 = .ok (.iconst 1, 1) := by decide +kernel
theorem dX12_image_56 : decode cX12_image 56 = .ok (.bastore, 1) := by decide +kernel
theorem dX12_image_57 : decode cX12_image 57 = .ok (.iconst 1, 1) := by decide +kernel
theorem dX12_image_58 : decode cX12_image 58 = .ok (.ireturn, 1) := by decide +kernel
theorem dX12_from_0 : decode cX12_from 0 = .ok (.iload_n 1, 1) := by decide +kernel
theorem dX12_from_1 : decode cX12_from 1 = .ok (.i2l, 1) := by decide +kernel
theorem dX12_from_2 : decode cX12_from 2 = .ok (.lconst 0, 1) := by decide +kernel
theorem dX12_from_3 : decode cX12_from 3 = .ok (.lconst 1, 1) := by decide +kernel
theorem dX12_from_4 : decode cX12_from 4 = .ok (.invokestatic 60, 3) := by decide +kernel
theorem dX12_from_7 : decode cX12_from 7 = .ok (.ifCond .ne 10, 3) := by decide +kernel
theorem dX12_from_10 : decode cX12_from 10 = .ok (.aload_n 0, 1) := by decide +kernel
theorem dX12_from_11 : decode cX12_from 11 = .ok (.bipush (-2), 2) := by decide +kernel
theorem dX12_from_13 : decode cX12_from 13 = .ok (.invokevirtual 73, 3) := by decide +kernel
theorem dX12_from_16 : decode cX12_from 16 = .ok (.ireturn, 1) := by decide +kernel
theorem dX12_from_17 : decode cX12_from 17 = .ok (.aload_n 0, 1) := by decide +kernel
theorem dX12_from_18 : decode cX12_from 18 = .ok (.getfield 16, 3) := by decide +kernel
theorem dX12_from_21 : decode cX12_from 21 = .ok (.iload_n 1, 1) := by decide +kernel
theorem dX12_from_22 : decode cX12_from 22 = .ok (.baload, 1) := by decide +kernel
theorem dX12_from_23 : decode cX12_from 23 = .ok (.ifCond .ne 8, 3) := by decide +kernel
theorem dX12_from_26 : decode cX12_from 26 = .ok (.aload_n 0, 1) := by decide +kernel
theorem dX12_from_27 : decode cX12_from 27 = .ok (.invokevirtual 137, 3) := by decide +kernel
theorem dX12_from_30 : decode cX12_from 30 = .ok (.ireturn, 1) := by decide +kernel
theorem dX12_from_31 : decode cX12_from 31 = .ok (.iconst 0, 1) := by decide +kernel
theorem dX12_from_32 : decode cX12_from 32 = .ok (.istore_n 2, 1) := by decide +kernel
theorem dX12_from_33 : decode cX12_from 33 = .ok (.iload_n 2, 1) := by decide +kernel
theorem dX12_from_34 : decode cX12_from 34 = .ok (.sipush 913, 3) := by decide +kernel
theorem dX12_from_37 : decode cX12_from 37 = .ok (.if_icmp .ge 27, 3) := by decide +kernel
theorem dX12_from_40 : decode cX12_from 40 = .ok (.aload_n 0, 1) := by decide +kernel
theorem dX12_from_41 : decode cX12_from 41 = .ok (.getfield 7, 3) := by decide +kernel
theorem dX12_from_44 : decode cX12_from 44 = .ok (.iload_n 2, 1) := by decide +kernel
theorem dX12_from_45 : decode cX12_from 45 = .ok (.aload_n 0, 1) := by decide +kernel
theorem dX12_from_46 : decode cX12_from 46 = .ok (.getfield 13, 3) := by decide +kernel
theorem dX12_from_49 : decode cX12_from 49 = .ok (.sipush 913, 3) := by decide +kernel
theorem dX12_from_52 : decode cX12_from 52 = .ok (.iload_n 1, 1) := by decide +kernel
theorem dX12_from_53 : decode cX12_from 53 = .ok (.imul, 1) := by decide +kernel
theorem dX12_from_54 : decode cX12_from 54 = .ok (.iload_n 2, 1) := by decide +kernel
theorem dX12_from_55 : decode cX12_from 55 = .ok (.iadd, 1) := by decide +kernel
theorem dX12_from_56 : decode cX12_from 56 = .ok (.iaload, 1) := by decide +kernel
theorem dX12_from_57 : decode cX12_from 57 = .ok (.iastore, 1) := by decide +kernel
theorem dX12_from_58 : decode cX12_from 58 = .ok (.iinc 2 1, 3) := by decide +kernel
theorem dX12_from_61 : decode cX12_from 61 = .ok (.goto (-28), 3) := by decide +kernel
theorem dX12_from_64 : decode cX12_from 64 = .ok (.iconst 1, 1) := by decide +kernel
theorem dX12_from_65 : decode cX12_from 65 = .ok (.ireturn, 1) := by decide +kernel
theorem dX12_status_0 : decode cX12_status 0 = .ok (.iload_n 1, 1) := by decide +kernel
theorem dX12_status_1 : decode cX12_status 1 = .ok (.i2l, 1) := by decide +kernel
theorem dX12_status_2 : decode cX12_status 2 = .ok (.lconst 0, 1) := by decide +kernel
theorem dX12_status_3 : decode cX12_status 3 = .ok (.ldc2_w 166, 3) := by decide +kernel
theorem dX12_status_6 : decode cX12_status 6 = .ok (.invokestatic 60, 3) := by decide +kernel
theorem dX12_status_9 : decode cX12_status 9 = .ok (.ifCond .eq 12, 3) := by decide +kernel
theorem dX12_status_12 : decode cX12_status 12 = .ok (.aload_n 0, 1) := by decide +kernel
theorem dX12_status_13 : decode cX12_status 13 = .ok (.getfield 20, 3) := by decide +kernel
theorem dX12_status_16 : decode cX12_status 16 = .ok (.iload_n 1, 1) := by decide +kernel
theorem dX12_status_17 : decode cX12_status 17 = .ok (.iaload, 1) := by decide +kernel
theorem dX12_status_18 : decode cX12_status 18 = .ok (.goto 8, 3) := by decide +kernel
theorem dX12_status_21 : decode cX12_status 21 = .ok (.aload_n 0, 1) := by decide +kernel
theorem dX12_status_22 : decode cX12_status 22 = .ok (.iconst (-1), 1) := by decide +kernel
theorem dX12_status_23 : decode cX12_status 23 = .ok (.invokevirtual 73, 3) := by decide +kernel
theorem dX12_status_26 : decode cX12_status 26 = .ok (.ireturn, 1) := by decide +kernel
theorem dX12_counted_0 : decode cX12_counted 0 = .ok (.iload_n 1, 1) := by decide +kernel
theorem dX12_counted_1 : decode cX12_counted 1 = .ok (.tableswitch 88 0 5 #[39, 44, 56, 61, 70, 79], 39) := by decide +kernel
theorem dX12_counted_40 : decode cX12_counted 40 = .ok (.aload_n 0, 1) := by decide +kernel
theorem dX12_counted_41 : decode cX12_counted 41 = .ok (.invokevirtual 64, 3) := by decide +kernel
theorem dX12_counted_44 : decode cX12_counted 44 = .ok (.ireturn, 1) := by decide +kernel
theorem dX12_counted_45 : decode cX12_counted 45 = .ok (.aload_n 0, 1) := by decide +kernel
theorem dX12_counted_46 : decode cX12_counted 46 = .ok (.getfield 7, 3) := by decide +kernel
theorem dX12_counted_49 : decode cX12_counted 49 = .ok (.bipush 6, 2) := by decide +kernel
theorem dX12_counted_51 : decode cX12_counted 51 = .ok (.bipush 120, 2) := by decide +kernel
theorem dX12_counted_53 : decode cX12_counted 53 = .ok (.invokestatic 140, 3) := by decide +kernel
theorem dX12_counted_56 : decode cX12_counted 56 = .ok (.ireturn, 1) := by decide +kernel
theorem dX12_counted_57 : decode cX12_counted 57 = .ok (.aload_n 0, 1) := by decide +kernel
theorem dX12_counted_58 : decode cX12_counted 58 = .ok (.invokevirtual 68, 3) := by decide +kernel
theorem dX12_counted_61 : decode cX12_counted 61 = .ok (.ireturn, 1) := by decide +kernel
theorem dX12_counted_62 : decode cX12_counted 62 = .ok (.aload_n 0, 1) := by decide +kernel
theorem dX12_counted_63 : decode cX12_counted 63 = .ok (.getfield 7, 3) := by decide +kernel
theorem dX12_counted_66 : decode cX12_counted 66 = .ok (.sipush 148, 3) := by decide +kernel
theorem dX12_counted_69 : decode cX12_counted 69 = .ok (.iaload, 1) := by decide +kernel
theorem dX12_counted_70 : decode cX12_counted 70 = .ok (.ireturn, 1) := by decide +kernel
theorem dX12_counted_71 : decode cX12_counted 71 = .ok (.aload_n 0, 1) := by decide +kernel
theorem dX12_counted_72 : decode cX12_counted 72 = .ok (.getfield 7, 3) := by decide +kernel
theorem dX12_counted_75 : decode cX12_counted 75 = .ok (.sipush 149, 3) := by decide +kernel
theorem dX12_counted_78 : decode cX12_counted 78 = .ok (.iaload, 1) := by decide +kernel
theorem dX12_counted_79 : decode cX12_counted 79 = .ok (.ireturn, 1) := by decide +kernel
theorem dX12_counted_80 : decode cX12_counted 80 = .ok (.aload_n 0, 1) := by decide +kernel
theorem dX12_counted_81 : decode cX12_counted 81 = .ok (.getfield 7, 3) := by decide +kernel
theorem dX12_counted_84 : decode cX12_counted 84 = .ok (.sipush 150, 3) := by decide +kernel
theorem dX12_counted_87 : decode cX12_counted 87 = .ok (.iaload, 1) := by decide +kernel
theorem dX12_counted_88 : decode cX12_counted 88 = .ok (.ireturn, 1) := by decide +kernel
theorem dX12_counted_89 : decode cX12_counted 89 = .ok (.aload_n 0, 1) := by decide +kernel
theorem dX12_counted_90 : decode cX12_counted 90 = .ok (.getfield 214, 3) := by decide +kernel
theorem dX12_counted_93 : decode cX12_counted 93 = .ok (.ireturn, 1) := by decide +kernel
theorem dX12_count_0 : decode cX12_count 0 = .ok (.iload_n 1, 1) := by decide +kernel
theorem dX12_count_1 : decode cX12_count 1 = .ok (.i2l, 1) := by decide +kernel
theorem dX12_count_2 : decode cX12_count 2 = .ok (.lconst 0, 1) := by decide +kernel
theorem dX12_count_3 : decode cX12_count 3 = .ok (.ldc2_w 196, 3) := by decide +kernel
theorem dX12_count_6 : decode cX12_count 6 = .ok (.invokestatic 60, 3) := by decide +kernel
theorem dX12_count_9 : decode cX12_count 9 = .ok (.ifCond .eq 11, 3) := by decide +kernel
theorem dX12_count_12 : decode cX12_count 12 = .ok (.aload_n 0, 1) := by decide +kernel
theorem dX12_count_13 : decode cX12_count 13 = .ok (.iload_n 1, 1) := by decide +kernel
theorem dX12_count_14 : decode cX12_count 14 = .ok (.invokevirtual 269, 3) := by decide +kernel
theorem dX12_count_17 : decode cX12_count 17 = .ok (.goto 9, 3) := by decide +kernel
theorem dX12_count_20 : decode cX12_count 20 = .ok (.aload_n 0, 1) := by decide +kernel
theorem dX12_count_21 : decode cX12_count 21 = .ok (.bipush (-2), 2) := by decide +kernel
theorem dX12_count_23 : decode cX12_count 23 = .ok (.invokevirtual 73, 3) := by decide +kernel
theorem dX12_count_26 : decode cX12_count 26 = .ok (.ireturn, 1) := by decide +kernel
theorem dX12_sums_0 : decode cX12_sums 0 = .ok (.lload_n 1, 1) := by decide +kernel
theorem dX12_sums_1 : decode cX12_sums 1 = .ok (.lstore 5, 2) := by decide +kernel
theorem dX12_sums_3 : decode cX12_sums 3 = .ok (.iconst 0, 1) := by decide +kernel
theorem dX12_sums_4 : decode cX12_sums 4 = .ok (.istore 7, 2) := by decide +kernel
theorem dX12_sums_6 : decode cX12_sums 6 = .ok (.iload 7, 2) := by decide +kernel
theorem dX12_sums_8 : decode cX12_sums 8 = .ok (.iload 4, 2) := by decide +kernel
theorem dX12_sums_10 : decode cX12_sums 10 = .ok (.if_icmp .ge 28, 3) := by decide +kernel
theorem dX12_sums_13 : decode cX12_sums 13 = .ok (.ldc2_w 272, 3) := by decide +kernel
theorem dX12_sums_16 : decode cX12_sums 16 = .ok (.lload 5, 2) := by decide +kernel
theorem dX12_sums_18 : decode cX12_sums 18 = .ok (.lmul, 1) := by decide +kernel
theorem dX12_sums_19 : decode cX12_sums 19 = .ok (.aload_n 0, 1) := by decide +kernel
theorem dX12_sums_20 : decode cX12_sums 20 = .ok (.getfield 7, 3) := by decide +kernel
theorem dX12_sums_23 : decode cX12_sums 23 = .ok (.iload_n 3, 1) := by decide +kernel
theorem dX12_sums_24 : decode cX12_sums 24 = .ok (.iload 7, 2) := by decide +kernel
theorem dX12_sums_26 : decode cX12_sums 26 = .ok (.iadd, 1) := by decide +kernel
theorem dX12_sums_27 : decode cX12_sums 27 = .ok (.iaload, 1) := by decide +kernel
theorem dX12_sums_28 : decode cX12_sums 28 = .ok (.i2l, 1) := by decide +kernel
theorem dX12_sums_29 : decode cX12_sums 29 = .ok (.ladd, 1) := by decide +kernel
theorem dX12_sums_30 : decode cX12_sums 30 = .ok (.lstore 5, 2) := by decide +kernel
theorem dX12_sums_32 : decode cX12_sums 32 = .ok (.iinc 7 1, 3) := by decide +kernel
theorem dX12_sums_35 : decode cX12_sums 35 = .ok (.goto (-29), 3) := by decide +kernel
theorem dX12_sums_38 : decode cX12_sums 38 = .ok (.lload 5, 2) := by decide +kernel
theorem dX12_sums_40 : decode cX12_sums 40 = .ok (.lreturn, 1) := by decide +kernel
theorem dX12_digest_0 : decode cX12_digest 0 = .ok (.ldc2_w 274, 3) := by decide +kernel
theorem dX12_digest_3 : decode cX12_digest 3 = .ok (.lstore_n 1, 1) := by decide +kernel
theorem dX12_digest_4 : decode cX12_digest 4 = .ok (.iconst 0, 1) := by decide +kernel
theorem dX12_digest_5 : decode cX12_digest 5 = .ok (.istore_n 3, 1) := by decide +kernel
theorem dX12_digest_6 : decode cX12_digest 6 = .ok (.iload_n 3, 1) := by decide +kernel
theorem dX12_digest_7 : decode cX12_digest 7 = .ok (.bipush 7, 2) := by decide +kernel
theorem dX12_digest_9 : decode cX12_digest 9 = .ok (.if_icmp .ge 22, 3) := by decide +kernel
theorem dX12_digest_12 : decode cX12_digest 12 = .ok (.ldc2_w 272, 3) := by decide +kernel
theorem dX12_digest_15 : decode cX12_digest 15 = .ok (.lload_n 1, 1) := by decide +kernel
theorem dX12_digest_16 : decode cX12_digest 16 = .ok (.lmul, 1) := by decide +kernel
theorem dX12_digest_17 : decode cX12_digest 17 = .ok (.aload_n 0, 1) := by decide +kernel
theorem dX12_digest_18 : decode cX12_digest 18 = .ok (.iload_n 3, 1) := by decide +kernel
theorem dX12_digest_19 : decode cX12_digest 19 = .ok (.invokevirtual 269, 3) := by decide +kernel
theorem dX12_digest_22 : decode cX12_digest 22 = .ok (.i2l, 1) := by decide +kernel
theorem dX12_digest_23 : decode cX12_digest 23 = .ok (.ladd, 1) := by decide +kernel
theorem dX12_digest_24 : decode cX12_digest 24 = .ok (.lstore_n 1, 1) := by decide +kernel
theorem dX12_digest_25 : decode cX12_digest 25 = .ok (.iinc 3 1, 3) := by decide +kernel
theorem dX12_digest_28 : decode cX12_digest 28 = .ok (.goto (-22), 3) := by decide +kernel
theorem dX12_digest_31 : decode cX12_digest 31 = .ok (.iconst 0, 1) := by decide +kernel
theorem dX12_digest_32 : decode cX12_digest 32 = .ok (.istore_n 3, 1) := by decide +kernel
theorem dX12_digest_33 : decode cX12_digest 33 = .ok (.iload_n 3, 1) := by decide +kernel
theorem dX12_digest_34 : decode cX12_digest 34 = .ok (.iconst 5, 1) := by decide +kernel
theorem dX12_digest_35 : decode cX12_digest 35 = .ok (.if_icmp .ge 58, 3) := by decide +kernel
theorem dX12_digest_38 : decode cX12_digest 38 = .ok (.ldc2_w 272, 3) := by decide +kernel
theorem dX12_digest_41 : decode cX12_digest 41 = .ok (.ldc2_w 272, 3) := by decide +kernel
theorem dX12_digest_44 : decode cX12_digest 44 = .ok (.lload_n 1, 1) := by decide +kernel
theorem dX12_digest_45 : decode cX12_digest 45 = .ok (.lmul, 1) := by decide +kernel
theorem dX12_digest_46 : decode cX12_digest 46 = .ok (.aload_n 0, 1) := by decide +kernel
theorem dX12_digest_47 : decode cX12_digest 47 = .ok (.getfield 7, 3) := by decide +kernel
theorem dX12_digest_50 : decode cX12_digest 50 = .ok (.iconst 1, 1) := by decide +kernel
theorem dX12_digest_51 : decode cX12_digest 51 = .ok (.iload_n 3, 1) := by decide +kernel
theorem dX12_digest_52 : decode cX12_digest 52 = .ok (.iadd, 1) := by decide +kernel
theorem dX12_digest_53 : decode cX12_digest 53 = .ok (.iaload, 1) := by decide +kernel
theorem dX12_digest_54 : decode cX12_digest 54 = .ok (.i2l, 1) := by decide +kernel
theorem dX12_digest_55 : decode cX12_digest 55 = .ok (.ladd, 1) := by decide +kernel
theorem dX12_digest_56 : decode cX12_digest 56 = .ok (.lmul, 1) := by decide +kernel
theorem dX12_digest_57 : decode cX12_digest 57 = .ok (.aload_n 0, 1) := by decide +kernel
theorem dX12_digest_58 : decode cX12_digest 58 = .ok (.getfield 7, 3) := by decide +kernel
theorem dX12_digest_61 : decode cX12_digest 61 = .ok (.sipush 143, 3) := by decide +kernel
theorem dX12_digest_64 : decode cX12_digest 64 = .ok (.iload_n 3, 1) := by decide +kernel
theorem dX12_digest_65 : decode cX12_digest 65 = .ok (.iadd, 1) := by decide +kernel
theorem dX12_digest_66 : decode cX12_digest 66 = .ok (.iaload, 1) := by decide +kernel
theorem dX12_digest_67 : decode cX12_digest 67 = .ok (.i2l, 1) := by decide +kernel
theorem dX12_digest_68 : decode cX12_digest 68 = .ok (.ladd, 1) := by decide +kernel
theorem dX12_digest_69 : decode cX12_digest 69 = .ok (.lstore_n 1, 1) := by decide +kernel
theorem dX12_digest_70 : decode cX12_digest 70 = .ok (.aload_n 0, 1) := by decide +kernel
theorem dX12_digest_71 : decode cX12_digest 71 = .ok (.lload_n 1, 1) := by decide +kernel
theorem dX12_digest_72 : decode cX12_digest 72 = .ok (.bipush 6, 2) := by decide +kernel
theorem dX12_digest_74 : decode cX12_digest 74 = .ok (.bipush 24, 2) := by decide +kernel
theorem dX12_digest_76 : decode cX12_digest 76 = .ok (.iload_n 3, 1) := by decide +kernel
theorem dX12_digest_77 : decode cX12_digest 77 = .ok (.imul, 1) := by decide +kernel
theorem dX12_digest_78 : decode cX12_digest 78 = .ok (.iadd, 1) := by decide +kernel
theorem dX12_digest_79 : decode cX12_digest 79 = .ok (.aload_n 0, 1) := by decide +kernel
theorem dX12_digest_80 : decode cX12_digest 80 = .ok (.invokevirtual 64, 3) := by decide +kernel
theorem dX12_digest_83 : decode cX12_digest 83 = .ok (.invokevirtual 276, 3) := by decide +kernel
theorem dX12_digest_86 : decode cX12_digest 86 = .ok (.lstore_n 1, 1) := by decide +kernel
theorem dX12_digest_87 : decode cX12_digest 87 = .ok (.iinc 3 1, 3) := by decide +kernel
theorem dX12_digest_90 : decode cX12_digest 90 = .ok (.goto (-57), 3) := by decide +kernel
theorem dX12_digest_93 : decode cX12_digest 93 = .ok (.aload_n 0, 1) := by decide +kernel
theorem dX12_digest_94 : decode cX12_digest 94 = .ok (.lload_n 1, 1) := by decide +kernel
theorem dX12_digest_95 : decode cX12_digest 95 = .ok (.bipush 127, 2) := by decide +kernel
theorem dX12_digest_97 : decode cX12_digest 97 = .ok (.iconst 4, 1) := by decide +kernel
theorem dX12_digest_98 : decode cX12_digest 98 = .ok (.aload_n 0, 1) := by decide +kernel
theorem dX12_digest_99 : decode cX12_digest 99 = .ok (.invokevirtual 68, 3) := by decide +kernel
theorem dX12_digest_102 : decode cX12_digest 102 = .ok (.imul, 1) := by decide +kernel
theorem dX12_digest_103 : decode cX12_digest 103 = .ok (.invokevirtual 276, 3) := by decide +kernel
theorem dX12_digest_106 : decode cX12_digest 106 = .ok (.lstore_n 1, 1) := by decide +kernel
theorem dX12_digest_107 : decode cX12_digest 107 = .ok (.ldc2_w 272, 3) := by decide +kernel
theorem dX12_digest_110 : decode cX12_digest 110 = .ok (.ldc2_w 272, 3) := by decide +kernel
theorem dX12_digest_113 : decode cX12_digest 113 = .ok (.lload_n 1, 1) := by decide +kernel
theorem dX12_digest_114 : decode cX12_digest 114 = .ok (.lmul, 1) := by decide +kernel
theorem dX12_digest_115 : decode cX12_digest 115 = .ok (.aload_n 0, 1) := by decide +kernel
theorem dX12_digest_116 : decode cX12_digest 116 = .ok (.getfield 209, 3) := by decide +kernel
theorem dX12_digest_119 : decode cX12_digest 119 = .ok (.ladd, 1) := by decide +kernel
theorem dX12_digest_120 : decode cX12_digest 120 = .ok (.lmul, 1) := by decide +kernel
theorem dX12_digest_121 : decode cX12_digest 121 = .ok (.aload_n 0, 1) := by decide +kernel
theorem dX12_digest_122 : decode cX12_digest 122 = .ok (.getfield 23, 3) := by decide +kernel
theorem dX12_digest_125 : decode cX12_digest 125 = .ok (.ladd, 1) := by decide +kernel
theorem dX12_digest_126 : decode cX12_digest 126 = .ok (.lreturn, 1) := by decide +kernel
theorem dJ6_bitCount_0f7a4_0 : decode cJ6_bitCount_0f7a4 0 = .ok (.iload_n 0, 1) := by decide +kernel
theorem dJ6_bitCount_0f7a4_1 : decode cJ6_bitCount_0f7a4 1 = .ok (.iload_n 0, 1) := by decide +kernel
theorem dJ6_bitCount_0f7a4_2 : decode cJ6_bitCount_0f7a4 2 = .ok (.iconst 1, 1) := by decide +kernel
theorem dJ6_bitCount_0f7a4_3 : decode cJ6_bitCount_0f7a4 3 = .ok (.iushr, 1) := by decide +kernel
theorem dJ6_bitCount_0f7a4_4 : decode cJ6_bitCount_0f7a4 4 = .ok (.ldc_w 265, 3) := by decide +kernel
theorem dJ6_bitCount_0f7a4_7 : decode cJ6_bitCount_0f7a4 7 = .ok (.iand, 1) := by decide +kernel
theorem dJ6_bitCount_0f7a4_8 : decode cJ6_bitCount_0f7a4 8 = .ok (.isub, 1) := by decide +kernel
theorem dJ6_bitCount_0f7a4_9 : decode cJ6_bitCount_0f7a4 9 = .ok (.istore_n 0, 1) := by decide +kernel
theorem dJ6_bitCount_0f7a4_10 : decode cJ6_bitCount_0f7a4 10 = .ok (.iload_n 0, 1) := by decide +kernel
theorem dJ6_bitCount_0f7a4_11 : decode cJ6_bitCount_0f7a4 11 = .ok (.ldc_w 266, 3) := by decide +kernel
theorem dJ6_bitCount_0f7a4_14 : decode cJ6_bitCount_0f7a4 14 = .ok (.iand, 1) := by decide +kernel
theorem dJ6_bitCount_0f7a4_15 : decode cJ6_bitCount_0f7a4 15 = .ok (.iload_n 0, 1) := by decide +kernel
theorem dJ6_bitCount_0f7a4_16 : decode cJ6_bitCount_0f7a4 16 = .ok (.iconst 2, 1) := by decide +kernel
theorem dJ6_bitCount_0f7a4_17 : decode cJ6_bitCount_0f7a4 17 = .ok (.iushr, 1) := by decide +kernel
theorem dJ6_bitCount_0f7a4_18 : decode cJ6_bitCount_0f7a4 18 = .ok (.ldc_w 266, 3) := by decide +kernel
theorem dJ6_bitCount_0f7a4_21 : decode cJ6_bitCount_0f7a4 21 = .ok (.iand, 1) := by decide +kernel
theorem dJ6_bitCount_0f7a4_22 : decode cJ6_bitCount_0f7a4 22 = .ok (.iadd, 1) := by decide +kernel
theorem dJ6_bitCount_0f7a4_23 : decode cJ6_bitCount_0f7a4 23 = .ok (.istore_n 0, 1) := by decide +kernel
theorem dJ6_bitCount_0f7a4_24 : decode cJ6_bitCount_0f7a4 24 = .ok (.iload_n 0, 1) := by decide +kernel
theorem dJ6_bitCount_0f7a4_25 : decode cJ6_bitCount_0f7a4 25 = .ok (.iload_n 0, 1) := by decide +kernel
theorem dJ6_bitCount_0f7a4_26 : decode cJ6_bitCount_0f7a4 26 = .ok (.iconst 4, 1) := by decide +kernel
theorem dJ6_bitCount_0f7a4_27 : decode cJ6_bitCount_0f7a4 27 = .ok (.iushr, 1) := by decide +kernel
theorem dJ6_bitCount_0f7a4_28 : decode cJ6_bitCount_0f7a4 28 = .ok (.iadd, 1) := by decide +kernel
theorem dJ6_bitCount_0f7a4_29 : decode cJ6_bitCount_0f7a4 29 = .ok (.ldc_w 267, 3) := by decide +kernel
theorem dJ6_bitCount_0f7a4_32 : decode cJ6_bitCount_0f7a4 32 = .ok (.iand, 1) := by decide +kernel
theorem dJ6_bitCount_0f7a4_33 : decode cJ6_bitCount_0f7a4 33 = .ok (.istore_n 0, 1) := by decide +kernel
theorem dJ6_bitCount_0f7a4_34 : decode cJ6_bitCount_0f7a4 34 = .ok (.iload_n 0, 1) := by decide +kernel
theorem dJ6_bitCount_0f7a4_35 : decode cJ6_bitCount_0f7a4 35 = .ok (.iload_n 0, 1) := by decide +kernel
theorem dJ6_bitCount_0f7a4_36 : decode cJ6_bitCount_0f7a4 36 = .ok (.bipush 8, 2) := by decide +kernel
theorem dJ6_bitCount_0f7a4_38 : decode cJ6_bitCount_0f7a4 38 = .ok (.iushr, 1) := by decide +kernel
theorem dJ6_bitCount_0f7a4_39 : decode cJ6_bitCount_0f7a4 39 = .ok (.iadd, 1) := by decide +kernel
theorem dJ6_bitCount_0f7a4_40 : decode cJ6_bitCount_0f7a4 40 = .ok (.istore_n 0, 1) := by decide +kernel
theorem dJ6_bitCount_0f7a4_41 : decode cJ6_bitCount_0f7a4 41 = .ok (.iload_n 0, 1) := by decide +kernel
theorem dJ6_bitCount_0f7a4_42 : decode cJ6_bitCount_0f7a4 42 = .ok (.iload_n 0, 1) := by decide +kernel
theorem dJ6_bitCount_0f7a4_43 : decode cJ6_bitCount_0f7a4 43 = .ok (.bipush 16, 2) := by decide +kernel
theorem dJ6_bitCount_0f7a4_45 : decode cJ6_bitCount_0f7a4 45 = .ok (.iushr, 1) := by decide +kernel
theorem dJ6_bitCount_0f7a4_46 : decode cJ6_bitCount_0f7a4 46 = .ok (.iadd, 1) := by decide +kernel
theorem dJ6_bitCount_0f7a4_47 : decode cJ6_bitCount_0f7a4 47 = .ok (.istore_n 0, 1) := by decide +kernel
theorem dJ6_bitCount_0f7a4_48 : decode cJ6_bitCount_0f7a4 48 = .ok (.iload_n 0, 1) := by decide +kernel
theorem dJ6_bitCount_0f7a4_49 : decode cJ6_bitCount_0f7a4 49 = .ok (.bipush 63, 2) := by decide +kernel
theorem dJ6_bitCount_0f7a4_51 : decode cJ6_bitCount_0f7a4 51 = .ok (.iand, 1) := by decide +kernel
theorem dJ6_bitCount_0f7a4_52 : decode cJ6_bitCount_0f7a4 52 = .ok (.ireturn, 1) := by decide +kernel
theorem dJ9_abs_067f4_0 : decode cJ9_abs_067f4 0 = .ok (.lload_n 0, 1) := by decide +kernel
theorem dJ9_abs_067f4_1 : decode cJ9_abs_067f4 1 = .ok (.lconst 0, 1) := by decide +kernel
theorem dJ9_abs_067f4_2 : decode cJ9_abs_067f4 2 = .ok (.lcmp, 1) := by decide +kernel
theorem dJ9_abs_067f4_3 : decode cJ9_abs_067f4 3 = .ok (.ifCond .ge 8, 3) := by decide +kernel
theorem dJ9_abs_067f4_6 : decode cJ9_abs_067f4 6 = .ok (.lload_n 0, 1) := by decide +kernel
theorem dJ9_abs_067f4_7 : decode cJ9_abs_067f4 7 = .ok (.lneg, 1) := by decide +kernel
theorem dJ9_abs_067f4_8 : decode cJ9_abs_067f4 8 = .ok (.goto 4, 3) := by decide +kernel
theorem dJ9_abs_067f4_11 : decode cJ9_abs_067f4 11 = .ok (.lload_n 0, 1) := by decide +kernel
theorem dJ9_abs_067f4_12 : decode cJ9_abs_067f4 12 = .ok (.lreturn, 1) := by decide +kernel
theorem dJ9_min_7cf53_0 : decode cJ9_min_7cf53 0 = .ok (.iload_n 0, 1) := by decide +kernel
theorem dJ9_min_7cf53_1 : decode cJ9_min_7cf53 1 = .ok (.iload_n 1, 1) := by decide +kernel
theorem dJ9_min_7cf53_2 : decode cJ9_min_7cf53 2 = .ok (.if_icmp .gt 7, 3) := by decide +kernel
theorem dJ9_min_7cf53_5 : decode cJ9_min_7cf53 5 = .ok (.iload_n 0, 1) := by decide +kernel
theorem dJ9_min_7cf53_6 : decode cJ9_min_7cf53 6 = .ok (.goto 4, 3) := by decide +kernel
theorem dJ9_min_7cf53_9 : decode cJ9_min_7cf53 9 = .ok (.iload_n 1, 1) := by decide +kernel
theorem dJ9_min_7cf53_10 : decode cJ9_min_7cf53 10 = .ok (.ireturn, 1) := by decide +kernel
theorem dJ0_length_8abf5_0 : decode cJ0_length_8abf5 0 = .ok (.aload_n 0, 1) := by decide +kernel
theorem dJ0_length_8abf5_1 : decode cJ0_length_8abf5 1 = .ok (.getfield 9, 3) := by decide +kernel
theorem dJ0_length_8abf5_4 : decode cJ0_length_8abf5 4 = .ok (.arraylength, 1) := by decide +kernel
theorem dJ0_length_8abf5_5 : decode cJ0_length_8abf5 5 = .ok (.aload_n 0, 1) := by decide +kernel
theorem dJ0_length_8abf5_6 : decode cJ0_length_8abf5 6 = .ok (.invokevirtual 335, 3) := by decide +kernel
theorem dJ0_length_8abf5_9 : decode cJ0_length_8abf5 9 = .ok (.ishr, 1) := by decide +kernel
theorem dJ0_length_8abf5_10 : decode cJ0_length_8abf5 10 = .ok (.ireturn, 1) := by decide +kernel
theorem dJ0_charAt_5068e_0 : decode cJ0_charAt_5068e 0 = .ok (.aload_n 0, 1) := by decide +kernel
theorem dJ0_charAt_5068e_1 : decode cJ0_charAt_5068e 1 = .ok (.invokevirtual 492, 3) := by decide +kernel
theorem dJ0_charAt_5068e_4 : decode cJ0_charAt_5068e 4 = .ok (.ifCond .eq 12, 3) := by decide +kernel
theorem dJ0_charAt_5068e_7 : decode cJ0_charAt_5068e 7 = .ok (.aload_n 0, 1) := by decide +kernel
theorem dJ0_charAt_5068e_8 : decode cJ0_charAt_5068e 8 = .ok (.getfield 9, 3) := by decide +kernel
theorem dJ0_charAt_5068e_11 : decode cJ0_charAt_5068e 11 = .ok (.iload_n 1, 1) := by decide +kernel
theorem dJ0_charAt_5068e_12 : decode cJ0_charAt_5068e 12 = .ok (.invokestatic 495, 3) := by decide +kernel
theorem dJ0_charAt_5068e_15 : decode cJ0_charAt_5068e 15 = .ok (.ireturn, 1) := by decide +kernel
theorem dJ0_charAt_5068e_16 : decode cJ0_charAt_5068e 16 = .ok (.aload_n 0, 1) := by decide +kernel
theorem dJ0_charAt_5068e_17 : decode cJ0_charAt_5068e 17 = .ok (.getfield 9, 3) := by decide +kernel
theorem dJ0_charAt_5068e_20 : decode cJ0_charAt_5068e 20 = .ok (.iload_n 1, 1) := by decide +kernel
theorem dJ0_charAt_5068e_21 : decode cJ0_charAt_5068e 21 = .ok (.invokestatic 498, 3) := by decide +kernel
theorem dJ0_charAt_5068e_24 : decode cJ0_charAt_5068e 24 = .ok (.ireturn, 1) := by decide +kernel
theorem dJ0_coder_7d493_0 : decode cJ0_coder_7d493 0 = .ok (.getstatic 38, 3) := by decide +kernel
theorem dJ0_coder_7d493_3 : decode cJ0_coder_7d493 3 = .ok (.ifCond .eq 10, 3) := by decide +kernel
theorem dJ0_coder_7d493_6 : decode cJ0_coder_7d493 6 = .ok (.aload_n 0, 1) := by decide +kernel
theorem dJ0_coder_7d493_7 : decode cJ0_coder_7d493 7 = .ok (.getfield 15, 3) := by decide +kernel
theorem dJ0_coder_7d493_10 : decode cJ0_coder_7d493 10 = .ok (.goto 4, 3) := by decide +kernel
theorem dJ0_coder_7d493_13 : decode cJ0_coder_7d493 13 = .ok (.iconst 1, 1) := by decide +kernel
theorem dJ0_coder_7d493_14 : decode cJ0_coder_7d493 14 = .ok (.ireturn, 1) := by decide +kernel
theorem dJ0_isLatin1_aae02_0 : decode cJ0_isLatin1_aae02 0 = .ok (.getstatic 38, 3) := by decide +kernel
theorem dJ0_isLatin1_aae02_3 : decode cJ0_isLatin1_aae02 3 = .ok (.ifCond .eq 14, 3) := by decide +kernel
theorem dJ0_isLatin1_aae02_6 : decode cJ0_isLatin1_aae02 6 = .ok (.aload_n 0, 1) := by decide +kernel
theorem dJ0_isLatin1_aae02_7 : decode cJ0_isLatin1_aae02 7 = .ok (.getfield 15, 3) := by decide +kernel
theorem dJ0_isLatin1_aae02_10 : decode cJ0_isLatin1_aae02 10 = .ok (.ifCond .ne 7, 3) := by decide +kernel
theorem dJ0_isLatin1_aae02_13 : decode cJ0_isLatin1_aae02 13 = .ok (.iconst 1, 1) := by decide +kernel
theorem dJ0_isLatin1_aae02_14 : decode cJ0_isLatin1_aae02 14 = .ok (.goto 4, 3) := by decide +kernel
theorem dJ0_isLatin1_aae02_17 : decode cJ0_isLatin1_aae02 17 = .ok (.iconst 0, 1) := by decide +kernel
theorem dJ0_isLatin1_aae02_18 : decode cJ0_isLatin1_aae02 18 = .ok (.ireturn, 1) := by decide +kernel
theorem dJ0_checkIndex_df160_0 : decode cJ0_checkIndex_df160 0 = .ok (.iload_n 0, 1) := by decide +kernel
theorem dJ0_checkIndex_df160_1 : decode cJ0_checkIndex_df160 1 = .ok (.iload_n 1, 1) := by decide +kernel
theorem dJ0_checkIndex_df160_2 : decode cJ0_checkIndex_df160 2 = .ok (.getstatic 1053, 3) := by decide +kernel
theorem dJ0_checkIndex_df160_5 : decode cJ0_checkIndex_df160 5 = .ok (.invokestatic 1059, 3) := by decide +kernel
theorem dJ0_checkIndex_df160_8 : decode cJ0_checkIndex_df160 8 = .ok (.pop, 1) := by decide +kernel
theorem dJ0_checkIndex_df160_9 : decode cJ0_checkIndex_df160 9 = .ok (.return_, 1) := by decide +kernel
theorem dJ1_charAt_3b067_0 : decode cJ1_charAt_3b067 0 = .ok (.iload_n 1, 1) := by decide +kernel
theorem dJ1_charAt_3b067_1 : decode cJ1_charAt_3b067 1 = .ok (.aload_n 0, 1) := by decide +kernel
theorem dJ1_charAt_3b067_2 : decode cJ1_charAt_3b067 2 = .ok (.arraylength, 1) := by decide +kernel
theorem dJ1_charAt_3b067_3 : decode cJ1_charAt_3b067 3 = .ok (.invokestatic 9, 3) := by decide +kernel
theorem dJ1_charAt_3b067_6 : decode cJ1_charAt_3b067 6 = .ok (.aload_n 0, 1) := by decide +kernel
theorem dJ1_charAt_3b067_7 : decode cJ1_charAt_3b067 7 = .ok (.iload_n 1, 1) := by decide +kernel
theorem dJ1_charAt_3b067_8 : decode cJ1_charAt_3b067 8 = .ok (.baload, 1) := by decide +kernel
theorem dJ1_charAt_3b067_9 : decode cJ1_charAt_3b067 9 = .ok (.sipush 255, 3) := by decide +kernel
theorem dJ1_charAt_3b067_12 : decode cJ1_charAt_3b067 12 = .ok (.iand, 1) := by decide +kernel
theorem dJ1_charAt_3b067_13 : decode cJ1_charAt_3b067 13 = .ok (.i2c, 1) := by decide +kernel
theorem dJ1_charAt_3b067_14 : decode cJ1_charAt_3b067 14 = .ok (.ireturn, 1) := by decide +kernel
theorem dJ2_getChar_3b067_0 : decode cJ2_getChar_3b067 0 = .ok (.getstatic 44, 3) := by decide +kernel
theorem dJ2_getChar_3b067_3 : decode cJ2_getChar_3b067 3 = .ok (.ifCond .ne 25, 3) := by decide +kernel
theorem dJ2_getChar_3b067_6 : decode cJ2_getChar_3b067 6 = .ok (.iload_n 1, 1) := by decide +kernel
theorem dJ2_getChar_3b067_7 : decode cJ2_getChar_3b067 7 = .ok (.ifCond .lt 11, 3) := by decide +kernel
theorem dJ2_getChar_3b067_10 : decode cJ2_getChar_3b067 10 = .ok (.iload_n 1, 1) := by decide +kernel
theorem dJ2_getChar_3b067_11 : decode cJ2_getChar_3b067 11 = .ok (.aload_n 0, 1) := by decide +kernel
theorem dJ2_getChar_3b067_12 : decode cJ2_getChar_3b067 12 = .ok (.invokestatic 48, 3) := by decide +kernel
theorem dJ2_getChar_3b067_15 : decode cJ2_getChar_3b067 15 = .ok (.if_icmp .lt 13, 3) := by decide +kernel
theorem dJ2_getChar_3b067_18 : decode cJ2_getChar_3b067 18 = .ok (.new 52, 3) := by decide +kernel
theorem dJ2_getChar_3b067_21 : decode cJ2_getChar_3b067 21 = .ok (.dup, 1) := by decide +kernel
theorem dJ2_getChar_3b067_22 : decode cJ2_getChar_3b067 22 = .ok (.ldc 54, 2) := by decide +kernel
theorem dJ2_getChar_3b067_24 : decode cJ2_getChar_3b067 24 = .ok (.invokespecial 56, 3) := by decide +kernel
theorem dJ2_getChar_3b067_27 : decode cJ2_getChar_3b067 27 = .ok (.athrow, 1) := by decide +kernel
theorem dJ2_getChar_3b067_28 : decode cJ2_getChar_3b067 28 = .ok (.iload_n 1, 1) := by decide +kernel
theorem dJ2_getChar_3b067_29 : decode cJ2_getChar_3b067 29 = .ok (.iconst 1, 1) := by decide +kernel
theorem dJ2_getChar_3b067_30 : decode cJ2_getChar_3b067 30 = .ok (.ishl, 1) := by decide +kernel
theorem dJ2_getChar_3b067_31 : decode cJ2_getChar_3b067 31 = .ok (.istore_n 1, 1) := by decide +kernel
theorem dJ2_getChar_3b067_32 : decode cJ2_getChar_3b067 32 = .ok (.aload_n 0, 1) := by decide +kernel
theorem dJ2_getChar_3b067_33 : decode cJ2_getChar_3b067 33 = .ok (.iload_n 1, 1) := by decide +kernel
theorem dJ2_getChar_3b067_34 : decode cJ2_getChar_3b067 34 = .ok (.iinc 1 1, 3) := by decide +kernel
theorem dJ2_getChar_3b067_37 : decode cJ2_getChar_3b067 37 = .ok (.baload, 1) := by decide +kernel
theorem dJ2_getChar_3b067_38 : decode cJ2_getChar_3b067 38 = .ok (.sipush 255, 3) := by decide +kernel
theorem dJ2_getChar_3b067_41 : decode cJ2_getChar_3b067 41 = .ok (.iand, 1) := by decide +kernel
theorem dJ2_getChar_3b067_42 : decode cJ2_getChar_3b067 42 = .ok (.getstatic 59, 3) := by decide +kernel
theorem dJ2_getChar_3b067_45 : decode cJ2_getChar_3b067 45 = .ok (.ishl, 1) := by decide +kernel
theorem dJ2_getChar_3b067_46 : decode cJ2_getChar_3b067 46 = .ok (.aload_n 0, 1) := by decide +kernel
theorem dJ2_getChar_3b067_47 : decode cJ2_getChar_3b067 47 = .ok (.iload_n 1, 1) := by decide +kernel
theorem dJ2_getChar_3b067_48 : decode cJ2_getChar_3b067 48 = .ok (.baload, 1) := by decide +kernel
theorem dJ2_getChar_3b067_49 : decode cJ2_getChar_3b067 49 = .ok (.sipush 255, 3) := by decide +kernel
theorem dJ2_getChar_3b067_52 : decode cJ2_getChar_3b067 52 = .ok (.iand, 1) := by decide +kernel
theorem dJ2_getChar_3b067_53 : decode cJ2_getChar_3b067 53 = .ok (.getstatic 63, 3) := by decide +kernel
theorem dJ2_getChar_3b067_56 : decode cJ2_getChar_3b067 56 = .ok (.ishl, 1) := by decide +kernel
theorem dJ2_getChar_3b067_57 : decode cJ2_getChar_3b067 57 = .ok (.ior, 1) := by decide +kernel
theorem dJ2_getChar_3b067_58 : decode cJ2_getChar_3b067 58 = .ok (.i2c, 1) := by decide +kernel
theorem dJ2_getChar_3b067_59 : decode cJ2_getChar_3b067 59 = .ok (.ireturn, 1) := by decide +kernel
theorem dJ2_length_9d52b_0 : decode cJ2_length_9d52b 0 = .ok (.aload_n 0, 1) := by decide +kernel
theorem dJ2_length_9d52b_1 : decode cJ2_length_9d52b 1 = .ok (.arraylength, 1) := by decide +kernel
theorem dJ2_length_9d52b_2 : decode cJ2_length_9d52b 2 = .ok (.iconst 1, 1) := by decide +kernel
theorem dJ2_length_9d52b_3 : decode cJ2_length_9d52b 3 = .ok (.ishr, 1) := by decide +kernel
theorem dJ2_length_9d52b_4 : decode cJ2_length_9d52b 4 = .ok (.ireturn, 1) := by decide +kernel
theorem dJ2_charAt_3b067_0 : decode cJ2_charAt_3b067 0 = .ok (.iload_n 1, 1) := by decide +kernel
theorem dJ2_charAt_3b067_1 : decode cJ2_charAt_3b067 1 = .ok (.aload_n 0, 1) := by decide +kernel
theorem dJ2_charAt_3b067_2 : decode cJ2_charAt_3b067 2 = .ok (.invokestatic 67, 3) := by decide +kernel
theorem dJ2_charAt_3b067_5 : decode cJ2_charAt_3b067 5 = .ok (.aload_n 0, 1) := by decide +kernel
theorem dJ2_charAt_3b067_6 : decode cJ2_charAt_3b067 6 = .ok (.iload_n 1, 1) := by decide +kernel
theorem dJ2_charAt_3b067_7 : decode cJ2_charAt_3b067 7 = .ok (.invokestatic 71, 3) := by decide +kernel
theorem dJ2_charAt_3b067_10 : decode cJ2_charAt_3b067 10 = .ok (.ireturn, 1) := by decide +kernel
theorem dJ2_checkIndex_2214a_0 : decode cJ2_checkIndex_2214a 0 = .ok (.iload_n 0, 1) := by decide +kernel
theorem dJ2_checkIndex_2214a_1 : decode cJ2_checkIndex_2214a 1 = .ok (.aload_n 1, 1) := by decide +kernel
theorem dJ2_checkIndex_2214a_2 : decode cJ2_checkIndex_2214a 2 = .ok (.invokestatic 48, 3) := by decide +kernel
theorem dJ2_checkIndex_2214a_5 : decode cJ2_checkIndex_2214a 5 = .ok (.invokestatic 414, 3) := by decide +kernel
theorem dJ2_checkIndex_2214a_8 : decode cJ2_checkIndex_2214a 8 = .ok (.return_, 1) := by decide +kernel
theorem dJ7_fill_53178_0 : decode cJ7_fill_53178 0 = .ok (.iconst 0, 1) := by decide +kernel
theorem dJ7_fill_53178_1 : decode cJ7_fill_53178 1 = .ok (.istore_n 2, 1) := by decide +kernel
theorem dJ7_fill_53178_2 : decode cJ7_fill_53178 2 = .ok (.aload_n 0, 1) := by decide +kernel
theorem dJ7_fill_53178_3 : decode cJ7_fill_53178 3 = .ok (.arraylength, 1) := by decide +kernel
theorem dJ7_fill_53178_4 : decode cJ7_fill_53178 4 = .ok (.istore_n 3, 1) := by decide +kernel
theorem dJ7_fill_53178_5 : decode cJ7_fill_53178 5 = .ok (.iload_n 2, 1) := by decide +kernel
theorem dJ7_fill_53178_6 : decode cJ7_fill_53178 6 = .ok (.iload_n 3, 1) := by decide +kernel
theorem dJ7_fill_53178_7 : decode cJ7_fill_53178 7 = .ok (.if_icmp .ge 13, 3) := by decide +kernel
theorem dJ7_fill_53178_10 : decode cJ7_fill_53178 10 = .ok (.aload_n 0, 1) := by decide +kernel
theorem dJ7_fill_53178_11 : decode cJ7_fill_53178 11 = .ok (.iload_n 2, 1) := by decide +kernel
theorem dJ7_fill_53178_12 : decode cJ7_fill_53178 12 = .ok (.iload_n 1, 1) := by decide +kernel
theorem dJ7_fill_53178_13 : decode cJ7_fill_53178 13 = .ok (.iastore, 1) := by decide +kernel
theorem dJ7_fill_53178_14 : decode cJ7_fill_53178 14 = .ok (.iinc 2 1, 3) := by decide +kernel
theorem dJ7_fill_53178_17 : decode cJ7_fill_53178 17 = .ok (.goto (-12), 3) := by decide +kernel
theorem dJ7_fill_53178_20 : decode cJ7_fill_53178 20 = .ok (.return_, 1) := by decide +kernel
theorem dJ3_checkIndex_8e157_0 : decode cJ3_checkIndex_8e157 0 = .ok (.iload_n 0, 1) := by decide +kernel
theorem dJ3_checkIndex_8e157_1 : decode cJ3_checkIndex_8e157 1 = .ok (.ifCond .lt 8, 3) := by decide +kernel
theorem dJ3_checkIndex_8e157_4 : decode cJ3_checkIndex_8e157 4 = .ok (.iload_n 0, 1) := by decide +kernel
theorem dJ3_checkIndex_8e157_5 : decode cJ3_checkIndex_8e157 5 = .ok (.iload_n 1, 1) := by decide +kernel
theorem dJ3_checkIndex_8e157_6 : decode cJ3_checkIndex_8e157 6 = .ok (.if_icmp .lt 10, 3) := by decide +kernel
theorem dJ3_checkIndex_8e157_9 : decode cJ3_checkIndex_8e157 9 = .ok (.aload_n 2, 1) := by decide +kernel
theorem dJ3_checkIndex_8e157_10 : decode cJ3_checkIndex_8e157 10 = .ok (.iload_n 0, 1) := by decide +kernel
theorem dJ3_checkIndex_8e157_11 : decode cJ3_checkIndex_8e157 11 = .ok (.iload_n 1, 1) := by decide +kernel
theorem dJ3_checkIndex_8e157_12 : decode cJ3_checkIndex_8e157 12 = .ok (.invokestatic 95, 3) := by decide +kernel
theorem dJ3_checkIndex_8e157_15 : decode cJ3_checkIndex_8e157 15 = .ok (.athrow, 1) := by decide +kernel
theorem dJ3_checkIndex_8e157_16 : decode cJ3_checkIndex_8e157 16 = .ok (.iload_n 0, 1) := by decide +kernel
theorem dJ3_checkIndex_8e157_17 : decode cJ3_checkIndex_8e157 17 = .ok (.ireturn, 1) := by decide +kernel
theorem dL_law_0 : decode cL_law 0 = .ok (.new 7, 3) := by decide +kernel
theorem dL_law_3 : decode cL_law 3 = .ok (.dup, 1) := by decide +kernel
theorem dL_law_4 : decode cL_law 4 = .ok (.invokespecial 9, 3) := by decide +kernel
theorem dL_law_7 : decode cL_law 7 = .ok (.astore_n 1, 1) := by decide +kernel
theorem dL_law_8 : decode cL_law 8 = .ok (.new 10, 3) := by decide +kernel
theorem dL_law_11 : decode cL_law 11 = .ok (.dup, 1) := by decide +kernel
theorem dL_law_12 : decode cL_law 12 = .ok (.invokespecial 12, 3) := by decide +kernel
theorem dL_law_15 : decode cL_law 15 = .ok (.astore_n 2, 1) := by decide +kernel
theorem dL_law_16 : decode cL_law 16 = .ok (.iconst 0, 1) := by decide +kernel
theorem dL_law_17 : decode cL_law 17 = .ok (.istore_n 3, 1) := by decide +kernel
theorem dL_law_18 : decode cL_law 18 = .ok (.iload_n 3, 1) := by decide +kernel
theorem dL_law_19 : decode cL_law 19 = .ok (.aload_n 0, 1) := by decide +kernel
theorem dL_law_20 : decode cL_law 20 = .ok (.arraylength, 1) := by decide +kernel
theorem dL_law_21 : decode cL_law 21 = .ok (.iconst 5, 1) := by decide +kernel
theorem dL_law_22 : decode cL_law 22 = .ok (.isub, 1) := by decide +kernel
theorem dL_law_23 : decode cL_law 23 = .ok (.if_icmp .gt 922, 3) := by decide +kernel
theorem dL_law_26 : decode cL_law 26 = .ok (.aload_n 0, 1) := by decide +kernel
theorem dL_law_27 : decode cL_law 27 = .ok (.iload_n 3, 1) := by decide +kernel
theorem dL_law_28 : decode cL_law 28 = .ok (.iaload, 1) := by decide +kernel
theorem dL_law_29 : decode cL_law 29 = .ok (.bipush 31, 2) := by decide +kernel
theorem dL_law_31 : decode cL_law 31 = .ok (.iand, 1) := by decide +kernel
theorem dL_law_32 : decode cL_law 32 = .ok (.tableswitch 907 0 26 #[124, 147, 180, 223, 276, 339, 352, 365, 378, 391, 424, 457, 510, 533, 556, 589, 632, 645, 678, 711, 744, 777, 801, 824, 847, 870, 893], 124) := by decide +kernel
theorem dL_law_156 : decode cL_law 156 = .ok (.aload_n 1, 1) := by decide +kernel
theorem dL_law_157 : decode cL_law 157 = .ok (.aload_n 0, 1) := by decide +kernel
theorem dL_law_158 : decode cL_law 158 = .ok (.iload_n 3, 1) := by decide +kernel
theorem dL_law_159 : decode cL_law 159 = .ok (.iconst 1, 1) := by decide +kernel
theorem dL_law_160 : decode cL_law 160 = .ok (.iadd, 1) := by decide +kernel
theorem dL_law_161 : decode cL_law 161 = .ok (.iaload, 1) := by decide +kernel
theorem dL_law_162 : decode cL_law 162 = .ok (.invokevirtual 13, 3) := by decide +kernel
theorem dL_law_165 : decode cL_law 165 = .ok (.aload_n 2, 1) := by decide +kernel
theorem dL_law_166 : decode cL_law 166 = .ok (.aload_n 0, 1) := by decide +kernel
theorem dL_law_167 : decode cL_law 167 = .ok (.iload_n 3, 1) := by decide +kernel
theorem dL_law_168 : decode cL_law 168 = .ok (.iconst 1, 1) := by decide +kernel
theorem dL_law_169 : decode cL_law 169 = .ok (.iadd, 1) := by decide +kernel
theorem dL_law_170 : decode cL_law 170 = .ok (.iaload, 1) := by decide +kernel
theorem dL_law_171 : decode cL_law 171 = .ok (.invokevirtual 17, 3) := by decide +kernel
theorem dL_law_174 : decode cL_law 174 = .ok (.if_icmp .eq 765, 3) := by decide +kernel
theorem dL_law_177 : decode cL_law 177 = .ok (.iconst 0, 1) := by decide +kernel
theorem dL_law_178 : decode cL_law 178 = .ok (.ireturn, 1) := by decide +kernel
theorem dL_law_179 : decode cL_law 179 = .ok (.aload_n 1, 1) := by decide +kernel
theorem dL_law_180 : decode cL_law 180 = .ok (.aload_n 0, 1) := by decide +kernel
theorem dL_law_181 : decode cL_law 181 = .ok (.iload_n 3, 1) := by decide +kernel
theorem dL_law_182 : decode cL_law 182 = .ok (.iconst 1, 1) := by decide +kernel
theorem dL_law_183 : decode cL_law 183 = .ok (.iadd, 1) := by decide +kernel
theorem dL_law_184 : decode cL_law 184 = .ok (.iaload, 1) := by decide +kernel
theorem dL_law_185 : decode cL_law 185 = .ok (.aload_n 0, 1) := by decide +kernel
theorem dL_law_186 : decode cL_law 186 = .ok (.iload_n 3, 1) := by decide +kernel
theorem dL_law_187 : decode cL_law 187 = .ok (.iconst 2, 1) := by decide +kernel
theorem dL_law_188 : decode cL_law 188 = .ok (.iadd, 1) := by decide +kernel
theorem dL_law_189 : decode cL_law 189 = .ok (.iaload, 1) := by decide +kernel
theorem dL_law_190 : decode cL_law 190 = .ok (.invokevirtual 18, 3) := by decide +kernel
theorem dL_law_193 : decode cL_law 193 = .ok (.aload_n 2, 1) := by decide +kernel
theorem dL_law_194 : decode cL_law 194 = .ok (.aload_n 0, 1) := by decide +kernel
theorem dL_law_195 : decode cL_law 195 = .ok (.iload_n 3, 1) := by decide +kernel
theorem dL_law_196 : decode cL_law 196 = .ok (.iconst 1, 1) := by decide +kernel
theorem dL_law_197 : decode cL_law 197 = .ok (.iadd, 1) := by decide +kernel
theorem dL_law_198 : decode cL_law 198 = .ok (.iaload, 1) := by decide +kernel
theorem dL_law_199 : decode cL_law 199 = .ok (.aload_n 0, 1) := by decide +kernel
theorem dL_law_200 : decode cL_law 200 = .ok (.iload_n 3, 1) := by decide +kernel
theorem dL_law_201 : decode cL_law 201 = .ok (.iconst 2, 1) := by decide +kernel
theorem dL_law_202 : decode cL_law 202 = .ok (.iadd, 1) := by decide +kernel
theorem dL_law_203 : decode cL_law 203 = .ok (.iaload, 1) := by decide +kernel
theorem dL_law_204 : decode cL_law 204 = .ok (.invokevirtual 22, 3) := by decide +kernel
theorem dL_law_207 : decode cL_law 207 = .ok (.if_icmp .eq 732, 3) := by decide +kernel
theorem dL_law_210 : decode cL_law 210 = .ok (.iconst 0, 1) := by decide +kernel
theorem dL_law_211 : decode cL_law 211 = .ok (.ireturn, 1) := by decide +kernel
theorem dL_law_212 : decode cL_law 212 = .ok (.aload_n 1, 1) := by decide +kernel
theorem dL_law_213 : decode cL_law 213 = .ok (.aload_n 0, 1) := by decide +kernel
theorem dL_law_214 : decode cL_law 214 = .ok (.iload_n 3, 1) := by decide +kernel
theorem dL_law_215 : decode cL_law 215 = .ok (.iconst 1, 1) := by decide +kernel
theorem dL_law_216 : decode cL_law 216 = .ok (.iadd, 1) := by decide +kernel
theorem dL_law_217 : decode cL_law 217 = .ok (.iaload, 1) := by decide +kernel
theorem dL_law_218 : decode cL_law 218 = .ok (.aload_n 0, 1) := by decide +kernel
theorem dL_law_219 : decode cL_law 219 = .ok (.iload_n 3, 1) := by decide +kernel
theorem dL_law_220 : decode cL_law 220 = .ok (.iconst 2, 1) := by decide +kernel
theorem dL_law_221 : decode cL_law 221 = .ok (.iadd, 1) := by decide +kernel
theorem dL_law_222 : decode cL_law 222 = .ok (.iaload, 1) := by decide +kernel
theorem dL_law_223 : decode cL_law 223 = .ok (.aload_n 0, 1) := by decide +kernel
theorem dL_law_224 : decode cL_law 224 = .ok (.iload_n 3, 1) := by decide +kernel
theorem dL_law_225 : decode cL_law 225 = .ok (.iconst 3, 1) := by decide +kernel
theorem dL_law_226 : decode cL_law 226 = .ok (.iadd, 1) := by decide +kernel
theorem dL_law_227 : decode cL_law 227 = .ok (.iaload, 1) := by decide +kernel
theorem dL_law_228 : decode cL_law 228 = .ok (.invokevirtual 23, 3) := by decide +kernel
theorem dL_law_231 : decode cL_law 231 = .ok (.aload_n 2, 1) := by decide +kernel
theorem dL_law_232 : decode cL_law 232 = .ok (.aload_n 0, 1) := by decide +kernel
theorem dL_law_233 : decode cL_law 233 = .ok (.iload_n 3, 1) := by decide +kernel
theorem dL_law_234 : decode cL_law 234 = .ok (.iconst 1, 1) := by decide +kernel
theorem dL_law_235 : decode cL_law 235 = .ok (.iadd, 1) := by decide +kernel
theorem dL_law_236 : decode cL_law 236 = .ok (.iaload, 1) := by decide +kernel
theorem dL_law_237 : decode cL_law 237 = .ok (.aload_n 0, 1) := by decide +kernel
theorem dL_law_238 : decode cL_law 238 = .ok (.iload_n 3, 1) := by decide +kernel
theorem dL_law_239 : decode cL_law 239 = .ok (.iconst 2, 1) := by decide +kernel
theorem dL_law_240 : decode cL_law 240 = .ok (.iadd, 1) := by decide +kernel
theorem dL_law_241 : decode cL_law 241 = .ok (.iaload, 1) := by decide +kernel
theorem dL_law_242 : decode cL_law 242 = .ok (.aload_n 0, 1) := by decide +kernel
theorem dL_law_243 : decode cL_law 243 = .ok (.iload_n 3, 1) := by decide +kernel
theorem dL_law_244 : decode cL_law 244 = .ok (.iconst 3, 1) := by decide +kernel
theorem dL_law_245 : decode cL_law 245 = .ok (.iadd, 1) := by decide +kernel
theorem dL_law_246 : decode cL_law 246 = .ok (.iaload, 1) := by decide +kernel
theorem dL_law_247 : decode cL_law 247 = .ok (.invokevirtual 27, 3) := by decide +kernel
theorem dL_law_250 : decode cL_law 250 = .ok (.if_icmp .eq 689, 3) := by decide +kernel
theorem dL_law_253 : decode cL_law 253 = .ok (.iconst 0, 1) := by decide +kernel
theorem dL_law_254 : decode cL_law 254 = .ok (.ireturn, 1) := by decide +kernel
theorem dL_law_255 : decode cL_law 255 = .ok (.aload_n 1, 1) := by decide +kernel
theorem dL_law_256 : decode cL_law 256 = .ok (.aload_n 0, 1) := by decide +kernel
theorem dL_law_257 : decode cL_law 257 = .ok (.iload_n 3, 1) := by decide +kernel
theorem dL_law_258 : decode cL_law 258 = .ok (.iconst 1, 1) := by decide +kernel
theorem dL_law_259 : decode cL_law 259 = .ok (.iadd, 1) := by decide +kernel
theorem dL_law_260 : decode cL_law 260 = .ok (.iaload, 1) := by decide +kernel
theorem dL_law_261 : decode cL_law 261 = .ok (.aload_n 0, 1) := by decide +kernel
theorem dL_law_262 : decode cL_law 262 = .ok (.iload_n 3, 1) := by decide +kernel
theorem dL_law_263 : decode cL_law 263 = .ok (.iconst 2, 1) := by decide +kernel
theorem dL_law_264 : decode cL_law 264 = .ok (.iadd, 1) := by decide +kernel
theorem dL_law_265 : decode cL_law 265 = .ok (.iaload, 1) := by decide +kernel
theorem dL_law_266 : decode cL_law 266 = .ok (.aload_n 0, 1) := by decide +kernel
theorem dL_law_267 : decode cL_law 267 = .ok (.iload_n 3, 1) := by decide +kernel
theorem dL_law_268 : decode cL_law 268 = .ok (.iconst 3, 1) := by decide +kernel
theorem dL_law_269 : decode cL_law 269 = .ok (.iadd, 1) := by decide +kernel
theorem dL_law_270 : decode cL_law 270 = .ok (.iaload, 1) := by decide +kernel
theorem dL_law_271 : decode cL_law 271 = .ok (.aload_n 0, 1) := by decide +kernel
theorem dL_law_272 : decode cL_law 272 = .ok (.iload_n 3, 1) := by decide +kernel
theorem dL_law_273 : decode cL_law 273 = .ok (.iconst 4, 1) := by decide +kernel
theorem dL_law_274 : decode cL_law 274 = .ok (.iadd, 1) := by decide +kernel
theorem dL_law_275 : decode cL_law 275 = .ok (.iaload, 1) := by decide +kernel
theorem dL_law_276 : decode cL_law 276 = .ok (.invokevirtual 28, 3) := by decide +kernel
theorem dL_law_279 : decode cL_law 279 = .ok (.aload_n 2, 1) := by decide +kernel
theorem dL_law_280 : decode cL_law 280 = .ok (.aload_n 0, 1) := by decide +kernel
theorem dL_law_281 : decode cL_law 281 = .ok (.iload_n 3, 1) := by decide +kernel
theorem dL_law_282 : decode cL_law 282 = .ok (.iconst 1, 1) := by decide +kernel
theorem dL_law_283 : decode cL_law 283 = .ok (.iadd, 1) := by decide +kernel
theorem dL_law_284 : decode cL_law 284 = .ok (.iaload, 1) := by decide +kernel
theorem dL_law_285 : decode cL_law 285 = .ok (.aload_n 0, 1) := by decide +kernel
theorem dL_law_286 : decode cL_law 286 = .ok (.iload_n 3, 1) := by decide +kernel
theorem dL_law_287 : decode cL_law 287 = .ok (.iconst 2, 1) := by decide +kernel
theorem dL_law_288 : decode cL_law 288 = .ok (.iadd, 1) := by decide +kernel
theorem dL_law_289 : decode cL_law 289 = .ok (.iaload, 1) := by decide +kernel
theorem dL_law_290 : decode cL_law 290 = .ok (.aload_n 0, 1) := by decide +kernel
theorem dL_law_291 : decode cL_law 291 = .ok (.iload_n 3, 1) := by decide +kernel
theorem dL_law_292 : decode cL_law 292 = .ok (.iconst 3, 1) := by decide +kernel
theorem dL_law_293 : decode cL_law 293 = .ok (.iadd, 1) := by decide +kernel
theorem dL_law_294 : decode cL_law 294 = .ok (.iaload, 1) := by decide +kernel
theorem dL_law_295 : decode cL_law 295 = .ok (.aload_n 0, 1) := by decide +kernel
theorem dL_law_296 : decode cL_law 296 = .ok (.iload_n 3, 1) := by decide +kernel
theorem dL_law_297 : decode cL_law 297 = .ok (.iconst 4, 1) := by decide +kernel
theorem dL_law_298 : decode cL_law 298 = .ok (.iadd, 1) := by decide +kernel
theorem dL_law_299 : decode cL_law 299 = .ok (.iaload, 1) := by decide +kernel
theorem dL_law_300 : decode cL_law 300 = .ok (.invokevirtual 32, 3) := by decide +kernel
theorem dL_law_303 : decode cL_law 303 = .ok (.if_icmp .eq 636, 3) := by decide +kernel
theorem dL_law_306 : decode cL_law 306 = .ok (.iconst 0, 1) := by decide +kernel
theorem dL_law_307 : decode cL_law 307 = .ok (.ireturn, 1) := by decide +kernel
theorem dL_law_308 : decode cL_law 308 = .ok (.aload_n 1, 1) := by decide +kernel
theorem dL_law_309 : decode cL_law 309 = .ok (.aload_n 0, 1) := by decide +kernel
theorem dL_law_310 : decode cL_law 310 = .ok (.iload_n 3, 1) := by decide +kernel
theorem dL_law_311 : decode cL_law 311 = .ok (.iconst 1, 1) := by decide +kernel
theorem dL_law_312 : decode cL_law 312 = .ok (.iadd, 1) := by decide +kernel
theorem dL_law_313 : decode cL_law 313 = .ok (.iaload, 1) := by decide +kernel
theorem dL_law_314 : decode cL_law 314 = .ok (.i2l, 1) := by decide +kernel
theorem dL_law_315 : decode cL_law 315 = .ok (.bipush 32, 2) := by decide +kernel
theorem dL_law_317 : decode cL_law 317 = .ok (.lshl, 1) := by decide +kernel
theorem dL_law_318 : decode cL_law 318 = .ok (.aload_n 0, 1) := by decide +kernel
theorem dL_law_319 : decode cL_law 319 = .ok (.iload_n 3, 1) := by decide +kernel
theorem dL_law_320 : decode cL_law 320 = .ok (.iconst 2, 1) := by decide +kernel
theorem dL_law_321 : decode cL_law 321 = .ok (.iadd, 1) := by decide +kernel
theorem dL_law_322 : decode cL_law 322 = .ok (.iaload, 1) := by decide +kernel
theorem dL_law_323 : decode cL_law 323 = .ok (.i2l, 1) := by decide +kernel
theorem dL_law_324 : decode cL_law 324 = .ok (.ldc2_w 33, 3) := by decide +kernel
theorem dL_law_327 : decode cL_law 327 = .ok (.land, 1) := by decide +kernel
theorem dL_law_328 : decode cL_law 328 = .ok (.lor, 1) := by decide +kernel
theorem dL_law_329 : decode cL_law 329 = .ok (.aload_n 0, 1) := by decide +kernel
theorem dL_law_330 : decode cL_law 330 = .ok (.iload_n 3, 1) := by decide +kernel
theorem dL_law_331 : decode cL_law 331 = .ok (.iconst 3, 1) := by decide +kernel
theorem dL_law_332 : decode cL_law 332 = .ok (.iadd, 1) := by decide +kernel
theorem dL_law_333 : decode cL_law 333 = .ok (.iaload, 1) := by decide +kernel
theorem dL_law_334 : decode cL_law 334 = .ok (.invokevirtual 35, 3) := by decide +kernel
theorem dL_law_337 : decode cL_law 337 = .ok (.aload_n 2, 1) := by decide +kernel
theorem dL_law_338 : decode cL_law 338 = .ok (.aload_n 0, 1) := by decide +kernel
theorem dL_law_339 : decode cL_law 339 = .ok (.iload_n 3, 1) := by decide +kernel
theorem dL_law_340 : decode cL_law 340 = .ok (.iconst 1, 1) := by decide +kernel
theorem dL_law_341 : decode cL_law 341 = .ok (.iadd, 1) := by decide +kernel
theorem dL_law_342 : decode cL_law 342 = .ok (.iaload, 1) := by decide +kernel
theorem dL_law_343 : decode cL_law 343 = .ok (.i2l, 1) := by decide +kernel
theorem dL_law_344 : decode cL_law 344 = .ok (.bipush 32, 2) := by decide +kernel
theorem dL_law_346 : decode cL_law 346 = .ok (.lshl, 1) := by decide +kernel
theorem dL_law_347 : decode cL_law 347 = .ok (.aload_n 0, 1) := by decide +kernel
theorem dL_law_348 : decode cL_law 348 = .ok (.iload_n 3, 1) := by decide +kernel
theorem dL_law_349 : decode cL_law 349 = .ok (.iconst 2, 1) := by decide +kernel
theorem dL_law_350 : decode cL_law 350 = .ok (.iadd, 1) := by decide +kernel
theorem dL_law_351 : decode cL_law 351 = .ok (.iaload, 1) := by decide +kernel
theorem dL_law_352 : decode cL_law 352 = .ok (.i2l, 1) := by decide +kernel
theorem dL_law_353 : decode cL_law 353 = .ok (.ldc2_w 33, 3) := by decide +kernel
theorem dL_law_356 : decode cL_law 356 = .ok (.land, 1) := by decide +kernel
theorem dL_law_357 : decode cL_law 357 = .ok (.lor, 1) := by decide +kernel
theorem dL_law_358 : decode cL_law 358 = .ok (.aload_n 0, 1) := by decide +kernel
theorem dL_law_359 : decode cL_law 359 = .ok (.iload_n 3, 1) := by decide +kernel
theorem dL_law_360 : decode cL_law 360 = .ok (.iconst 3, 1) := by decide +kernel
theorem dL_law_361 : decode cL_law 361 = .ok (.iadd, 1) := by decide +kernel
theorem dL_law_362 : decode cL_law 362 = .ok (.iaload, 1) := by decide +kernel
theorem dL_law_363 : decode cL_law 363 = .ok (.invokevirtual 39, 3) := by decide +kernel
theorem dL_law_366 : decode cL_law 366 = .ok (.if_icmp .eq 573, 3) := by decide +kernel
theorem dL_law_369 : decode cL_law 369 = .ok (.iconst 0, 1) := by decide +kernel
theorem dL_law_370 : decode cL_law 370 = .ok (.ireturn, 1) := by decide +kernel
theorem dL_law_371 : decode cL_law 371 = .ok (.aload_n 1, 1) := by decide +kernel
theorem dL_law_372 : decode cL_law 372 = .ok (.invokevirtual 40, 3) := by decide +kernel
theorem dL_law_375 : decode cL_law 375 = .ok (.aload_n 2, 1) := by decide +kernel
theorem dL_law_376 : decode cL_law 376 = .ok (.invokevirtual 44, 3) := by decide +kernel
theorem dL_law_379 : decode cL_law 379 = .ok (.if_icmp .eq 560, 3) := by decide +kernel
theorem dL_law_382 : decode cL_law 382 = .ok (.iconst 0, 1) := by decide +kernel
theorem dL_law_383 : decode cL_law 383 = .ok (.ireturn, 1) := by decide +kernel
theorem dL_law_384 : decode cL_law 384 = .ok (.aload_n 1, 1) := by decide +kernel
theorem dL_law_385 : decode cL_law 385 = .ok (.invokevirtual 45, 3) := by decide +kernel
theorem dL_law_388 : decode cL_law 388 = .ok (.aload_n 2, 1) := by decide +kernel
theorem dL_law_389 : decode cL_law 389 = .ok (.invokevirtual 48, 3) := by decide +kernel
theorem dL_law_392 : decode cL_law 392 = .ok (.if_icmp .eq 547, 3) := by decide +kernel
theorem dL_law_395 : decode cL_law 395 = .ok (.iconst 0, 1) := by decide +kernel
theorem dL_law_396 : decode cL_law 396 = .ok (.ireturn, 1) := by decide +kernel
theorem dL_law_397 : decode cL_law 397 = .ok (.aload_n 1, 1) := by decide +kernel
theorem dL_law_398 : decode cL_law 398 = .ok (.invokevirtual 49, 3) := by decide +kernel
theorem dL_law_401 : decode cL_law 401 = .ok (.aload_n 2, 1) := by decide +kernel
theorem dL_law_402 : decode cL_law 402 = .ok (.invokevirtual 52, 3) := by decide +kernel
theorem dL_law_405 : decode cL_law 405 = .ok (.if_icmp .eq 534, 3) := by decide +kernel
theorem dL_law_408 : decode cL_law 408 = .ok (.iconst 0, 1) := by decide +kernel
theorem dL_law_409 : decode cL_law 409 = .ok (.ireturn, 1) := by decide +kernel
theorem dL_law_410 : decode cL_law 410 = .ok (.aload_n 1, 1) := by decide +kernel
theorem dL_law_411 : decode cL_law 411 = .ok (.invokevirtual 53, 3) := by decide +kernel
theorem dL_law_414 : decode cL_law 414 = .ok (.aload_n 2, 1) := by decide +kernel
theorem dL_law_415 : decode cL_law 415 = .ok (.invokevirtual 56, 3) := by decide +kernel
theorem dL_law_418 : decode cL_law 418 = .ok (.if_icmp .eq 521, 3) := by decide +kernel
theorem dL_law_421 : decode cL_law 421 = .ok (.iconst 0, 1) := by decide +kernel
theorem dL_law_422 : decode cL_law 422 = .ok (.ireturn, 1) := by decide +kernel
theorem dL_law_423 : decode cL_law 423 = .ok (.aload_n 1, 1) := by decide +kernel
theorem dL_law_424 : decode cL_law 424 = .ok (.aload_n 0, 1) := by decide +kernel
theorem dL_law_425 : decode cL_law 425 = .ok (.iload_n 3, 1) := by decide +kernel
theorem dL_law_426 : decode cL_law 426 = .ok (.iconst 1, 1) := by decide +kernel
theorem dL_law_427 : decode cL_law 427 = .ok (.iadd, 1) := by decide +kernel
theorem dL_law_428 : decode cL_law 428 = .ok (.iaload, 1) := by decide +kernel
theorem dL_law_429 : decode cL_law 429 = .ok (.aload_n 0, 1) := by decide +kernel
theorem dL_law_430 : decode cL_law 430 = .ok (.iload_n 3, 1) := by decide +kernel
theorem dL_law_431 : decode cL_law 431 = .ok (.iconst 2, 1) := by decide +kernel
theorem dL_law_432 : decode cL_law 432 = .ok (.iadd, 1) := by decide +kernel
theorem dL_law_433 : decode cL_law 433 = .ok (.iaload, 1) := by decide +kernel
theorem dL_law_434 : decode cL_law 434 = .ok (.invokevirtual 57, 3) := by decide +kernel
theorem dL_law_437 : decode cL_law 437 = .ok (.aload_n 2, 1) := by decide +kernel
theorem dL_law_438 : decode cL_law 438 = .ok (.aload_n 0, 1) := by decide +kernel
theorem dL_law_439 : decode cL_law 439 = .ok (.iload_n 3, 1) := by decide +kernel
theorem dL_law_440 : decode cL_law 440 = .ok (.iconst 1, 1) := by decide +kernel
theorem dL_law_441 : decode cL_law 441 = .ok (.iadd, 1) := by decide +kernel
theorem dL_law_442 : decode cL_law 442 = .ok (.iaload, 1) := by decide +kernel
theorem dL_law_443 : decode cL_law 443 = .ok (.aload_n 0, 1) := by decide +kernel
theorem dL_law_444 : decode cL_law 444 = .ok (.iload_n 3, 1) := by decide +kernel
theorem dL_law_445 : decode cL_law 445 = .ok (.iconst 2, 1) := by decide +kernel
theorem dL_law_446 : decode cL_law 446 = .ok (.iadd, 1) := by decide +kernel
theorem dL_law_447 : decode cL_law 447 = .ok (.iaload, 1) := by decide +kernel
theorem dL_law_448 : decode cL_law 448 = .ok (.invokevirtual 60, 3) := by decide +kernel
theorem dL_law_451 : decode cL_law 451 = .ok (.if_icmp .eq 488, 3) := by decide +kernel
theorem dL_law_454 : decode cL_law 454 = .ok (.iconst 0, 1) := by decide +kernel
theorem dL_law_455 : decode cL_law 455 = .ok (.ireturn, 1) := by decide +kernel
theorem dL_law_456 : decode cL_law 456 = .ok (.aload_n 1, 1) := by decide +kernel
theorem dL_law_457 : decode cL_law 457 = .ok (.aload_n 0, 1) := by decide +kernel
theorem dL_law_458 : decode cL_law 458 = .ok (.iload_n 3, 1) := by decide +kernel
theorem dL_law_459 : decode cL_law 459 = .ok (.iconst 1, 1) := by decide +kernel
theorem dL_law_460 : decode cL_law 460 = .ok (.iadd, 1) := by decide +kernel
theorem dL_law_461 : decode cL_law 461 = .ok (.iaload, 1) := by decide +kernel
theorem dL_law_462 : decode cL_law 462 = .ok (.aload_n 0, 1) := by decide +kernel
theorem dL_law_463 : decode cL_law 463 = .ok (.iload_n 3, 1) := by decide +kernel
theorem dL_law_464 : decode cL_law 464 = .ok (.iconst 2, 1) := by decide +kernel
theorem dL_law_465 : decode cL_law 465 = .ok (.iadd, 1) := by decide +kernel
theorem dL_law_466 : decode cL_law 466 = .ok (.iaload, 1) := by decide +kernel
theorem dL_law_467 : decode cL_law 467 = .ok (.invokevirtual 61, 3) := by decide +kernel
theorem dL_law_470 : decode cL_law 470 = .ok (.aload_n 2, 1) := by decide +kernel
theorem dL_law_471 : decode cL_law 471 = .ok (.aload_n 0, 1) := by decide +kernel
theorem dL_law_472 : decode cL_law 472 = .ok (.iload_n 3, 1) := by decide +kernel
theorem dL_law_473 : decode cL_law 473 = .ok (.iconst 1, 1) := by decide +kernel
theorem dL_law_474 : decode cL_law 474 = .ok (.iadd, 1) := by decide +kernel
theorem dL_law_475 : decode cL_law 475 = .ok (.iaload, 1) := by decide +kernel
theorem dL_law_476 : decode cL_law 476 = .ok (.aload_n 0, 1) := by decide +kernel
theorem dL_law_477 : decode cL_law 477 = .ok (.iload_n 3, 1) := by decide +kernel
theorem dL_law_478 : decode cL_law 478 = .ok (.iconst 2, 1) := by decide +kernel
theorem dL_law_479 : decode cL_law 479 = .ok (.iadd, 1) := by decide +kernel
theorem dL_law_480 : decode cL_law 480 = .ok (.iaload, 1) := by decide +kernel
theorem dL_law_481 : decode cL_law 481 = .ok (.invokevirtual 64, 3) := by decide +kernel
theorem dL_law_484 : decode cL_law 484 = .ok (.if_icmp .eq 455, 3) := by decide +kernel
theorem dL_law_487 : decode cL_law 487 = .ok (.iconst 0, 1) := by decide +kernel
theorem dL_law_488 : decode cL_law 488 = .ok (.ireturn, 1) := by decide +kernel
theorem dL_law_489 : decode cL_law 489 = .ok (.aload_n 1, 1) := by decide +kernel
theorem dL_law_490 : decode cL_law 490 = .ok (.aload_n 0, 1) := by decide +kernel
theorem dL_law_491 : decode cL_law 491 = .ok (.iload_n 3, 1) := by decide +kernel
theorem dL_law_492 : decode cL_law 492 = .ok (.iconst 1, 1) := by decide +kernel
theorem dL_law_493 : decode cL_law 493 = .ok (.iadd, 1) := by decide +kernel
theorem dL_law_494 : decode cL_law 494 = .ok (.iaload, 1) := by decide +kernel
theorem dL_law_495 : decode cL_law 495 = .ok (.aload_n 0, 1) := by decide +kernel
theorem dL_law_496 : decode cL_law 496 = .ok (.iload_n 3, 1) := by decide +kernel
theorem dL_law_497 : decode cL_law 497 = .ok (.iconst 2, 1) := by decide +kernel
theorem dL_law_498 : decode cL_law 498 = .ok (.iadd, 1) := by decide +kernel
theorem dL_law_499 : decode cL_law 499 = .ok (.iaload, 1) := by decide +kernel
theorem dL_law_500 : decode cL_law 500 = .ok (.aload_n 0, 1) := by decide +kernel
theorem dL_law_501 : decode cL_law 501 = .ok (.iload_n 3, 1) := by decide +kernel
theorem dL_law_502 : decode cL_law 502 = .ok (.iconst 3, 1) := by decide +kernel
theorem dL_law_503 : decode cL_law 503 = .ok (.iadd, 1) := by decide +kernel
theorem dL_law_504 : decode cL_law 504 = .ok (.iaload, 1) := by decide +kernel
theorem dL_law_505 : decode cL_law 505 = .ok (.aload_n 0, 1) := by decide +kernel
theorem dL_law_506 : decode cL_law 506 = .ok (.iload_n 3, 1) := by decide +kernel
theorem dL_law_507 : decode cL_law 507 = .ok (.iconst 4, 1) := by decide +kernel
theorem dL_law_508 : decode cL_law 508 = .ok (.iadd, 1) := by decide +kernel
theorem dL_law_509 : decode cL_law 509 = .ok (.iaload, 1) := by decide +kernel
theorem dL_law_510 : decode cL_law 510 = .ok (.invokevirtual 65, 3) := by decide +kernel
theorem dL_law_513 : decode cL_law 513 = .ok (.aload_n 2, 1) := by decide +kernel
theorem dL_law_514 : decode cL_law 514 = .ok (.aload_n 0, 1) := by decide +kernel
theorem dL_law_515 : decode cL_law 515 = .ok (.iload_n 3, 1) := by decide +kernel
theorem dL_law_516 : decode cL_law 516 = .ok (.iconst 1, 1) := by decide +kernel
theorem dL_law_517 : decode cL_law 517 = .ok (.iadd, 1) := by decide +kernel
theorem dL_law_518 : decode cL_law 518 = .ok (.iaload, 1) := by decide +kernel
theorem dL_law_519 : decode cL_law 519 = .ok (.aload_n 0, 1) := by decide +kernel
theorem dL_law_520 : decode cL_law 520 = .ok (.iload_n 3, 1) := by decide +kernel
theorem dL_law_521 : decode cL_law 521 = .ok (.iconst 2, 1) := by decide +kernel
theorem dL_law_522 : decode cL_law 522 = .ok (.iadd, 1) := by decide +kernel
theorem dL_law_523 : decode cL_law 523 = .ok (.iaload, 1) := by decide +kernel
theorem dL_law_524 : decode cL_law 524 = .ok (.aload_n 0, 1) := by decide +kernel
theorem dL_law_525 : decode cL_law 525 = .ok (.iload_n 3, 1) := by decide +kernel
theorem dL_law_526 : decode cL_law 526 = .ok (.iconst 3, 1) := by decide +kernel
theorem dL_law_527 : decode cL_law 527 = .ok (.iadd, 1) := by decide +kernel
theorem dL_law_528 : decode cL_law 528 = .ok (.iaload, 1) := by decide +kernel
theorem dL_law_529 : decode cL_law 529 = .ok (.aload_n 0, 1) := by decide +kernel
theorem dL_law_530 : decode cL_law 530 = .ok (.iload_n 3, 1) := by decide +kernel
theorem dL_law_531 : decode cL_law 531 = .ok (.iconst 4, 1) := by decide +kernel
theorem dL_law_532 : decode cL_law 532 = .ok (.iadd, 1) := by decide +kernel
theorem dL_law_533 : decode cL_law 533 = .ok (.iaload, 1) := by decide +kernel
theorem dL_law_534 : decode cL_law 534 = .ok (.invokevirtual 68, 3) := by decide +kernel
theorem dL_law_537 : decode cL_law 537 = .ok (.if_icmp .eq 402, 3) := by decide +kernel
theorem dL_law_540 : decode cL_law 540 = .ok (.iconst 0, 1) := by decide +kernel
theorem dL_law_541 : decode cL_law 541 = .ok (.ireturn, 1) := by decide +kernel
theorem dL_law_542 : decode cL_law 542 = .ok (.aload_n 1, 1) := by decide +kernel
theorem dL_law_543 : decode cL_law 543 = .ok (.aload_n 0, 1) := by decide +kernel
theorem dL_law_544 : decode cL_law 544 = .ok (.iload_n 3, 1) := by decide +kernel
theorem dL_law_545 : decode cL_law 545 = .ok (.iconst 1, 1) := by decide +kernel
theorem dL_law_546 : decode cL_law 546 = .ok (.iadd, 1) := by decide +kernel
theorem dL_law_547 : decode cL_law 547 = .ok (.iaload, 1) := by decide +kernel
theorem dL_law_548 : decode cL_law 548 = .ok (.invokevirtual 69, 3) := by decide +kernel
theorem dL_law_551 : decode cL_law 551 = .ok (.aload_n 2, 1) := by decide +kernel
theorem dL_law_552 : decode cL_law 552 = .ok (.aload_n 0, 1) := by decide +kernel
theorem dL_law_553 : decode cL_law 553 = .ok (.iload_n 3, 1) := by decide +kernel
theorem dL_law_554 : decode cL_law 554 = .ok (.iconst 1, 1) := by decide +kernel
theorem dL_law_555 : decode cL_law 555 = .ok (.iadd, 1) := by decide +kernel
theorem dL_law_556 : decode cL_law 556 = .ok (.iaload, 1) := by decide +kernel
theorem dL_law_557 : decode cL_law 557 = .ok (.invokevirtual 72, 3) := by decide +kernel
theorem dL_law_560 : decode cL_law 560 = .ok (.if_icmp .eq 379, 3) := by decide +kernel
theorem dL_law_563 : decode cL_law 563 = .ok (.iconst 0, 1) := by decide +kernel
theorem dL_law_564 : decode cL_law 564 = .ok (.ireturn, 1) := by decide +kernel
theorem dL_law_565 : decode cL_law 565 = .ok (.aload_n 1, 1) := by decide +kernel
theorem dL_law_566 : decode cL_law 566 = .ok (.aload_n 0, 1) := by decide +kernel
theorem dL_law_567 : decode cL_law 567 = .ok (.iload_n 3, 1) := by decide +kernel
theorem dL_law_568 : decode cL_law 568 = .ok (.iconst 1, 1) := by decide +kernel
theorem dL_law_569 : decode cL_law 569 = .ok (.iadd, 1) := by decide +kernel
theorem dL_law_570 : decode cL_law 570 = .ok (.iaload, 1) := by decide +kernel
theorem dL_law_571 : decode cL_law 571 = .ok (.invokevirtual 73, 3) := by decide +kernel
theorem dL_law_574 : decode cL_law 574 = .ok (.aload_n 2, 1) := by decide +kernel
theorem dL_law_575 : decode cL_law 575 = .ok (.aload_n 0, 1) := by decide +kernel
theorem dL_law_576 : decode cL_law 576 = .ok (.iload_n 3, 1) := by decide +kernel
theorem dL_law_577 : decode cL_law 577 = .ok (.iconst 1, 1) := by decide +kernel
theorem dL_law_578 : decode cL_law 578 = .ok (.iadd, 1) := by decide +kernel
theorem dL_law_579 : decode cL_law 579 = .ok (.iaload, 1) := by decide +kernel
theorem dL_law_580 : decode cL_law 580 = .ok (.invokevirtual 76, 3) := by decide +kernel
theorem dL_law_583 : decode cL_law 583 = .ok (.if_icmp .eq 356, 3) := by decide +kernel
theorem dL_law_586 : decode cL_law 586 = .ok (.iconst 0, 1) := by decide +kernel
theorem dL_law_587 : decode cL_law 587 = .ok (.ireturn, 1) := by decide +kernel
theorem dL_law_588 : decode cL_law 588 = .ok (.aload_n 1, 1) := by decide +kernel
theorem dL_law_589 : decode cL_law 589 = .ok (.aload_n 0, 1) := by decide +kernel
theorem dL_law_590 : decode cL_law 590 = .ok (.iload_n 3, 1) := by decide +kernel
theorem dL_law_591 : decode cL_law 591 = .ok (.iconst 1, 1) := by decide +kernel
theorem dL_law_592 : decode cL_law 592 = .ok (.iadd, 1) := by decide +kernel
theorem dL_law_593 : decode cL_law 593 = .ok (.iaload, 1) := by decide +kernel
theorem dL_law_594 : decode cL_law 594 = .ok (.aload_n 0, 1) := by decide +kernel
theorem dL_law_595 : decode cL_law 595 = .ok (.iload_n 3, 1) := by decide +kernel
theorem dL_law_596 : decode cL_law 596 = .ok (.iconst 2, 1) := by decide +kernel
theorem dL_law_597 : decode cL_law 597 = .ok (.iadd, 1) := by decide +kernel
theorem dL_law_598 : decode cL_law 598 = .ok (.iaload, 1) := by decide +kernel
theorem dL_law_599 : decode cL_law 599 = .ok (.invokevirtual 77, 3) := by decide +kernel
theorem dL_law_602 : decode cL_law 602 = .ok (.aload_n 2, 1) := by decide +kernel
theorem dL_law_603 : decode cL_law 603 = .ok (.aload_n 0, 1) := by decide +kernel
theorem dL_law_604 : decode cL_law 604 = .ok (.iload_n 3, 1) := by decide +kernel
theorem dL_law_605 : decode cL_law 605 = .ok (.iconst 1, 1) := by decide +kernel
theorem dL_law_606 : decode cL_law 606 = .ok (.iadd, 1) := by decide +kernel
theorem dL_law_607 : decode cL_law 607 = .ok (.iaload, 1) := by decide +kernel
theorem dL_law_608 : decode cL_law 608 = .ok (.aload_n 0, 1) := by decide +kernel
theorem dL_law_609 : decode cL_law 609 = .ok (.iload_n 3, 1) := by decide +kernel
theorem dL_law_610 : decode cL_law 610 = .ok (.iconst 2, 1) := by decide +kernel
theorem dL_law_611 : decode cL_law 611 = .ok (.iadd, 1) := by decide +kernel
theorem dL_law_612 : decode cL_law 612 = .ok (.iaload, 1) := by decide +kernel
theorem dL_law_613 : decode cL_law 613 = .ok (.invokevirtual 80, 3) := by decide +kernel
theorem dL_law_616 : decode cL_law 616 = .ok (.if_icmp .eq 323, 3) := by decide +kernel
theorem dL_law_619 : decode cL_law 619 = .ok (.iconst 0, 1) := by decide +kernel
theorem dL_law_620 : decode cL_law 620 = .ok (.ireturn, 1) := by decide +kernel
theorem dL_law_621 : decode cL_law 621 = .ok (.aload_n 1, 1) := by decide +kernel
theorem dL_law_622 : decode cL_law 622 = .ok (.aload_n 0, 1) := by decide +kernel
theorem dL_law_623 : decode cL_law 623 = .ok (.iload_n 3, 1) := by decide +kernel
theorem dL_law_624 : decode cL_law 624 = .ok (.iconst 1, 1) := by decide +kernel
theorem dL_law_625 : decode cL_law 625 = .ok (.iadd, 1) := by decide +kernel
theorem dL_law_626 : decode cL_law 626 = .ok (.iaload, 1) := by decide +kernel
theorem dL_law_627 : decode cL_law 627 = .ok (.aload_n 0, 1) := by decide +kernel
theorem dL_law_628 : decode cL_law 628 = .ok (.iload_n 3, 1) := by decide +kernel
theorem dL_law_629 : decode cL_law 629 = .ok (.iconst 2, 1) := by decide +kernel
theorem dL_law_630 : decode cL_law 630 = .ok (.iadd, 1) := by decide +kernel
theorem dL_law_631 : decode cL_law 631 = .ok (.iaload, 1) := by decide +kernel
theorem dL_law_632 : decode cL_law 632 = .ok (.aload_n 0, 1) := by decide +kernel
theorem dL_law_633 : decode cL_law 633 = .ok (.iload_n 3, 1) := by decide +kernel
theorem dL_law_634 : decode cL_law 634 = .ok (.iconst 3, 1) := by decide +kernel
theorem dL_law_635 : decode cL_law 635 = .ok (.iadd, 1) := by decide +kernel
theorem dL_law_636 : decode cL_law 636 = .ok (.iaload, 1) := by decide +kernel
theorem dL_law_637 : decode cL_law 637 = .ok (.invokevirtual 81, 3) := by decide +kernel
theorem dL_law_640 : decode cL_law 640 = .ok (.aload_n 2, 1) := by decide +kernel
theorem dL_law_641 : decode cL_law 641 = .ok (.aload_n 0, 1) := by decide +kernel
theorem dL_law_642 : decode cL_law 642 = .ok (.iload_n 3, 1) := by decide +kernel
theorem dL_law_643 : decode cL_law 643 = .ok (.iconst 1, 1) := by decide +kernel
theorem dL_law_644 : decode cL_law 644 = .ok (.iadd, 1) := by decide +kernel
theorem dL_law_645 : decode cL_law 645 = .ok (.iaload, 1) := by decide +kernel
theorem dL_law_646 : decode cL_law 646 = .ok (.aload_n 0, 1) := by decide +kernel
theorem dL_law_647 : decode cL_law 647 = .ok (.iload_n 3, 1) := by decide +kernel
theorem dL_law_648 : decode cL_law 648 = .ok (.iconst 2, 1) := by decide +kernel
theorem dL_law_649 : decode cL_law 649 = .ok (.iadd, 1) := by decide +kernel
theorem dL_law_650 : decode cL_law 650 = .ok (.iaload, 1) := by decide +kernel
theorem dL_law_651 : decode cL_law 651 = .ok (.aload_n 0, 1) := by decide +kernel
theorem dL_law_652 : decode cL_law 652 = .ok (.iload_n 3, 1) := by decide +kernel
theorem dL_law_653 : decode cL_law 653 = .ok (.iconst 3, 1) := by decide +kernel
theorem dL_law_654 : decode cL_law 654 = .ok (.iadd, 1) := by decide +kernel
theorem dL_law_655 : decode cL_law 655 = .ok (.iaload, 1) := by decide +kernel
theorem dL_law_656 : decode cL_law 656 = .ok (.invokevirtual 84, 3) := by decide +kernel
theorem dL_law_659 : decode cL_law 659 = .ok (.if_icmp .eq 280, 3) := by decide +kernel
theorem dL_law_662 : decode cL_law 662 = .ok (.iconst 0, 1) := by decide +kernel
theorem dL_law_663 : decode cL_law 663 = .ok (.ireturn, 1) := by decide +kernel
theorem dL_law_664 : decode cL_law 664 = .ok (.aload_n 1, 1) := by decide +kernel
theorem dL_law_665 : decode cL_law 665 = .ok (.invokevirtual 85, 3) := by decide +kernel
theorem dL_law_668 : decode cL_law 668 = .ok (.aload_n 2, 1) := by decide +kernel
theorem dL_law_669 : decode cL_law 669 = .ok (.invokevirtual 88, 3) := by decide +kernel
theorem dL_law_672 : decode cL_law 672 = .ok (.if_icmp .eq 267, 3) := by decide +kernel
theorem dL_law_675 : decode cL_law 675 = .ok (.iconst 0, 1) := by decide +kernel
theorem dL_law_676 : decode cL_law 676 = .ok (.ireturn, 1) := by decide +kernel
theorem dL_law_677 : decode cL_law 677 = .ok (.aload_n 1, 1) := by decide +kernel
theorem dL_law_678 : decode cL_law 678 = .ok (.aload_n 0, 1) := by decide +kernel
theorem dL_law_679 : decode cL_law 679 = .ok (.iload_n 3, 1) := by decide +kernel
theorem dL_law_680 : decode cL_law 680 = .ok (.iconst 1, 1) := by decide +kernel
theorem dL_law_681 : decode cL_law 681 = .ok (.iadd, 1) := by decide +kernel
theorem dL_law_682 : decode cL_law 682 = .ok (.iaload, 1) := by decide +kernel
theorem dL_law_683 : decode cL_law 683 = .ok (.aload_n 0, 1) := by decide +kernel
theorem dL_law_684 : decode cL_law 684 = .ok (.iload_n 3, 1) := by decide +kernel
theorem dL_law_685 : decode cL_law 685 = .ok (.iconst 2, 1) := by decide +kernel
theorem dL_law_686 : decode cL_law 686 = .ok (.iadd, 1) := by decide +kernel
theorem dL_law_687 : decode cL_law 687 = .ok (.iaload, 1) := by decide +kernel
theorem dL_law_688 : decode cL_law 688 = .ok (.invokevirtual 89, 3) := by decide +kernel
theorem dL_law_691 : decode cL_law 691 = .ok (.aload_n 2, 1) := by decide +kernel
theorem dL_law_692 : decode cL_law 692 = .ok (.aload_n 0, 1) := by decide +kernel
theorem dL_law_693 : decode cL_law 693 = .ok (.iload_n 3, 1) := by decide +kernel
theorem dL_law_694 : decode cL_law 694 = .ok (.iconst 1, 1) := by decide +kernel
theorem dL_law_695 : decode cL_law 695 = .ok (.iadd, 1) := by decide +kernel
theorem dL_law_696 : decode cL_law 696 = .ok (.iaload, 1) := by decide +kernel
theorem dL_law_697 : decode cL_law 697 = .ok (.aload_n 0, 1) := by decide +kernel
theorem dL_law_698 : decode cL_law 698 = .ok (.iload_n 3, 1) := by decide +kernel
theorem dL_law_699 : decode cL_law 699 = .ok (.iconst 2, 1) := by decide +kernel
theorem dL_law_700 : decode cL_law 700 = .ok (.iadd, 1) := by decide +kernel
theorem dL_law_701 : decode cL_law 701 = .ok (.iaload, 1) := by decide +kernel
theorem dL_law_702 : decode cL_law 702 = .ok (.invokevirtual 92, 3) := by decide +kernel
theorem dL_law_705 : decode cL_law 705 = .ok (.if_icmp .eq 234, 3) := by decide +kernel
theorem dL_law_708 : decode cL_law 708 = .ok (.iconst 0, 1) := by decide +kernel
theorem dL_law_709 : decode cL_law 709 = .ok (.ireturn, 1) := by decide +kernel
theorem dL_law_710 : decode cL_law 710 = .ok (.aload_n 1, 1) := by decide +kernel
theorem dL_law_711 : decode cL_law 711 = .ok (.aload_n 0, 1) := by decide +kernel
theorem dL_law_712 : decode cL_law 712 = .ok (.iload_n 3, 1) := by decide +kernel
theorem dL_law_713 : decode cL_law 713 = .ok (.iconst 1, 1) := by decide +kernel
theorem dL_law_714 : decode cL_law 714 = .ok (.iadd, 1) := by decide +kernel
theorem dL_law_715 : decode cL_law 715 = .ok (.iaload, 1) := by decide +kernel
theorem dL_law_716 : decode cL_law 716 = .ok (.aload_n 0, 1) := by decide +kernel
theorem dL_law_717 : decode cL_law 717 = .ok (.iload_n 3, 1) := by decide +kernel
theorem dL_law_718 : decode cL_law 718 = .ok (.iconst 2, 1) := by decide +kernel
theorem dL_law_719 : decode cL_law 719 = .ok (.iadd, 1) := by decide +kernel
theorem dL_law_720 : decode cL_law 720 = .ok (.iaload, 1) := by decide +kernel
theorem dL_law_721 : decode cL_law 721 = .ok (.invokevirtual 93, 3) := by decide +kernel
theorem dL_law_724 : decode cL_law 724 = .ok (.aload_n 2, 1) := by decide +kernel
theorem dL_law_725 : decode cL_law 725 = .ok (.aload_n 0, 1) := by decide +kernel
theorem dL_law_726 : decode cL_law 726 = .ok (.iload_n 3, 1) := by decide +kernel
theorem dL_law_727 : decode cL_law 727 = .ok (.iconst 1, 1) := by decide +kernel
theorem dL_law_728 : decode cL_law 728 = .ok (.iadd, 1) := by decide +kernel
theorem dL_law_729 : decode cL_law 729 = .ok (.iaload, 1) := by decide +kernel
theorem dL_law_730 : decode cL_law 730 = .ok (.aload_n 0, 1) := by decide +kernel
theorem dL_law_731 : decode cL_law 731 = .ok (.iload_n 3, 1) := by decide +kernel
theorem dL_law_732 : decode cL_law 732 = .ok (.iconst 2, 1) := by decide +kernel
theorem dL_law_733 : decode cL_law 733 = .ok (.iadd, 1) := by decide +kernel
theorem dL_law_734 : decode cL_law 734 = .ok (.iaload, 1) := by decide +kernel
theorem dL_law_735 : decode cL_law 735 = .ok (.invokevirtual 96, 3) := by decide +kernel
theorem dL_law_738 : decode cL_law 738 = .ok (.if_icmp .eq 201, 3) := by decide +kernel
theorem dL_law_741 : decode cL_law 741 = .ok (.iconst 0, 1) := by decide +kernel
theorem dL_law_742 : decode cL_law 742 = .ok (.ireturn, 1) := by decide +kernel
theorem dL_law_743 : decode cL_law 743 = .ok (.aload_n 1, 1) := by decide +kernel
theorem dL_law_744 : decode cL_law 744 = .ok (.aload_n 0, 1) := by decide +kernel
theorem dL_law_745 : decode cL_law 745 = .ok (.iload_n 3, 1) := by decide +kernel
theorem dL_law_746 : decode cL_law 746 = .ok (.iconst 1, 1) := by decide +kernel
theorem dL_law_747 : decode cL_law 747 = .ok (.iadd, 1) := by decide +kernel
theorem dL_law_748 : decode cL_law 748 = .ok (.iaload, 1) := by decide +kernel
theorem dL_law_749 : decode cL_law 749 = .ok (.aload_n 0, 1) := by decide +kernel
theorem dL_law_750 : decode cL_law 750 = .ok (.iload_n 3, 1) := by decide +kernel
theorem dL_law_751 : decode cL_law 751 = .ok (.iconst 2, 1) := by decide +kernel
theorem dL_law_752 : decode cL_law 752 = .ok (.iadd, 1) := by decide +kernel
theorem dL_law_753 : decode cL_law 753 = .ok (.iaload, 1) := by decide +kernel
theorem dL_law_754 : decode cL_law 754 = .ok (.invokevirtual 97, 3) := by decide +kernel
theorem dL_law_757 : decode cL_law 757 = .ok (.aload_n 2, 1) := by decide +kernel
theorem dL_law_758 : decode cL_law 758 = .ok (.aload_n 0, 1) := by decide +kernel
theorem dL_law_759 : decode cL_law 759 = .ok (.iload_n 3, 1) := by decide +kernel
theorem dL_law_760 : decode cL_law 760 = .ok (.iconst 1, 1) := by decide +kernel
theorem dL_law_761 : decode cL_law 761 = .ok (.iadd, 1) := by decide +kernel
theorem dL_law_762 : decode cL_law 762 = .ok (.iaload, 1) := by decide +kernel
theorem dL_law_763 : decode cL_law 763 = .ok (.aload_n 0, 1) := by decide +kernel
theorem dL_law_764 : decode cL_law 764 = .ok (.iload_n 3, 1) := by decide +kernel
theorem dL_law_765 : decode cL_law 765 = .ok (.iconst 2, 1) := by decide +kernel
theorem dL_law_766 : decode cL_law 766 = .ok (.iadd, 1) := by decide +kernel
theorem dL_law_767 : decode cL_law 767 = .ok (.iaload, 1) := by decide +kernel
theorem dL_law_768 : decode cL_law 768 = .ok (.invokevirtual 100, 3) := by decide +kernel
theorem dL_law_771 : decode cL_law 771 = .ok (.if_icmp .eq 168, 3) := by decide +kernel
theorem dL_law_774 : decode cL_law 774 = .ok (.iconst 0, 1) := by decide +kernel
theorem dL_law_775 : decode cL_law 775 = .ok (.ireturn, 1) := by decide +kernel
theorem dL_law_776 : decode cL_law 776 = .ok (.aload_n 1, 1) := by decide +kernel
theorem dL_law_777 : decode cL_law 777 = .ok (.aload_n 0, 1) := by decide +kernel
theorem dL_law_778 : decode cL_law 778 = .ok (.iload_n 3, 1) := by decide +kernel
theorem dL_law_779 : decode cL_law 779 = .ok (.iconst 1, 1) := by decide +kernel
theorem dL_law_780 : decode cL_law 780 = .ok (.iadd, 1) := by decide +kernel
theorem dL_law_781 : decode cL_law 781 = .ok (.iaload, 1) := by decide +kernel
theorem dL_law_782 : decode cL_law 782 = .ok (.aload_n 0, 1) := by decide +kernel
theorem dL_law_783 : decode cL_law 783 = .ok (.iload_n 3, 1) := by decide +kernel
theorem dL_law_784 : decode cL_law 784 = .ok (.iconst 2, 1) := by decide +kernel
theorem dL_law_785 : decode cL_law 785 = .ok (.iadd, 1) := by decide +kernel
theorem dL_law_786 : decode cL_law 786 = .ok (.iaload, 1) := by decide +kernel
theorem dL_law_787 : decode cL_law 787 = .ok (.invokevirtual 101, 3) := by decide +kernel
theorem dL_law_790 : decode cL_law 790 = .ok (.aload_n 2, 1) := by decide +kernel
theorem dL_law_791 : decode cL_law 791 = .ok (.aload_n 0, 1) := by decide +kernel
theorem dL_law_792 : decode cL_law 792 = .ok (.iload_n 3, 1) := by decide +kernel
theorem dL_law_793 : decode cL_law 793 = .ok (.iconst 1, 1) := by decide +kernel
theorem dL_law_794 : decode cL_law 794 = .ok (.iadd, 1) := by decide +kernel
theorem dL_law_795 : decode cL_law 795 = .ok (.iaload, 1) := by decide +kernel
theorem dL_law_796 : decode cL_law 796 = .ok (.aload_n 0, 1) := by decide +kernel
theorem dL_law_797 : decode cL_law 797 = .ok (.iload_n 3, 1) := by decide +kernel
theorem dL_law_798 : decode cL_law 798 = .ok (.iconst 2, 1) := by decide +kernel
theorem dL_law_799 : decode cL_law 799 = .ok (.iadd, 1) := by decide +kernel
theorem dL_law_800 : decode cL_law 800 = .ok (.iaload, 1) := by decide +kernel
theorem dL_law_801 : decode cL_law 801 = .ok (.invokevirtual 104, 3) := by decide +kernel
theorem dL_law_804 : decode cL_law 804 = .ok (.if_icmp .eq 135, 3) := by decide +kernel
theorem dL_law_807 : decode cL_law 807 = .ok (.iconst 0, 1) := by decide +kernel
theorem dL_law_808 : decode cL_law 808 = .ok (.ireturn, 1) := by decide +kernel
theorem dL_law_809 : decode cL_law 809 = .ok (.aload_n 1, 1) := by decide +kernel
theorem dL_law_810 : decode cL_law 810 = .ok (.aload_n 0, 1) := by decide +kernel
theorem dL_law_811 : decode cL_law 811 = .ok (.iload_n 3, 1) := by decide +kernel
theorem dL_law_812 : decode cL_law 812 = .ok (.iconst 1, 1) := by decide +kernel
theorem dL_law_813 : decode cL_law 813 = .ok (.iadd, 1) := by decide +kernel
theorem dL_law_814 : decode cL_law 814 = .ok (.iaload, 1) := by decide +kernel
theorem dL_law_815 : decode cL_law 815 = .ok (.invokevirtual 105, 3) := by decide +kernel
theorem dL_law_818 : decode cL_law 818 = .ok (.aload_n 2, 1) := by decide +kernel
theorem dL_law_819 : decode cL_law 819 = .ok (.aload_n 0, 1) := by decide +kernel
theorem dL_law_820 : decode cL_law 820 = .ok (.iload_n 3, 1) := by decide +kernel
theorem dL_law_821 : decode cL_law 821 = .ok (.iconst 1, 1) := by decide +kernel
theorem dL_law_822 : decode cL_law 822 = .ok (.iadd, 1) := by decide +kernel
theorem dL_law_823 : decode cL_law 823 = .ok (.iaload, 1) := by decide +kernel
theorem dL_law_824 : decode cL_law 824 = .ok (.invokevirtual 109, 3) := by decide +kernel
theorem dL_law_827 : decode cL_law 827 = .ok (.lcmp, 1) := by decide +kernel
theorem dL_law_828 : decode cL_law 828 = .ok (.ifCond .eq 111, 3) := by decide +kernel
theorem dL_law_831 : decode cL_law 831 = .ok (.iconst 0, 1) := by decide +kernel
theorem dL_law_832 : decode cL_law 832 = .ok (.ireturn, 1) := by decide +kernel
theorem dL_law_833 : decode cL_law 833 = .ok (.aload_n 1, 1) := by decide +kernel
theorem dL_law_834 : decode cL_law 834 = .ok (.aload_n 0, 1) := by decide +kernel
theorem dL_law_835 : decode cL_law 835 = .ok (.iload_n 3, 1) := by decide +kernel
theorem dL_law_836 : decode cL_law 836 = .ok (.iconst 1, 1) := by decide +kernel
theorem dL_law_837 : decode cL_law 837 = .ok (.iadd, 1) := by decide +kernel
theorem dL_law_838 : decode cL_law 838 = .ok (.iaload, 1) := by decide +kernel
theorem dL_law_839 : decode cL_law 839 = .ok (.invokevirtual 110, 3) := by decide +kernel
theorem dL_law_842 : decode cL_law 842 = .ok (.aload_n 2, 1) := by decide +kernel
theorem dL_law_843 : decode cL_law 843 = .ok (.aload_n 0, 1) := by decide +kernel
theorem dL_law_844 : decode cL_law 844 = .ok (.iload_n 3, 1) := by decide +kernel
theorem dL_law_845 : decode cL_law 845 = .ok (.iconst 1, 1) := by decide +kernel
theorem dL_law_846 : decode cL_law 846 = .ok (.iadd, 1) := by decide +kernel
theorem dL_law_847 : decode cL_law 847 = .ok (.iaload, 1) := by decide +kernel
theorem dL_law_848 : decode cL_law 848 = .ok (.invokevirtual 113, 3) := by decide +kernel
theorem dL_law_851 : decode cL_law 851 = .ok (.if_icmp .eq 88, 3) := by decide +kernel
theorem dL_law_854 : decode cL_law 854 = .ok (.iconst 0, 1) := by decide +kernel
theorem dL_law_855 : decode cL_law 855 = .ok (.ireturn, 1) := by decide +kernel
theorem dL_law_856 : decode cL_law 856 = .ok (.aload_n 1, 1) := by decide +kernel
theorem dL_law_857 : decode cL_law 857 = .ok (.aload_n 0, 1) := by decide +kernel
theorem dL_law_858 : decode cL_law 858 = .ok (.iload_n 3, 1) := by decide +kernel
theorem dL_law_859 : decode cL_law 859 = .ok (.iconst 1, 1) := by decide +kernel
theorem dL_law_860 : decode cL_law 860 = .ok (.iadd, 1) := by decide +kernel
theorem dL_law_861 : decode cL_law 861 = .ok (.iaload, 1) := by decide +kernel
theorem dL_law_862 : decode cL_law 862 = .ok (.invokevirtual 114, 3) := by decide +kernel
theorem dL_law_865 : decode cL_law 865 = .ok (.aload_n 2, 1) := by decide +kernel
theorem dL_law_866 : decode cL_law 866 = .ok (.aload_n 0, 1) := by decide +kernel
theorem dL_law_867 : decode cL_law 867 = .ok (.iload_n 3, 1) := by decide +kernel
theorem dL_law_868 : decode cL_law 868 = .ok (.iconst 1, 1) := by decide +kernel
theorem dL_law_869 : decode cL_law 869 = .ok (.iadd, 1) := by decide +kernel
theorem dL_law_870 : decode cL_law 870 = .ok (.iaload, 1) := by decide +kernel
theorem dL_law_871 : decode cL_law 871 = .ok (.invokevirtual 117, 3) := by decide +kernel
theorem dL_law_874 : decode cL_law 874 = .ok (.if_icmp .eq 65, 3) := by decide +kernel
theorem dL_law_877 : decode cL_law 877 = .ok (.iconst 0, 1) := by decide +kernel
theorem dL_law_878 : decode cL_law 878 = .ok (.ireturn, 1) := by decide +kernel
theorem dL_law_879 : decode cL_law 879 = .ok (.aload_n 1, 1) := by decide +kernel
theorem dL_law_880 : decode cL_law 880 = .ok (.aload_n 0, 1) := by decide +kernel
theorem dL_law_881 : decode cL_law 881 = .ok (.iload_n 3, 1) := by decide +kernel
theorem dL_law_882 : decode cL_law 882 = .ok (.iconst 1, 1) := by decide +kernel
theorem dL_law_883 : decode cL_law 883 = .ok (.iadd, 1) := by decide +kernel
theorem dL_law_884 : decode cL_law 884 = .ok (.iaload, 1) := by decide +kernel
theorem dL_law_885 : decode cL_law 885 = .ok (.invokevirtual 118, 3) := by decide +kernel
theorem dL_law_888 : decode cL_law 888 = .ok (.aload_n 2, 1) := by decide +kernel
theorem dL_law_889 : decode cL_law 889 = .ok (.aload_n 0, 1) := by decide +kernel
theorem dL_law_890 : decode cL_law 890 = .ok (.iload_n 3, 1) := by decide +kernel
theorem dL_law_891 : decode cL_law 891 = .ok (.iconst 1, 1) := by decide +kernel
theorem dL_law_892 : decode cL_law 892 = .ok (.iadd, 1) := by decide +kernel
theorem dL_law_893 : decode cL_law 893 = .ok (.iaload, 1) := by decide +kernel
theorem dL_law_894 : decode cL_law 894 = .ok (.invokevirtual 121, 3) := by decide +kernel
theorem dL_law_897 : decode cL_law 897 = .ok (.if_icmp .eq 42, 3) := by decide +kernel
theorem dL_law_900 : decode cL_law 900 = .ok (.iconst 0, 1) := by decide +kernel
theorem dL_law_901 : decode cL_law 901 = .ok (.ireturn, 1) := by decide +kernel
theorem dL_law_902 : decode cL_law 902 = .ok (.aload_n 1, 1) := by decide +kernel
theorem dL_law_903 : decode cL_law 903 = .ok (.aload_n 0, 1) := by decide +kernel
theorem dL_law_904 : decode cL_law 904 = .ok (.iload_n 3, 1) := by decide +kernel
theorem dL_law_905 : decode cL_law 905 = .ok (.iconst 1, 1) := by decide +kernel
theorem dL_law_906 : decode cL_law 906 = .ok (.iadd, 1) := by decide +kernel
theorem dL_law_907 : decode cL_law 907 = .ok (.iaload, 1) := by decide +kernel
theorem dL_law_908 : decode cL_law 908 = .ok (.invokevirtual 122, 3) := by decide +kernel
theorem dL_law_911 : decode cL_law 911 = .ok (.aload_n 2, 1) := by decide +kernel
theorem dL_law_912 : decode cL_law 912 = .ok (.aload_n 0, 1) := by decide +kernel
theorem dL_law_913 : decode cL_law 913 = .ok (.iload_n 3, 1) := by decide +kernel
theorem dL_law_914 : decode cL_law 914 = .ok (.iconst 1, 1) := by decide +kernel
theorem dL_law_915 : decode cL_law 915 = .ok (.iadd, 1) := by decide +kernel
theorem dL_law_916 : decode cL_law 916 = .ok (.iaload, 1) := by decide +kernel
theorem dL_law_917 : decode cL_law 917 = .ok (.invokevirtual 125, 3) := by decide +kernel
theorem dL_law_920 : decode cL_law 920 = .ok (.if_icmp .eq 19, 3) := by decide +kernel
theorem dL_law_923 : decode cL_law 923 = .ok (.iconst 0, 1) := by decide +kernel
theorem dL_law_924 : decode cL_law 924 = .ok (.ireturn, 1) := by decide +kernel
theorem dL_law_925 : decode cL_law 925 = .ok (.aload_n 1, 1) := by decide +kernel
theorem dL_law_926 : decode cL_law 926 = .ok (.invokevirtual 126, 3) := by decide +kernel
theorem dL_law_929 : decode cL_law 929 = .ok (.aload_n 2, 1) := by decide +kernel
theorem dL_law_930 : decode cL_law 930 = .ok (.invokevirtual 130, 3) := by decide +kernel
theorem dL_law_933 : decode cL_law 933 = .ok (.lcmp, 1) := by decide +kernel
theorem dL_law_934 : decode cL_law 934 = .ok (.ifCond .eq 5, 3) := by decide +kernel
theorem dL_law_937 : decode cL_law 937 = .ok (.iconst 0, 1) := by decide +kernel
theorem dL_law_938 : decode cL_law 938 = .ok (.ireturn, 1) := by decide +kernel
theorem dL_law_939 : decode cL_law 939 = .ok (.iinc 3 5, 3) := by decide +kernel
theorem dL_law_942 : decode cL_law 942 = .ok (.goto (-924), 3) := by decide +kernel
theorem dL_law_945 : decode cL_law 945 = .ok (.iconst 1, 1) := by decide +kernel
theorem dL_law_946 : decode cL_law 946 = .ok (.ireturn, 1) := by decide +kernel
