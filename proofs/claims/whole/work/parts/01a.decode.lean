theorem dX0_init_0 : decode cX0_init 0 = .ok (.aload_n 0, 1) := by decide +kernel
theorem dX0_init_1 : decode cX0_init 1 = .ok (.invokespecial 3, 3) := by decide +kernel
theorem dX0_init_4 : decode cX0_init 4 = .ok (.aload_n 0, 1) := by decide +kernel
theorem dX0_init_5 : decode cX0_init 5 = .ok (.bipush 20, 2) := by decide +kernel
theorem dX0_init_7 : decode cX0_init 7 = .ok (.newarray .int, 2) := by decide +kernel
theorem dX0_init_9 : decode cX0_init 9 = .ok (.putfield 9, 3) := by decide +kernel
theorem dX0_init_12 : decode cX0_init 12 = .ok (.return_, 1) := by decide +kernel
theorem dX0_forget_0 : decode cX0_forget 0 = .ok (.aload_n 0, 1) := by decide +kernel
theorem dX0_forget_1 : decode cX0_forget 1 = .ok (.iconst 0, 1) := by decide +kernel
theorem dX0_forget_2 : decode cX0_forget 2 = .ok (.putfield 15, 3) := by decide +kernel
theorem dX0_forget_5 : decode cX0_forget 5 = .ok (.return_, 1) := by decide +kernel
theorem dX0_perform_0 : decode cX0_perform 0 = .ok (.aload_n 1, 1) := by decide +kernel
theorem dX0_perform_1 : decode cX0_perform 1 = .ok (.iload_n 2, 1) := by decide +kernel
theorem dX0_perform_2 : decode cX0_perform 2 = .ok (.invokevirtual 19, 3) := by decide +kernel
theorem dX0_perform_5 : decode cX0_perform 5 = .ok (.ifCond .ne 5, 3) := by decide +kernel
theorem dX0_perform_8 : decode cX0_perform 8 = .ok (.iconst 0, 1) := by decide +kernel
theorem dX0_perform_9 : decode cX0_perform 9 = .ok (.ireturn, 1) := by decide +kernel
theorem dX0_perform_10 : decode cX0_perform 10 = .ok (.aload_n 0, 1) := by decide +kernel
theorem dX0_perform_11 : decode cX0_perform 11 = .ok (.aload_n 1, 1) := by decide +kernel
theorem dX0_perform_12 : decode cX0_perform 12 = .ok (.getfield 25, 3) := by decide +kernel
theorem dX0_perform_15 : decode cX0_perform 15 = .ok (.iload_n 2, 1) := by decide +kernel
theorem dX0_perform_16 : decode cX0_perform 16 = .ok (.iaload, 1) := by decide +kernel
theorem dX0_perform_17 : decode cX0_perform 17 = .ok (.putfield 28, 3) := by decide +kernel
theorem dX0_perform_20 : decode cX0_perform 20 = .ok (.aload_n 0, 1) := by decide +kernel
theorem dX0_perform_21 : decode cX0_perform 21 = .ok (.aload_n 1, 1) := by decide +kernel
theorem dX0_perform_22 : decode cX0_perform 22 = .ok (.getfield 31, 3) := by decide +kernel
theorem dX0_perform_25 : decode cX0_perform 25 = .ok (.iload_n 2, 1) := by decide +kernel
theorem dX0_perform_26 : decode cX0_perform 26 = .ok (.iaload, 1) := by decide +kernel
theorem dX0_perform_27 : decode cX0_perform 27 = .ok (.putfield 34, 3) := by decide +kernel
theorem dX0_perform_30 : decode cX0_perform 30 = .ok (.aload_n 0, 1) := by decide +kernel
theorem dX0_perform_31 : decode cX0_perform 31 = .ok (.iload_n 2, 1) := by decide +kernel
theorem dX0_perform_32 : decode cX0_perform 32 = .ok (.putfield 37, 3) := by decide +kernel
theorem dX0_perform_35 : decode cX0_perform 35 = .ok (.aload_n 0, 1) := by decide +kernel
theorem dX0_perform_36 : decode cX0_perform 36 = .ok (.aload_n 0, 1) := by decide +kernel
theorem dX0_perform_37 : decode cX0_perform 37 = .ok (.getfield 28, 3) := by decide +kernel
theorem dX0_perform_40 : decode cX0_perform 40 = .ok (.iload_n 3, 1) := by decide +kernel
theorem dX0_perform_41 : decode cX0_perform 41 = .ok (.iload 4, 2) := by decide +kernel
theorem dX0_perform_43 : decode cX0_perform 43 = .ok (.iconst 0, 1) := by decide +kernel
theorem dX0_perform_44 : decode cX0_perform 44 = .ok (.invokevirtual 40, 3) := by decide +kernel
theorem dX0_perform_47 : decode cX0_perform 47 = .ok (.ireturn, 1) := by decide +kernel
theorem dX0_bodyOf_0 : decode cX0_bodyOf 0 = .ok (.iload_n 0, 1) := by decide +kernel
theorem dX0_bodyOf_1 : decode cX0_bodyOf 1 = .ok (.ifCond .lt 18, 3) := by decide +kernel
theorem dX0_bodyOf_4 : decode cX0_bodyOf 4 = .ok (.iload_n 0, 1) := by decide +kernel
theorem dX0_bodyOf_5 : decode cX0_bodyOf 5 = .ok (.bipush 7, 2) := by decide +kernel
theorem dX0_bodyOf_7 : decode cX0_bodyOf 7 = .ok (.if_icmp .ge 12, 3) := by decide +kernel
theorem dX0_bodyOf_10 : decode cX0_bodyOf 10 = .ok (.iload_n 1, 1) := by decide +kernel
theorem dX0_bodyOf_11 : decode cX0_bodyOf 11 = .ok (.ifCond .lt 8, 3) := by decide +kernel
theorem dX0_bodyOf_14 : decode cX0_bodyOf 14 = .ok (.iload_n 1, 1) := by decide +kernel
theorem dX0_bodyOf_15 : decode cX0_bodyOf 15 = .ok (.iconst 3, 1) := by decide +kernel
theorem dX0_bodyOf_16 : decode cX0_bodyOf 16 = .ok (.if_icmp .lt 7, 3) := by decide +kernel
theorem dX0_bodyOf_19 : decode cX0_bodyOf 19 = .ok (.iconst 0, 1) := by decide +kernel
theorem dX0_bodyOf_20 : decode cX0_bodyOf 20 = .ok (.goto 12, 3) := by decide +kernel
theorem dX0_bodyOf_23 : decode cX0_bodyOf 23 = .ok (.getstatic 44, 3) := by decide +kernel
theorem dX0_bodyOf_26 : decode cX0_bodyOf 26 = .ok (.iload_n 0, 1) := by decide +kernel
theorem dX0_bodyOf_27 : decode cX0_bodyOf 27 = .ok (.iconst 3, 1) := by decide +kernel
theorem dX0_bodyOf_28 : decode cX0_bodyOf 28 = .ok (.imul, 1) := by decide +kernel
theorem dX0_bodyOf_29 : decode cX0_bodyOf 29 = .ok (.iload_n 1, 1) := by decide +kernel
theorem dX0_bodyOf_30 : decode cX0_bodyOf 30 = .ok (.iadd, 1) := by decide +kernel
theorem dX0_bodyOf_31 : decode cX0_bodyOf 31 = .ok (.iaload, 1) := by decide +kernel
theorem dX0_bodyOf_32 : decode cX0_bodyOf 32 = .ok (.ireturn, 1) := by decide +kernel
theorem dX0_note_0 : decode cX0_note 0 = .ok (.aload_n 0, 1) := by decide +kernel
theorem dX0_note_1 : decode cX0_note 1 = .ok (.getfield 15, 3) := by decide +kernel
theorem dX0_note_4 : decode cX0_note 4 = .ok (.bipush 20, 2) := by decide +kernel
theorem dX0_note_6 : decode cX0_note 6 = .ok (.if_icmp .ge 13, 3) := by decide +kernel
theorem dX0_note_9 : decode cX0_note 9 = .ok (.aload_n 0, 1) := by decide +kernel
theorem dX0_note_10 : decode cX0_note 10 = .ok (.getfield 9, 3) := by decide +kernel
theorem dX0_note_13 : decode cX0_note 13 = .ok (.aload_n 0, 1) := by decide +kernel
theorem dX0_note_14 : decode cX0_note 14 = .ok (.getfield 15, 3) := by decide +kernel
theorem dX0_note_17 : decode cX0_note 17 = .ok (.iload_n 1, 1) := by decide +kernel
theorem dX0_note_18 : decode cX0_note 18 = .ok (.iastore, 1) := by decide +kernel
theorem dX0_note_19 : decode cX0_note 19 = .ok (.aload_n 0, 1) := by decide +kernel
theorem dX0_note_20 : decode cX0_note 20 = .ok (.dup, 1) := by decide +kernel
theorem dX0_note_21 : decode cX0_note 21 = .ok (.getfield 15, 3) := by decide +kernel
theorem dX0_note_24 : decode cX0_note 24 = .ok (.iconst 1, 1) := by decide +kernel
theorem dX0_note_25 : decode cX0_note 25 = .ok (.iadd, 1) := by decide +kernel
theorem dX0_note_26 : decode cX0_note 26 = .ok (.putfield 15, 3) := by decide +kernel
theorem dX0_note_29 : decode cX0_note 29 = .ok (.return_, 1) := by decide +kernel
theorem dX0_run_0 : decode cX0_run 0 = .ok (.iload 4, 2) := by decide +kernel
theorem dX0_run_2 : decode cX0_run 2 = .ok (.bipush 20, 2) := by decide +kernel
theorem dX0_run_4 : decode cX0_run 4 = .ok (.if_icmp .lt 5, 3) := by decide +kernel
theorem dX0_run_7 : decode cX0_run 7 = .ok (.iconst 0, 1) := by decide +kernel
theorem dX0_run_8 : decode cX0_run 8 = .ok (.ireturn, 1) := by decide +kernel
theorem dX0_run_9 : decode cX0_run 9 = .ok (.iload_n 1, 1) := by decide +kernel
theorem dX0_run_10 : decode cX0_run 10 = .ok (.istore 5, 2) := by decide +kernel
theorem dX0_run_12 : decode cX0_run 12 = .ok (.iconst 0, 1) := by decide +kernel
theorem dX0_run_13 : decode cX0_run 13 = .ok (.istore 6, 2) := by decide +kernel
theorem dX0_run_15 : decode cX0_run 15 = .ok (.iload 6, 2) := by decide +kernel
theorem dX0_run_17 : decode cX0_run 17 = .ok (.bipush 7, 2) := by decide +kernel
theorem dX0_run_19 : decode cX0_run 19 = .ok (.if_icmp .ge 25, 3) := by decide +kernel
theorem dX0_run_22 : decode cX0_run 22 = .ok (.iload 5, 2) := by decide +kernel
theorem dX0_run_24 : decode cX0_run 24 = .ok (.iload_n 2, 1) := by decide +kernel
theorem dX0_run_25 : decode cX0_run 25 = .ok (.invokestatic 47, 3) := by decide +kernel
theorem dX0_run_28 : decode cX0_run 28 = .ok (.ifCond .ne 16, 3) := by decide +kernel
theorem dX0_run_31 : decode cX0_run 31 = .ok (.iload 5, 2) := by decide +kernel
theorem dX0_run_33 : decode cX0_run 33 = .ok (.invokestatic 51, 3) := by decide +kernel
theorem dX0_run_36 : decode cX0_run 36 = .ok (.istore 5, 2) := by decide +kernel
theorem dX0_run_38 : decode cX0_run 38 = .ok (.iinc 6 1, 3) := by decide +kernel
theorem dX0_run_41 : decode cX0_run 41 = .ok (.goto (-26), 3) := by decide +kernel
theorem dX0_run_44 : decode cX0_run 44 = .ok (.iload 5, 2) := by decide +kernel
theorem dX0_run_46 : decode cX0_run 46 = .ok (.iload_n 2, 1) := by decide +kernel
theorem dX0_run_47 : decode cX0_run 47 = .ok (.invokestatic 47, 3) := by decide +kernel
theorem dX0_run_50 : decode cX0_run 50 = .ok (.istore 6, 2) := by decide +kernel
theorem dX0_run_52 : decode cX0_run 52 = .ok (.iload 5, 2) := by decide +kernel
theorem dX0_run_54 : decode cX0_run 54 = .ok (.invokestatic 51, 3) := by decide +kernel
theorem dX0_run_57 : decode cX0_run 57 = .ok (.istore 7, 2) := by decide +kernel
theorem dX0_run_59 : decode cX0_run 59 = .ok (.iload 4, 2) := by decide +kernel
theorem dX0_run_61 : decode cX0_run 61 = .ok (.iconst 1, 1) := by decide +kernel
theorem dX0_run_62 : decode cX0_run 62 = .ok (.iadd, 1) := by decide +kernel
theorem dX0_run_63 : decode cX0_run 63 = .ok (.istore 8, 2) := by decide +kernel
theorem dX0_run_65 : decode cX0_run 65 = .ok (.aload_n 0, 1) := by decide +kernel
theorem dX0_run_66 : decode cX0_run 66 = .ok (.iload 6, 2) := by decide +kernel
theorem dX0_run_68 : decode cX0_run 68 = .ok (.invokevirtual 55, 3) := by decide +kernel
theorem dX0_run_71 : decode cX0_run 71 = .ok (.iload 6, 2) := by decide +kernel
theorem dX0_run_73 : decode cX0_run 73 = .ok (.lookupswitch 220 #[(1, 83), (2, 90), (3, 108), (11, 123), (21, 136), (31, 148), (41, 162), (51, 188), (61, 204)], 83) := by decide +kernel
theorem dX0_run_156 : decode cX0_run 156 = .ok (.iload_n 3, 1) := by decide +kernel
theorem dX0_run_157 : decode cX0_run 157 = .ok (.aload_n 0, 1) := by decide +kernel
theorem dX0_run_158 : decode cX0_run 158 = .ok (.getfield 37, 3) := by decide +kernel
theorem dX0_run_161 : decode cX0_run 161 = .ok (.iadd, 1) := by decide +kernel
theorem dX0_run_162 : decode cX0_run 162 = .ok (.ireturn, 1) := by decide +kernel
theorem dX0_run_163 : decode cX0_run 163 = .ok (.aload_n 0, 1) := by decide +kernel
theorem dX0_run_164 : decode cX0_run 164 = .ok (.aload_n 0, 1) := by decide +kernel
theorem dX0_run_165 : decode cX0_run 165 = .ok (.getfield 28, 3) := by decide +kernel
theorem dX0_run_168 : decode cX0_run 168 = .ok (.iconst 0, 1) := by decide +kernel
theorem dX0_run_169 : decode cX0_run 169 = .ok (.iload_n 3, 1) := by decide +kernel
theorem dX0_run_170 : decode cX0_run 170 = .ok (.iload 8, 2) := by decide +kernel
theorem dX0_run_172 : decode cX0_run 172 = .ok (.invokevirtual 40, 3) := by decide +kernel
theorem dX0_run_175 : decode cX0_run 175 = .ok (.aload_n 0, 1) := by decide +kernel
theorem dX0_run_176 : decode cX0_run 176 = .ok (.getfield 34, 3) := by decide +kernel
theorem dX0_run_179 : decode cX0_run 179 = .ok (.isub, 1) := by decide +kernel
theorem dX0_run_180 : decode cX0_run 180 = .ok (.ireturn, 1) := by decide +kernel
theorem dX0_run_181 : decode cX0_run 181 = .ok (.aload_n 0, 1) := by decide +kernel
theorem dX0_run_182 : decode cX0_run 182 = .ok (.aload_n 0, 1) := by decide +kernel
theorem dX0_run_183 : decode cX0_run 183 = .ok (.getfield 28, 3) := by decide +kernel
theorem dX0_run_186 : decode cX0_run 186 = .ok (.iconst 1, 1) := by decide +kernel
theorem dX0_run_187 : decode cX0_run 187 = .ok (.iload_n 3, 1) := by decide +kernel
theorem dX0_run_188 : decode cX0_run 188 = .ok (.iload 8, 2) := by decide +kernel
theorem dX0_run_190 : decode cX0_run 190 = .ok (.invokevirtual 40, 3) := by decide +kernel
theorem dX0_run_193 : decode cX0_run 193 = .ok (.iconst 2, 1) := by decide +kernel
theorem dX0_run_194 : decode cX0_run 194 = .ok (.imul, 1) := by decide +kernel
theorem dX0_run_195 : decode cX0_run 195 = .ok (.ireturn, 1) := by decide +kernel
theorem dX0_run_196 : decode cX0_run 196 = .ok (.aload_n 0, 1) := by decide +kernel
theorem dX0_run_197 : decode cX0_run 197 = .ok (.iload 7, 2) := by decide +kernel
theorem dX0_run_199 : decode cX0_run 199 = .ok (.iconst 0, 1) := by decide +kernel
theorem dX0_run_200 : decode cX0_run 200 = .ok (.iload_n 3, 1) := by decide +kernel
theorem dX0_run_201 : decode cX0_run 201 = .ok (.iconst 3, 1) := by decide +kernel
theorem dX0_run_202 : decode cX0_run 202 = .ok (.imul, 1) := by decide +kernel
theorem dX0_run_203 : decode cX0_run 203 = .ok (.iload 8, 2) := by decide +kernel
theorem dX0_run_205 : decode cX0_run 205 = .ok (.invokevirtual 40, 3) := by decide +kernel
theorem dX0_run_208 : decode cX0_run 208 = .ok (.ireturn, 1) := by decide +kernel
theorem dX0_run_209 : decode cX0_run 209 = .ok (.aload_n 0, 1) := by decide +kernel
theorem dX0_run_210 : decode cX0_run 210 = .ok (.iload 7, 2) := by decide +kernel
theorem dX0_run_212 : decode cX0_run 212 = .ok (.iconst 1, 1) := by decide +kernel
theorem dX0_run_213 : decode cX0_run 213 = .ok (.iload_n 3, 1) := by decide +kernel
theorem dX0_run_214 : decode cX0_run 214 = .ok (.iload 8, 2) := by decide +kernel
theorem dX0_run_216 : decode cX0_run 216 = .ok (.invokevirtual 40, 3) := by decide +kernel
theorem dX0_run_219 : decode cX0_run 219 = .ok (.ineg, 1) := by decide +kernel
theorem dX0_run_220 : decode cX0_run 220 = .ok (.ireturn, 1) := by decide +kernel
theorem dX0_run_221 : decode cX0_run 221 = .ok (.aload_n 0, 1) := by decide +kernel
theorem dX0_run_222 : decode cX0_run 222 = .ok (.iload 7, 2) := by decide +kernel
theorem dX0_run_224 : decode cX0_run 224 = .ok (.iconst 2, 1) := by decide +kernel
theorem dX0_run_225 : decode cX0_run 225 = .ok (.iload_n 3, 1) := by decide +kernel
theorem dX0_run_226 : decode cX0_run 226 = .ok (.iload 8, 2) := by decide +kernel
theorem dX0_run_228 : decode cX0_run 228 = .ok (.invokevirtual 40, 3) := by decide +kernel
theorem dX0_run_231 : decode cX0_run 231 = .ok (.bipush 7, 2) := by decide +kernel
theorem dX0_run_233 : decode cX0_run 233 = .ok (.ixor, 1) := by decide +kernel
theorem dX0_run_234 : decode cX0_run 234 = .ok (.ireturn, 1) := by decide +kernel
theorem dX0_run_235 : decode cX0_run 235 = .ok (.aload_n 0, 1) := by decide +kernel
theorem dX0_run_236 : decode cX0_run 236 = .ok (.iload 7, 2) := by decide +kernel
theorem dX0_run_238 : decode cX0_run 238 = .ok (.iconst 2, 1) := by decide +kernel
theorem dX0_run_239 : decode cX0_run 239 = .ok (.iload_n 3, 1) := by decide +kernel
theorem dX0_run_240 : decode cX0_run 240 = .ok (.iconst 1, 1) := by decide +kernel
theorem dX0_run_241 : decode cX0_run 241 = .ok (.isub, 1) := by decide +kernel
theorem dX0_run_242 : decode cX0_run 242 = .ok (.iload 8, 2) := by decide +kernel
theorem dX0_run_244 : decode cX0_run 244 = .ok (.invokevirtual 40, 3) := by decide +kernel
theorem dX0_run_247 : decode cX0_run 247 = .ok (.aload_n 0, 1) := by decide +kernel
theorem dX0_run_248 : decode cX0_run 248 = .ok (.aload_n 0, 1) := by decide +kernel
theorem dX0_run_249 : decode cX0_run 249 = .ok (.getfield 28, 3) := by decide +kernel
theorem dX0_run_252 : decode cX0_run 252 = .ok (.iconst 0, 1) := by decide +kernel
theorem dX0_run_253 : decode cX0_run 253 = .ok (.iconst 2, 1) := by decide +kernel
theorem dX0_run_254 : decode cX0_run 254 = .ok (.iload 8, 2) := by decide +kernel
theorem dX0_run_256 : decode cX0_run 256 = .ok (.invokevirtual 40, 3) := by decide +kernel
theorem dX0_run_259 : decode cX0_run 259 = .ok (.iadd, 1) := by decide +kernel
theorem dX0_run_260 : decode cX0_run 260 = .ok (.ireturn, 1) := by decide +kernel
theorem dX0_run_261 : decode cX0_run 261 = .ok (.aload_n 0, 1) := by decide +kernel
theorem dX0_run_262 : decode cX0_run 262 = .ok (.iload 7, 2) := by decide +kernel
theorem dX0_run_264 : decode cX0_run 264 = .ok (.iconst 0, 1) := by decide +kernel
theorem dX0_run_265 : decode cX0_run 265 = .ok (.iload_n 3, 1) := by decide +kernel
theorem dX0_run_266 : decode cX0_run 266 = .ok (.iload 8, 2) := by decide +kernel
theorem dX0_run_268 : decode cX0_run 268 = .ok (.invokevirtual 40, 3) := by decide +kernel
theorem dX0_run_271 : decode cX0_run 271 = .ok (.aload_n 0, 1) := by decide +kernel
theorem dX0_run_272 : decode cX0_run 272 = .ok (.getfield 37, 3) := by decide +kernel
theorem dX0_run_275 : decode cX0_run 275 = .ok (.ixor, 1) := by decide +kernel
theorem dX0_run_276 : decode cX0_run 276 = .ok (.ireturn, 1) := by decide +kernel
theorem dX0_run_277 : decode cX0_run 277 = .ok (.aload_n 0, 1) := by decide +kernel
theorem dX0_run_278 : decode cX0_run 278 = .ok (.iload 7, 2) := by decide +kernel
theorem dX0_run_280 : decode cX0_run 280 = .ok (.iconst 1, 1) := by decide +kernel
theorem dX0_run_281 : decode cX0_run 281 = .ok (.iload_n 3, 1) := by decide +kernel
theorem dX0_run_282 : decode cX0_run 282 = .ok (.iload 8, 2) := by decide +kernel
theorem dX0_run_284 : decode cX0_run 284 = .ok (.invokevirtual 40, 3) := by decide +kernel
theorem dX0_run_287 : decode cX0_run 287 = .ok (.aload_n 0, 1) := by decide +kernel
theorem dX0_run_288 : decode cX0_run 288 = .ok (.getfield 34, 3) := by decide +kernel
theorem dX0_run_291 : decode cX0_run 291 = .ok (.iadd, 1) := by decide +kernel
theorem dX0_run_292 : decode cX0_run 292 = .ok (.ireturn, 1) := by decide +kernel
theorem dX0_run_293 : decode cX0_run 293 = .ok (.iconst 0, 1) := by decide +kernel
theorem dX0_run_294 : decode cX0_run 294 = .ok (.ireturn, 1) := by decide +kernel
theorem dX1_init_0 : decode cX1_init 0 = .ok (.aload_n 0, 1) := by decide +kernel
theorem dX1_init_1 : decode cX1_init 1 = .ok (.invokespecial 1, 3) := by decide +kernel
theorem dX1_init_4 : decode cX1_init 4 = .ok (.aload_n 0, 1) := by decide +kernel
theorem dX1_init_5 : decode cX1_init 5 = .ok (.new 7, 3) := by decide +kernel
theorem dX1_init_8 : decode cX1_init 8 = .ok (.dup, 1) := by decide +kernel
theorem dX1_init_9 : decode cX1_init 9 = .ok (.invokespecial 9, 3) := by decide +kernel
theorem dX1_init_12 : decode cX1_init 12 = .ok (.putfield 10, 3) := by decide +kernel
theorem dX1_init_15 : decode cX1_init 15 = .ok (.aload_n 0, 1) := by decide +kernel
theorem dX1_init_16 : decode cX1_init 16 = .ok (.new 7, 3) := by decide +kernel
theorem dX1_init_19 : decode cX1_init 19 = .ok (.dup, 1) := by decide +kernel
theorem dX1_init_20 : decode cX1_init 20 = .ok (.invokespecial 9, 3) := by decide +kernel
theorem dX1_init_23 : decode cX1_init 23 = .ok (.putfield 16, 3) := by decide +kernel
theorem dX1_init_26 : decode cX1_init 26 = .ok (.return_, 1) := by decide +kernel
theorem dX1_begin_0 : decode cX1_begin 0 = .ok (.aload_n 0, 1) := by decide +kernel
theorem dX1_begin_1 : decode cX1_begin 1 = .ok (.getfield 16, 3) := by decide +kernel
theorem dX1_begin_4 : decode cX1_begin 4 = .ok (.iload_n 1, 1) := by decide +kernel
theorem dX1_begin_5 : decode cX1_begin 5 = .ok (.invokevirtual 19, 3) := by decide +kernel
theorem dX1_begin_8 : decode cX1_begin 8 = .ok (.aload_n 0, 1) := by decide +kernel
theorem dX1_begin_9 : decode cX1_begin 9 = .ok (.iconst 0, 1) := by decide +kernel
theorem dX1_begin_10 : decode cX1_begin 10 = .ok (.putfield 23, 3) := by decide +kernel
theorem dX1_begin_13 : decode cX1_begin 13 = .ok (.return_, 1) := by decide +kernel
theorem dX1_consider_0 : decode cX1_consider 0 = .ok (.aload_n 0, 1) := by decide +kernel
theorem dX1_consider_1 : decode cX1_consider 1 = .ok (.getfield 23, 3) := by decide +kernel
theorem dX1_consider_4 : decode cX1_consider 4 = .ok (.ifCond .eq 19, 3) := by decide +kernel
theorem dX1_consider_7 : decode cX1_consider 7 = .ok (.lload_n 1, 1) := by decide +kernel
theorem dX1_consider_8 : decode cX1_consider 8 = .ok (.lload_n 3, 1) := by decide +kernel
theorem dX1_consider_9 : decode cX1_consider 9 = .ok (.aload_n 0, 1) := by decide +kernel
theorem dX1_consider_10 : decode cX1_consider 10 = .ok (.getfield 27, 3) := by decide +kernel
theorem dX1_consider_13 : decode cX1_consider 13 = .ok (.aload_n 0, 1) := by decide +kernel
theorem dX1_consider_14 : decode cX1_consider 14 = .ok (.getfield 31, 3) := by decide +kernel
theorem dX1_consider_17 : decode cX1_consider 17 = .ok (.invokestatic 34, 3) := by decide +kernel
theorem dX1_consider_20 : decode cX1_consider 20 = .ok (.goto 4, 3) := by decide +kernel
theorem dX1_consider_23 : decode cX1_consider 23 = .ok (.iconst 0, 1) := by decide +kernel
theorem dX1_consider_24 : decode cX1_consider 24 = .ok (.istore 6, 2) := by decide +kernel
theorem dX1_consider_26 : decode cX1_consider 26 = .ok (.aload_n 0, 1) := by decide +kernel
theorem dX1_consider_27 : decode cX1_consider 27 = .ok (.getfield 23, 3) := by decide +kernel
theorem dX1_consider_30 : decode cX1_consider 30 = .ok (.ifCond .eq 21, 3) := by decide +kernel
theorem dX1_consider_33 : decode cX1_consider 33 = .ok (.iload 5, 2) := by decide +kernel
theorem dX1_consider_35 : decode cX1_consider 35 = .ok (.ifCond .eq 11, 3) := by decide +kernel
theorem dX1_consider_38 : decode cX1_consider 38 = .ok (.iload 6, 2) := by decide +kernel
theorem dX1_consider_40 : decode cX1_consider 40 = .ok (.ifCond .le 37, 3) := by decide +kernel
theorem dX1_consider_43 : decode cX1_consider 43 = .ok (.goto 8, 3) := by decide +kernel
theorem dX1_consider_46 : decode cX1_consider 46 = .ok (.iload 6, 2) := by decide +kernel
theorem dX1_consider_48 : decode cX1_consider 48 = .ok (.ifCond .ge 29, 3) := by decide +kernel
theorem dX1_consider_51 : decode cX1_consider 51 = .ok (.aload_n 0, 1) := by decide +kernel
theorem dX1_consider_52 : decode cX1_consider 52 = .ok (.iconst 1, 1) := by decide +kernel
theorem dX1_consider_53 : decode cX1_consider 53 = .ok (.putfield 23, 3) := by decide +kernel
theorem dX1_consider_56 : decode cX1_consider 56 = .ok (.aload_n 0, 1) := by decide +kernel
theorem dX1_consider_57 : decode cX1_consider 57 = .ok (.getfield 10, 3) := by decide +kernel
theorem dX1_consider_60 : decode cX1_consider 60 = .ok (.aload_n 0, 1) := by decide +kernel
theorem dX1_consider_61 : decode cX1_consider 61 = .ok (.getfield 16, 3) := by decide +kernel
theorem dX1_consider_64 : decode cX1_consider 64 = .ok (.invokevirtual 40, 3) := by decide +kernel
theorem dX1_consider_67 : decode cX1_consider 67 = .ok (.aload_n 0, 1) := by decide +kernel
theorem dX1_consider_68 : decode cX1_consider 68 = .ok (.lload_n 1, 1) := by decide +kernel
theorem dX1_consider_69 : decode cX1_consider 69 = .ok (.putfield 27, 3) := by decide +kernel
theorem dX1_consider_72 : decode cX1_consider 72 = .ok (.aload_n 0, 1) := by decide +kernel
theorem dX1_consider_73 : decode cX1_consider 73 = .ok (.lload_n 3, 1) := by decide +kernel
theorem dX1_consider_74 : decode cX1_consider 74 = .ok (.putfield 31, 3) := by decide +kernel
theorem dX1_consider_77 : decode cX1_consider 77 = .ok (.return_, 1) := by decide +kernel
theorem dX1_considerWait_0 : decode cX1_considerWait 0 = .ok (.aload_n 0, 1) := by decide +kernel
theorem dX1_considerWait_1 : decode cX1_considerWait 1 = .ok (.aload_n 1, 1) := by decide +kernel
theorem dX1_considerWait_2 : decode cX1_considerWait 2 = .ok (.aload_n 0, 1) := by decide +kernel
theorem dX1_considerWait_3 : decode cX1_considerWait 3 = .ok (.getfield 16, 3) := by decide +kernel
theorem dX1_considerWait_6 : decode cX1_considerWait 6 = .ok (.aload_n 0, 1) := by decide +kernel
theorem dX1_considerWait_7 : decode cX1_considerWait 7 = .ok (.getfield 16, 3) := by decide +kernel
theorem dX1_considerWait_10 : decode cX1_considerWait 10 = .ok (.invokevirtual 44, 3) := by decide +kernel
theorem dX1_considerWait_13 : decode cX1_considerWait 13 = .ok (.aload_n 1, 1) := by decide +kernel
theorem dX1_considerWait_14 : decode cX1_considerWait 14 = .ok (.aload_n 0, 1) := by decide +kernel
theorem dX1_considerWait_15 : decode cX1_considerWait 15 = .ok (.getfield 16, 3) := by decide +kernel
theorem dX1_considerWait_18 : decode cX1_considerWait 18 = .ok (.invokevirtual 50, 3) := by decide +kernel
theorem dX1_considerWait_21 : decode cX1_considerWait 21 = .ok (.iload_n 2, 1) := by decide +kernel
theorem dX1_considerWait_22 : decode cX1_considerWait 22 = .ok (.invokevirtual 54, 3) := by decide +kernel
theorem dX1_considerWait_25 : decode cX1_considerWait 25 = .ok (.return_, 1) := by decide +kernel
theorem dX1_findBest_0 : decode cX1_findBest 0 = .ok (.aload_n 0, 1) := by decide +kernel
theorem dX1_findBest_1 : decode cX1_findBest 1 = .ok (.iload 4, 2) := by decide +kernel
theorem dX1_findBest_3 : decode cX1_findBest 3 = .ok (.invokevirtual 58, 3) := by decide +kernel
theorem dX1_findBest_6 : decode cX1_findBest 6 = .ok (.iconst 1, 1) := by decide +kernel
theorem dX1_findBest_7 : decode cX1_findBest 7 = .ok (.istore 5, 2) := by decide +kernel
theorem dX1_findBest_9 : decode cX1_findBest 9 = .ok (.iconst 0, 1) := by decide +kernel
theorem dX1_findBest_10 : decode cX1_findBest 10 = .ok (.istore 6, 2) := by decide +kernel
theorem dX1_findBest_12 : decode cX1_findBest 12 = .ok (.iload 6, 2) := by decide +kernel
theorem dX1_findBest_14 : decode cX1_findBest 14 = .ok (.bipush 81, 2) := by decide +kernel
theorem dX1_findBest_16 : decode cX1_findBest 16 = .ok (.if_icmp .ge 61, 3) := by decide +kernel
theorem dX1_findBest_19 : decode cX1_findBest 19 = .ok (.iload 5, 2) := by decide +kernel
theorem dX1_findBest_21 : decode cX1_findBest 21 = .ok (.ifCond .eq 56, 3) := by decide +kernel
theorem dX1_findBest_24 : decode cX1_findBest 24 = .ok (.aload_n 0, 1) := by decide +kernel
theorem dX1_findBest_25 : decode cX1_findBest 25 = .ok (.getfield 16, 3) := by decide +kernel
theorem dX1_findBest_28 : decode cX1_findBest 28 = .ok (.aload_n 3, 1) := by decide +kernel
theorem dX1_findBest_29 : decode cX1_findBest 29 = .ok (.invokevirtual 61, 3) := by decide +kernel
theorem dX1_findBest_32 : decode cX1_findBest 32 = .ok (.ifCond .eq 26, 3) := by decide +kernel
theorem dX1_findBest_35 : decode cX1_findBest 35 = .ok (.aload_n 2, 1) := by decide +kernel
theorem dX1_findBest_36 : decode cX1_findBest 36 = .ok (.aload_n 1, 1) := by decide +kernel
theorem dX1_findBest_37 : decode cX1_findBest 37 = .ok (.aload_n 0, 1) := by decide +kernel
theorem dX1_findBest_38 : decode cX1_findBest 38 = .ok (.getfield 16, 3) := by decide +kernel
theorem dX1_findBest_41 : decode cX1_findBest 41 = .ok (.aload_n 3, 1) := by decide +kernel
theorem dX1_findBest_42 : decode cX1_findBest 42 = .ok (.invokevirtual 65, 3) := by decide +kernel
theorem dX1_findBest_45 : decode cX1_findBest 45 = .ok (.aload_n 0, 1) := by decide +kernel
theorem dX1_findBest_46 : decode cX1_findBest 46 = .ok (.aload_n 2, 1) := by decide +kernel
theorem dX1_findBest_47 : decode cX1_findBest 47 = .ok (.getfield 71, 3) := by decide +kernel
theorem dX1_findBest_50 : decode cX1_findBest 50 = .ok (.aload_n 2, 1) := by decide +kernel
theorem dX1_findBest_51 : decode cX1_findBest 51 = .ok (.getfield 74, 3) := by decide +kernel
theorem dX1_findBest_54 : decode cX1_findBest 54 = .ok (.iconst 1, 1) := by decide +kernel
theorem dX1_findBest_55 : decode cX1_findBest 55 = .ok (.invokevirtual 54, 3) := by decide +kernel
theorem dX1_findBest_58 : decode cX1_findBest 58 = .ok (.aload_n 0, 1) := by decide +kernel
theorem dX1_findBest_59 : decode cX1_findBest 59 = .ok (.getfield 16, 3) := by decide +kernel
theorem dX1_findBest_62 : decode cX1_findBest 62 = .ok (.aload_n 1, 1) := by decide +kernel
theorem dX1_findBest_63 : decode cX1_findBest 63 = .ok (.getfield 77, 3) := by decide +kernel
theorem dX1_findBest_66 : decode cX1_findBest 66 = .ok (.invokevirtual 81, 3) := by decide +kernel
theorem dX1_findBest_69 : decode cX1_findBest 69 = .ok (.istore 5, 2) := by decide +kernel
theorem dX1_findBest_71 : decode cX1_findBest 71 = .ok (.iinc 6 1, 3) := by decide +kernel
theorem dX1_findBest_74 : decode cX1_findBest 74 = .ok (.goto (-62), 3) := by decide +kernel
theorem dX1_findBest_77 : decode cX1_findBest 77 = .ok (.aload_n 0, 1) := by decide +kernel
theorem dX1_findBest_78 : decode cX1_findBest 78 = .ok (.getfield 23, 3) := by decide +kernel
theorem dX1_findBest_81 : decode cX1_findBest 81 = .ok (.ireturn, 1) := by decide +kernel
theorem dX1_findSlowBest_0 : decode cX1_findSlowBest 0 = .ok (.aload_n 0, 1) := by decide +kernel
theorem dX1_findSlowBest_1 : decode cX1_findSlowBest 1 = .ok (.iload 4, 2) := by decide +kernel
theorem dX1_findSlowBest_3 : decode cX1_findSlowBest 3 = .ok (.invokevirtual 58, 3) := by decide +kernel
theorem dX1_findSlowBest_6 : decode cX1_findSlowBest 6 = .ok (.iconst 1, 1) := by decide +kernel
theorem dX1_findSlowBest_7 : decode cX1_findSlowBest 7 = .ok (.istore 5, 2) := by decide +kernel
theorem dX1_findSlowBest_9 : decode cX1_findSlowBest 9 = .ok (.iconst 0, 1) := by decide +kernel
theorem dX1_findSlowBest_10 : decode cX1_findSlowBest 10 = .ok (.istore 6, 2) := by decide +kernel
theorem dX1_findSlowBest_12 : decode cX1_findSlowBest 12 = .ok (.iload 6, 2) := by decide +kernel
theorem dX1_findSlowBest_14 : decode cX1_findSlowBest 14 = .ok (.bipush 81, 2) := by decide +kernel
theorem dX1_findSlowBest_16 : decode cX1_findSlowBest 16 = .ok (.if_icmp .ge 66, 3) := by decide +kernel
theorem dX1_findSlowBest_19 : decode cX1_findSlowBest 19 = .ok (.iload 5, 2) := by decide +kernel
theorem dX1_findSlowBest_21 : decode cX1_findSlowBest 21 = .ok (.ifCond .eq 61, 3) := by decide +kernel
theorem dX1_findSlowBest_24 : decode cX1_findSlowBest 24 = .ok (.aload_n 0, 1) := by decide +kernel
theorem dX1_findSlowBest_25 : decode cX1_findSlowBest 25 = .ok (.getfield 16, 3) := by decide +kernel
theorem dX1_findSlowBest_28 : decode cX1_findSlowBest 28 = .ok (.aload_n 3, 1) := by decide +kernel
theorem dX1_findSlowBest_29 : decode cX1_findSlowBest 29 = .ok (.invokevirtual 61, 3) := by decide +kernel
theorem dX1_findSlowBest_32 : decode cX1_findSlowBest 32 = .ok (.ifCond .eq 31, 3) := by decide +kernel
theorem dX1_findSlowBest_35 : decode cX1_findSlowBest 35 = .ok (.aload_n 2, 1) := by decide +kernel
theorem dX1_findSlowBest_36 : decode cX1_findSlowBest 36 = .ok (.aload_n 1, 1) := by decide +kernel
theorem dX1_findSlowBest_37 : decode cX1_findSlowBest 37 = .ok (.aload_n 0, 1) := by decide +kernel
theorem dX1_findSlowBest_38 : decode cX1_findSlowBest 38 = .ok (.getfield 16, 3) := by decide +kernel
theorem dX1_findSlowBest_41 : decode cX1_findSlowBest 41 = .ok (.aload_n 3, 1) := by decide +kernel
theorem dX1_findSlowBest_42 : decode cX1_findSlowBest 42 = .ok (.invokevirtual 65, 3) := by decide +kernel
theorem dX1_findSlowBest_45 : decode cX1_findSlowBest 45 = .ok (.aload_n 2, 1) := by decide +kernel
theorem dX1_findSlowBest_46 : decode cX1_findSlowBest 46 = .ok (.getfield 71, 3) := by decide +kernel
theorem dX1_findSlowBest_49 : decode cX1_findSlowBest 49 = .ok (.aload_n 2, 1) := by decide +kernel
theorem dX1_findSlowBest_50 : decode cX1_findSlowBest 50 = .ok (.getfield 85, 3) := by decide +kernel
theorem dX1_findSlowBest_53 : decode cX1_findSlowBest 53 = .ok (.lcmp, 1) := by decide +kernel
theorem dX1_findSlowBest_54 : decode cX1_findSlowBest 54 = .ok (.ifCond .lt 9, 3) := by decide +kernel
theorem dX1_findSlowBest_57 : decode cX1_findSlowBest 57 = .ok (.aload_n 0, 1) := by decide +kernel
theorem dX1_findSlowBest_58 : decode cX1_findSlowBest 58 = .ok (.aload_n 1, 1) := by decide +kernel
theorem dX1_findSlowBest_59 : decode cX1_findSlowBest 59 = .ok (.iconst 1, 1) := by decide +kernel
theorem dX1_findSlowBest_60 : decode cX1_findSlowBest 60 = .ok (.invokevirtual 88, 3) := by decide +kernel
theorem dX1_findSlowBest_63 : decode cX1_findSlowBest 63 = .ok (.aload_n 0, 1) := by decide +kernel
theorem dX1_findSlowBest_64 : decode cX1_findSlowBest 64 = .ok (.getfield 16, 3) := by decide +kernel
theorem dX1_findSlowBest_67 : decode cX1_findSlowBest 67 = .ok (.aload_n 1, 1) := by decide +kernel
theorem dX1_findSlowBest_68 : decode cX1_findSlowBest 68 = .ok (.getfield 77, 3) := by decide +kernel
theorem dX1_findSlowBest_71 : decode cX1_findSlowBest 71 = .ok (.invokevirtual 81, 3) := by decide +kernel
theorem dX1_findSlowBest_74 : decode cX1_findSlowBest 74 = .ok (.istore 5, 2) := by decide +kernel
theorem dX1_findSlowBest_76 : decode cX1_findSlowBest 76 = .ok (.iinc 6 1, 3) := by decide +kernel
theorem dX1_findSlowBest_79 : decode cX1_findSlowBest 79 = .ok (.goto (-67), 3) := by decide +kernel
theorem dX1_findSlowBest_82 : decode cX1_findSlowBest 82 = .ok (.aload_n 0, 1) := by decide +kernel
theorem dX1_findSlowBest_83 : decode cX1_findSlowBest 83 = .ok (.getfield 23, 3) := by decide +kernel
theorem dX1_findSlowBest_86 : decode cX1_findSlowBest 86 = .ok (.ireturn, 1) := by decide +kernel
theorem dX1_findByWait_0 : decode cX1_findByWait 0 = .ok (.aload_n 0, 1) := by decide +kernel
theorem dX1_findByWait_1 : decode cX1_findByWait 1 = .ok (.iload_n 2, 1) := by decide +kernel
theorem dX1_findByWait_2 : decode cX1_findByWait 2 = .ok (.invokevirtual 58, 3) := by decide +kernel
theorem dX1_findByWait_5 : decode cX1_findByWait 5 = .ok (.iconst 1, 1) := by decide +kernel
theorem dX1_findByWait_6 : decode cX1_findByWait 6 = .ok (.istore 4, 2) := by decide +kernel
theorem dX1_findByWait_8 : decode cX1_findByWait 8 = .ok (.iconst 0, 1) := by decide +kernel
theorem dX1_findByWait_9 : decode cX1_findByWait 9 = .ok (.istore 5, 2) := by decide +kernel
theorem dX1_findByWait_11 : decode cX1_findByWait 11 = .ok (.iload 5, 2) := by decide +kernel
theorem dX1_findByWait_13 : decode cX1_findByWait 13 = .ok (.bipush 81, 2) := by decide +kernel
theorem dX1_findByWait_15 : decode cX1_findByWait 15 = .ok (.if_icmp .ge 33, 3) := by decide +kernel
theorem dX1_findByWait_18 : decode cX1_findByWait 18 = .ok (.iload 4, 2) := by decide +kernel
theorem dX1_findByWait_20 : decode cX1_findByWait 20 = .ok (.ifCond .eq 28, 3) := by decide +kernel
theorem dX1_findByWait_23 : decode cX1_findByWait 23 = .ok (.aload_n 0, 1) := by decide +kernel
theorem dX1_findByWait_24 : decode cX1_findByWait 24 = .ok (.aload_n 1, 1) := by decide +kernel
theorem dX1_findByWait_25 : decode cX1_findByWait 25 = .ok (.iload_n 3, 1) := by decide +kernel
theorem dX1_findByWait_26 : decode cX1_findByWait 26 = .ok (.invokevirtual 88, 3) := by decide +kernel
theorem dX1_findByWait_29 : decode cX1_findByWait 29 = .ok (.aload_n 0, 1) := by decide +kernel
theorem dX1_findByWait_30 : decode cX1_findByWait 30 = .ok (.getfield 16, 3) := by decide +kernel
theorem dX1_findByWait_33 : decode cX1_findByWait 33 = .ok (.aload_n 1, 1) := by decide +kernel
theorem dX1_findByWait_34 : decode cX1_findByWait 34 = .ok (.getfield 77, 3) := by decide +kernel
theorem dX1_findByWait_37 : decode cX1_findByWait 37 = .ok (.invokevirtual 81, 3) := by decide +kernel
theorem dX1_findByWait_40 : decode cX1_findByWait 40 = .ok (.istore 4, 2) := by decide +kernel
theorem dX1_findByWait_42 : decode cX1_findByWait 42 = .ok (.iinc 5 1, 3) := by decide +kernel
theorem dX1_findByWait_45 : decode cX1_findByWait 45 = .ok (.goto (-34), 3) := by decide +kernel
theorem dX1_findByWait_48 : decode cX1_findByWait 48 = .ok (.return_, 1) := by decide +kernel
theorem dX1_findBeside_0 : decode cX1_findBeside 0 = .ok (.aload_n 2, 1) := by decide +kernel
theorem dX1_findBeside_1 : decode cX1_findBeside 1 = .ok (.aload_n 2, 1) := by decide +kernel
theorem dX1_findBeside_2 : decode cX1_findBeside 2 = .ok (.getfield 92, 3) := by decide +kernel
theorem dX1_findBeside_5 : decode cX1_findBeside 5 = .ok (.iconst 1, 1) := by decide +kernel
theorem dX1_findBeside_6 : decode cX1_findBeside 6 = .ok (.isub, 1) := by decide +kernel
theorem dX1_findBeside_7 : decode cX1_findBeside 7 = .ok (.invokevirtual 95, 3) := by decide +kernel
theorem dX1_findBeside_10 : decode cX1_findBeside 10 = .ok (.iconst 1, 1) := by decide +kernel
theorem dX1_findBeside_11 : decode cX1_findBeside 11 = .ok (.iadd, 1) := by decide +kernel
theorem dX1_findBeside_12 : decode cX1_findBeside 12 = .ok (.istore_n 3, 1) := by decide +kernel
theorem dX1_findBeside_13 : decode cX1_findBeside 13 = .ok (.aload_n 0, 1) := by decide +kernel
theorem dX1_findBeside_14 : decode cX1_findBeside 14 = .ok (.getfield 10, 3) := by decide +kernel
theorem dX1_findBeside_17 : decode cX1_findBeside 17 = .ok (.aload_n 2, 1) := by decide +kernel
theorem dX1_findBeside_18 : decode cX1_findBeside 18 = .ok (.invokevirtual 40, 3) := by decide +kernel
theorem dX1_findBeside_21 : decode cX1_findBeside 21 = .ok (.aload_n 0, 1) := by decide +kernel
theorem dX1_findBeside_22 : decode cX1_findBeside 22 = .ok (.getfield 10, 3) := by decide +kernel
theorem dX1_findBeside_25 : decode cX1_findBeside 25 = .ok (.iload_n 3, 1) := by decide +kernel
theorem dX1_findBeside_26 : decode cX1_findBeside 26 = .ok (.aload_n 1, 1) := by decide +kernel
theorem dX1_findBeside_27 : decode cX1_findBeside 27 = .ok (.getfield 77, 3) := by decide +kernel
theorem dX1_findBeside_30 : decode cX1_findBeside 30 = .ok (.if_icmp .ge 7, 3) := by decide +kernel
theorem dX1_findBeside_33 : decode cX1_findBeside 33 = .ok (.iload_n 3, 1) := by decide +kernel
theorem dX1_findBeside_34 : decode cX1_findBeside 34 = .ok (.goto 4, 3) := by decide +kernel
theorem dX1_findBeside_37 : decode cX1_findBeside 37 = .ok (.iconst 0, 1) := by decide +kernel
theorem dX1_findBeside_38 : decode cX1_findBeside 38 = .ok (.invokevirtual 99, 3) := by decide +kernel
theorem dX1_findBeside_41 : decode cX1_findBeside 41 = .ok (.return_, 1) := by decide +kernel
theorem dX2_init_0 : decode cX2_init 0 = .ok (.aload_n 0, 1) := by decide +kernel
theorem dX2_init_1 : decode cX2_init 1 = .ok (.invokespecial 1, 3) := by decide +kernel
theorem dX2_init_4 : decode cX2_init 4 = .ok (.return_, 1) := by decide +kernel
theorem dX2_measure_0 : decode cX2_measure 0 = .ok (.aload_n 1, 1) := by decide +kernel
theorem dX2_measure_1 : decode cX2_measure 1 = .ok (.aload_n 2, 1) := by decide +kernel
theorem dX2_measure_2 : decode cX2_measure 2 = .ok (.invokevirtual 7, 3) := by decide +kernel
theorem dX2_measure_5 : decode cX2_measure 5 = .ok (.lstore 4, 2) := by decide +kernel
theorem dX2_measure_7 : decode cX2_measure 7 = .ok (.aload_n 1, 1) := by decide +kernel
theorem dX2_measure_8 : decode cX2_measure 8 = .ok (.aload_n 3, 1) := by decide +kernel
theorem dX2_measure_9 : decode cX2_measure 9 = .ok (.invokevirtual 7, 3) := by decide +kernel
theorem dX2_measure_12 : decode cX2_measure 12 = .ok (.lstore 6, 2) := by decide +kernel
theorem dX2_measure_14 : decode cX2_measure 14 = .ok (.aload_n 1, 1) := by decide +kernel
theorem dX2_measure_15 : decode cX2_measure 15 = .ok (.aload_n 2, 1) := by decide +kernel
theorem dX2_measure_16 : decode cX2_measure 16 = .ok (.aload_n 2, 1) := by decide +kernel
theorem dX2_measure_17 : decode cX2_measure 17 = .ok (.invokevirtual 13, 3) := by decide +kernel
theorem dX2_measure_20 : decode cX2_measure 20 = .ok (.lstore 8, 2) := by decide +kernel
theorem dX2_measure_22 : decode cX2_measure 22 = .ok (.aload_n 1, 1) := by decide +kernel
theorem dX2_measure_23 : decode cX2_measure 23 = .ok (.aload_n 3, 1) := by decide +kernel
theorem dX2_measure_24 : decode cX2_measure 24 = .ok (.aload_n 2, 1) := by decide +kernel
theorem dX2_measure_25 : decode cX2_measure 25 = .ok (.invokevirtual 13, 3) := by decide +kernel
theorem dX2_measure_28 : decode cX2_measure 28 = .ok (.lstore 10, 2) := by decide +kernel
theorem dX2_measure_30 : decode cX2_measure 30 = .ok (.aload_n 1, 1) := by decide +kernel
theorem dX2_measure_31 : decode cX2_measure 31 = .ok (.aload_n 3, 1) := by decide +kernel
theorem dX2_measure_32 : decode cX2_measure 32 = .ok (.aload_n 3, 1) := by decide +kernel
theorem dX2_measure_33 : decode cX2_measure 33 = .ok (.invokevirtual 13, 3) := by decide +kernel
theorem dX2_measure_36 : decode cX2_measure 36 = .ok (.lstore 12, 2) := by decide +kernel
theorem dX2_measure_38 : decode cX2_measure 38 = .ok (.aload_n 1, 1) := by decide +kernel
theorem dX2_measure_39 : decode cX2_measure 39 = .ok (.aload_n 2, 1) := by decide +kernel
theorem dX2_measure_40 : decode cX2_measure 40 = .ok (.aload_n 3, 1) := by decide +kernel
theorem dX2_measure_41 : decode cX2_measure 41 = .ok (.invokevirtual 13, 3) := by decide +kernel
theorem dX2_measure_44 : decode cX2_measure 44 = .ok (.lstore 14, 2) := by decide +kernel
theorem dX2_measure_46 : decode cX2_measure 46 = .ok (.aload_n 0, 1) := by decide +kernel
theorem dX2_measure_47 : decode cX2_measure 47 = .ok (.lload 12, 2) := by decide +kernel
theorem dX2_measure_49 : decode cX2_measure 49 = .ok (.lload 4, 2) := by decide +kernel
theorem dX2_measure_51 : decode cX2_measure 51 = .ok (.lmul, 1) := by decide +kernel
theorem dX2_measure_52 : decode cX2_measure 52 = .ok (.lload 10, 2) := by decide +kernel
theorem dX2_measure_54 : decode cX2_measure 54 = .ok (.lload 6, 2) := by decide +kernel
theorem dX2_measure_56 : decode cX2_measure 56 = .ok (.lmul, 1) := by decide +kernel
theorem dX2_measure_57 : decode cX2_measure 57 = .ok (.lsub, 1) := by decide +kernel
theorem dX2_measure_58 : decode cX2_measure 58 = .ok (.putfield 17, 3) := by decide +kernel
theorem dX2_measure_61 : decode cX2_measure 61 = .ok (.aload_n 0, 1) := by decide +kernel
theorem dX2_measure_62 : decode cX2_measure 62 = .ok (.lload 8, 2) := by decide +kernel
theorem dX2_measure_64 : decode cX2_measure 64 = .ok (.lload 6, 2) := by decide +kernel
theorem dX2_measure_66 : decode cX2_measure 66 = .ok (.lmul, 1) := by decide +kernel
theorem dX2_measure_67 : decode cX2_measure 67 = .ok (.lload 14, 2) := by decide +kernel
theorem dX2_measure_69 : decode cX2_measure 69 = .ok (.lload 4, 2) := by decide +kernel
theorem dX2_measure_71 : decode cX2_measure 71 = .ok (.lmul, 1) := by decide +kernel
theorem dX2_measure_72 : decode cX2_measure 72 = .ok (.lsub, 1) := by decide +kernel
theorem dX2_measure_73 : decode cX2_measure 73 = .ok (.putfield 23, 3) := by decide +kernel
theorem dX2_measure_76 : decode cX2_measure 76 = .ok (.aload_n 0, 1) := by decide +kernel
theorem dX2_measure_77 : decode cX2_measure 77 = .ok (.aload_n 0, 1) := by decide +kernel
theorem dX2_measure_78 : decode cX2_measure 78 = .ok (.getfield 17, 3) := by decide +kernel
theorem dX2_measure_81 : decode cX2_measure 81 = .ok (.aload_n 0, 1) := by decide +kernel
theorem dX2_measure_82 : decode cX2_measure 82 = .ok (.getfield 23, 3) := by decide +kernel
theorem dX2_measure_85 : decode cX2_measure 85 = .ok (.ladd, 1) := by decide +kernel
theorem dX2_measure_86 : decode cX2_measure 86 = .ok (.putfield 26, 3) := by decide +kernel
theorem dX2_measure_89 : decode cX2_measure 89 = .ok (.aload_n 0, 1) := by decide +kernel
theorem dX2_measure_90 : decode cX2_measure 90 = .ok (.lload 8, 2) := by decide +kernel
theorem dX2_measure_92 : decode cX2_measure 92 = .ok (.lload 12, 2) := by decide +kernel
theorem dX2_measure_94 : decode cX2_measure 94 = .ok (.lmul, 1) := by decide +kernel
theorem dX2_measure_95 : decode cX2_measure 95 = .ok (.lload 10, 2) := by decide +kernel
theorem dX2_measure_97 : decode cX2_measure 97 = .ok (.lload 14, 2) := by decide +kernel
theorem dX2_measure_99 : decode cX2_measure 99 = .ok (.lmul, 1) := by decide +kernel
theorem dX2_measure_100 : decode cX2_measure 100 = .ok (.lsub, 1) := by decide +kernel
theorem dX2_measure_101 : decode cX2_measure 101 = .ok (.putfield 29, 3) := by decide +kernel
theorem dX2_measure_104 : decode cX2_measure 104 = .ok (.return_, 1) := by decide +kernel
theorem dX3_init_0 : decode cX3_init 0 = .ok (.aload_n 0, 1) := by decide +kernel
theorem dX3_init_1 : decode cX3_init 1 = .ok (.invokespecial 3, 3) := by decide +kernel
theorem dX3_init_4 : decode cX3_init 4 = .ok (.return_, 1) := by decide +kernel
theorem dX3_zeros_0 : decode cX3_zeros 0 = .ok (.aload_n 0, 1) := by decide +kernel
theorem dX3_zeros_1 : decode cX3_zeros 1 = .ok (.iload_n 1, 1) := by decide +kernel
theorem dX3_zeros_2 : decode cX3_zeros 2 = .ok (.putfield 9, 3) := by decide +kernel
theorem dX3_zeros_5 : decode cX3_zeros 5 = .ok (.aload_n 0, 1) := by decide +kernel
theorem dX3_zeros_6 : decode cX3_zeros 6 = .ok (.lconst 0, 1) := by decide +kernel
theorem dX3_zeros_7 : decode cX3_zeros 7 = .ok (.putfield 15, 3) := by decide +kernel
theorem dX3_zeros_10 : decode cX3_zeros 10 = .ok (.return_, 1) := by decide +kernel
theorem dX3_copy_0 : decode cX3_copy 0 = .ok (.aload_n 0, 1) := by decide +kernel
theorem dX3_copy_1 : decode cX3_copy 1 = .ok (.aload_n 1, 1) := by decide +kernel
theorem dX3_copy_2 : decode cX3_copy 2 = .ok (.getfield 9, 3) := by decide +kernel
theorem dX3_copy_5 : decode cX3_copy 5 = .ok (.putfield 9, 3) := by decide +kernel
theorem dX3_copy_8 : decode cX3_copy 8 = .ok (.aload_n 0, 1) := by decide +kernel
theorem dX3_copy_9 : decode cX3_copy 9 = .ok (.aload_n 1, 1) := by decide +kernel
theorem dX3_copy_10 : decode cX3_copy 10 = .ok (.getfield 15, 3) := by decide +kernel
theorem dX3_copy_13 : decode cX3_copy 13 = .ok (.putfield 15, 3) := by decide +kernel
theorem dX3_copy_16 : decode cX3_copy 16 = .ok (.return_, 1) := by decide +kernel
theorem dX3_add_0 : decode cX3_add 0 = .ok (.aload_n 0, 1) := by decide +kernel
theorem dX3_add_1 : decode cX3_add 1 = .ok (.aload_n 0, 1) := by decide +kernel
theorem dX3_add_2 : decode cX3_add 2 = .ok (.getfield 15, 3) := by decide +kernel
theorem dX3_add_5 : decode cX3_add 5 = .ok (.iconst 2, 1) := by decide +kernel
theorem dX3_add_6 : decode cX3_add 6 = .ok (.lshl, 1) := by decide +kernel
theorem dX3_add_7 : decode cX3_add 7 = .ok (.iload_n 1, 1) := by decide +kernel
theorem dX3_add_8 : decode cX3_add 8 = .ok (.i2l, 1) := by decide +kernel
theorem dX3_add_9 : decode cX3_add 9 = .ok (.lor, 1) := by decide +kernel
theorem dX3_add_10 : decode cX3_add 10 = .ok (.putfield 15, 3) := by decide +kernel
theorem dX3_add_13 : decode cX3_add 13 = .ok (.aload_n 0, 1) := by decide +kernel
theorem dX3_add_14 : decode cX3_add 14 = .ok (.dup, 1) := by decide +kernel
theorem dX3_add_15 : decode cX3_add 15 = .ok (.getfield 9, 3) := by decide +kernel
theorem dX3_add_18 : decode cX3_add 18 = .ok (.iconst 1, 1) := by decide +kernel
theorem dX3_add_19 : decode cX3_add 19 = .ok (.iadd, 1) := by decide +kernel
theorem dX3_add_20 : decode cX3_add 20 = .ok (.putfield 9, 3) := by decide +kernel
theorem dX3_add_23 : decode cX3_add 23 = .ok (.return_, 1) := by decide +kernel
theorem dX3_signAt_0 : decode cX3_signAt 0 = .ok (.iload_n 1, 1) := by decide +kernel
theorem dX3_signAt_1 : decode cX3_signAt 1 = .ok (.ifCond .lt 11, 3) := by decide +kernel
theorem dX3_signAt_4 : decode cX3_signAt 4 = .ok (.iload_n 1, 1) := by decide +kernel
theorem dX3_signAt_5 : decode cX3_signAt 5 = .ok (.aload_n 0, 1) := by decide +kernel
theorem dX3_signAt_6 : decode cX3_signAt 6 = .ok (.getfield 9, 3) := by decide +kernel
theorem dX3_signAt_9 : decode cX3_signAt 9 = .ok (.if_icmp .lt 7, 3) := by decide +kernel
theorem dX3_signAt_12 : decode cX3_signAt 12 = .ok (.iconst (-1), 1) := by decide +kernel
theorem dX3_signAt_13 : decode cX3_signAt 13 = .ok (.goto 21, 3) := by decide +kernel
theorem dX3_signAt_16 : decode cX3_signAt 16 = .ok (.aload_n 0, 1) := by decide +kernel
theorem dX3_signAt_17 : decode cX3_signAt 17 = .ok (.getfield 15, 3) := by decide +kernel
theorem dX3_signAt_20 : decode cX3_signAt 20 = .ok (.iconst 2, 1) := by decide +kernel
theorem dX3_signAt_21 : decode cX3_signAt 21 = .ok (.aload_n 0, 1) := by decide +kernel
theorem dX3_signAt_22 : decode cX3_signAt 22 = .ok (.getfield 9, 3) := by decide +kernel
theorem dX3_signAt_25 : decode cX3_signAt 25 = .ok (.iconst 1, 1) := by decide +kernel
theorem dX3_signAt_26 : decode cX3_signAt 26 = .ok (.isub, 1) := by decide +kernel
theorem dX3_signAt_27 : decode cX3_signAt 27 = .ok (.iload_n 1, 1) := by decide +kernel
theorem dX3_signAt_28 : decode cX3_signAt 28 = .ok (.isub, 1) := by decide +kernel
theorem dX3_signAt_29 : decode cX3_signAt 29 = .ok (.imul, 1) := by decide +kernel
theorem dX3_signAt_30 : decode cX3_signAt 30 = .ok (.lshr, 1) := by decide +kernel
theorem dX3_signAt_31 : decode cX3_signAt 31 = .ok (.l2i, 1) := by decide +kernel
theorem dX3_signAt_32 : decode cX3_signAt 32 = .ok (.iconst 3, 1) := by decide +kernel
theorem dX3_signAt_33 : decode cX3_signAt 33 = .ok (.iand, 1) := by decide +kernel
theorem dX3_signAt_34 : decode cX3_signAt 34 = .ok (.ireturn, 1) := by decide +kernel
theorem dX3_firstOnes_0 : decode cX3_firstOnes 0 = .ok (.aload_n 0, 1) := by decide +kernel
theorem dX3_firstOnes_1 : decode cX3_firstOnes 1 = .ok (.getfield 15, 3) := by decide +kernel
theorem dX3_firstOnes_4 : decode cX3_firstOnes 4 = .ok (.iconst 2, 1) := by decide +kernel
theorem dX3_firstOnes_5 : decode cX3_firstOnes 5 = .ok (.aload_n 0, 1) := by decide +kernel
theorem dX3_firstOnes_6 : decode cX3_firstOnes 6 = .ok (.getfield 9, 3) := by decide +kernel
theorem dX3_firstOnes_9 : decode cX3_firstOnes 9 = .ok (.iload_n 1, 1) := by decide +kernel
theorem dX3_firstOnes_10 : decode cX3_firstOnes 10 = .ok (.isub, 1) := by decide +kernel
theorem dX3_firstOnes_11 : decode cX3_firstOnes 11 = .ok (.imul, 1) := by decide +kernel
theorem dX3_firstOnes_12 : decode cX3_firstOnes 12 = .ok (.lshr, 1) := by decide +kernel
theorem dX3_firstOnes_13 : decode cX3_firstOnes 13 = .ok (.lreturn, 1) := by decide +kernel
theorem dX3_lastOnes_0 : decode cX3_lastOnes 0 = .ok (.aload_n 0, 1) := by decide +kernel
theorem dX3_lastOnes_1 : decode cX3_lastOnes 1 = .ok (.getfield 15, 3) := by decide +kernel
theorem dX3_lastOnes_4 : decode cX3_lastOnes 4 = .ok (.lconst 1, 1) := by decide +kernel
theorem dX3_lastOnes_5 : decode cX3_lastOnes 5 = .ok (.iconst 2, 1) := by decide +kernel
theorem dX3_lastOnes_6 : decode cX3_lastOnes 6 = .ok (.iload_n 1, 1) := by decide +kernel
theorem dX3_lastOnes_7 : decode cX3_lastOnes 7 = .ok (.imul, 1) := by decide +kernel
theorem dX3_lastOnes_8 : decode cX3_lastOnes 8 = .ok (.lshl, 1) := by decide +kernel
theorem dX3_lastOnes_9 : decode cX3_lastOnes 9 = .ok (.lconst 1, 1) := by decide +kernel
theorem dX3_lastOnes_10 : decode cX3_lastOnes 10 = .ok (.lsub, 1) := by decide +kernel
theorem dX3_lastOnes_11 : decode cX3_lastOnes 11 = .ok (.land, 1) := by decide +kernel
theorem dX3_lastOnes_12 : decode cX3_lastOnes 12 = .ok (.lreturn, 1) := by decide +kernel
theorem dX3_putLast_0 : decode cX3_putLast 0 = .ok (.aload_n 0, 1) := by decide +kernel
theorem dX3_putLast_1 : decode cX3_putLast 1 = .ok (.aload_n 0, 1) := by decide +kernel
theorem dX3_putLast_2 : decode cX3_putLast 2 = .ok (.getfield 15, 3) := by decide +kernel
theorem dX3_putLast_5 : decode cX3_putLast 5 = .ok (.aload_n 0, 1) := by decide +kernel
theorem dX3_putLast_6 : decode cX3_putLast 6 = .ok (.iconst 1, 1) := by decide +kernel
theorem dX3_putLast_7 : decode cX3_putLast 7 = .ok (.invokevirtual 19, 3) := by decide +kernel
theorem dX3_putLast_10 : decode cX3_putLast 10 = .ok (.lsub, 1) := by decide +kernel
theorem dX3_putLast_11 : decode cX3_putLast 11 = .ok (.iload_n 1, 1) := by decide +kernel
theorem dX3_putLast_12 : decode cX3_putLast 12 = .ok (.i2l, 1) := by decide +kernel
theorem dX3_putLast_13 : decode cX3_putLast 13 = .ok (.ladd, 1) := by decide +kernel
theorem dX3_putLast_14 : decode cX3_putLast 14 = .ok (.putfield 15, 3) := by decide +kernel
theorem dX3_putLast_17 : decode cX3_putLast 17 = .ok (.return_, 1) := by decide +kernel
theorem dX3_stepOn_0 : decode cX3_stepOn 0 = .ok (.iconst 0, 1) := by decide +kernel
theorem dX3_stepOn_1 : decode cX3_stepOn 1 = .ok (.istore_n 2, 1) := by decide +kernel
theorem dX3_stepOn_2 : decode cX3_stepOn 2 = .ok (.iload_n 2, 1) := by decide +kernel
theorem dX3_stepOn_3 : decode cX3_stepOn 3 = .ok (.aload_n 0, 1) := by decide +kernel
theorem dX3_stepOn_4 : decode cX3_stepOn 4 = .ok (.getfield 9, 3) := by decide +kernel
theorem dX3_stepOn_7 : decode cX3_stepOn 7 = .ok (.if_icmp .ge 61, 3) := by decide +kernel
theorem dX3_stepOn_10 : decode cX3_stepOn 10 = .ok (.aload_n 0, 1) := by decide +kernel
theorem dX3_stepOn_11 : decode cX3_stepOn 11 = .ok (.getfield 15, 3) := by decide +kernel
theorem dX3_stepOn_14 : decode cX3_stepOn 14 = .ok (.iconst 2, 1) := by decide +kernel
theorem dX3_stepOn_15 : decode cX3_stepOn 15 = .ok (.iload_n 2, 1) := by decide +kernel
theorem dX3_stepOn_16 : decode cX3_stepOn 16 = .ok (.imul, 1) := by decide +kernel
theorem dX3_stepOn_17 : decode cX3_stepOn 17 = .ok (.lshr, 1) := by decide +kernel
theorem dX3_stepOn_18 : decode cX3_stepOn 18 = .ok (.ldc2_w 23, 3) := by decide +kernel
theorem dX3_stepOn_21 : decode cX3_stepOn 21 = .ok (.land, 1) := by decide +kernel
theorem dX3_stepOn_22 : decode cX3_stepOn 22 = .ok (.lstore_n 3, 1) := by decide +kernel
theorem dX3_stepOn_23 : decode cX3_stepOn 23 = .ok (.lload_n 3, 1) := by decide +kernel
theorem dX3_stepOn_24 : decode cX3_stepOn 24 = .ok (.lconst 1, 1) := by decide +kernel
theorem dX3_stepOn_25 : decode cX3_stepOn 25 = .ok (.ladd, 1) := by decide +kernel
theorem dX3_stepOn_26 : decode cX3_stepOn 26 = .ok (.iload_n 1, 1) := by decide +kernel
theorem dX3_stepOn_27 : decode cX3_stepOn 27 = .ok (.i2l, 1) := by decide +kernel
theorem dX3_stepOn_28 : decode cX3_stepOn 28 = .ok (.lcmp, 1) := by decide +kernel
theorem dX3_stepOn_29 : decode cX3_stepOn 29 = .ok (.ifCond .ge 19, 3) := by decide +kernel
theorem dX3_stepOn_32 : decode cX3_stepOn 32 = .ok (.aload_n 0, 1) := by decide +kernel
theorem dX3_stepOn_33 : decode cX3_stepOn 33 = .ok (.dup, 1) := by decide +kernel
theorem dX3_stepOn_34 : decode cX3_stepOn 34 = .ok (.getfield 15, 3) := by decide +kernel
theorem dX3_stepOn_37 : decode cX3_stepOn 37 = .ok (.lconst 1, 1) := by decide +kernel
theorem dX3_stepOn_38 : decode cX3_stepOn 38 = .ok (.iconst 2, 1) := by decide +kernel
theorem dX3_stepOn_39 : decode cX3_stepOn 39 = .ok (.iload_n 2, 1) := by decide +kernel
theorem dX3_stepOn_40 : decode cX3_stepOn 40 = .ok (.imul, 1) := by decide +kernel
theorem dX3_stepOn_41 : decode cX3_stepOn 41 = .ok (.lshl, 1) := by decide +kernel
theorem dX3_stepOn_42 : decode cX3_stepOn 42 = .ok (.ladd, 1) := by decide +kernel
theorem dX3_stepOn_43 : decode cX3_stepOn 43 = .ok (.putfield 15, 3) := by decide +kernel
theorem dX3_stepOn_46 : decode cX3_stepOn 46 = .ok (.iconst 1, 1) := by decide +kernel
theorem dX3_stepOn_47 : decode cX3_stepOn 47 = .ok (.ireturn, 1) := by decide +kernel
theorem dX3_stepOn_48 : decode cX3_stepOn 48 = .ok (.aload_n 0, 1) := by decide +kernel
theorem dX3_stepOn_49 : decode cX3_stepOn 49 = .ok (.dup, 1) := by decide +kernel
theorem dX3_stepOn_50 : decode cX3_stepOn 50 = .ok (.getfield 15, 3) := by decide +kernel
theorem dX3_stepOn_53 : decode cX3_stepOn 53 = .ok (.lload_n 3, 1) := by decide +kernel
theorem dX3_stepOn_54 : decode cX3_stepOn 54 = .ok (.iconst 2, 1) := by decide +kernel
theorem dX3_stepOn_55 : decode cX3_stepOn 55 = .ok (.iload_n 2, 1) := by decide +kernel
theorem dX3_stepOn_56 : decode cX3_stepOn 56 = .ok (.imul, 1) := by decide +kernel
theorem dX3_stepOn_57 : decode cX3_stepOn 57 = .ok (.lshl, 1) := by decide +kernel
theorem dX3_stepOn_58 : decode cX3_stepOn 58 = .ok (.lsub, 1) := by decide +kernel
theorem dX3_stepOn_59 : decode cX3_stepOn 59 = .ok (.putfield 15, 3) := by decide +kernel
theorem dX3_stepOn_62 : decode cX3_stepOn 62 = .ok (.iinc 2 1, 3) := by decide +kernel
theorem dX3_stepOn_65 : decode cX3_stepOn 65 = .ok (.goto (-63), 3) := by decide +kernel
theorem dX3_stepOn_68 : decode cX3_stepOn 68 = .ok (.iconst 0, 1) := by decide +kernel
theorem dX3_stepOn_69 : decode cX3_stepOn 69 = .ok (.ireturn, 1) := by decide +kernel
theorem dX3_endsAt_0 : decode cX3_endsAt 0 = .ok (.iload_n 2, 1) := by decide +kernel
theorem dX3_endsAt_1 : decode cX3_endsAt 1 = .ok (.aload_n 1, 1) := by decide +kernel
theorem dX3_endsAt_2 : decode cX3_endsAt 2 = .ok (.getfield 9, 3) := by decide +kernel
theorem dX3_endsAt_5 : decode cX3_endsAt 5 = .ok (.if_icmp .lt 39, 3) := by decide +kernel
theorem dX3_endsAt_8 : decode cX3_endsAt 8 = .ok (.iload_n 2, 1) := by decide +kernel
theorem dX3_endsAt_9 : decode cX3_endsAt 9 = .ok (.aload_n 0, 1) := by decide +kernel
theorem dX3_endsAt_10 : decode cX3_endsAt 10 = .ok (.getfield 9, 3) := by decide +kernel
theorem dX3_endsAt_13 : decode cX3_endsAt 13 = .ok (.if_icmp .gt 31, 3) := by decide +kernel
theorem dX3_endsAt_16 : decode cX3_endsAt 16 = .ok (.aload_n 0, 1) := by decide +kernel
theorem dX3_endsAt_17 : decode cX3_endsAt 17 = .ok (.iload_n 2, 1) := by decide +kernel
theorem dX3_endsAt_18 : decode cX3_endsAt 18 = .ok (.invokevirtual 25, 3) := by decide +kernel
theorem dX3_endsAt_21 : decode cX3_endsAt 21 = .ok (.lconst 1, 1) := by decide +kernel
theorem dX3_endsAt_22 : decode cX3_endsAt 22 = .ok (.iconst 2, 1) := by decide +kernel
theorem dX3_endsAt_23 : decode cX3_endsAt 23 = .ok (.aload_n 1, 1) := by decide +kernel
theorem dX3_endsAt_24 : decode cX3_endsAt 24 = .ok (.getfield 9, 3) := by decide +kernel
theorem dX3_endsAt_27 : decode cX3_endsAt 27 = .ok (.imul, 1) := by decide +kernel
theorem dX3_endsAt_28 : decode cX3_endsAt 28 = .ok (.lshl, 1) := by decide +kernel
theorem dX3_endsAt_29 : decode cX3_endsAt 29 = .ok (.lconst 1, 1) := by decide +kernel
theorem dX3_endsAt_30 : decode cX3_endsAt 30 = .ok (.lsub, 1) := by decide +kernel
theorem dX3_endsAt_31 : decode cX3_endsAt 31 = .ok (.land, 1) := by decide +kernel
theorem dX3_endsAt_32 : decode cX3_endsAt 32 = .ok (.aload_n 1, 1) := by decide +kernel
theorem dX3_endsAt_33 : decode cX3_endsAt 33 = .ok (.getfield 15, 3) := by decide +kernel
theorem dX3_endsAt_36 : decode cX3_endsAt 36 = .ok (.lcmp, 1) := by decide +kernel
theorem dX3_endsAt_37 : decode cX3_endsAt 37 = .ok (.ifCond .ne 7, 3) := by decide +kernel
theorem dX3_endsAt_40 : decode cX3_endsAt 40 = .ok (.iconst 1, 1) := by decide +kernel
theorem dX3_endsAt_41 : decode cX3_endsAt 41 = .ok (.goto 4, 3) := by decide +kernel
theorem dX3_endsAt_44 : decode cX3_endsAt 44 = .ok (.iconst 0, 1) := by decide +kernel
theorem dX3_endsAt_45 : decode cX3_endsAt 45 = .ok (.ireturn, 1) := by decide +kernel
theorem dX3_firstEndOf_0 : decode cX3_firstEndOf 0 = .ok (.aload_n 1, 1) := by decide +kernel
theorem dX3_firstEndOf_1 : decode cX3_firstEndOf 1 = .ok (.getfield 9, 3) := by decide +kernel
theorem dX3_firstEndOf_4 : decode cX3_firstEndOf 4 = .ok (.istore_n 2, 1) := by decide +kernel
theorem dX3_firstEndOf_5 : decode cX3_firstEndOf 5 = .ok (.iload_n 2, 1) := by decide +kernel
theorem dX3_firstEndOf_6 : decode cX3_firstEndOf 6 = .ok (.aload_n 0, 1) := by decide +kernel
theorem dX3_firstEndOf_7 : decode cX3_firstEndOf 7 = .ok (.getfield 9, 3) := by decide +kernel
theorem dX3_firstEndOf_10 : decode cX3_firstEndOf 10 = .ok (.if_icmp .gt 20, 3) := by decide +kernel
theorem dX3_firstEndOf_13 : decode cX3_firstEndOf 13 = .ok (.aload_n 0, 1) := by decide +kernel
theorem dX3_firstEndOf_14 : decode cX3_firstEndOf 14 = .ok (.aload_n 1, 1) := by decide +kernel
theorem dX3_firstEndOf_15 : decode cX3_firstEndOf 15 = .ok (.iload_n 2, 1) := by decide +kernel
theorem dX3_firstEndOf_16 : decode cX3_firstEndOf 16 = .ok (.invokevirtual 28, 3) := by decide +kernel
theorem dX3_firstEndOf_19 : decode cX3_firstEndOf 19 = .ok (.ifCond .eq 5, 3) := by decide +kernel
theorem dX3_firstEndOf_22 : decode cX3_firstEndOf 22 = .ok (.iload_n 2, 1) := by decide +kernel
theorem dX3_firstEndOf_23 : decode cX3_firstEndOf 23 = .ok (.ireturn, 1) := by decide +kernel
theorem dX3_firstEndOf_24 : decode cX3_firstEndOf 24 = .ok (.iinc 2 1, 3) := by decide +kernel
theorem dX3_firstEndOf_27 : decode cX3_firstEndOf 27 = .ok (.goto (-22), 3) := by decide +kernel
theorem dX3_firstEndOf_30 : decode cX3_firstEndOf 30 = .ok (.bipush (-5), 2) := by decide +kernel
theorem dX3_firstEndOf_32 : decode cX3_firstEndOf 32 = .ok (.ireturn, 1) := by decide +kernel
theorem dX3_has_0 : decode cX3_has 0 = .ok (.aload_n 0, 1) := by decide +kernel
theorem dX3_has_1 : decode cX3_has 1 = .ok (.aload_n 1, 1) := by decide +kernel
theorem dX3_has_2 : decode cX3_has 2 = .ok (.invokevirtual 32, 3) := by decide +kernel
theorem dX3_has_5 : decode cX3_has 5 = .ok (.bipush (-5), 2) := by decide +kernel
theorem dX3_has_7 : decode cX3_has 7 = .ok (.if_icmp .eq 7, 3) := by decide +kernel
theorem dX3_has_10 : decode cX3_has 10 = .ok (.iconst 1, 1) := by decide +kernel
theorem dX3_has_11 : decode cX3_has 11 = .ok (.goto 4, 3) := by decide +kernel
theorem dX3_has_14 : decode cX3_has 14 = .ok (.iconst 0, 1) := by decide +kernel
theorem dX3_has_15 : decode cX3_has 15 = .ok (.ireturn, 1) := by decide +kernel
theorem dX3_isApart_0 : decode cX3_isApart 0 = .ok (.aload_n 0, 1) := by decide +kernel
theorem dX3_isApart_1 : decode cX3_isApart 1 = .ok (.aload_n 1, 1) := by decide +kernel
theorem dX3_isApart_2 : decode cX3_isApart 2 = .ok (.invokevirtual 32, 3) := by decide +kernel
theorem dX3_isApart_5 : decode cX3_isApart 5 = .ok (.bipush (-5), 2) := by decide +kernel
theorem dX3_isApart_7 : decode cX3_isApart 7 = .ok (.if_icmp .ne 17, 3) := by decide +kernel
theorem dX3_isApart_10 : decode cX3_isApart 10 = .ok (.aload_n 1, 1) := by decide +kernel
theorem dX3_isApart_11 : decode cX3_isApart 11 = .ok (.aload_n 0, 1) := by decide +kernel
theorem dX3_isApart_12 : decode cX3_isApart 12 = .ok (.invokevirtual 32, 3) := by decide +kernel
theorem dX3_isApart_15 : decode cX3_isApart 15 = .ok (.bipush (-5), 2) := by decide +kernel
theorem dX3_isApart_17 : decode cX3_isApart 17 = .ok (.if_icmp .ne 7, 3) := by decide +kernel
theorem dX3_isApart_20 : decode cX3_isApart 20 = .ok (.iconst 1, 1) := by decide +kernel
theorem dX3_isApart_21 : decode cX3_isApart 21 = .ok (.goto 4, 3) := by decide +kernel
theorem dX3_isApart_24 : decode cX3_isApart 24 = .ok (.iconst 0, 1) := by decide +kernel
theorem dX3_isApart_25 : decode cX3_isApart 25 = .ok (.ireturn, 1) := by decide +kernel
theorem dX4_init_0 : decode cX4_init 0 = .ok (.aload_n 0, 1) := by decide +kernel
theorem dX4_init_1 : decode cX4_init 1 = .ok (.invokespecial 3, 3) := by decide +kernel
theorem dX4_init_4 : decode cX4_init 4 = .ok (.aload_n 0, 1) := by decide +kernel
theorem dX4_init_5 : decode cX4_init 5 = .ok (.bipush 111, 2) := by decide +kernel
theorem dX4_init_7 : decode cX4_init 7 = .ok (.newarray .int, 2) := by decide +kernel
theorem dX4_init_9 : decode cX4_init 9 = .ok (.putfield 11, 3) := by decide +kernel
theorem dX4_init_12 : decode cX4_init 12 = .ok (.aload_n 0, 1) := by decide +kernel
theorem dX4_init_13 : decode cX4_init 13 = .ok (.bipush 37, 2) := by decide +kernel
theorem dX4_init_15 : decode cX4_init 15 = .ok (.newarray .int, 2) := by decide +kernel
theorem dX4_init_17 : decode cX4_init 17 = .ok (.putfield 15, 3) := by decide +kernel
theorem dX4_init_20 : decode cX4_init 20 = .ok (.aload_n 0, 1) := by decide +kernel
theorem dX4_init_21 : decode cX4_init 21 = .ok (.bipush 37, 2) := by decide +kernel
theorem dX4_init_23 : decode cX4_init 23 = .ok (.newarray .int, 2) := by decide +kernel
theorem dX4_init_25 : decode cX4_init 25 = .ok (.putfield 18, 3) := by decide +kernel
theorem dX4_init_28 : decode cX4_init 28 = .ok (.aload_n 0, 1) := by decide +kernel
theorem dX4_init_29 : decode cX4_init 29 = .ok (.bipush 6, 2) := by decide +kernel
theorem dX4_init_31 : decode cX4_init 31 = .ok (.newarray .int, 2) := by decide +kernel
theorem dX4_init_33 : decode cX4_init 33 = .ok (.putfield 21, 3) := by decide +kernel
theorem dX4_init_36 : decode cX4_init 36 = .ok (.aload_n 0, 1) := by decide +kernel
theorem dX4_init_37 : decode cX4_init 37 = .ok (.bipush 37, 2) := by decide +kernel
theorem dX4_init_39 : decode cX4_init 39 = .ok (.newarray .long, 2) := by decide +kernel
theorem dX4_init_41 : decode cX4_init 41 = .ok (.putfield 24, 3) := by decide +kernel
theorem dX4_init_44 : decode cX4_init 44 = .ok (.aload_n 0, 1) := by decide +kernel
theorem dX4_init_45 : decode cX4_init 45 = .ok (.bipush 37, 2) := by decide +kernel
theorem dX4_init_47 : decode cX4_init 47 = .ok (.newarray .long, 2) := by decide +kernel
theorem dX4_init_49 : decode cX4_init 49 = .ok (.putfield 28, 3) := by decide +kernel
theorem dX4_init_52 : decode cX4_init 52 = .ok (.return_, 1) := by decide +kernel
theorem dX4_build_0 : decode cX4_build 0 = .ok (.aload_n 0, 1) := by decide +kernel
theorem dX4_build_1 : decode cX4_build 1 = .ok (.aload_n 2, 1) := by decide +kernel
theorem dX4_build_2 : decode cX4_build 2 = .ok (.putfield 31, 3) := by decide +kernel
theorem dX4_build_5 : decode cX4_build 5 = .ok (.aload_n 0, 1) := by decide +kernel
theorem dX4_build_6 : decode cX4_build 6 = .ok (.aload_n 2, 1) := by decide +kernel
theorem dX4_build_7 : decode cX4_build 7 = .ok (.getfield 35, 3) := by decide +kernel
theorem dX4_build_10 : decode cX4_build 10 = .ok (.putfield 41, 3) := by decide +kernel
theorem dX4_build_13 : decode cX4_build 13 = .ok (.aload_n 0, 1) := by decide +kernel
theorem dX4_build_14 : decode cX4_build 14 = .ok (.iconst 0, 1) := by decide +kernel
theorem dX4_build_15 : decode cX4_build 15 = .ok (.putfield 42, 3) := by decide +kernel
theorem dX4_build_18 : decode cX4_build 18 = .ok (.aload_n 0, 1) := by decide +kernel
theorem dX4_build_19 : decode cX4_build 19 = .ok (.invokevirtual 45, 3) := by decide +kernel
theorem dX4_build_22 : decode cX4_build 22 = .ok (.pop, 1) := by decide +kernel
theorem dX4_build_23 : decode cX4_build 23 = .ok (.iconst 0, 1) := by decide +kernel
theorem dX4_build_24 : decode cX4_build 24 = .ok (.istore_n 3, 1) := by decide +kernel
theorem dX4_build_25 : decode cX4_build 25 = .ok (.iload_n 3, 1) := by decide +kernel
theorem dX4_build_26 : decode cX4_build 26 = .ok (.bipush 6, 2) := by decide +kernel
theorem dX4_build_28 : decode cX4_build 28 = .ok (.if_icmp .ge 16, 3) := by decide +kernel
theorem dX4_build_31 : decode cX4_build 31 = .ok (.aload_n 0, 1) := by decide +kernel
theorem dX4_build_32 : decode cX4_build 32 = .ok (.getfield 21, 3) := by decide +kernel
theorem dX4_build_35 : decode cX4_build 35 = .ok (.iload_n 3, 1) := by decide +kernel
theorem dX4_build_36 : decode cX4_build 36 = .ok (.iconst 0, 1) := by decide +kernel
theorem dX4_build_37 : decode cX4_build 37 = .ok (.iastore, 1) := by decide +kernel
theorem dX4_build_38 : decode cX4_build 38 = .ok (.iinc 3 1, 3) := by decide +kernel
theorem dX4_build_41 : decode cX4_build 41 = .ok (.goto (-16), 3) := by decide +kernel
theorem dX4_build_44 : decode cX4_build 44 = .ok (.iconst 0, 1) := by decide +kernel
theorem dX4_build_45 : decode cX4_build 45 = .ok (.istore_n 3, 1) := by decide +kernel
theorem dX4_build_46 : decode cX4_build 46 = .ok (.iload_n 3, 1) := by decide +kernel
theorem dX4_build_47 : decode cX4_build 47 = .ok (.bipush 6, 2) := by decide +kernel
theorem dX4_build_49 : decode cX4_build 49 = .ok (.if_icmp .ge 55, 3) := by decide +kernel
theorem dX4_build_52 : decode cX4_build 52 = .ok (.iconst 0, 1) := by decide +kernel
theorem dX4_build_53 : decode cX4_build 53 = .ok (.istore 4, 2) := by decide +kernel
theorem dX4_build_55 : decode cX4_build 55 = .ok (.iload 4, 2) := by decide +kernel
theorem dX4_build_57 : decode cX4_build 57 = .ok (.aload_n 1, 1) := by decide +kernel
theorem dX4_build_58 : decode cX4_build 58 = .ok (.getfield 49, 3) := by decide +kernel
theorem dX4_build_61 : decode cX4_build 61 = .ok (.if_icmp .ge 37, 3) := by decide +kernel
theorem dX4_build_64 : decode cX4_build 64 = .ok (.aload_n 2, 1) := by decide +kernel
theorem dX4_build_65 : decode cX4_build 65 = .ok (.aload_n 1, 1) := by decide +kernel
theorem dX4_build_66 : decode cX4_build 66 = .ok (.getfield 54, 3) := by decide +kernel
theorem dX4_build_69 : decode cX4_build 69 = .ok (.iload 4, 2) := by decide +kernel
theorem dX4_build_71 : decode cX4_build 71 = .ok (.aaload, 1) := by decide +kernel
theorem dX4_build_72 : decode cX4_build 72 = .ok (.invokevirtual 58, 3) := by decide +kernel
theorem dX4_build_75 : decode cX4_build 75 = .ok (.ifCond .eq 17, 3) := by decide +kernel
theorem dX4_build_78 : decode cX4_build 78 = .ok (.aload_n 0, 1) := by decide +kernel
theorem dX4_build_79 : decode cX4_build 79 = .ok (.aload_n 1, 1) := by decide +kernel
theorem dX4_build_80 : decode cX4_build 80 = .ok (.getfield 54, 3) := by decide +kernel
theorem dX4_build_83 : decode cX4_build 83 = .ok (.iload 4, 2) := by decide +kernel
theorem dX4_build_85 : decode cX4_build 85 = .ok (.aaload, 1) := by decide +kernel
theorem dX4_build_86 : decode cX4_build 86 = .ok (.iload 4, 2) := by decide +kernel
theorem dX4_build_88 : decode cX4_build 88 = .ok (.iload_n 3, 1) := by decide +kernel
theorem dX4_build_89 : decode cX4_build 89 = .ok (.invokevirtual 62, 3) := by decide +kernel
theorem dX4_build_92 : decode cX4_build 92 = .ok (.iinc 4 1, 3) := by decide +kernel
theorem dX4_build_95 : decode cX4_build 95 = .ok (.goto (-40), 3) := by decide +kernel
theorem dX4_build_98 : decode cX4_build 98 = .ok (.iinc 3 1, 3) := by decide +kernel
theorem dX4_build_101 : decode cX4_build 101 = .ok (.goto (-55), 3) := by decide +kernel
theorem dX4_build_104 : decode cX4_build 104 = .ok (.aload_n 0, 1) := by decide +kernel
theorem dX4_build_105 : decode cX4_build 105 = .ok (.invokevirtual 66, 3) := by decide +kernel
theorem dX4_build_108 : decode cX4_build 108 = .ok (.return_, 1) := by decide +kernel
theorem dX4_addNode_0 : decode cX4_addNode 0 = .ok (.aload_n 0, 1) := by decide +kernel
theorem dX4_addNode_1 : decode cX4_addNode 1 = .ok (.getfield 42, 3) := by decide +kernel
theorem dX4_addNode_4 : decode cX4_addNode 4 = .ok (.bipush 37, 2) := by decide +kernel
theorem dX4_addNode_6 : decode cX4_addNode 6 = .ok (.if_icmp .lt 5, 3) := by decide +kernel
theorem dX4_addNode_9 : decode cX4_addNode 9 = .ok (.iconst 0, 1) := by decide +kernel
theorem dX4_addNode_10 : decode cX4_addNode 10 = .ok (.ireturn, 1) := by decide +kernel
theorem dX4_addNode_11 : decode cX4_addNode 11 = .ok (.iconst 0, 1) := by decide +kernel
theorem dX4_addNode_12 : decode cX4_addNode 12 = .ok (.istore_n 1, 1) := by decide +kernel
theorem dX4_addNode_13 : decode cX4_addNode 13 = .ok (.iload_n 1, 1) := by decide +kernel
theorem dX4_addNode_14 : decode cX4_addNode 14 = .ok (.iconst 3, 1) := by decide +kernel
theorem dX4_addNode_15 : decode cX4_addNode 15 = .ok (.if_icmp .ge 23, 3) := by decide +kernel
theorem dX4_addNode_18 : decode cX4_addNode 18 = .ok (.aload_n 0, 1) := by decide +kernel
theorem dX4_addNode_19 : decode cX4_addNode 19 = .ok (.getfield 11, 3) := by decide +kernel
theorem dX4_addNode_22 : decode cX4_addNode 22 = .ok (.aload_n 0, 1) := by decide +kernel
theorem dX4_addNode_23 : decode cX4_addNode 23 = .ok (.getfield 42, 3) := by decide +kernel
theorem dX4_addNode_26 : decode cX4_addNode 26 = .ok (.iconst 3, 1) := by decide +kernel
theorem dX4_addNode_27 : decode cX4_addNode 27 = .ok (.imul, 1) := by decide +kernel
theorem dX4_addNode_28 : decode cX4_addNode 28 = .ok (.iload_n 1, 1) := by decide +kernel
theorem dX4_addNode_29 : decode cX4_addNode 29 = .ok (.iadd, 1) := by decide +kernel
theorem dX4_addNode_30 : decode cX4_addNode 30 = .ok (.iconst (-1), 1) := by decide +kernel
theorem dX4_addNode_31 : decode cX4_addNode 31 = .ok (.iastore, 1) := by decide +kernel
theorem dX4_addNode_32 : decode cX4_addNode 32 = .ok (.iinc 1 1, 3) := by decide +kernel
theorem dX4_addNode_35 : decode cX4_addNode 35 = .ok (.goto (-22), 3) := by decide +kernel
theorem dX4_addNode_38 : decode cX4_addNode 38 = .ok (.aload_n 0, 1) := by decide +kernel
theorem dX4_addNode_39 : decode cX4_addNode 39 = .ok (.getfield 15, 3) := by decide +kernel
theorem dX4_addNode_42 : decode cX4_addNode 42 = .ok (.aload_n 0, 1) := by decide +kernel
theorem dX4_addNode_43 : decode cX4_addNode 43 = .ok (.getfield 42, 3) := by decide +kernel
theorem dX4_addNode_46 : decode cX4_addNode 46 = .ok (.iconst 0, 1) := by decide +kernel
theorem dX4_addNode_47 : decode cX4_addNode 47 = .ok (.iastore, 1) := by decide +kernel
theorem dX4_addNode_48 : decode cX4_addNode 48 = .ok (.aload_n 0, 1) := by decide +kernel
theorem dX4_addNode_49 : decode cX4_addNode 49 = .ok (.getfield 18, 3) := by decide +kernel
theorem dX4_addNode_52 : decode cX4_addNode 52 = .ok (.aload_n 0, 1) := by decide +kernel
theorem dX4_addNode_53 : decode cX4_addNode 53 = .ok (.getfield 42, 3) := by decide +kernel
theorem dX4_addNode_56 : decode cX4_addNode 56 = .ok (.bipush 6, 2) := by decide +kernel
theorem dX4_addNode_58 : decode cX4_addNode 58 = .ok (.iastore, 1) := by decide +kernel
theorem dX4_addNode_59 : decode cX4_addNode 59 = .ok (.aload_n 0, 1) := by decide +kernel
theorem dX4_addNode_60 : decode cX4_addNode 60 = .ok (.dup, 1) := by decide +kernel
theorem dX4_addNode_61 : decode cX4_addNode 61 = .ok (.getfield 42, 3) := by decide +kernel
theorem dX4_addNode_64 : decode cX4_addNode 64 = .ok (.iconst 1, 1) := by decide +kernel
theorem dX4_addNode_65 : decode cX4_addNode 65 = .ok (.iadd, 1) := by decide +kernel
theorem dX4_addNode_66 : decode cX4_addNode 66 = .ok (.putfield 42, 3) := by decide +kernel
theorem dX4_addNode_69 : decode cX4_addNode 69 = .ok (.aload_n 0, 1) := by decide +kernel
theorem dX4_addNode_70 : decode cX4_addNode 70 = .ok (.getfield 42, 3) := by decide +kernel
theorem dX4_addNode_73 : decode cX4_addNode 73 = .ok (.iconst 1, 1) := by decide +kernel
theorem dX4_addNode_74 : decode cX4_addNode 74 = .ok (.isub, 1) := by decide +kernel
theorem dX4_addNode_75 : decode cX4_addNode 75 = .ok (.ireturn, 1) := by decide +kernel
theorem dX4_grow_0 : decode cX4_grow 0 = .ok (.aload_n 1, 1) := by decide +kernel
theorem dX4_grow_1 : decode cX4_grow 1 = .ok (.iload_n 3, 1) := by decide +kernel
theorem dX4_grow_2 : decode cX4_grow 2 = .ok (.invokevirtual 69, 3) := by decide +kernel
theorem dX4_grow_5 : decode cX4_grow 5 = .ok (.istore 4, 2) := by decide +kernel
theorem dX4_grow_7 : decode cX4_grow 7 = .ok (.iload 4, 2) := by decide +kernel
theorem dX4_grow_9 : decode cX4_grow 9 = .ok (.ifCond .ge 4, 3) := by decide +kernel
theorem dX4_grow_12 : decode cX4_grow 12 = .ok (.return_, 1) := by decide +kernel
theorem dX4_grow_13 : decode cX4_grow 13 = .ok (.aload_n 0, 1) := by decide +kernel
theorem dX4_grow_14 : decode cX4_grow 14 = .ok (.getfield 21, 3) := by decide +kernel
theorem dX4_grow_17 : decode cX4_grow 17 = .ok (.iload_n 2, 1) := by decide +kernel
theorem dX4_grow_18 : decode cX4_grow 18 = .ok (.iaload, 1) := by decide +kernel
theorem dX4_grow_19 : decode cX4_grow 19 = .ok (.iconst 3, 1) := by decide +kernel
theorem dX4_grow_20 : decode cX4_grow 20 = .ok (.imul, 1) := by decide +kernel
theorem dX4_grow_21 : decode cX4_grow 21 = .ok (.iload 4, 2) := by decide +kernel
theorem dX4_grow_23 : decode cX4_grow 23 = .ok (.iadd, 1) := by decide +kernel
theorem dX4_grow_24 : decode cX4_grow 24 = .ok (.istore 5, 2) := by decide +kernel
theorem dX4_grow_26 : decode cX4_grow 26 = .ok (.aload_n 0, 1) := by decide +kernel
theorem dX4_grow_27 : decode cX4_grow 27 = .ok (.getfield 11, 3) := by decide +kernel
theorem dX4_grow_30 : decode cX4_grow 30 = .ok (.iload 5, 2) := by decide +kernel
theorem dX4_grow_32 : decode cX4_grow 32 = .ok (.iaload, 1) := by decide +kernel
theorem dX4_grow_33 : decode cX4_grow 33 = .ok (.ifCond .ge 14, 3) := by decide +kernel
theorem dX4_grow_36 : decode cX4_grow 36 = .ok (.aload_n 0, 1) := by decide +kernel
theorem dX4_grow_37 : decode cX4_grow 37 = .ok (.getfield 11, 3) := by decide +kernel
theorem dX4_grow_40 : decode cX4_grow 40 = .ok (.iload 5, 2) := by decide +kernel
theorem dX4_grow_42 : decode cX4_grow 42 = .ok (.aload_n 0, 1) := by decide +kernel
theorem dX4_grow_43 : decode cX4_grow 43 = .ok (.invokevirtual 45, 3) := by decide +kernel
theorem dX4_grow_46 : decode cX4_grow 46 = .ok (.iastore, 1) := by decide +kernel
theorem dX4_grow_47 : decode cX4_grow 47 = .ok (.aload_n 0, 1) := by decide +kernel
theorem dX4_grow_48 : decode cX4_grow 48 = .ok (.getfield 21, 3) := by decide +kernel
theorem dX4_grow_51 : decode cX4_grow 51 = .ok (.iload_n 2, 1) := by decide +kernel
theorem dX4_grow_52 : decode cX4_grow 52 = .ok (.aload_n 0, 1) := by decide +kernel
theorem dX4_grow_53 : decode cX4_grow 53 = .ok (.getfield 11, 3) := by decide +kernel
theorem dX4_grow_56 : decode cX4_grow 56 = .ok (.iload 5, 2) := by decide +kernel
theorem dX4_grow_58 : decode cX4_grow 58 = .ok (.iaload, 1) := by decide +kernel
theorem dX4_grow_59 : decode cX4_grow 59 = .ok (.iastore, 1) := by decide +kernel
theorem dX4_grow_60 : decode cX4_grow 60 = .ok (.iload_n 3, 1) := by decide +kernel
theorem dX4_grow_61 : decode cX4_grow 61 = .ok (.aload_n 1, 1) := by decide +kernel
theorem dX4_grow_62 : decode cX4_grow 62 = .ok (.getfield 75, 3) := by decide +kernel
theorem dX4_grow_65 : decode cX4_grow 65 = .ok (.iconst 1, 1) := by decide +kernel
theorem dX4_grow_66 : decode cX4_grow 66 = .ok (.isub, 1) := by decide +kernel
theorem dX4_grow_67 : decode cX4_grow 67 = .ok (.if_icmp .ne 29, 3) := by decide +kernel
theorem dX4_grow_70 : decode cX4_grow 70 = .ok (.aload_n 0, 1) := by decide +kernel
theorem dX4_grow_71 : decode cX4_grow 71 = .ok (.getfield 18, 3) := by decide +kernel
theorem dX4_grow_74 : decode cX4_grow 74 = .ok (.aload_n 0, 1) := by decide +kernel
theorem dX4_grow_75 : decode cX4_grow 75 = .ok (.getfield 21, 3) := by decide +kernel
theorem dX4_grow_78 : decode cX4_grow 78 = .ok (.iload_n 2, 1) := by decide +kernel
theorem dX4_grow_79 : decode cX4_grow 79 = .ok (.iaload, 1) := by decide +kernel
theorem dX4_grow_80 : decode cX4_grow 80 = .ok (.aload_n 0, 1) := by decide +kernel
theorem dX4_grow_81 : decode cX4_grow 81 = .ok (.getfield 18, 3) := by decide +kernel
theorem dX4_grow_84 : decode cX4_grow 84 = .ok (.aload_n 0, 1) := by decide +kernel
theorem dX4_grow_85 : decode cX4_grow 85 = .ok (.getfield 21, 3) := by decide +kernel
theorem dX4_grow_88 : decode cX4_grow 88 = .ok (.iload_n 2, 1) := by decide +kernel
theorem dX4_grow_89 : decode cX4_grow 89 = .ok (.iaload, 1) := by decide +kernel
theorem dX4_grow_90 : decode cX4_grow 90 = .ok (.iaload, 1) := by decide +kernel
theorem dX4_grow_91 : decode cX4_grow 91 = .ok (.iload_n 2, 1) := by decide +kernel
theorem dX4_grow_92 : decode cX4_grow 92 = .ok (.invokestatic 78, 3) := by decide +kernel
theorem dX4_grow_95 : decode cX4_grow 95 = .ok (.iastore, 1) := by decide +kernel
theorem dX4_grow_96 : decode cX4_grow 96 = .ok (.return_, 1) := by decide +kernel
theorem dX4_link_0 : decode cX4_link 0 = .ok (.iconst 0, 1) := by decide +kernel
theorem dX4_link_1 : decode cX4_link 1 = .ok (.istore_n 1, 1) := by decide +kernel
theorem dX4_link_2 : decode cX4_link 2 = .ok (.iload_n 1, 1) := by decide +kernel
theorem dX4_link_3 : decode cX4_link 3 = .ok (.aload_n 0, 1) := by decide +kernel
theorem dX4_link_4 : decode cX4_link 4 = .ok (.getfield 42, 3) := by decide +kernel
theorem dX4_link_7 : decode cX4_link 7 = .ok (.if_icmp .ge 117, 3) := by decide +kernel
theorem dX4_link_10 : decode cX4_link 10 = .ok (.iconst 0, 1) := by decide +kernel
theorem dX4_link_11 : decode cX4_link 11 = .ok (.istore_n 2, 1) := by decide +kernel
theorem dX4_link_12 : decode cX4_link 12 = .ok (.iload_n 2, 1) := by decide +kernel
theorem dX4_link_13 : decode cX4_link 13 = .ok (.aload_n 0, 1) := by decide +kernel
theorem dX4_link_14 : decode cX4_link 14 = .ok (.getfield 41, 3) := by decide +kernel
theorem dX4_link_17 : decode cX4_link 17 = .ok (.if_icmp .ge 101, 3) := by decide +kernel
theorem dX4_link_20 : decode cX4_link 20 = .ok (.iload_n 1, 1) := by decide +kernel
theorem dX4_link_21 : decode cX4_link 21 = .ok (.iconst 3, 1) := by decide +kernel
theorem dX4_link_22 : decode cX4_link 22 = .ok (.imul, 1) := by decide +kernel
theorem dX4_link_23 : decode cX4_link 23 = .ok (.iload_n 2, 1) := by decide +kernel
theorem dX4_link_24 : decode cX4_link 24 = .ok (.iadd, 1) := by decide +kernel
theorem dX4_link_25 : decode cX4_link 25 = .ok (.istore_n 3, 1) := by decide +kernel
theorem dX4_link_26 : decode cX4_link 26 = .ok (.iload_n 1, 1) := by decide +kernel
theorem dX4_link_27 : decode cX4_link 27 = .ok (.ifCond .ne 7, 3) := by decide +kernel
theorem dX4_link_30 : decode cX4_link 30 = .ok (.iconst 0, 1) := by decide +kernel
theorem dX4_link_31 : decode cX4_link 31 = .ok (.goto 18, 3) := by decide +kernel
theorem dX4_link_34 : decode cX4_link 34 = .ok (.aload_n 0, 1) := by decide +kernel
theorem dX4_link_35 : decode cX4_link 35 = .ok (.getfield 11, 3) := by decide +kernel
theorem dX4_link_38 : decode cX4_link 38 = .ok (.aload_n 0, 1) := by decide +kernel
theorem dX4_link_39 : decode cX4_link 39 = .ok (.getfield 15, 3) := by decide +kernel
theorem dX4_link_42 : decode cX4_link 42 = .ok (.iload_n 1, 1) := by decide +kernel
theorem dX4_link_43 : decode cX4_link 43 = .ok (.iaload, 1) := by decide +kernel
theorem dX4_link_44 : decode cX4_link 44 = .ok (.iconst 3, 1) := by decide +kernel
theorem dX4_link_45 : decode cX4_link 45 = .ok (.imul, 1) := by decide +kernel
theorem dX4_link_46 : decode cX4_link 46 = .ok (.iload_n 2, 1) := by decide +kernel
theorem dX4_link_47 : decode cX4_link 47 = .ok (.iadd, 1) := by decide +kernel
theorem dX4_link_48 : decode cX4_link 48 = .ok (.iaload, 1) := by decide +kernel
theorem dX4_link_49 : decode cX4_link 49 = .ok (.istore 4, 2) := by decide +kernel
theorem dX4_link_51 : decode cX4_link 51 = .ok (.aload_n 0, 1) := by decide +kernel
theorem dX4_link_52 : decode cX4_link 52 = .ok (.getfield 11, 3) := by decide +kernel
theorem dX4_link_55 : decode cX4_link 55 = .ok (.iload_n 3, 1) := by decide +kernel
theorem dX4_link_56 : decode cX4_link 56 = .ok (.iaload, 1) := by decide +kernel
theorem dX4_link_57 : decode cX4_link 57 = .ok (.ifCond .ge 14, 3) := by decide +kernel
theorem dX4_link_60 : decode cX4_link 60 = .ok (.aload_n 0, 1) := by decide +kernel
theorem dX4_link_61 : decode cX4_link 61 = .ok (.getfield 11, 3) := by decide +kernel
theorem dX4_link_64 : decode cX4_link 64 = .ok (.iload_n 3, 1) := by decide +kernel
theorem dX4_link_65 : decode cX4_link 65 = .ok (.iload 4, 2) := by decide +kernel
theorem dX4_link_67 : decode cX4_link 67 = .ok (.iastore, 1) := by decide +kernel
theorem dX4_link_68 : decode cX4_link 68 = .ok (.goto 44, 3) := by decide +kernel
theorem dX4_link_71 : decode cX4_link 71 = .ok (.aload_n 0, 1) := by decide +kernel
theorem dX4_link_72 : decode cX4_link 72 = .ok (.getfield 11, 3) := by decide +kernel
theorem dX4_link_75 : decode cX4_link 75 = .ok (.iload_n 3, 1) := by decide +kernel
theorem dX4_link_76 : decode cX4_link 76 = .ok (.iaload, 1) := by decide +kernel
theorem dX4_link_77 : decode cX4_link 77 = .ok (.istore 5, 2) := by decide +kernel
theorem dX4_link_79 : decode cX4_link 79 = .ok (.aload_n 0, 1) := by decide +kernel
theorem dX4_link_80 : decode cX4_link 80 = .ok (.getfield 15, 3) := by decide +kernel
theorem dX4_link_83 : decode cX4_link 83 = .ok (.iload 5, 2) := by decide +kernel
theorem dX4_link_85 : decode cX4_link 85 = .ok (.iload 4, 2) := by decide +kernel
theorem dX4_link_87 : decode cX4_link 87 = .ok (.iastore, 1) := by decide +kernel
theorem dX4_link_88 : decode cX4_link 88 = .ok (.aload_n 0, 1) := by decide +kernel
theorem dX4_link_89 : decode cX4_link 89 = .ok (.getfield 18, 3) := by decide +kernel
theorem dX4_link_92 : decode cX4_link 92 = .ok (.iload 5, 2) := by decide +kernel
theorem dX4_link_94 : decode cX4_link 94 = .ok (.aload_n 0, 1) := by decide +kernel
theorem dX4_link_95 : decode cX4_link 95 = .ok (.getfield 18, 3) := by decide +kernel
theorem dX4_link_98 : decode cX4_link 98 = .ok (.iload 5, 2) := by decide +kernel
theorem dX4_link_100 : decode cX4_link 100 = .ok (.iaload, 1) := by decide +kernel
theorem dX4_link_101 : decode cX4_link 101 = .ok (.aload_n 0, 1) := by decide +kernel
theorem dX4_link_102 : decode cX4_link 102 = .ok (.getfield 18, 3) := by decide +kernel
theorem dX4_link_105 : decode cX4_link 105 = .ok (.iload 4, 2) := by decide +kernel
theorem dX4_link_107 : decode cX4_link 107 = .ok (.iaload, 1) := by decide +kernel
theorem dX4_link_108 : decode cX4_link 108 = .ok (.invokestatic 78, 3) := by decide +kernel
theorem dX4_link_111 : decode cX4_link 111 = .ok (.iastore, 1) := by decide +kernel
theorem dX4_link_112 : decode cX4_link 112 = .ok (.iinc 2 1, 3) := by decide +kernel
theorem dX4_link_115 : decode cX4_link 115 = .ok (.goto (-103), 3) := by decide +kernel
theorem dX4_link_118 : decode cX4_link 118 = .ok (.iinc 1 1, 3) := by decide +kernel
theorem dX4_link_121 : decode cX4_link 121 = .ok (.goto (-119), 3) := by decide +kernel
theorem dX4_link_124 : decode cX4_link 124 = .ok (.return_, 1) := by decide +kernel
theorem dX4_begin_0 : decode cX4_begin 0 = .ok (.iconst 0, 1) := by decide +kernel
theorem dX4_begin_1 : decode cX4_begin 1 = .ok (.istore_n 1, 1) := by decide +kernel
theorem dX4_begin_2 : decode cX4_begin 2 = .ok (.iload_n 1, 1) := by decide +kernel
theorem dX4_begin_3 : decode cX4_begin 3 = .ok (.aload_n 0, 1) := by decide +kernel
theorem dX4_begin_4 : decode cX4_begin 4 = .ok (.getfield 42, 3) := by decide +kernel
theorem dX4_begin_7 : decode cX4_begin 7 = .ok (.if_icmp .ge 16, 3) := by decide +kernel
theorem dX4_begin_10 : decode cX4_begin 10 = .ok (.aload_n 0, 1) := by decide +kernel
theorem dX4_begin_11 : decode cX4_begin 11 = .ok (.getfield 24, 3) := by decide +kernel
theorem dX4_begin_14 : decode cX4_begin 14 = .ok (.iload_n 1, 1) := by decide +kernel
theorem dX4_begin_15 : decode cX4_begin 15 = .ok (.lconst 0, 1) := by decide +kernel
theorem dX4_begin_16 : decode cX4_begin 16 = .ok (.lastore, 1) := by decide +kernel
theorem dX4_begin_17 : decode cX4_begin 17 = .ok (.iinc 1 1, 3) := by decide +kernel
theorem dX4_begin_20 : decode cX4_begin 20 = .ok (.goto (-18), 3) := by decide +kernel
theorem dX4_begin_23 : decode cX4_begin 23 = .ok (.aload_n 0, 1) := by decide +kernel
theorem dX4_begin_24 : decode cX4_begin 24 = .ok (.getfield 24, 3) := by decide +kernel
theorem dX4_begin_27 : decode cX4_begin 27 = .ok (.iconst 0, 1) := by decide +kernel
theorem dX4_begin_28 : decode cX4_begin 28 = .ok (.lconst 1, 1) := by decide +kernel
theorem dX4_begin_29 : decode cX4_begin 29 = .ok (.lastore, 1) := by decide +kernel
theorem dX4_begin_30 : decode cX4_begin 30 = .ok (.return_, 1) := by decide +kernel
theorem dX4_throwOnce_0 : decode cX4_throwOnce 0 = .ok (.lconst 0, 1) := by decide +kernel
theorem dX4_throwOnce_1 : decode cX4_throwOnce 1 = .ok (.lstore_n 3, 1) := by decide +kernel
theorem dX4_throwOnce_2 : decode cX4_throwOnce 2 = .ok (.iconst 0, 1) := by decide +kernel
theorem dX4_throwOnce_3 : decode cX4_throwOnce 3 = .ok (.istore 5, 2) := by decide +kernel
theorem dX4_throwOnce_5 : decode cX4_throwOnce 5 = .ok (.iload 5, 2) := by decide +kernel
theorem dX4_throwOnce_7 : decode cX4_throwOnce 7 = .ok (.aload_n 0, 1) := by decide +kernel
theorem dX4_throwOnce_8 : decode cX4_throwOnce 8 = .ok (.getfield 42, 3) := by decide +kernel
theorem dX4_throwOnce_11 : decode cX4_throwOnce 11 = .ok (.if_icmp .ge 17, 3) := by decide +kernel
theorem dX4_throwOnce_14 : decode cX4_throwOnce 14 = .ok (.aload_n 0, 1) := by decide +kernel
theorem dX4_throwOnce_15 : decode cX4_throwOnce 15 = .ok (.getfield 28, 3) := by decide +kernel
theorem dX4_throwOnce_18 : decode cX4_throwOnce 18 = .ok (.iload 5, 2) := by decide +kernel
theorem dX4_throwOnce_20 : decode cX4_throwOnce 20 = .ok (.lconst 0, 1) := by decide +kernel
theorem dX4_throwOnce_21 : decode cX4_throwOnce 21 = .ok (.lastore, 1) := by decide +kernel
theorem dX4_throwOnce_22 : decode cX4_throwOnce 22 = .ok (.iinc 5 1, 3) := by decide +kernel
theorem dX4_throwOnce_25 : decode cX4_throwOnce 25 = .ok (.goto (-20), 3) := by decide +kernel
theorem dX4_throwOnce_28 : decode cX4_throwOnce 28 = .ok (.iconst 0, 1) := by decide +kernel
theorem dX4_throwOnce_29 : decode cX4_throwOnce 29 = .ok (.istore 5, 2) := by decide +kernel
theorem dX4_throwOnce_31 : decode cX4_throwOnce 31 = .ok (.iload 5, 2) := by decide +kernel
theorem dX4_throwOnce_33 : decode cX4_throwOnce 33 = .ok (.aload_n 0, 1) := by decide +kernel
theorem dX4_throwOnce_34 : decode cX4_throwOnce 34 = .ok (.getfield 42, 3) := by decide +kernel
theorem dX4_throwOnce_37 : decode cX4_throwOnce 37 = .ok (.if_icmp .ge 124, 3) := by decide +kernel
theorem dX4_throwOnce_40 : decode cX4_throwOnce 40 = .ok (.iconst 0, 1) := by decide +kernel
theorem dX4_throwOnce_41 : decode cX4_throwOnce 41 = .ok (.istore 6, 2) := by decide +kernel
theorem dX4_throwOnce_43 : decode cX4_throwOnce 43 = .ok (.iload 6, 2) := by decide +kernel
theorem dX4_throwOnce_45 : decode cX4_throwOnce 45 = .ok (.aload_n 0, 1) := by decide +kernel
theorem dX4_throwOnce_46 : decode cX4_throwOnce 46 = .ok (.getfield 41, 3) := by decide +kernel
theorem dX4_throwOnce_49 : decode cX4_throwOnce 49 = .ok (.if_icmp .ge 106, 3) := by decide +kernel
theorem dX4_throwOnce_52 : decode cX4_throwOnce 52 = .ok (.aload_n 0, 1) := by decide +kernel
theorem dX4_throwOnce_53 : decode cX4_throwOnce 53 = .ok (.getfield 24, 3) := by decide +kernel
theorem dX4_throwOnce_56 : decode cX4_throwOnce 56 = .ok (.iload 5, 2) := by decide +kernel
theorem dX4_throwOnce_58 : decode cX4_throwOnce 58 = .ok (.laload, 1) := by decide +kernel
theorem dX4_throwOnce_59 : decode cX4_throwOnce 59 = .ok (.lconst 0, 1) := by decide +kernel
theorem dX4_throwOnce_60 : decode cX4_throwOnce 60 = .ok (.lcmp, 1) := by decide +kernel
theorem dX4_throwOnce_61 : decode cX4_throwOnce 61 = .ok (.ifCond .eq 94, 3) := by decide +kernel
theorem dX4_throwOnce_64 : decode cX4_throwOnce 64 = .ok (.aload_n 0, 1) := by decide +kernel
theorem dX4_throwOnce_65 : decode cX4_throwOnce 65 = .ok (.getfield 11, 3) := by decide +kernel
theorem dX4_throwOnce_68 : decode cX4_throwOnce 68 = .ok (.iload 5, 2) := by decide +kernel
theorem dX4_throwOnce_70 : decode cX4_throwOnce 70 = .ok (.iconst 3, 1) := by decide +kernel
theorem dX4_throwOnce_71 : decode cX4_throwOnce 71 = .ok (.imul, 1) := by decide +kernel
theorem dX4_throwOnce_72 : decode cX4_throwOnce 72 = .ok (.iload 6, 2) := by decide +kernel
theorem dX4_throwOnce_74 : decode cX4_throwOnce 74 = .ok (.iadd, 1) := by decide +kernel
theorem dX4_throwOnce_75 : decode cX4_throwOnce 75 = .ok (.iaload, 1) := by decide +kernel
theorem dX4_throwOnce_76 : decode cX4_throwOnce 76 = .ok (.istore 7, 2) := by decide +kernel
theorem dX4_throwOnce_78 : decode cX4_throwOnce 78 = .ok (.aload_n 0, 1) := by decide +kernel
theorem dX4_throwOnce_79 : decode cX4_throwOnce 79 = .ok (.getfield 24, 3) := by decide +kernel
theorem dX4_throwOnce_82 : decode cX4_throwOnce 82 = .ok (.iload 5, 2) := by decide +kernel
theorem dX4_throwOnce_84 : decode cX4_throwOnce 84 = .ok (.laload, 1) := by decide +kernel
theorem dX4_throwOnce_85 : decode cX4_throwOnce 85 = .ok (.iload_n 2, 1) := by decide +kernel
theorem dX4_throwOnce_86 : decode cX4_throwOnce 86 = .ok (.ifCond .eq 15, 3) := by decide +kernel
theorem dX4_throwOnce_89 : decode cX4_throwOnce 89 = .ok (.aload_n 0, 1) := by decide +kernel
theorem dX4_throwOnce_90 : decode cX4_throwOnce 90 = .ok (.getfield 31, 3) := by decide +kernel
theorem dX4_throwOnce_93 : decode cX4_throwOnce 93 = .ok (.iload 6, 2) := by decide +kernel
theorem dX4_throwOnce_95 : decode cX4_throwOnce 95 = .ok (.invokevirtual 84, 3) := by decide +kernel
theorem dX4_throwOnce_98 : decode cX4_throwOnce 98 = .ok (.goto 4, 3) := by decide +kernel
theorem dX4_throwOnce_101 : decode cX4_throwOnce 101 = .ok (.iconst 1, 1) := by decide +kernel
theorem dX4_throwOnce_102 : decode cX4_throwOnce 102 = .ok (.i2l, 1) := by decide +kernel
theorem dX4_throwOnce_103 : decode cX4_throwOnce 103 = .ok (.lmul, 1) := by decide +kernel
theorem dX4_throwOnce_104 : decode cX4_throwOnce 104 = .ok (.lstore 8, 2) := by decide +kernel
theorem dX4_throwOnce_106 : decode cX4_throwOnce 106 = .ok (.aload_n 0, 1) := by decide +kernel
theorem dX4_throwOnce_107 : decode cX4_throwOnce 107 = .ok (.getfield 18, 3) := by decide +kernel
theorem dX4_throwOnce_110 : decode cX4_throwOnce 110 = .ok (.iload 7, 2) := by decide +kernel
theorem dX4_throwOnce_112 : decode cX4_throwOnce 112 = .ok (.iaload, 1) := by decide +kernel
theorem dX4_throwOnce_113 : decode cX4_throwOnce 113 = .ok (.bipush 6, 2) := by decide +kernel
theorem dX4_throwOnce_115 : decode cX4_throwOnce 115 = .ok (.if_icmp .ne 18, 3) := by decide +kernel
theorem dX4_throwOnce_118 : decode cX4_throwOnce 118 = .ok (.aload_n 0, 1) := by decide +kernel
theorem dX4_throwOnce_119 : decode cX4_throwOnce 119 = .ok (.getfield 28, 3) := by decide +kernel
theorem dX4_throwOnce_122 : decode cX4_throwOnce 122 = .ok (.iload 7, 2) := by decide +kernel
theorem dX4_throwOnce_124 : decode cX4_throwOnce 124 = .ok (.dup2, 1) := by decide +kernel
theorem dX4_throwOnce_125 : decode cX4_throwOnce 125 = .ok (.laload, 1) := by decide +kernel
theorem dX4_throwOnce_126 : decode cX4_throwOnce 126 = .ok (.lload 8, 2) := by decide +kernel
theorem dX4_throwOnce_128 : decode cX4_throwOnce 128 = .ok (.ladd, 1) := by decide +kernel
theorem dX4_throwOnce_129 : decode cX4_throwOnce 129 = .ok (.lastore, 1) := by decide +kernel
theorem dX4_throwOnce_130 : decode cX4_throwOnce 130 = .ok (.goto 19, 3) := by decide +kernel
theorem dX4_throwOnce_133 : decode cX4_throwOnce 133 = .ok (.aload_n 0, 1) := by decide +kernel
theorem dX4_throwOnce_134 : decode cX4_throwOnce 134 = .ok (.getfield 18, 3) := by decide +kernel
theorem dX4_throwOnce_137 : decode cX4_throwOnce 137 = .ok (.iload 7, 2) := by decide +kernel
theorem dX4_throwOnce_139 : decode cX4_throwOnce 139 = .ok (.iaload, 1) := by decide +kernel
theorem dX4_throwOnce_140 : decode cX4_throwOnce 140 = .ok (.iload_n 1, 1) := by decide +kernel
theorem dX4_throwOnce_141 : decode cX4_throwOnce 141 = .ok (.if_icmp .ne 8, 3) := by decide +kernel
theorem dX4_throwOnce_144 : decode cX4_throwOnce 144 = .ok (.lload_n 3, 1) := by decide +kernel
theorem dX4_throwOnce_145 : decode cX4_throwOnce 145 = .ok (.lload 8, 2) := by decide +kernel
theorem dX4_throwOnce_147 : decode cX4_throwOnce 147 = .ok (.ladd, 1) := by decide +kernel
theorem dX4_throwOnce_148 : decode cX4_throwOnce 148 = .ok (.lstore_n 3, 1) := by decide +kernel
theorem dX4_throwOnce_149 : decode cX4_throwOnce 149 = .ok (.iinc 6 1, 3) := by decide +kernel
theorem dX4_throwOnce_152 : decode cX4_throwOnce 152 = .ok (.goto (-109), 3) := by decide +kernel
theorem dX4_throwOnce_155 : decode cX4_throwOnce 155 = .ok (.iinc 5 1, 3) := by decide +kernel
theorem dX4_throwOnce_158 : decode cX4_throwOnce 158 = .ok (.goto (-127), 3) := by decide +kernel
theorem dX4_throwOnce_161 : decode cX4_throwOnce 161 = .ok (.aload_n 0, 1) := by decide +kernel
theorem dX4_throwOnce_162 : decode cX4_throwOnce 162 = .ok (.getfield 24, 3) := by decide +kernel
theorem dX4_throwOnce_165 : decode cX4_throwOnce 165 = .ok (.astore 5, 2) := by decide +kernel
theorem dX4_throwOnce_167 : decode cX4_throwOnce 167 = .ok (.aload_n 0, 1) := by decide +kernel
theorem dX4_throwOnce_168 : decode cX4_throwOnce 168 = .ok (.aload_n 0, 1) := by decide +kernel
theorem dX4_throwOnce_169 : decode cX4_throwOnce 169 = .ok (.getfield 28, 3) := by decide +kernel
theorem dX4_throwOnce_172 : decode cX4_throwOnce 172 = .ok (.putfield 24, 3) := by decide +kernel
theorem dX4_throwOnce_175 : decode cX4_throwOnce 175 = .ok (.aload_n 0, 1) := by decide +kernel
theorem dX4_throwOnce_176 : decode cX4_throwOnce 176 = .ok (.aload 5, 2) := by decide +kernel
theorem dX4_throwOnce_178 : decode cX4_throwOnce 178 = .ok (.putfield 28, 3) := by decide +kernel
theorem dX4_throwOnce_181 : decode cX4_throwOnce 181 = .ok (.lload_n 3, 1) := by decide +kernel
theorem dX4_throwOnce_182 : decode cX4_throwOnce 182 = .ok (.lreturn, 1) := by decide +kernel
theorem dX4_winsOf_0 : decode cX4_winsOf 0 = .ok (.aload_n 0, 1) := by decide +kernel
theorem dX4_winsOf_1 : decode cX4_winsOf 1 = .ok (.invokevirtual 87, 3) := by decide +kernel
theorem dX4_winsOf_4 : decode cX4_winsOf 4 = .ok (.lconst 0, 1) := by decide +kernel
theorem dX4_winsOf_5 : decode cX4_winsOf 5 = .ok (.lstore_n 3, 1) := by decide +kernel
theorem dX4_winsOf_6 : decode cX4_winsOf 6 = .ok (.iconst 0, 1) := by decide +kernel
theorem dX4_winsOf_7 : decode cX4_winsOf 7 = .ok (.istore 5, 2) := by decide +kernel
theorem dX4_winsOf_9 : decode cX4_winsOf 9 = .ok (.iload 5, 2) := by decide +kernel
theorem dX4_winsOf_11 : decode cX4_winsOf 11 = .ok (.iload_n 2, 1) := by decide +kernel
theorem dX4_winsOf_12 : decode cX4_winsOf 12 = .ok (.if_icmp .ge 27, 3) := by decide +kernel
theorem dX4_winsOf_15 : decode cX4_winsOf 15 = .ok (.lload_n 3, 1) := by decide +kernel
theorem dX4_winsOf_16 : decode cX4_winsOf 16 = .ok (.aload_n 0, 1) := by decide +kernel
theorem dX4_winsOf_17 : decode cX4_winsOf 17 = .ok (.getfield 31, 3) := by decide +kernel
theorem dX4_winsOf_20 : decode cX4_winsOf 20 = .ok (.getfield 90, 3) := by decide +kernel
theorem dX4_winsOf_23 : decode cX4_winsOf 23 = .ok (.i2l, 1) := by decide +kernel
theorem dX4_winsOf_24 : decode cX4_winsOf 24 = .ok (.lmul, 1) := by decide +kernel
theorem dX4_winsOf_25 : decode cX4_winsOf 25 = .ok (.aload_n 0, 1) := by decide +kernel
theorem dX4_winsOf_26 : decode cX4_winsOf 26 = .ok (.iload_n 1, 1) := by decide +kernel
theorem dX4_winsOf_27 : decode cX4_winsOf 27 = .ok (.iconst 1, 1) := by decide +kernel
theorem dX4_winsOf_28 : decode cX4_winsOf 28 = .ok (.invokevirtual 93, 3) := by decide +kernel
theorem dX4_winsOf_31 : decode cX4_winsOf 31 = .ok (.ladd, 1) := by decide +kernel
theorem dX4_winsOf_32 : decode cX4_winsOf 32 = .ok (.lstore_n 3, 1) := by decide +kernel
theorem dX4_winsOf_33 : decode cX4_winsOf 33 = .ok (.iinc 5 1, 3) := by decide +kernel
theorem dX4_winsOf_36 : decode cX4_winsOf 36 = .ok (.goto (-27), 3) := by decide +kernel
theorem dX4_winsOf_39 : decode cX4_winsOf 39 = .ok (.lload_n 3, 1) := by decide +kernel
theorem dX4_winsOf_40 : decode cX4_winsOf 40 = .ok (.lreturn, 1) := by decide +kernel
theorem dX4_rowsWithNone_0 : decode cX4_rowsWithNone 0 = .ok (.aload_n 0, 1) := by decide +kernel
theorem dX4_rowsWithNone_1 : decode cX4_rowsWithNone 1 = .ok (.invokevirtual 87, 3) := by decide +kernel
theorem dX4_rowsWithNone_4 : decode cX4_rowsWithNone 4 = .ok (.iconst 0, 1) := by decide +kernel
theorem dX4_rowsWithNone_5 : decode cX4_rowsWithNone 5 = .ok (.istore_n 2, 1) := by decide +kernel
theorem dX4_rowsWithNone_6 : decode cX4_rowsWithNone 6 = .ok (.iload_n 2, 1) := by decide +kernel
theorem dX4_rowsWithNone_7 : decode cX4_rowsWithNone 7 = .ok (.iload_n 1, 1) := by decide +kernel
theorem dX4_rowsWithNone_8 : decode cX4_rowsWithNone 8 = .ok (.if_icmp .ge 17, 3) := by decide +kernel
theorem dX4_rowsWithNone_11 : decode cX4_rowsWithNone 11 = .ok (.aload_n 0, 1) := by decide +kernel
theorem dX4_rowsWithNone_12 : decode cX4_rowsWithNone 12 = .ok (.bipush 6, 2) := by decide +kernel
theorem dX4_rowsWithNone_14 : decode cX4_rowsWithNone 14 = .ok (.iconst 0, 1) := by decide +kernel
theorem dX4_rowsWithNone_15 : decode cX4_rowsWithNone 15 = .ok (.invokevirtual 93, 3) := by decide +kernel
theorem dX4_rowsWithNone_18 : decode cX4_rowsWithNone 18 = .ok (.pop2, 1) := by decide +kernel
theorem dX4_rowsWithNone_19 : decode cX4_rowsWithNone 19 = .ok (.iinc 2 1, 3) := by decide +kernel
theorem dX4_rowsWithNone_22 : decode cX4_rowsWithNone 22 = .ok (.goto (-16), 3) := by decide +kernel
theorem dX4_rowsWithNone_25 : decode cX4_rowsWithNone 25 = .ok (.lconst 0, 1) := by decide +kernel
theorem dX4_rowsWithNone_26 : decode cX4_rowsWithNone 26 = .ok (.lstore_n 2, 1) := by decide +kernel
theorem dX4_rowsWithNone_27 : decode cX4_rowsWithNone 27 = .ok (.iconst 0, 1) := by decide +kernel
theorem dX4_rowsWithNone_28 : decode cX4_rowsWithNone 28 = .ok (.istore 4, 2) := by decide +kernel
theorem dX4_rowsWithNone_30 : decode cX4_rowsWithNone 30 = .ok (.iload 4, 2) := by decide +kernel
theorem dX4_rowsWithNone_32 : decode cX4_rowsWithNone 32 = .ok (.aload_n 0, 1) := by decide +kernel
theorem dX4_rowsWithNone_33 : decode cX4_rowsWithNone 33 = .ok (.getfield 42, 3) := by decide +kernel
theorem dX4_rowsWithNone_36 : decode cX4_rowsWithNone 36 = .ok (.if_icmp .ge 19, 3) := by decide +kernel
theorem dX4_rowsWithNone_39 : decode cX4_rowsWithNone 39 = .ok (.lload_n 2, 1) := by decide +kernel
theorem dX4_rowsWithNone_40 : decode cX4_rowsWithNone 40 = .ok (.aload_n 0, 1) := by decide +kernel
theorem dX4_rowsWithNone_41 : decode cX4_rowsWithNone 41 = .ok (.getfield 24, 3) := by decide +kernel
theorem dX4_rowsWithNone_44 : decode cX4_rowsWithNone 44 = .ok (.iload 4, 2) := by decide +kernel
theorem dX4_rowsWithNone_46 : decode cX4_rowsWithNone 46 = .ok (.laload, 1) := by decide +kernel
theorem dX4_rowsWithNone_47 : decode cX4_rowsWithNone 47 = .ok (.ladd, 1) := by decide +kernel
theorem dX4_rowsWithNone_48 : decode cX4_rowsWithNone 48 = .ok (.lstore_n 2, 1) := by decide +kernel
theorem dX4_rowsWithNone_49 : decode cX4_rowsWithNone 49 = .ok (.iinc 4 1, 3) := by decide +kernel
theorem dX4_rowsWithNone_52 : decode cX4_rowsWithNone 52 = .ok (.goto (-22), 3) := by decide +kernel
theorem dX4_rowsWithNone_55 : decode cX4_rowsWithNone 55 = .ok (.lload_n 2, 1) := by decide +kernel
theorem dX4_rowsWithNone_56 : decode cX4_rowsWithNone 56 = .ok (.lreturn, 1) := by decide +kernel
theorem dX5_init_0 : decode cX5_init 0 = .ok (.aload_n 0, 1) := by decide +kernel
theorem dX5_init_1 : decode cX5_init 1 = .ok (.invokespecial 3, 3) := by decide +kernel
theorem dX5_init_4 : decode cX5_init 4 = .ok (.return_, 1) := by decide +kernel
theorem dX5_read_0 : decode cX5_read 0 = .ok (.aload_n 0, 1) := by decide +kernel
theorem dX5_read_1 : decode cX5_read 1 = .ok (.aload_n 1, 1) := by decide +kernel
theorem dX5_read_2 : decode cX5_read 2 = .ok (.putfield 9, 3) := by decide +kernel
theorem dX5_read_5 : decode cX5_read 5 = .ok (.aload_n 0, 1) := by decide +kernel
theorem dX5_read_6 : decode cX5_read 6 = .ok (.iload_n 2, 1) := by decide +kernel
theorem dX5_read_7 : decode cX5_read 7 = .ok (.aload_n 1, 1) := by decide +kernel
theorem dX5_read_8 : decode cX5_read 8 = .ok (.arraylength, 1) := by decide +kernel
theorem dX5_read_9 : decode cX5_read 9 = .ok (.invokestatic 15, 3) := by decide +kernel
theorem dX5_read_12 : decode cX5_read 12 = .ok (.putfield 21, 3) := by decide +kernel
theorem dX5_read_15 : decode cX5_read 15 = .ok (.aload_n 0, 1) := by decide +kernel
theorem dX5_read_16 : decode cX5_read 16 = .ok (.iconst 0, 1) := by decide +kernel
theorem dX5_read_17 : decode cX5_read 17 = .ok (.putfield 25, 3) := by decide +kernel
theorem dX5_read_20 : decode cX5_read 20 = .ok (.aload_n 0, 1) := by decide +kernel
theorem dX5_read_21 : decode cX5_read 21 = .ok (.iconst 0, 1) := by decide +kernel
theorem dX5_read_22 : decode cX5_read 22 = .ok (.putfield 28, 3) := by decide +kernel
theorem dX5_read_25 : decode cX5_read 25 = .ok (.aload_n 0, 1) := by decide +kernel
theorem dX5_read_26 : decode cX5_read 26 = .ok (.aload_n 3, 1) := by decide +kernel
theorem dX5_read_27 : decode cX5_read 27 = .ok (.putfield 32, 3) := by decide +kernel
theorem dX5_read_30 : decode cX5_read 30 = .ok (.aload_n 0, 1) := by decide +kernel
theorem dX5_read_31 : decode cX5_read 31 = .ok (.getfield 32, 3) := by decide +kernel
theorem dX5_read_34 : decode cX5_read 34 = .ok (.invokevirtual 36, 3) := by decide +kernel
theorem dX5_read_37 : decode cX5_read 37 = .ok (.iconst 1, 1) := by decide +kernel
theorem dX5_read_38 : decode cX5_read 38 = .ok (.istore 4, 2) := by decide +kernel
theorem dX5_read_40 : decode cX5_read 40 = .ok (.iload 4, 2) := by decide +kernel
theorem dX5_read_42 : decode cX5_read 42 = .ok (.bipush 10, 2) := by decide +kernel
theorem dX5_read_44 : decode cX5_read 44 = .ok (.if_icmp .gt 69, 3) := by decide +kernel
theorem dX5_read_47 : decode cX5_read 47 = .ok (.aload_n 0, 1) := by decide +kernel
theorem dX5_read_48 : decode cX5_read 48 = .ok (.invokevirtual 41, 3) := by decide +kernel
theorem dX5_read_51 : decode cX5_read 51 = .ok (.aload_n 0, 1) := by decide +kernel
theorem dX5_read_52 : decode cX5_read 52 = .ok (.getfield 28, 3) := by decide +kernel
theorem dX5_read_55 : decode cX5_read 55 = .ok (.ifCond .eq 8, 3) := by decide +kernel
theorem dX5_read_58 : decode cX5_read 58 = .ok (.aload_n 0, 1) := by decide +kernel
theorem dX5_read_59 : decode cX5_read 59 = .ok (.getfield 25, 3) := by decide +kernel
theorem dX5_read_62 : decode cX5_read 62 = .ok (.ireturn, 1) := by decide +kernel
theorem dX5_read_63 : decode cX5_read 63 = .ok (.aload_n 0, 1) := by decide +kernel
theorem dX5_read_64 : decode cX5_read 64 = .ok (.getfield 25, 3) := by decide +kernel
theorem dX5_read_67 : decode cX5_read 67 = .ok (.aload_n 0, 1) := by decide +kernel
theorem dX5_read_68 : decode cX5_read 68 = .ok (.getfield 21, 3) := by decide +kernel
theorem dX5_read_71 : decode cX5_read 71 = .ok (.if_icmp .ne 5, 3) := by decide +kernel
theorem dX5_read_74 : decode cX5_read 74 = .ok (.iconst (-1), 1) := by decide +kernel
theorem dX5_read_75 : decode cX5_read 75 = .ok (.ireturn, 1) := by decide +kernel
theorem dX5_read_76 : decode cX5_read 76 = .ok (.iload 4, 2) := by decide +kernel
theorem dX5_read_78 : decode cX5_read 78 = .ok (.bipush 10, 2) := by decide +kernel
theorem dX5_read_80 : decode cX5_read 80 = .ok (.if_icmp .eq 12, 3) := by decide +kernel
theorem dX5_read_83 : decode cX5_read 83 = .ok (.aload_n 0, 1) := by decide +kernel
theorem dX5_read_84 : decode cX5_read 84 = .ok (.invokevirtual 44, 3) := by decide +kernel
theorem dX5_read_87 : decode cX5_read 87 = .ok (.bipush 59, 2) := by decide +kernel
theorem dX5_read_89 : decode cX5_read 89 = .ok (.if_icmp .eq 8, 3) := by decide +kernel
theorem dX5_read_92 : decode cX5_read 92 = .ok (.aload_n 0, 1) := by decide +kernel
theorem dX5_read_93 : decode cX5_read 93 = .ok (.getfield 25, 3) := by decide +kernel
theorem dX5_read_96 : decode cX5_read 96 = .ok (.ireturn, 1) := by decide +kernel
theorem dX5_read_97 : decode cX5_read 97 = .ok (.aload_n 0, 1) := by decide +kernel
theorem dX5_read_98 : decode cX5_read 98 = .ok (.dup, 1) := by decide +kernel
theorem dX5_read_99 : decode cX5_read 99 = .ok (.getfield 25, 3) := by decide +kernel
theorem dX5_read_102 : decode cX5_read 102 = .ok (.iconst 1, 1) := by decide +kernel
theorem dX5_read_103 : decode cX5_read 103 = .ok (.iadd, 1) := by decide +kernel
theorem dX5_read_104 : decode cX5_read 104 = .ok (.putfield 25, 3) := by decide +kernel
theorem dX5_read_107 : decode cX5_read 107 = .ok (.iinc 4 1, 3) := by decide +kernel
theorem dX5_read_110 : decode cX5_read 110 = .ok (.goto (-70), 3) := by decide +kernel
theorem dX5_read_113 : decode cX5_read 113 = .ok (.aload_n 0, 1) := by decide +kernel
theorem dX5_read_114 : decode cX5_read 114 = .ok (.getfield 25, 3) := by decide +kernel
theorem dX5_read_117 : decode cX5_read 117 = .ok (.ireturn, 1) := by decide +kernel
theorem dX5_readClause_0 : decode cX5_readClause 0 = .ok (.aload_n 0, 1) := by decide +kernel
theorem dX5_readClause_1 : decode cX5_readClause 1 = .ok (.invokevirtual 44, 3) := by decide +kernel
theorem dX5_readClause_4 : decode cX5_readClause 4 = .ok (.istore_n 1, 1) := by decide +kernel
theorem dX5_readClause_5 : decode cX5_readClause 5 = .ok (.iload_n 1, 1) := by decide +kernel
theorem dX5_readClause_6 : decode cX5_readClause 6 = .ok (.bipush 104, 2) := by decide +kernel
theorem dX5_readClause_8 : decode cX5_readClause 8 = .ok (.if_icmp .ne 36, 3) := by decide +kernel
theorem dX5_readClause_11 : decode cX5_readClause 11 = .ok (.aload_n 0, 1) := by decide +kernel
theorem dX5_readClause_12 : decode cX5_readClause 12 = .ok (.ldc 48, 2) := by decide +kernel
theorem dX5_readClause_14 : decode cX5_readClause 14 = .ok (.invokevirtual 50, 3) := by decide +kernel
theorem dX5_readClause_17 : decode cX5_readClause 17 = .ok (.aload_n 0, 1) := by decide +kernel
theorem dX5_readClause_18 : decode cX5_readClause 18 = .ok (.invokevirtual 54, 3) := by decide +kernel
theorem dX5_readClause_21 : decode cX5_readClause 21 = .ok (.istore_n 2, 1) := by decide +kernel
theorem dX5_readClause_22 : decode cX5_readClause 22 = .ok (.aload_n 0, 1) := by decide +kernel
theorem dX5_readClause_23 : decode cX5_readClause 23 = .ok (.bipush 32, 2) := by decide +kernel
theorem dX5_readClause_25 : decode cX5_readClause 25 = .ok (.invokevirtual 57, 3) := by decide +kernel
theorem dX5_readClause_28 : decode cX5_readClause 28 = .ok (.aload_n 0, 1) := by decide +kernel
theorem dX5_readClause_29 : decode cX5_readClause 29 = .ok (.getfield 32, 3) := by decide +kernel
theorem dX5_readClause_32 : decode cX5_readClause 32 = .ok (.iload_n 2, 1) := by decide +kernel
theorem dX5_readClause_33 : decode cX5_readClause 33 = .ok (.aload_n 0, 1) := by decide +kernel
theorem dX5_readClause_34 : decode cX5_readClause 34 = .ok (.iconst 0, 1) := by decide +kernel
theorem dX5_readClause_35 : decode cX5_readClause 35 = .ok (.invokevirtual 61, 3) := by decide +kernel
theorem dX5_readClause_38 : decode cX5_readClause 38 = .ok (.invokevirtual 65, 3) := by decide +kernel
theorem dX5_readClause_41 : decode cX5_readClause 41 = .ok (.goto 81, 3) := by decide +kernel
theorem dX5_readClause_44 : decode cX5_readClause 44 = .ok (.iload_n 1, 1) := by decide +kernel
theorem dX5_readClause_45 : decode cX5_readClause 45 = .ok (.bipush 115, 2) := by decide +kernel
theorem dX5_readClause_47 : decode cX5_readClause 47 = .ok (.if_icmp .ne 32, 3) := by decide +kernel
theorem dX5_readClause_50 : decode cX5_readClause 50 = .ok (.aload_n 0, 1) := by decide +kernel
theorem dX5_readClause_51 : decode cX5_readClause 51 = .ok (.ldc 69, 2) := by decide +kernel
theorem dX5_readClause_53 : decode cX5_readClause 53 = .ok (.invokevirtual 50, 3) := by decide +kernel
theorem dX5_readClause_56 : decode cX5_readClause 56 = .ok (.aload_n 0, 1) := by decide +kernel
theorem dX5_readClause_57 : decode cX5_readClause 57 = .ok (.getfield 32, 3) := by decide +kernel
theorem dX5_readClause_60 : decode cX5_readClause 60 = .ok (.aload_n 0, 1) := by decide +kernel
theorem dX5_readClause_61 : decode cX5_readClause 61 = .ok (.invokevirtual 54, 3) := by decide +kernel
theorem dX5_readClause_64 : decode cX5_readClause 64 = .ok (.iconst 2, 1) := by decide +kernel
theorem dX5_readClause_65 : decode cX5_readClause 65 = .ok (.if_icmp .le 7, 3) := by decide +kernel
theorem dX5_readClause_68 : decode cX5_readClause 68 = .ok (.iconst 3, 1) := by decide +kernel
theorem dX5_readClause_69 : decode cX5_readClause 69 = .ok (.goto 4, 3) := by decide +kernel
theorem dX5_readClause_72 : decode cX5_readClause 72 = .ok (.iconst 2, 1) := by decide +kernel
theorem dX5_readClause_73 : decode cX5_readClause 73 = .ok (.putfield 71, 3) := by decide +kernel
theorem dX5_readClause_76 : decode cX5_readClause 76 = .ok (.goto 46, 3) := by decide +kernel
theorem dX5_readClause_79 : decode cX5_readClause 79 = .ok (.iload_n 1, 1) := by decide +kernel
theorem dX5_readClause_80 : decode cX5_readClause 80 = .ok (.bipush 102, 2) := by decide +kernel
theorem dX5_readClause_82 : decode cX5_readClause 82 = .ok (.if_icmp .ne 23, 3) := by decide +kernel
theorem dX5_readClause_85 : decode cX5_readClause 85 = .ok (.aload_n 0, 1) := by decide +kernel
theorem dX5_readClause_86 : decode cX5_readClause 86 = .ok (.ldc 74, 2) := by decide +kernel
theorem dX5_readClause_88 : decode cX5_readClause 88 = .ok (.invokevirtual 50, 3) := by decide +kernel
theorem dX5_readClause_91 : decode cX5_readClause 91 = .ok (.aload_n 0, 1) := by decide +kernel
theorem dX5_readClause_92 : decode cX5_readClause 92 = .ok (.getfield 32, 3) := by decide +kernel
theorem dX5_readClause_95 : decode cX5_readClause 95 = .ok (.aload_n 0, 1) := by decide +kernel
theorem dX5_readClause_96 : decode cX5_readClause 96 = .ok (.invokevirtual 54, 3) := by decide +kernel
theorem dX5_readClause_99 : decode cX5_readClause 99 = .ok (.putfield 76, 3) := by decide +kernel
theorem dX5_readClause_102 : decode cX5_readClause 102 = .ok (.goto 20, 3) := by decide +kernel
theorem dX5_readClause_105 : decode cX5_readClause 105 = .ok (.aload_n 0, 1) := by decide +kernel
theorem dX5_readClause_106 : decode cX5_readClause 106 = .ok (.ldc 79, 2) := by decide +kernel
theorem dX5_readClause_108 : decode cX5_readClause 108 = .ok (.invokevirtual 50, 3) := by decide +kernel
theorem dX5_readClause_111 : decode cX5_readClause 111 = .ok (.aload_n 0, 1) := by decide +kernel
theorem dX5_readClause_112 : decode cX5_readClause 112 = .ok (.getfield 32, 3) := by decide +kernel
theorem dX5_readClause_115 : decode cX5_readClause 115 = .ok (.aload_n 0, 1) := by decide +kernel
theorem dX5_readClause_116 : decode cX5_readClause 116 = .ok (.invokevirtual 54, 3) := by decide +kernel
theorem dX5_readClause_119 : decode cX5_readClause 119 = .ok (.putfield 81, 3) := by decide +kernel
theorem dX5_readClause_122 : decode cX5_readClause 122 = .ok (.return_, 1) := by decide +kernel
theorem dX5_readE_0 : decode cX5_readE 0 = .ok (.aload_n 0, 1) := by decide +kernel
theorem dX5_readE_1 : decode cX5_readE 1 = .ok (.iload_n 1, 1) := by decide +kernel
theorem dX5_readE_2 : decode cX5_readE 2 = .ok (.invokevirtual 84, 3) := by decide +kernel
theorem dX5_readE_5 : decode cX5_readE 5 = .ok (.lstore_n 2, 1) := by decide +kernel
theorem dX5_readE_6 : decode cX5_readE 6 = .ok (.iconst 0, 1) := by decide +kernel
theorem dX5_readE_7 : decode cX5_readE 7 = .ok (.istore 4, 2) := by decide +kernel
theorem dX5_readE_9 : decode cX5_readE 9 = .ok (.iload 4, 2) := by decide +kernel
theorem dX5_readE_11 : decode cX5_readE 11 = .ok (.bipush 100, 2) := by decide +kernel
theorem dX5_readE_13 : decode cX5_readE 13 = .ok (.if_icmp .ge 43, 3) := by decide +kernel
theorem dX5_readE_16 : decode cX5_readE 16 = .ok (.aload_n 0, 1) := by decide +kernel
theorem dX5_readE_17 : decode cX5_readE 17 = .ok (.getfield 28, 3) := by decide +kernel
theorem dX5_readE_20 : decode cX5_readE 20 = .ok (.ifCond .ne 36, 3) := by decide +kernel
theorem dX5_readE_23 : decode cX5_readE 23 = .ok (.aload_n 0, 1) := by decide +kernel
theorem dX5_readE_24 : decode cX5_readE 24 = .ok (.invokevirtual 44, 3) := by decide +kernel
theorem dX5_readE_27 : decode cX5_readE 27 = .ok (.bipush 124, 2) := by decide +kernel
theorem dX5_readE_29 : decode cX5_readE 29 = .ok (.if_icmp .ne 27, 3) := by decide +kernel
theorem dX5_readE_32 : decode cX5_readE 32 = .ok (.aload_n 0, 1) := by decide +kernel
theorem dX5_readE_33 : decode cX5_readE 33 = .ok (.dup, 1) := by decide +kernel
theorem dX5_readE_34 : decode cX5_readE 34 = .ok (.getfield 25, 3) := by decide +kernel
theorem dX5_readE_37 : decode cX5_readE 37 = .ok (.iconst 1, 1) := by decide +kernel
theorem dX5_readE_38 : decode cX5_readE 38 = .ok (.iadd, 1) := by decide +kernel
theorem dX5_readE_39 : decode cX5_readE 39 = .ok (.putfield 25, 3) := by decide +kernel
theorem dX5_readE_42 : decode cX5_readE 42 = .ok (.lload_n 2, 1) := by decide +kernel
theorem dX5_readE_43 : decode cX5_readE 43 = .ok (.aload_n 0, 1) := by decide +kernel
theorem dX5_readE_44 : decode cX5_readE 44 = .ok (.iload_n 1, 1) := by decide +kernel
theorem dX5_readE_45 : decode cX5_readE 45 = .ok (.invokevirtual 84, 3) := by decide +kernel
theorem dX5_readE_48 : decode cX5_readE 48 = .ok (.lor, 1) := by decide +kernel
theorem dX5_readE_49 : decode cX5_readE 49 = .ok (.lstore_n 2, 1) := by decide +kernel
theorem dX5_readE_50 : decode cX5_readE 50 = .ok (.iinc 4 1, 3) := by decide +kernel
theorem dX5_readE_53 : decode cX5_readE 53 = .ok (.goto (-44), 3) := by decide +kernel
theorem dX5_readE_56 : decode cX5_readE 56 = .ok (.lload_n 2, 1) := by decide +kernel
theorem dX5_readE_57 : decode cX5_readE 57 = .ok (.lreturn, 1) := by decide +kernel
theorem dX5_readT_0 : decode cX5_readT 0 = .ok (.aload_n 0, 1) := by decide +kernel
theorem dX5_readT_1 : decode cX5_readT 1 = .ok (.iload_n 1, 1) := by decide +kernel
theorem dX5_readT_2 : decode cX5_readT 2 = .ok (.invokevirtual 87, 3) := by decide +kernel
theorem dX5_readT_5 : decode cX5_readT 5 = .ok (.lstore_n 2, 1) := by decide +kernel
theorem dX5_readT_6 : decode cX5_readT 6 = .ok (.iconst 0, 1) := by decide +kernel
theorem dX5_readT_7 : decode cX5_readT 7 = .ok (.istore 4, 2) := by decide +kernel
theorem dX5_readT_9 : decode cX5_readT 9 = .ok (.iload 4, 2) := by decide +kernel
theorem dX5_readT_11 : decode cX5_readT 11 = .ok (.bipush 100, 2) := by decide +kernel
theorem dX5_readT_13 : decode cX5_readT 13 = .ok (.if_icmp .ge 43, 3) := by decide +kernel
theorem dX5_readT_16 : decode cX5_readT 16 = .ok (.aload_n 0, 1) := by decide +kernel
theorem dX5_readT_17 : decode cX5_readT 17 = .ok (.getfield 28, 3) := by decide +kernel
theorem dX5_readT_20 : decode cX5_readT 20 = .ok (.ifCond .ne 36, 3) := by decide +kernel
theorem dX5_readT_23 : decode cX5_readT 23 = .ok (.aload_n 0, 1) := by decide +kernel
theorem dX5_readT_24 : decode cX5_readT 24 = .ok (.invokevirtual 44, 3) := by decide +kernel
theorem dX5_readT_27 : decode cX5_readT 27 = .ok (.bipush 38, 2) := by decide +kernel
theorem dX5_readT_29 : decode cX5_readT 29 = .ok (.if_icmp .ne 27, 3) := by decide +kernel
theorem dX5_readT_32 : decode cX5_readT 32 = .ok (.aload_n 0, 1) := by decide +kernel
theorem dX5_readT_33 : decode cX5_readT 33 = .ok (.dup, 1) := by decide +kernel
theorem dX5_readT_34 : decode cX5_readT 34 = .ok (.getfield 25, 3) := by decide +kernel
theorem dX5_readT_37 : decode cX5_readT 37 = .ok (.iconst 1, 1) := by decide +kernel
theorem dX5_readT_38 : decode cX5_readT 38 = .ok (.iadd, 1) := by decide +kernel
theorem dX5_readT_39 : decode cX5_readT 39 = .ok (.putfield 25, 3) := by decide +kernel
theorem dX5_readT_42 : decode cX5_readT 42 = .ok (.lload_n 2, 1) := by decide +kernel
theorem dX5_readT_43 : decode cX5_readT 43 = .ok (.aload_n 0, 1) := by decide +kernel
theorem dX5_readT_44 : decode cX5_readT 44 = .ok (.iload_n 1, 1) := by decide +kernel
theorem dX5_readT_45 : decode cX5_readT 45 = .ok (.invokevirtual 87, 3) := by decide +kernel
theorem dX5_readT_48 : decode cX5_readT 48 = .ok (.land, 1) := by decide +kernel
theorem dX5_readT_49 : decode cX5_readT 49 = .ok (.lstore_n 2, 1) := by decide +kernel
theorem dX5_readT_50 : decode cX5_readT 50 = .ok (.iinc 4 1, 3) := by decide +kernel
theorem dX5_readT_53 : decode cX5_readT 53 = .ok (.goto (-44), 3) := by decide +kernel
theorem dX5_readT_56 : decode cX5_readT 56 = .ok (.lload_n 2, 1) := by decide +kernel
theorem dX5_readT_57 : decode cX5_readT 57 = .ok (.lreturn, 1) := by decide +kernel
theorem dX5_readF_0 : decode cX5_readF 0 = .ok (.aload_n 0, 1) := by decide +kernel
theorem dX5_readF_1 : decode cX5_readF 1 = .ok (.invokevirtual 44, 3) := by decide +kernel
theorem dX5_readF_4 : decode cX5_readF 4 = .ok (.istore_n 2, 1) := by decide +kernel
theorem dX5_readF_5 : decode cX5_readF 5 = .ok (.iload_n 2, 1) := by decide +kernel
theorem dX5_readF_6 : decode cX5_readF 6 = .ok (.bipush 33, 2) := by decide +kernel
theorem dX5_readF_8 : decode cX5_readF 8 = .ok (.if_icmp .eq 9, 3) := by decide +kernel
theorem dX5_readF_11 : decode cX5_readF 11 = .ok (.iload_n 2, 1) := by decide +kernel
theorem dX5_readF_12 : decode cX5_readF 12 = .ok (.bipush 40, 2) := by decide +kernel
theorem dX5_readF_14 : decode cX5_readF 14 = .ok (.if_icmp .ne 66, 3) := by decide +kernel
theorem dX5_readF_17 : decode cX5_readF 17 = .ok (.aload_n 0, 1) := by decide +kernel
theorem dX5_readF_18 : decode cX5_readF 18 = .ok (.getfield 28, 3) := by decide +kernel
theorem dX5_readF_21 : decode cX5_readF 21 = .ok (.ifCond .ne 8, 3) := by decide +kernel
theorem dX5_readF_24 : decode cX5_readF 24 = .ok (.iload_n 1, 1) := by decide +kernel
theorem dX5_readF_25 : decode cX5_readF 25 = .ok (.iconst 5, 1) := by decide +kernel
theorem dX5_readF_26 : decode cX5_readF 26 = .ok (.if_icmp .lt 10, 3) := by decide +kernel
theorem dX5_readF_29 : decode cX5_readF 29 = .ok (.aload_n 0, 1) := by decide +kernel
theorem dX5_readF_30 : decode cX5_readF 30 = .ok (.iconst 1, 1) := by decide +kernel
theorem dX5_readF_31 : decode cX5_readF 31 = .ok (.putfield 28, 3) := by decide +kernel
theorem dX5_readF_34 : decode cX5_readF 34 = .ok (.lconst 0, 1) := by decide +kernel
theorem dX5_readF_35 : decode cX5_readF 35 = .ok (.lreturn, 1) := by decide +kernel
theorem dX5_readF_36 : decode cX5_readF 36 = .ok (.aload_n 0, 1) := by decide +kernel
theorem dX5_readF_37 : decode cX5_readF 37 = .ok (.dup, 1) := by decide +kernel
theorem dX5_readF_38 : decode cX5_readF 38 = .ok (.getfield 25, 3) := by decide +kernel
theorem dX5_readF_41 : decode cX5_readF 41 = .ok (.iconst 1, 1) := by decide +kernel
theorem dX5_readF_42 : decode cX5_readF 42 = .ok (.iadd, 1) := by decide +kernel
theorem dX5_readF_43 : decode cX5_readF 43 = .ok (.putfield 25, 3) := by decide +kernel
theorem dX5_readF_46 : decode cX5_readF 46 = .ok (.iload_n 2, 1) := by decide +kernel
theorem dX5_readF_47 : decode cX5_readF 47 = .ok (.bipush 33, 2) := by decide +kernel
theorem dX5_readF_49 : decode cX5_readF 49 = .ok (.if_icmp .ne 15, 3) := by decide +kernel
theorem dX5_readF_52 : decode cX5_readF 52 = .ok (.aload_n 0, 1) := by decide +kernel
theorem dX5_readF_53 : decode cX5_readF 53 = .ok (.iload_n 1, 1) := by decide +kernel
theorem dX5_readF_54 : decode cX5_readF 54 = .ok (.iconst 1, 1) := by decide +kernel
theorem dX5_readF_55 : decode cX5_readF 55 = .ok (.iadd, 1) := by decide +kernel
theorem dX5_readF_56 : decode cX5_readF 56 = .ok (.invokevirtual 87, 3) := by decide +kernel
theorem dX5_readF_59 : decode cX5_readF 59 = .ok (.ldc2_w 90, 3) := by decide +kernel
theorem dX5_readF_62 : decode cX5_readF 62 = .ok (.lxor, 1) := by decide +kernel
theorem dX5_readF_63 : decode cX5_readF 63 = .ok (.lreturn, 1) := by decide +kernel
theorem dX5_readF_64 : decode cX5_readF 64 = .ok (.aload_n 0, 1) := by decide +kernel
theorem dX5_readF_65 : decode cX5_readF 65 = .ok (.iload_n 1, 1) := by decide +kernel
theorem dX5_readF_66 : decode cX5_readF 66 = .ok (.iconst 1, 1) := by decide +kernel
theorem dX5_readF_67 : decode cX5_readF 67 = .ok (.iadd, 1) := by decide +kernel
theorem dX5_readF_68 : decode cX5_readF 68 = .ok (.invokevirtual 61, 3) := by decide +kernel
theorem dX5_readF_71 : decode cX5_readF 71 = .ok (.lstore_n 3, 1) := by decide +kernel
theorem dX5_readF_72 : decode cX5_readF 72 = .ok (.aload_n 0, 1) := by decide +kernel
theorem dX5_readF_73 : decode cX5_readF 73 = .ok (.bipush 41, 2) := by decide +kernel
theorem dX5_readF_75 : decode cX5_readF 75 = .ok (.invokevirtual 57, 3) := by decide +kernel
theorem dX5_readF_78 : decode cX5_readF 78 = .ok (.lload_n 3, 1) := by decide +kernel
theorem dX5_readF_79 : decode cX5_readF 79 = .ok (.lreturn, 1) := by decide +kernel
theorem dX5_readF_80 : decode cX5_readF 80 = .ok (.aload_n 0, 1) := by decide +kernel
theorem dX5_readF_81 : decode cX5_readF 81 = .ok (.ldc 92, 2) := by decide +kernel
theorem dX5_readF_83 : decode cX5_readF 83 = .ok (.invokevirtual 94, 3) := by decide +kernel
theorem dX5_readF_86 : decode cX5_readF 86 = .ok (.istore_n 3, 1) := by decide +kernel
theorem dX5_readF_87 : decode cX5_readF 87 = .ok (.aload_n 0, 1) := by decide +kernel
theorem dX5_readF_88 : decode cX5_readF 88 = .ok (.ldc 98, 2) := by decide +kernel
theorem dX5_readF_90 : decode cX5_readF 90 = .ok (.invokevirtual 94, 3) := by decide +kernel
theorem dX5_readF_93 : decode cX5_readF 93 = .ok (.istore 4, 2) := by decide +kernel
theorem dX5_readF_95 : decode cX5_readF 95 = .ok (.aload_n 0, 1) := by decide +kernel
theorem dX5_readF_96 : decode cX5_readF 96 = .ok (.invokevirtual 54, 3) := by decide +kernel
theorem dX5_readF_99 : decode cX5_readF 99 = .ok (.istore 5, 2) := by decide +kernel
theorem dX5_readF_101 : decode cX5_readF 101 = .ok (.aload_n 0, 1) := by decide +kernel
theorem dX5_readF_102 : decode cX5_readF 102 = .ok (.getfield 28, 3) := by decide +kernel
theorem dX5_readF_105 : decode cX5_readF 105 = .ok (.ifCond .eq 7, 3) := by decide +kernel
theorem dX5_readF_108 : decode cX5_readF 108 = .ok (.lconst 0, 1) := by decide +kernel
theorem dX5_readF_109 : decode cX5_readF 109 = .ok (.goto 11, 3) := by decide +kernel
theorem dX5_readF_112 : decode cX5_readF 112 = .ok (.iload_n 3, 1) := by decide +kernel
theorem dX5_readF_113 : decode cX5_readF 113 = .ok (.iload 4, 2) := by decide +kernel
theorem dX5_readF_115 : decode cX5_readF 115 = .ok (.iload 5, 2) := by decide +kernel
theorem dX5_readF_117 : decode cX5_readF 117 = .ok (.invokestatic 100, 3) := by decide +kernel
theorem dX5_readF_120 : decode cX5_readF 120 = .ok (.lreturn, 1) := by decide +kernel
theorem dX5_readNumber_0 : decode cX5_readNumber 0 = .ok (.aload_n 0, 1) := by decide +kernel
theorem dX5_readNumber_1 : decode cX5_readNumber 1 = .ok (.invokevirtual 44, 3) := by decide +kernel
theorem dX5_readNumber_4 : decode cX5_readNumber 4 = .ok (.istore_n 1, 1) := by decide +kernel
theorem dX5_readNumber_5 : decode cX5_readNumber 5 = .ok (.aload_n 0, 1) := by decide +kernel
theorem dX5_readNumber_6 : decode cX5_readNumber 6 = .ok (.getfield 28, 3) := by decide +kernel
theorem dX5_readNumber_9 : decode cX5_readNumber 9 = .ok (.ifCond .ne 15, 3) := by decide +kernel
theorem dX5_readNumber_12 : decode cX5_readNumber 12 = .ok (.iload_n 1, 1) := by decide +kernel
theorem dX5_readNumber_13 : decode cX5_readNumber 13 = .ok (.bipush 48, 2) := by decide +kernel
theorem dX5_readNumber_15 : decode cX5_readNumber 15 = .ok (.if_icmp .lt 9, 3) := by decide +kernel
theorem dX5_readNumber_18 : decode cX5_readNumber 18 = .ok (.iload_n 1, 1) := by decide +kernel
theorem dX5_readNumber_19 : decode cX5_readNumber 19 = .ok (.bipush 57, 2) := by decide +kernel
theorem dX5_readNumber_21 : decode cX5_readNumber 21 = .ok (.if_icmp .le 10, 3) := by decide +kernel
theorem dX5_readNumber_24 : decode cX5_readNumber 24 = .ok (.aload_n 0, 1) := by decide +kernel
theorem dX5_readNumber_25 : decode cX5_readNumber 25 = .ok (.iconst 1, 1) := by decide +kernel
theorem dX5_readNumber_26 : decode cX5_readNumber 26 = .ok (.putfield 28, 3) := by decide +kernel
theorem dX5_readNumber_29 : decode cX5_readNumber 29 = .ok (.iconst 0, 1) := by decide +kernel
theorem dX5_readNumber_30 : decode cX5_readNumber 30 = .ok (.ireturn, 1) := by decide +kernel
theorem dX5_readNumber_31 : decode cX5_readNumber 31 = .ok (.aload_n 0, 1) := by decide +kernel
theorem dX5_readNumber_32 : decode cX5_readNumber 32 = .ok (.dup, 1) := by decide +kernel
theorem dX5_readNumber_33 : decode cX5_readNumber 33 = .ok (.getfield 25, 3) := by decide +kernel
theorem dX5_readNumber_36 : decode cX5_readNumber 36 = .ok (.iconst 1, 1) := by decide +kernel
theorem dX5_readNumber_37 : decode cX5_readNumber 37 = .ok (.iadd, 1) := by decide +kernel
theorem dX5_readNumber_38 : decode cX5_readNumber 38 = .ok (.putfield 25, 3) := by decide +kernel
theorem dX5_readNumber_41 : decode cX5_readNumber 41 = .ok (.aload_n 0, 1) := by decide +kernel
theorem dX5_readNumber_42 : decode cX5_readNumber 42 = .ok (.invokevirtual 44, 3) := by decide +kernel
theorem dX5_readNumber_45 : decode cX5_readNumber 45 = .ok (.istore_n 2, 1) := by decide +kernel
theorem dX5_readNumber_46 : decode cX5_readNumber 46 = .ok (.iload_n 1, 1) := by decide +kernel
theorem dX5_readNumber_47 : decode cX5_readNumber 47 = .ok (.bipush 48, 2) := by decide +kernel
theorem dX5_readNumber_49 : decode cX5_readNumber 49 = .ok (.if_icmp .eq 15, 3) := by decide +kernel
theorem dX5_readNumber_52 : decode cX5_readNumber 52 = .ok (.iload_n 2, 1) := by decide +kernel
theorem dX5_readNumber_53 : decode cX5_readNumber 53 = .ok (.bipush 48, 2) := by decide +kernel
theorem dX5_readNumber_55 : decode cX5_readNumber 55 = .ok (.if_icmp .lt 9, 3) := by decide +kernel
theorem dX5_readNumber_58 : decode cX5_readNumber 58 = .ok (.iload_n 2, 1) := by decide +kernel
theorem dX5_readNumber_59 : decode cX5_readNumber 59 = .ok (.bipush 57, 2) := by decide +kernel
theorem dX5_readNumber_61 : decode cX5_readNumber 61 = .ok (.if_icmp .le 8, 3) := by decide +kernel
theorem dX5_readNumber_64 : decode cX5_readNumber 64 = .ok (.iload_n 1, 1) := by decide +kernel
theorem dX5_readNumber_65 : decode cX5_readNumber 65 = .ok (.bipush 48, 2) := by decide +kernel
theorem dX5_readNumber_67 : decode cX5_readNumber 67 = .ok (.isub, 1) := by decide +kernel
theorem dX5_readNumber_68 : decode cX5_readNumber 68 = .ok (.ireturn, 1) := by decide +kernel
theorem dX5_readNumber_69 : decode cX5_readNumber 69 = .ok (.aload_n 0, 1) := by decide +kernel
theorem dX5_readNumber_70 : decode cX5_readNumber 70 = .ok (.dup, 1) := by decide +kernel
theorem dX5_readNumber_71 : decode cX5_readNumber 71 = .ok (.getfield 25, 3) := by decide +kernel
theorem dX5_readNumber_74 : decode cX5_readNumber 74 = .ok (.iconst 1, 1) := by decide +kernel
theorem dX5_readNumber_75 : decode cX5_readNumber 75 = .ok (.iadd, 1) := by decide +kernel
theorem dX5_readNumber_76 : decode cX5_readNumber 76 = .ok (.putfield 25, 3) := by decide +kernel
theorem dX5_readNumber_79 : decode cX5_readNumber 79 = .ok (.iload_n 1, 1) := by decide +kernel
theorem dX5_readNumber_80 : decode cX5_readNumber 80 = .ok (.bipush 48, 2) := by decide +kernel
theorem dX5_readNumber_82 : decode cX5_readNumber 82 = .ok (.isub, 1) := by decide +kernel
theorem dX5_readNumber_83 : decode cX5_readNumber 83 = .ok (.bipush 10, 2) := by decide +kernel
theorem dX5_readNumber_85 : decode cX5_readNumber 85 = .ok (.imul, 1) := by decide +kernel
theorem dX5_readNumber_86 : decode cX5_readNumber 86 = .ok (.iload_n 2, 1) := by decide +kernel
theorem dX5_readNumber_87 : decode cX5_readNumber 87 = .ok (.iadd, 1) := by decide +kernel
theorem dX5_readNumber_88 : decode cX5_readNumber 88 = .ok (.bipush 48, 2) := by decide +kernel
theorem dX5_readNumber_90 : decode cX5_readNumber 90 = .ok (.isub, 1) := by decide +kernel
theorem dX5_readNumber_91 : decode cX5_readNumber 91 = .ok (.ireturn, 1) := by decide +kernel
theorem dX5_readWord_0 : decode cX5_readWord 0 = .ok (.iconst 0, 1) := by decide +kernel
theorem dX5_readWord_1 : decode cX5_readWord 1 = .ok (.istore_n 2, 1) := by decide +kernel
theorem dX5_readWord_2 : decode cX5_readWord 2 = .ok (.iload_n 2, 1) := by decide +kernel
theorem dX5_readWord_3 : decode cX5_readWord 3 = .ok (.aload_n 1, 1) := by decide +kernel
theorem dX5_readWord_4 : decode cX5_readWord 4 = .ok (.invokevirtual 104, 3) := by decide +kernel
theorem dX5_readWord_7 : decode cX5_readWord 7 = .ok (.if_icmp .ge 18, 3) := by decide +kernel
theorem dX5_readWord_10 : decode cX5_readWord 10 = .ok (.aload_n 0, 1) := by decide +kernel
theorem dX5_readWord_11 : decode cX5_readWord 11 = .ok (.aload_n 1, 1) := by decide +kernel
theorem dX5_readWord_12 : decode cX5_readWord 12 = .ok (.iload_n 2, 1) := by decide +kernel
theorem dX5_readWord_13 : decode cX5_readWord 13 = .ok (.invokevirtual 109, 3) := by decide +kernel
theorem dX5_readWord_16 : decode cX5_readWord 16 = .ok (.invokevirtual 57, 3) := by decide +kernel
theorem dX5_readWord_19 : decode cX5_readWord 19 = .ok (.iinc 2 1, 3) := by decide +kernel
theorem dX5_readWord_22 : decode cX5_readWord 22 = .ok (.goto (-20), 3) := by decide +kernel
theorem dX5_readWord_25 : decode cX5_readWord 25 = .ok (.return_, 1) := by decide +kernel
theorem dX5_take_0 : decode cX5_take 0 = .ok (.aload_n 0, 1) := by decide +kernel
theorem dX5_take_1 : decode cX5_take 1 = .ok (.getfield 28, 3) := by decide +kernel
theorem dX5_take_4 : decode cX5_take 4 = .ok (.ifCond .ne 24, 3) := by decide +kernel
theorem dX5_take_7 : decode cX5_take 7 = .ok (.aload_n 0, 1) := by decide +kernel
theorem dX5_take_8 : decode cX5_take 8 = .ok (.invokevirtual 44, 3) := by decide +kernel
theorem dX5_take_11 : decode cX5_take 11 = .ok (.iload_n 1, 1) := by decide +kernel
theorem dX5_take_12 : decode cX5_take 12 = .ok (.if_icmp .ne 16, 3) := by decide +kernel
theorem dX5_take_15 : decode cX5_take 15 = .ok (.aload_n 0, 1) := by decide +kernel
theorem dX5_take_16 : decode cX5_take 16 = .ok (.dup, 1) := by decide +kernel
theorem dX5_take_17 : decode cX5_take 17 = .ok (.getfield 25, 3) := by decide +kernel
theorem dX5_take_20 : decode cX5_take 20 = .ok (.iconst 1, 1) := by decide +kernel
theorem dX5_take_21 : decode cX5_take 21 = .ok (.iadd, 1) := by decide +kernel
theorem dX5_take_22 : decode cX5_take 22 = .ok (.putfield 25, 3) := by decide +kernel
theorem dX5_take_25 : decode cX5_take 25 = .ok (.goto 8, 3) := by decide +kernel
theorem dX5_take_28 : decode cX5_take 28 = .ok (.aload_n 0, 1) := by decide +kernel
theorem dX5_take_29 : decode cX5_take 29 = .ok (.iconst 1, 1) := by decide +kernel
theorem dX5_take_30 : decode cX5_take 30 = .ok (.putfield 28, 3) := by decide +kernel
theorem dX5_take_33 : decode cX5_take 33 = .ok (.return_, 1) := by decide +kernel
theorem dX5_takeOneOf_0 : decode cX5_takeOneOf 0 = .ok (.aload_n 0, 1) := by decide +kernel
theorem dX5_takeOneOf_1 : decode cX5_takeOneOf 1 = .ok (.invokevirtual 44, 3) := by decide +kernel
theorem dX5_takeOneOf_4 : decode cX5_takeOneOf 4 = .ok (.istore_n 2, 1) := by decide +kernel
theorem dX5_takeOneOf_5 : decode cX5_takeOneOf 5 = .ok (.iconst 0, 1) := by decide +kernel
theorem dX5_takeOneOf_6 : decode cX5_takeOneOf 6 = .ok (.istore_n 3, 1) := by decide +kernel
theorem dX5_takeOneOf_7 : decode cX5_takeOneOf 7 = .ok (.iload_n 3, 1) := by decide +kernel
theorem dX5_takeOneOf_8 : decode cX5_takeOneOf 8 = .ok (.aload_n 1, 1) := by decide +kernel
theorem dX5_takeOneOf_9 : decode cX5_takeOneOf 9 = .ok (.invokevirtual 104, 3) := by decide +kernel
theorem dX5_takeOneOf_12 : decode cX5_takeOneOf 12 = .ok (.if_icmp .ge 37, 3) := by decide +kernel
theorem dX5_takeOneOf_15 : decode cX5_takeOneOf 15 = .ok (.aload_n 0, 1) := by decide +kernel
theorem dX5_takeOneOf_16 : decode cX5_takeOneOf 16 = .ok (.getfield 28, 3) := by decide +kernel
theorem dX5_takeOneOf_19 : decode cX5_takeOneOf 19 = .ok (.ifCond .ne 30, 3) := by decide +kernel
theorem dX5_takeOneOf_22 : decode cX5_takeOneOf 22 = .ok (.aload_n 1, 1) := by decide +kernel
theorem dX5_takeOneOf_23 : decode cX5_takeOneOf 23 = .ok (.iload_n 3, 1) := by decide +kernel
theorem dX5_takeOneOf_24 : decode cX5_takeOneOf 24 = .ok (.invokevirtual 109, 3) := by decide +kernel
theorem dX5_takeOneOf_27 : decode cX5_takeOneOf 27 = .ok (.iload_n 2, 1) := by decide +kernel
theorem dX5_takeOneOf_28 : decode cX5_takeOneOf 28 = .ok (.if_icmp .ne 15, 3) := by decide +kernel
theorem dX5_takeOneOf_31 : decode cX5_takeOneOf 31 = .ok (.aload_n 0, 1) := by decide +kernel
theorem dX5_takeOneOf_32 : decode cX5_takeOneOf 32 = .ok (.dup, 1) := by decide +kernel
theorem dX5_takeOneOf_33 : decode cX5_takeOneOf 33 = .ok (.getfield 25, 3) := by decide +kernel
theorem dX5_takeOneOf_36 : decode cX5_takeOneOf 36 = .ok (.iconst 1, 1) := by decide +kernel
theorem dX5_takeOneOf_37 : decode cX5_takeOneOf 37 = .ok (.iadd, 1) := by decide +kernel
theorem dX5_takeOneOf_38 : decode cX5_takeOneOf 38 = .ok (.putfield 25, 3) := by decide +kernel
theorem dX5_takeOneOf_41 : decode cX5_takeOneOf 41 = .ok (.iload_n 2, 1) := by decide +kernel
theorem dX5_takeOneOf_42 : decode cX5_takeOneOf 42 = .ok (.ireturn, 1) := by decide +kernel
theorem dX5_takeOneOf_43 : decode cX5_takeOneOf 43 = .ok (.iinc 3 1, 3) := by decide +kernel
theorem dX5_takeOneOf_46 : decode cX5_takeOneOf 46 = .ok (.goto (-39), 3) := by decide +kernel
theorem dX5_takeOneOf_49 : decode cX5_takeOneOf 49 = .ok (.aload_n 0, 1) := by decide +kernel
theorem dX5_takeOneOf_50 : decode cX5_takeOneOf 50 = .ok (.iconst 1, 1) := by decide +kernel
theorem dX5_takeOneOf_51 : decode cX5_takeOneOf 51 = .ok (.putfield 28, 3) := by decide +kernel
theorem dX5_takeOneOf_54 : decode cX5_takeOneOf 54 = .ok (.iconst 0, 1) := by decide +kernel
theorem dX5_takeOneOf_55 : decode cX5_takeOneOf 55 = .ok (.ireturn, 1) := by decide +kernel
theorem dX5_next_0 : decode cX5_next 0 = .ok (.aload_n 0, 1) := by decide +kernel
theorem dX5_next_1 : decode cX5_next 1 = .ok (.getfield 25, 3) := by decide +kernel
theorem dX5_next_4 : decode cX5_next 4 = .ok (.ifCond .lt 26, 3) := by decide +kernel
theorem dX5_next_7 : decode cX5_next 7 = .ok (.aload_n 0, 1) := by decide +kernel
theorem dX5_next_8 : decode cX5_next 8 = .ok (.getfield 25, 3) := by decide +kernel
theorem dX5_next_11 : decode cX5_next 11 = .ok (.aload_n 0, 1) := by decide +kernel
theorem dX5_next_12 : decode cX5_next 12 = .ok (.getfield 21, 3) := by decide +kernel
theorem dX5_next_15 : decode cX5_next 15 = .ok (.if_icmp .ge 15, 3) := by decide +kernel
theorem dX5_next_18 : decode cX5_next 18 = .ok (.aload_n 0, 1) := by decide +kernel
theorem dX5_next_19 : decode cX5_next 19 = .ok (.getfield 25, 3) := by decide +kernel
theorem dX5_next_22 : decode cX5_next 22 = .ok (.aload_n 0, 1) := by decide +kernel
theorem dX5_next_23 : decode cX5_next 23 = .ok (.getfield 9, 3) := by decide +kernel
theorem dX5_next_26 : decode cX5_next 26 = .ok (.arraylength, 1) := by decide +kernel
theorem dX5_next_27 : decode cX5_next 27 = .ok (.if_icmp .lt 7, 3) := by decide +kernel
theorem dX5_next_30 : decode cX5_next 30 = .ok (.iconst (-1), 1) := by decide +kernel
theorem dX5_next_31 : decode cX5_next 31 = .ok (.goto 12, 3) := by decide +kernel
theorem dX5_next_34 : decode cX5_next 34 = .ok (.aload_n 0, 1) := by decide +kernel
theorem dX5_next_35 : decode cX5_next 35 = .ok (.getfield 9, 3) := by decide +kernel
theorem dX5_next_38 : decode cX5_next 38 = .ok (.aload_n 0, 1) := by decide +kernel
theorem dX5_next_39 : decode cX5_next 39 = .ok (.getfield 25, 3) := by decide +kernel
theorem dX5_next_42 : decode cX5_next 42 = .ok (.iaload, 1) := by decide +kernel
theorem dX5_next_43 : decode cX5_next 43 = .ok (.ireturn, 1) := by decide +kernel
theorem dX6_init_0 : decode cX6_init 0 = .ok (.aload_n 0, 1) := by decide +kernel
theorem dX6_init_1 : decode cX6_init 1 = .ok (.invokespecial 3, 3) := by decide +kernel
theorem dX6_init_4 : decode cX6_init 4 = .ok (.aload_n 0, 1) := by decide +kernel
theorem dX6_init_5 : decode cX6_init 5 = .ok (.iconst 3, 1) := by decide +kernel
theorem dX6_init_6 : decode cX6_init 6 = .ok (.newarray .int, 2) := by decide +kernel
theorem dX6_init_8 : decode cX6_init 8 = .ok (.putfield 9, 3) := by decide +kernel
theorem dX6_init_11 : decode cX6_init 11 = .ok (.return_, 1) := by decide +kernel
theorem dX6_weigh_0 : decode cX6_weigh 0 = .ok (.aload_n 0, 1) := by decide +kernel
theorem dX6_weigh_1 : decode cX6_weigh 1 = .ok (.aload_n 1, 1) := by decide +kernel
theorem dX6_weigh_2 : decode cX6_weigh 2 = .ok (.getfield 15, 3) := by decide +kernel
theorem dX6_weigh_5 : decode cX6_weigh 5 = .ok (.putfield 21, 3) := by decide +kernel
theorem dX6_weigh_8 : decode cX6_weigh 8 = .ok (.aload_n 0, 1) := by decide +kernel
theorem dX6_weigh_9 : decode cX6_weigh 9 = .ok (.iconst 0, 1) := by decide +kernel
theorem dX6_weigh_10 : decode cX6_weigh 10 = .ok (.putfield 22, 3) := by decide +kernel
theorem dX6_weigh_13 : decode cX6_weigh 13 = .ok (.iconst 0, 1) := by decide +kernel
theorem dX6_weigh_14 : decode cX6_weigh 14 = .ok (.istore_n 3, 1) := by decide +kernel
theorem dX6_weigh_15 : decode cX6_weigh 15 = .ok (.iload_n 3, 1) := by decide +kernel
theorem dX6_weigh_16 : decode cX6_weigh 16 = .ok (.iconst 3, 1) := by decide +kernel
theorem dX6_weigh_17 : decode cX6_weigh 17 = .ok (.if_icmp .ge 48, 3) := by decide +kernel
theorem dX6_weigh_20 : decode cX6_weigh 20 = .ok (.aload_n 0, 1) := by decide +kernel
theorem dX6_weigh_21 : decode cX6_weigh 21 = .ok (.getfield 9, 3) := by decide +kernel
theorem dX6_weigh_24 : decode cX6_weigh 24 = .ok (.iload_n 3, 1) := by decide +kernel
theorem dX6_weigh_25 : decode cX6_weigh 25 = .ok (.iload_n 3, 1) := by decide +kernel
theorem dX6_weigh_26 : decode cX6_weigh 26 = .ok (.aload_n 0, 1) := by decide +kernel
theorem dX6_weigh_27 : decode cX6_weigh 27 = .ok (.getfield 21, 3) := by decide +kernel
theorem dX6_weigh_30 : decode cX6_weigh 30 = .ok (.if_icmp .ge 12, 3) := by decide +kernel
theorem dX6_weigh_33 : decode cX6_weigh 33 = .ok (.aload_n 1, 1) := by decide +kernel
theorem dX6_weigh_34 : decode cX6_weigh 34 = .ok (.iload_n 3, 1) := by decide +kernel
theorem dX6_weigh_35 : decode cX6_weigh 35 = .ok (.iload_n 2, 1) := by decide +kernel
theorem dX6_weigh_36 : decode cX6_weigh 36 = .ok (.invokevirtual 25, 3) := by decide +kernel
theorem dX6_weigh_39 : decode cX6_weigh 39 = .ok (.goto 4, 3) := by decide +kernel
theorem dX6_weigh_42 : decode cX6_weigh 42 = .ok (.iconst 0, 1) := by decide +kernel
theorem dX6_weigh_43 : decode cX6_weigh 43 = .ok (.iastore, 1) := by decide +kernel
theorem dX6_weigh_44 : decode cX6_weigh 44 = .ok (.aload_n 0, 1) := by decide +kernel
theorem dX6_weigh_45 : decode cX6_weigh 45 = .ok (.dup, 1) := by decide +kernel
theorem dX6_weigh_46 : decode cX6_weigh 46 = .ok (.getfield 22, 3) := by decide +kernel
theorem dX6_weigh_49 : decode cX6_weigh 49 = .ok (.aload_n 0, 1) := by decide +kernel
theorem dX6_weigh_50 : decode cX6_weigh 50 = .ok (.getfield 9, 3) := by decide +kernel
theorem dX6_weigh_53 : decode cX6_weigh 53 = .ok (.iload_n 3, 1) := by decide +kernel
theorem dX6_weigh_54 : decode cX6_weigh 54 = .ok (.iaload, 1) := by decide +kernel
theorem dX6_weigh_55 : decode cX6_weigh 55 = .ok (.iadd, 1) := by decide +kernel
theorem dX6_weigh_56 : decode cX6_weigh 56 = .ok (.putfield 22, 3) := by decide +kernel
theorem dX6_weigh_59 : decode cX6_weigh 59 = .ok (.iinc 3 1, 3) := by decide +kernel
theorem dX6_weigh_62 : decode cX6_weigh 62 = .ok (.goto (-47), 3) := by decide +kernel
theorem dX6_weigh_65 : decode cX6_weigh 65 = .ok (.return_, 1) := by decide +kernel
theorem dX6_putFirst_0 : decode cX6_putFirst 0 = .ok (.aload_n 0, 1) := by decide +kernel
theorem dX6_putFirst_1 : decode cX6_putFirst 1 = .ok (.dup, 1) := by decide +kernel
theorem dX6_putFirst_2 : decode cX6_putFirst 2 = .ok (.getfield 22, 3) := by decide +kernel
theorem dX6_putFirst_5 : decode cX6_putFirst 5 = .ok (.iload_n 1, 1) := by decide +kernel
theorem dX6_putFirst_6 : decode cX6_putFirst 6 = .ok (.aload_n 0, 1) := by decide +kernel
theorem dX6_putFirst_7 : decode cX6_putFirst 7 = .ok (.getfield 9, 3) := by decide +kernel
theorem dX6_putFirst_10 : decode cX6_putFirst 10 = .ok (.iconst 0, 1) := by decide +kernel
theorem dX6_putFirst_11 : decode cX6_putFirst 11 = .ok (.iaload, 1) := by decide +kernel
theorem dX6_putFirst_12 : decode cX6_putFirst 12 = .ok (.isub, 1) := by decide +kernel
theorem dX6_putFirst_13 : decode cX6_putFirst 13 = .ok (.iadd, 1) := by decide +kernel
theorem dX6_putFirst_14 : decode cX6_putFirst 14 = .ok (.putfield 22, 3) := by decide +kernel
theorem dX6_putFirst_17 : decode cX6_putFirst 17 = .ok (.aload_n 0, 1) := by decide +kernel
theorem dX6_putFirst_18 : decode cX6_putFirst 18 = .ok (.getfield 9, 3) := by decide +kernel
theorem dX6_putFirst_21 : decode cX6_putFirst 21 = .ok (.iconst 0, 1) := by decide +kernel
theorem dX6_putFirst_22 : decode cX6_putFirst 22 = .ok (.iload_n 1, 1) := by decide +kernel
theorem dX6_putFirst_23 : decode cX6_putFirst 23 = .ok (.iastore, 1) := by decide +kernel
theorem dX6_putFirst_24 : decode cX6_putFirst 24 = .ok (.return_, 1) := by decide +kernel
theorem dX6_weightOf_0 : decode cX6_weightOf 0 = .ok (.iload_n 1, 1) := by decide +kernel
theorem dX6_weightOf_1 : decode cX6_weightOf 1 = .ok (.ifCond .lt 8, 3) := by decide +kernel
theorem dX6_weightOf_4 : decode cX6_weightOf 4 = .ok (.iload_n 1, 1) := by decide +kernel
theorem dX6_weightOf_5 : decode cX6_weightOf 5 = .ok (.iconst 3, 1) := by decide +kernel
theorem dX6_weightOf_6 : decode cX6_weightOf 6 = .ok (.if_icmp .lt 7, 3) := by decide +kernel
theorem dX6_weightOf_9 : decode cX6_weightOf 9 = .ok (.iconst 0, 1) := by decide +kernel
theorem dX6_weightOf_10 : decode cX6_weightOf 10 = .ok (.goto 9, 3) := by decide +kernel
theorem dX6_weightOf_13 : decode cX6_weightOf 13 = .ok (.aload_n 0, 1) := by decide +kernel
theorem dX6_weightOf_14 : decode cX6_weightOf 14 = .ok (.getfield 9, 3) := by decide +kernel
theorem dX6_weightOf_17 : decode cX6_weightOf 17 = .ok (.iload_n 1, 1) := by decide +kernel
theorem dX6_weightOf_18 : decode cX6_weightOf 18 = .ok (.iaload, 1) := by decide +kernel
theorem dX6_weightOf_19 : decode cX6_weightOf 19 = .ok (.ireturn, 1) := by decide +kernel
theorem dX6_isLawful_0 : decode cX6_isLawful 0 = .ok (.iconst 0, 1) := by decide +kernel
theorem dX6_isLawful_1 : decode cX6_isLawful 1 = .ok (.istore_n 2, 1) := by decide +kernel
theorem dX6_isLawful_2 : decode cX6_isLawful 2 = .ok (.iload_n 2, 1) := by decide +kernel
theorem dX6_isLawful_3 : decode cX6_isLawful 3 = .ok (.aload_n 1, 1) := by decide +kernel
theorem dX6_isLawful_4 : decode cX6_isLawful 4 = .ok (.getfield 29, 3) := by decide +kernel
theorem dX6_isLawful_7 : decode cX6_isLawful 7 = .ok (.if_icmp .ge 23, 3) := by decide +kernel
theorem dX6_isLawful_10 : decode cX6_isLawful 10 = .ok (.aload_n 1, 1) := by decide +kernel
theorem dX6_isLawful_11 : decode cX6_isLawful 11 = .ok (.iload_n 2, 1) := by decide +kernel
theorem dX6_isLawful_12 : decode cX6_isLawful 12 = .ok (.invokevirtual 34, 3) := by decide +kernel
theorem dX6_isLawful_15 : decode cX6_isLawful 15 = .ok (.aload_n 0, 1) := by decide +kernel
theorem dX6_isLawful_16 : decode cX6_isLawful 16 = .ok (.getfield 21, 3) := by decide +kernel
theorem dX6_isLawful_19 : decode cX6_isLawful 19 = .ok (.if_icmp .lt 5, 3) := by decide +kernel
theorem dX6_isLawful_22 : decode cX6_isLawful 22 = .ok (.iconst 0, 1) := by decide +kernel
theorem dX6_isLawful_23 : decode cX6_isLawful 23 = .ok (.ireturn, 1) := by decide +kernel
theorem dX6_isLawful_24 : decode cX6_isLawful 24 = .ok (.iinc 2 1, 3) := by decide +kernel
theorem dX6_isLawful_27 : decode cX6_isLawful 27 = .ok (.goto (-25), 3) := by decide +kernel
theorem dX6_isLawful_30 : decode cX6_isLawful 30 = .ok (.iconst 1, 1) := by decide +kernel
theorem dX6_isLawful_31 : decode cX6_isLawful 31 = .ok (.ireturn, 1) := by decide +kernel
theorem dX6_product_0 : decode cX6_product 0 = .ok (.lconst 1, 1) := by decide +kernel
theorem dX6_product_1 : decode cX6_product 1 = .ok (.lstore_n 2, 1) := by decide +kernel
theorem dX6_product_2 : decode cX6_product 2 = .ok (.iconst 0, 1) := by decide +kernel
theorem dX6_product_3 : decode cX6_product 3 = .ok (.istore 4, 2) := by decide +kernel
theorem dX6_product_5 : decode cX6_product 5 = .ok (.iload 4, 2) := by decide +kernel
theorem dX6_product_7 : decode cX6_product 7 = .ok (.aload_n 1, 1) := by decide +kernel
theorem dX6_product_8 : decode cX6_product 8 = .ok (.getfield 29, 3) := by decide +kernel
theorem dX6_product_11 : decode cX6_product 11 = .ok (.if_icmp .ge 23, 3) := by decide +kernel
theorem dX6_product_14 : decode cX6_product 14 = .ok (.lload_n 2, 1) := by decide +kernel
theorem dX6_product_15 : decode cX6_product 15 = .ok (.aload_n 0, 1) := by decide +kernel
theorem dX6_product_16 : decode cX6_product 16 = .ok (.aload_n 1, 1) := by decide +kernel
theorem dX6_product_17 : decode cX6_product 17 = .ok (.iload 4, 2) := by decide +kernel
theorem dX6_product_19 : decode cX6_product 19 = .ok (.invokevirtual 34, 3) := by decide +kernel
theorem dX6_product_22 : decode cX6_product 22 = .ok (.invokevirtual 38, 3) := by decide +kernel
theorem dX6_product_25 : decode cX6_product 25 = .ok (.i2l, 1) := by decide +kernel
theorem dX6_product_26 : decode cX6_product 26 = .ok (.lmul, 1) := by decide +kernel
theorem dX6_product_27 : decode cX6_product 27 = .ok (.lstore_n 2, 1) := by decide +kernel
theorem dX6_product_28 : decode cX6_product 28 = .ok (.iinc 4 1, 3) := by decide +kernel
theorem dX6_product_31 : decode cX6_product 31 = .ok (.goto (-26), 3) := by decide +kernel
theorem dX6_product_34 : decode cX6_product 34 = .ok (.lload_n 2, 1) := by decide +kernel
theorem dX6_product_35 : decode cX6_product 35 = .ok (.lreturn, 1) := by decide +kernel
theorem dX6_lap_0 : decode cX6_lap 0 = .ok (.lconst 0, 1) := by decide +kernel
theorem dX6_lap_1 : decode cX6_lap 1 = .ok (.lstore_n 3, 1) := by decide +kernel
theorem dX6_lap_2 : decode cX6_lap 2 = .ok (.lconst 1, 1) := by decide +kernel
theorem dX6_lap_3 : decode cX6_lap 3 = .ok (.lstore 5, 2) := by decide +kernel
theorem dX6_lap_5 : decode cX6_lap 5 = .ok (.iconst 1, 1) := by decide +kernel
theorem dX6_lap_6 : decode cX6_lap 6 = .ok (.istore 7, 2) := by decide +kernel
theorem dX6_lap_8 : decode cX6_lap 8 = .ok (.iload 7, 2) := by decide +kernel
theorem dX6_lap_10 : decode cX6_lap 10 = .ok (.aload_n 2, 1) := by decide +kernel
theorem dX6_lap_11 : decode cX6_lap 11 = .ok (.getfield 29, 3) := by decide +kernel
theorem dX6_lap_14 : decode cX6_lap 14 = .ok (.if_icmp .gt 65, 3) := by decide +kernel
theorem dX6_lap_17 : decode cX6_lap 17 = .ok (.lload 5, 2) := by decide +kernel
theorem dX6_lap_19 : decode cX6_lap 19 = .ok (.aload_n 0, 1) := by decide +kernel
theorem dX6_lap_20 : decode cX6_lap 20 = .ok (.getfield 22, 3) := by decide +kernel
theorem dX6_lap_23 : decode cX6_lap 23 = .ok (.i2l, 1) := by decide +kernel
theorem dX6_lap_24 : decode cX6_lap 24 = .ok (.lmul, 1) := by decide +kernel
theorem dX6_lap_25 : decode cX6_lap 25 = .ok (.lstore 5, 2) := by decide +kernel
theorem dX6_lap_27 : decode cX6_lap 27 = .ok (.lload_n 3, 1) := by decide +kernel
theorem dX6_lap_28 : decode cX6_lap 28 = .ok (.aload_n 0, 1) := by decide +kernel
theorem dX6_lap_29 : decode cX6_lap 29 = .ok (.aload_n 2, 1) := by decide +kernel
theorem dX6_lap_30 : decode cX6_lap 30 = .ok (.iload 7, 2) := by decide +kernel
theorem dX6_lap_32 : decode cX6_lap 32 = .ok (.iconst 1, 1) := by decide +kernel
theorem dX6_lap_33 : decode cX6_lap 33 = .ok (.isub, 1) := by decide +kernel
theorem dX6_lap_34 : decode cX6_lap 34 = .ok (.invokevirtual 34, 3) := by decide +kernel
theorem dX6_lap_37 : decode cX6_lap 37 = .ok (.invokevirtual 38, 3) := by decide +kernel
theorem dX6_lap_40 : decode cX6_lap 40 = .ok (.i2l, 1) := by decide +kernel
theorem dX6_lap_41 : decode cX6_lap 41 = .ok (.lmul, 1) := by decide +kernel
theorem dX6_lap_42 : decode cX6_lap 42 = .ok (.lstore_n 3, 1) := by decide +kernel
theorem dX6_lap_43 : decode cX6_lap 43 = .ok (.iload 7, 2) := by decide +kernel
theorem dX6_lap_45 : decode cX6_lap 45 = .ok (.aload_n 1, 1) := by decide +kernel
theorem dX6_lap_46 : decode cX6_lap 46 = .ok (.getfield 29, 3) := by decide +kernel
theorem dX6_lap_49 : decode cX6_lap 49 = .ok (.if_icmp .gt 24, 3) := by decide +kernel
theorem dX6_lap_52 : decode cX6_lap 52 = .ok (.aload_n 1, 1) := by decide +kernel
theorem dX6_lap_53 : decode cX6_lap 53 = .ok (.iload 7, 2) := by decide +kernel
theorem dX6_lap_55 : decode cX6_lap 55 = .ok (.invokevirtual 40, 3) := by decide +kernel
theorem dX6_lap_58 : decode cX6_lap 58 = .ok (.aload_n 2, 1) := by decide +kernel
theorem dX6_lap_59 : decode cX6_lap 59 = .ok (.iload 7, 2) := by decide +kernel
theorem dX6_lap_61 : decode cX6_lap 61 = .ok (.invokevirtual 44, 3) := by decide +kernel
theorem dX6_lap_64 : decode cX6_lap 64 = .ok (.lcmp, 1) := by decide +kernel
theorem dX6_lap_65 : decode cX6_lap 65 = .ok (.ifCond .ne 8, 3) := by decide +kernel
theorem dX6_lap_68 : decode cX6_lap 68 = .ok (.lload_n 3, 1) := by decide +kernel
theorem dX6_lap_69 : decode cX6_lap 69 = .ok (.lload 5, 2) := by decide +kernel
theorem dX6_lap_71 : decode cX6_lap 71 = .ok (.ladd, 1) := by decide +kernel
theorem dX6_lap_72 : decode cX6_lap 72 = .ok (.lstore_n 3, 1) := by decide +kernel
theorem dX6_lap_73 : decode cX6_lap 73 = .ok (.iinc 7 1, 3) := by decide +kernel
theorem dX6_lap_76 : decode cX6_lap 76 = .ok (.goto (-68), 3) := by decide +kernel
theorem dX6_lap_79 : decode cX6_lap 79 = .ok (.lload_n 3, 1) := by decide +kernel
theorem dX6_lap_80 : decode cX6_lap 80 = .ok (.lreturn, 1) := by decide +kernel
theorem dX7_init_0 : decode cX7_init 0 = .ok (.aload_n 0, 1) := by decide +kernel
theorem dX7_init_1 : decode cX7_init 1 = .ok (.invokespecial 3, 3) := by decide +kernel
theorem dX7_init_4 : decode cX7_init 4 = .ok (.aload_n 0, 1) := by decide +kernel
theorem dX7_init_5 : decode cX7_init 5 = .ok (.bipush 10, 2) := by decide +kernel
theorem dX7_init_7 : decode cX7_init 7 = .ok (.newarray .int, 2) := by decide +kernel
theorem dX7_init_9 : decode cX7_init 9 = .ok (.putfield 9, 3) := by decide +kernel
theorem dX7_init_12 : decode cX7_init 12 = .ok (.aload_n 0, 1) := by decide +kernel
theorem dX7_init_13 : decode cX7_init 13 = .ok (.bipush 10, 2) := by decide +kernel
theorem dX7_init_15 : decode cX7_init 15 = .ok (.newarray .long, 2) := by decide +kernel
theorem dX7_init_17 : decode cX7_init 17 = .ok (.putfield 15, 3) := by decide +kernel
theorem dX7_init_20 : decode cX7_init 20 = .ok (.aload_n 0, 1) := by decide +kernel
theorem dX7_init_21 : decode cX7_init 21 = .ok (.invokevirtual 19, 3) := by decide +kernel
theorem dX7_init_24 : decode cX7_init 24 = .ok (.return_, 1) := by decide +kernel
theorem dX7_clear_0 : decode cX7_clear 0 = .ok (.aload_n 0, 1) := by decide +kernel
theorem dX7_clear_1 : decode cX7_clear 1 = .ok (.iconst 2, 1) := by decide +kernel
theorem dX7_clear_2 : decode cX7_clear 2 = .ok (.putfield 22, 3) := by decide +kernel
theorem dX7_clear_5 : decode cX7_clear 5 = .ok (.aload_n 0, 1) := by decide +kernel
theorem dX7_clear_6 : decode cX7_clear 6 = .ok (.iconst 1, 1) := by decide +kernel
theorem dX7_clear_7 : decode cX7_clear 7 = .ok (.putfield 26, 3) := by decide +kernel
theorem dX7_clear_10 : decode cX7_clear 10 = .ok (.aload_n 0, 1) := by decide +kernel
theorem dX7_clear_11 : decode cX7_clear 11 = .ok (.bipush 10, 2) := by decide +kernel
theorem dX7_clear_13 : decode cX7_clear 13 = .ok (.putfield 29, 3) := by decide +kernel
theorem dX7_clear_16 : decode cX7_clear 16 = .ok (.aload_n 0, 1) := by decide +kernel
theorem dX7_clear_17 : decode cX7_clear 17 = .ok (.iconst 0, 1) := by decide +kernel
theorem dX7_clear_18 : decode cX7_clear 18 = .ok (.putfield 32, 3) := by decide +kernel
theorem dX7_clear_21 : decode cX7_clear 21 = .ok (.return_, 1) := by decide +kernel
theorem dX7_copy_0 : decode cX7_copy 0 = .ok (.aload_n 0, 1) := by decide +kernel
theorem dX7_copy_1 : decode cX7_copy 1 = .ok (.aload_n 1, 1) := by decide +kernel
theorem dX7_copy_2 : decode cX7_copy 2 = .ok (.getfield 22, 3) := by decide +kernel
theorem dX7_copy_5 : decode cX7_copy 5 = .ok (.putfield 22, 3) := by decide +kernel
theorem dX7_copy_8 : decode cX7_copy 8 = .ok (.aload_n 0, 1) := by decide +kernel
theorem dX7_copy_9 : decode cX7_copy 9 = .ok (.aload_n 1, 1) := by decide +kernel
theorem dX7_copy_10 : decode cX7_copy 10 = .ok (.getfield 26, 3) := by decide +kernel
theorem dX7_copy_13 : decode cX7_copy 13 = .ok (.putfield 26, 3) := by decide +kernel
theorem dX7_copy_16 : decode cX7_copy 16 = .ok (.aload_n 0, 1) := by decide +kernel
theorem dX7_copy_17 : decode cX7_copy 17 = .ok (.aload_n 1, 1) := by decide +kernel
theorem dX7_copy_18 : decode cX7_copy 18 = .ok (.getfield 29, 3) := by decide +kernel
theorem dX7_copy_21 : decode cX7_copy 21 = .ok (.putfield 29, 3) := by decide +kernel
theorem dX7_copy_24 : decode cX7_copy 24 = .ok (.aload_n 0, 1) := by decide +kernel
theorem dX7_copy_25 : decode cX7_copy 25 = .ok (.aload_n 1, 1) := by decide +kernel
theorem dX7_copy_26 : decode cX7_copy 26 = .ok (.getfield 32, 3) := by decide +kernel
theorem dX7_copy_29 : decode cX7_copy 29 = .ok (.putfield 32, 3) := by decide +kernel
theorem dX7_copy_32 : decode cX7_copy 32 = .ok (.iconst 0, 1) := by decide +kernel
theorem dX7_copy_33 : decode cX7_copy 33 = .ok (.istore_n 2, 1) := by decide +kernel
theorem dX7_copy_34 : decode cX7_copy 34 = .ok (.iload_n 2, 1) := by decide +kernel
theorem dX7_copy_35 : decode cX7_copy 35 = .ok (.bipush 10, 2) := by decide +kernel
theorem dX7_copy_37 : decode cX7_copy 37 = .ok (.if_icmp .ge 33, 3) := by decide +kernel
theorem dX7_copy_40 : decode cX7_copy 40 = .ok (.aload_n 0, 1) := by decide +kernel
theorem dX7_copy_41 : decode cX7_copy 41 = .ok (.getfield 9, 3) := by decide +kernel
theorem dX7_copy_44 : decode cX7_copy 44 = .ok (.iload_n 2, 1) := by decide +kernel
theorem dX7_copy_45 : decode cX7_copy 45 = .ok (.aload_n 1, 1) := by decide +kernel
theorem dX7_copy_46 : decode cX7_copy 46 = .ok (.getfield 9, 3) := by decide +kernel
theorem dX7_copy_49 : decode cX7_copy 49 = .ok (.iload_n 2, 1) := by decide +kernel
theorem dX7_copy_50 : decode cX7_copy 50 = .ok (.iaload, 1) := by decide +kernel
theorem dX7_copy_51 : decode cX7_copy 51 = .ok (.iastore, 1) := by decide +kernel
theorem dX7_copy_52 : decode cX7_copy 52 = .ok (.aload_n 0, 1) := by decide +kernel
theorem dX7_copy_53 : decode cX7_copy 53 = .ok (.getfield 15, 3) := by decide +kernel
theorem dX7_copy_56 : decode cX7_copy 56 = .ok (.iload_n 2, 1) := by decide +kernel
theorem dX7_copy_57 : decode cX7_copy 57 = .ok (.aload_n 1, 1) := by decide +kernel
theorem dX7_copy_58 : decode cX7_copy 58 = .ok (.getfield 15, 3) := by decide +kernel
theorem dX7_copy_61 : decode cX7_copy 61 = .ok (.iload_n 2, 1) := by decide +kernel
theorem dX7_copy_62 : decode cX7_copy 62 = .ok (.laload, 1) := by decide +kernel
theorem dX7_copy_63 : decode cX7_copy 63 = .ok (.lastore, 1) := by decide +kernel
theorem dX7_copy_64 : decode cX7_copy 64 = .ok (.iinc 2 1, 3) := by decide +kernel
theorem dX7_copy_67 : decode cX7_copy 67 = .ok (.goto (-33), 3) := by decide +kernel
theorem dX7_copy_70 : decode cX7_copy 70 = .ok (.return_, 1) := by decide +kernel
theorem dX7_addHeavy_0 : decode cX7_addHeavy 0 = .ok (.aload_n 0, 1) := by decide +kernel
theorem dX7_addHeavy_1 : decode cX7_addHeavy 1 = .ok (.getfield 32, 3) := by decide +kernel
theorem dX7_addHeavy_4 : decode cX7_addHeavy 4 = .ok (.bipush 10, 2) := by decide +kernel
theorem dX7_addHeavy_6 : decode cX7_addHeavy 6 = .ok (.if_icmp .ge 33, 3) := by decide +kernel
theorem dX7_addHeavy_9 : decode cX7_addHeavy 9 = .ok (.aload_n 0, 1) := by decide +kernel
theorem dX7_addHeavy_10 : decode cX7_addHeavy 10 = .ok (.getfield 9, 3) := by decide +kernel
theorem dX7_addHeavy_13 : decode cX7_addHeavy 13 = .ok (.aload_n 0, 1) := by decide +kernel
theorem dX7_addHeavy_14 : decode cX7_addHeavy 14 = .ok (.getfield 32, 3) := by decide +kernel
theorem dX7_addHeavy_17 : decode cX7_addHeavy 17 = .ok (.iload_n 1, 1) := by decide +kernel
theorem dX7_addHeavy_18 : decode cX7_addHeavy 18 = .ok (.iastore, 1) := by decide +kernel
theorem dX7_addHeavy_19 : decode cX7_addHeavy 19 = .ok (.aload_n 0, 1) := by decide +kernel
theorem dX7_addHeavy_20 : decode cX7_addHeavy 20 = .ok (.getfield 15, 3) := by decide +kernel
theorem dX7_addHeavy_23 : decode cX7_addHeavy 23 = .ok (.aload_n 0, 1) := by decide +kernel
theorem dX7_addHeavy_24 : decode cX7_addHeavy 24 = .ok (.getfield 32, 3) := by decide +kernel
theorem dX7_addHeavy_27 : decode cX7_addHeavy 27 = .ok (.lload_n 2, 1) := by decide +kernel
theorem dX7_addHeavy_28 : decode cX7_addHeavy 28 = .ok (.lastore, 1) := by decide +kernel
theorem dX7_addHeavy_29 : decode cX7_addHeavy 29 = .ok (.aload_n 0, 1) := by decide +kernel
theorem dX7_addHeavy_30 : decode cX7_addHeavy 30 = .ok (.dup, 1) := by decide +kernel
theorem dX7_addHeavy_31 : decode cX7_addHeavy 31 = .ok (.getfield 32, 3) := by decide +kernel
theorem dX7_addHeavy_34 : decode cX7_addHeavy 34 = .ok (.iconst 1, 1) := by decide +kernel
theorem dX7_addHeavy_35 : decode cX7_addHeavy 35 = .ok (.iadd, 1) := by decide +kernel
theorem dX7_addHeavy_36 : decode cX7_addHeavy 36 = .ok (.putfield 32, 3) := by decide +kernel
theorem dX7_addHeavy_39 : decode cX7_addHeavy 39 = .ok (.return_, 1) := by decide +kernel
theorem dX7_weightOf_0 : decode cX7_weightOf 0 = .ok (.iconst 1, 1) := by decide +kernel
theorem dX7_weightOf_1 : decode cX7_weightOf 1 = .ok (.istore_n 3, 1) := by decide +kernel
theorem dX7_weightOf_2 : decode cX7_weightOf 2 = .ok (.iconst 0, 1) := by decide +kernel
theorem dX7_weightOf_3 : decode cX7_weightOf 3 = .ok (.istore 4, 2) := by decide +kernel
theorem dX7_weightOf_5 : decode cX7_weightOf 5 = .ok (.iload 4, 2) := by decide +kernel
theorem dX7_weightOf_7 : decode cX7_weightOf 7 = .ok (.aload_n 0, 1) := by decide +kernel
theorem dX7_weightOf_8 : decode cX7_weightOf 8 = .ok (.getfield 32, 3) := by decide +kernel
theorem dX7_weightOf_11 : decode cX7_weightOf 11 = .ok (.if_icmp .ge 43, 3) := by decide +kernel
theorem dX7_weightOf_14 : decode cX7_weightOf 14 = .ok (.aload_n 0, 1) := by decide +kernel
theorem dX7_weightOf_15 : decode cX7_weightOf 15 = .ok (.getfield 15, 3) := by decide +kernel
theorem dX7_weightOf_18 : decode cX7_weightOf 18 = .ok (.iload 4, 2) := by decide +kernel
theorem dX7_weightOf_20 : decode cX7_weightOf 20 = .ok (.laload, 1) := by decide +kernel
theorem dX7_weightOf_21 : decode cX7_weightOf 21 = .ok (.aload_n 0, 1) := by decide +kernel
theorem dX7_weightOf_22 : decode cX7_weightOf 22 = .ok (.getfield 22, 3) := by decide +kernel
theorem dX7_weightOf_25 : decode cX7_weightOf 25 = .ok (.iload_n 1, 1) := by decide +kernel
theorem dX7_weightOf_26 : decode cX7_weightOf 26 = .ok (.iload_n 2, 1) := by decide +kernel
theorem dX7_weightOf_27 : decode cX7_weightOf 27 = .ok (.invokestatic 35, 3) := by decide +kernel
theorem dX7_weightOf_30 : decode cX7_weightOf 30 = .ok (.lshr, 1) := by decide +kernel
theorem dX7_weightOf_31 : decode cX7_weightOf 31 = .ok (.lconst 1, 1) := by decide +kernel
theorem dX7_weightOf_32 : decode cX7_weightOf 32 = .ok (.land, 1) := by decide +kernel
theorem dX7_weightOf_33 : decode cX7_weightOf 33 = .ok (.lconst 0, 1) := by decide +kernel
theorem dX7_weightOf_34 : decode cX7_weightOf 34 = .ok (.lcmp, 1) := by decide +kernel
theorem dX7_weightOf_35 : decode cX7_weightOf 35 = .ok (.ifCond .eq 13, 3) := by decide +kernel
theorem dX7_weightOf_38 : decode cX7_weightOf 38 = .ok (.iload_n 3, 1) := by decide +kernel
theorem dX7_weightOf_39 : decode cX7_weightOf 39 = .ok (.aload_n 0, 1) := by decide +kernel
theorem dX7_weightOf_40 : decode cX7_weightOf 40 = .ok (.getfield 9, 3) := by decide +kernel
theorem dX7_weightOf_43 : decode cX7_weightOf 43 = .ok (.iload 4, 2) := by decide +kernel
theorem dX7_weightOf_45 : decode cX7_weightOf 45 = .ok (.iaload, 1) := by decide +kernel
theorem dX7_weightOf_46 : decode cX7_weightOf 46 = .ok (.iadd, 1) := by decide +kernel
theorem dX7_weightOf_47 : decode cX7_weightOf 47 = .ok (.istore_n 3, 1) := by decide +kernel
theorem dX7_weightOf_48 : decode cX7_weightOf 48 = .ok (.iinc 4 1, 3) := by decide +kernel
theorem dX7_weightOf_51 : decode cX7_weightOf 51 = .ok (.goto (-46), 3) := by decide +kernel
theorem dX7_weightOf_54 : decode cX7_weightOf 54 = .ok (.iload_n 3, 1) := by decide +kernel
theorem dX7_weightOf_55 : decode cX7_weightOf 55 = .ok (.iconst 4, 1) := by decide +kernel
theorem dX7_weightOf_56 : decode cX7_weightOf 56 = .ok (.invokestatic 39, 3) := by decide +kernel
theorem dX7_weightOf_59 : decode cX7_weightOf 59 = .ok (.ireturn, 1) := by decide +kernel
theorem dX7_place_0 : decode cX7_place 0 = .ok (.iload_n 0, 1) := by decide +kernel
theorem dX7_place_1 : decode cX7_place 1 = .ok (.iconst 2, 1) := by decide +kernel
theorem dX7_place_2 : decode cX7_place 2 = .ok (.isub, 1) := by decide +kernel
theorem dX7_place_3 : decode cX7_place 3 = .ok (.iconst 3, 1) := by decide +kernel
theorem dX7_place_4 : decode cX7_place 4 = .ok (.imul, 1) := by decide +kernel
theorem dX7_place_5 : decode cX7_place 5 = .ok (.iload_n 1, 1) := by decide +kernel
theorem dX7_place_6 : decode cX7_place 6 = .ok (.iadd, 1) := by decide +kernel
theorem dX7_place_7 : decode cX7_place 7 = .ok (.bipush 10, 2) := by decide +kernel
theorem dX7_place_9 : decode cX7_place 9 = .ok (.imul, 1) := by decide +kernel
theorem dX7_place_10 : decode cX7_place 10 = .ok (.iload_n 2, 1) := by decide +kernel
theorem dX7_place_11 : decode cX7_place 11 = .ok (.iadd, 1) := by decide +kernel
theorem dX7_place_12 : decode cX7_place 12 = .ok (.ireturn, 1) := by decide +kernel
theorem dX7_placesOf_0 : decode cX7_placesOf 0 = .ok (.lconst 0, 1) := by decide +kernel
theorem dX7_placesOf_1 : decode cX7_placesOf 1 = .ok (.lstore_n 3, 1) := by decide +kernel
theorem dX7_placesOf_2 : decode cX7_placesOf 2 = .ok (.iconst 2, 1) := by decide +kernel
theorem dX7_placesOf_3 : decode cX7_placesOf 3 = .ok (.istore 5, 2) := by decide +kernel
theorem dX7_placesOf_5 : decode cX7_placesOf 5 = .ok (.iload 5, 2) := by decide +kernel
theorem dX7_placesOf_7 : decode cX7_placesOf 7 = .ok (.iconst 3, 1) := by decide +kernel
theorem dX7_placesOf_8 : decode cX7_placesOf 8 = .ok (.if_icmp .gt 90, 3) := by decide +kernel
theorem dX7_placesOf_11 : decode cX7_placesOf 11 = .ok (.iconst 0, 1) := by decide +kernel
theorem dX7_placesOf_12 : decode cX7_placesOf 12 = .ok (.istore 6, 2) := by decide +kernel
theorem dX7_placesOf_14 : decode cX7_placesOf 14 = .ok (.iload 6, 2) := by decide +kernel
theorem dX7_placesOf_16 : decode cX7_placesOf 16 = .ok (.iconst 3, 1) := by decide +kernel
theorem dX7_placesOf_17 : decode cX7_placesOf 17 = .ok (.if_icmp .ge 75, 3) := by decide +kernel
theorem dX7_placesOf_20 : decode cX7_placesOf 20 = .ok (.iconst 0, 1) := by decide +kernel
theorem dX7_placesOf_21 : decode cX7_placesOf 21 = .ok (.istore 7, 2) := by decide +kernel
theorem dX7_placesOf_23 : decode cX7_placesOf 23 = .ok (.iload 7, 2) := by decide +kernel
theorem dX7_placesOf_25 : decode cX7_placesOf 25 = .ok (.bipush 10, 2) := by decide +kernel
theorem dX7_placesOf_27 : decode cX7_placesOf 27 = .ok (.if_icmp .ge 59, 3) := by decide +kernel
theorem dX7_placesOf_30 : decode cX7_placesOf 30 = .ok (.iload_n 0, 1) := by decide +kernel
theorem dX7_placesOf_31 : decode cX7_placesOf 31 = .ok (.bipush 115, 2) := by decide +kernel
theorem dX7_placesOf_33 : decode cX7_placesOf 33 = .ok (.if_icmp .ne 8, 3) := by decide +kernel
theorem dX7_placesOf_36 : decode cX7_placesOf 36 = .ok (.iload 6, 2) := by decide +kernel
theorem dX7_placesOf_38 : decode cX7_placesOf 38 = .ok (.goto 16, 3) := by decide +kernel
theorem dX7_placesOf_41 : decode cX7_placesOf 41 = .ok (.iload_n 0, 1) := by decide +kernel
theorem dX7_placesOf_42 : decode cX7_placesOf 42 = .ok (.bipush 103, 2) := by decide +kernel
theorem dX7_placesOf_44 : decode cX7_placesOf 44 = .ok (.if_icmp .ne 8, 3) := by decide +kernel
theorem dX7_placesOf_47 : decode cX7_placesOf 47 = .ok (.iload 5, 2) := by decide +kernel
theorem dX7_placesOf_49 : decode cX7_placesOf 49 = .ok (.goto 5, 3) := by decide +kernel
theorem dX7_placesOf_52 : decode cX7_placesOf 52 = .ok (.iload 7, 2) := by decide +kernel
theorem dX7_placesOf_54 : decode cX7_placesOf 54 = .ok (.istore 8, 2) := by decide +kernel
theorem dX7_placesOf_56 : decode cX7_placesOf 56 = .ok (.iload 8, 2) := by decide +kernel
theorem dX7_placesOf_58 : decode cX7_placesOf 58 = .ok (.iload_n 1, 1) := by decide +kernel
theorem dX7_placesOf_59 : decode cX7_placesOf 59 = .ok (.iload_n 2, 1) := by decide +kernel
theorem dX7_placesOf_60 : decode cX7_placesOf 60 = .ok (.invokestatic 45, 3) := by decide +kernel
theorem dX7_placesOf_63 : decode cX7_placesOf 63 = .ok (.ifCond .eq 17, 3) := by decide +kernel
theorem dX7_placesOf_66 : decode cX7_placesOf 66 = .ok (.lload_n 3, 1) := by decide +kernel
theorem dX7_placesOf_67 : decode cX7_placesOf 67 = .ok (.lconst 1, 1) := by decide +kernel
theorem dX7_placesOf_68 : decode cX7_placesOf 68 = .ok (.iload 5, 2) := by decide +kernel
theorem dX7_placesOf_70 : decode cX7_placesOf 70 = .ok (.iload 6, 2) := by decide +kernel
theorem dX7_placesOf_72 : decode cX7_placesOf 72 = .ok (.iload 7, 2) := by decide +kernel
theorem dX7_placesOf_74 : decode cX7_placesOf 74 = .ok (.invokestatic 35, 3) := by decide +kernel
theorem dX7_placesOf_77 : decode cX7_placesOf 77 = .ok (.lshl, 1) := by decide +kernel
theorem dX7_placesOf_78 : decode cX7_placesOf 78 = .ok (.lor, 1) := by decide +kernel
theorem dX7_placesOf_79 : decode cX7_placesOf 79 = .ok (.lstore_n 3, 1) := by decide +kernel
theorem dX7_placesOf_80 : decode cX7_placesOf 80 = .ok (.iinc 7 1, 3) := by decide +kernel
theorem dX7_placesOf_83 : decode cX7_placesOf 83 = .ok (.goto (-60), 3) := by decide +kernel
theorem dX7_placesOf_86 : decode cX7_placesOf 86 = .ok (.iinc 6 1, 3) := by decide +kernel
theorem dX7_placesOf_89 : decode cX7_placesOf 89 = .ok (.goto (-75), 3) := by decide +kernel
theorem dX7_placesOf_92 : decode cX7_placesOf 92 = .ok (.iinc 5 1, 3) := by decide +kernel
theorem dX7_placesOf_95 : decode cX7_placesOf 95 = .ok (.goto (-90), 3) := by decide +kernel
theorem dX7_placesOf_98 : decode cX7_placesOf 98 = .ok (.lload_n 3, 1) := by decide +kernel
theorem dX7_placesOf_99 : decode cX7_placesOf 99 = .ok (.lreturn, 1) := by decide +kernel
theorem dX7_holds_0 : decode cX7_holds 0 = .ok (.iload_n 1, 1) := by decide +kernel
theorem dX7_holds_1 : decode cX7_holds 1 = .ok (.bipush 60, 2) := by decide +kernel
theorem dX7_holds_3 : decode cX7_holds 3 = .ok (.if_icmp .ne 14, 3) := by decide +kernel
theorem dX7_holds_6 : decode cX7_holds 6 = .ok (.iload_n 0, 1) := by decide +kernel
theorem dX7_holds_7 : decode cX7_holds 7 = .ok (.iload_n 2, 1) := by decide +kernel
theorem dX7_holds_8 : decode cX7_holds 8 = .ok (.if_icmp .ge 7, 3) := by decide +kernel
theorem dX7_holds_11 : decode cX7_holds 11 = .ok (.iconst 1, 1) := by decide +kernel
theorem dX7_holds_12 : decode cX7_holds 12 = .ok (.goto 4, 3) := by decide +kernel
theorem dX7_holds_15 : decode cX7_holds 15 = .ok (.iconst 0, 1) := by decide +kernel
theorem dX7_holds_16 : decode cX7_holds 16 = .ok (.ireturn, 1) := by decide +kernel
theorem dX7_holds_17 : decode cX7_holds 17 = .ok (.iload_n 1, 1) := by decide +kernel
theorem dX7_holds_18 : decode cX7_holds 18 = .ok (.bipush 62, 2) := by decide +kernel
theorem dX7_holds_20 : decode cX7_holds 20 = .ok (.if_icmp .ne 16, 3) := by decide +kernel
theorem dX7_holds_23 : decode cX7_holds 23 = .ok (.iload_n 0, 1) := by decide +kernel
theorem dX7_holds_24 : decode cX7_holds 24 = .ok (.iload_n 2, 1) := by decide +kernel
theorem dX7_holds_25 : decode cX7_holds 25 = .ok (.if_icmp .le 7, 3) := by decide +kernel
theorem dX7_holds_28 : decode cX7_holds 28 = .ok (.iconst 1, 1) := by decide +kernel
theorem dX7_holds_29 : decode cX7_holds 29 = .ok (.goto 17, 3) := by decide +kernel
theorem dX7_holds_32 : decode cX7_holds 32 = .ok (.iconst 0, 1) := by decide +kernel
theorem dX7_holds_33 : decode cX7_holds 33 = .ok (.goto 13, 3) := by decide +kernel
theorem dX7_holds_36 : decode cX7_holds 36 = .ok (.iload_n 0, 1) := by decide +kernel
theorem dX7_holds_37 : decode cX7_holds 37 = .ok (.iload_n 2, 1) := by decide +kernel
theorem dX7_holds_38 : decode cX7_holds 38 = .ok (.if_icmp .ne 7, 3) := by decide +kernel
theorem dX7_holds_41 : decode cX7_holds 41 = .ok (.iconst 1, 1) := by decide +kernel
theorem dX7_holds_42 : decode cX7_holds 42 = .ok (.goto 4, 3) := by decide +kernel
theorem dX7_holds_45 : decode cX7_holds 45 = .ok (.iconst 0, 1) := by decide +kernel
theorem dX7_holds_46 : decode cX7_holds 46 = .ok (.ireturn, 1) := by decide +kernel
theorem dX8_init_0 : decode cX8_init 0 = .ok (.aload_n 0, 1) := by decide +kernel
theorem dX8_init_1 : decode cX8_init 1 = .ok (.invokespecial 3, 3) := by decide +kernel
theorem dX8_init_4 : decode cX8_init 4 = .ok (.aload_n 0, 1) := by decide +kernel
theorem dX8_init_5 : decode cX8_init 5 = .ok (.bipush 100, 2) := by decide +kernel
theorem dX8_init_7 : decode cX8_init 7 = .ok (.newarray .int, 2) := by decide +kernel
theorem dX8_init_9 : decode cX8_init 9 = .ok (.putfield 9, 3) := by decide +kernel
theorem dX8_init_12 : decode cX8_init 12 = .ok (.aload_n 0, 1) := by decide +kernel
theorem dX8_init_13 : decode cX8_init 13 = .ok (.new 15, 3) := by decide +kernel
theorem dX8_init_16 : decode cX8_init 16 = .ok (.dup, 1) := by decide +kernel
theorem dX8_init_17 : decode cX8_init 17 = .ok (.invokespecial 17, 3) := by decide +kernel
theorem dX8_init_20 : decode cX8_init 20 = .ok (.putfield 18, 3) := by decide +kernel
theorem dX8_init_23 : decode cX8_init 23 = .ok (.aload_n 0, 1) := by decide +kernel
theorem dX8_init_24 : decode cX8_init 24 = .ok (.new 22, 3) := by decide +kernel
theorem dX8_init_27 : decode cX8_init 27 = .ok (.dup, 1) := by decide +kernel
theorem dX8_init_28 : decode cX8_init 28 = .ok (.invokespecial 24, 3) := by decide +kernel
theorem dX8_init_31 : decode cX8_init 31 = .ok (.putfield 25, 3) := by decide +kernel
theorem dX8_init_34 : decode cX8_init 34 = .ok (.aload_n 0, 1) := by decide +kernel
theorem dX8_init_35 : decode cX8_init 35 = .ok (.bipush 6, 2) := by decide +kernel
theorem dX8_init_37 : decode cX8_init 37 = .ok (.anewarray 22, 3) := by decide +kernel
theorem dX8_init_40 : decode cX8_init 40 = .ok (.putfield 29, 3) := by decide +kernel
theorem dX8_init_43 : decode cX8_init 43 = .ok (.iconst 0, 1) := by decide +kernel
theorem dX8_init_44 : decode cX8_init 44 = .ok (.istore_n 1, 1) := by decide +kernel
theorem dX8_init_45 : decode cX8_init 45 = .ok (.iload_n 1, 1) := by decide +kernel
theorem dX8_init_46 : decode cX8_init 46 = .ok (.bipush 6, 2) := by decide +kernel
theorem dX8_init_48 : decode cX8_init 48 = .ok (.if_icmp .ge 22, 3) := by decide +kernel
theorem dX8_init_51 : decode cX8_init 51 = .ok (.aload_n 0, 1) := by decide +kernel
theorem dX8_init_52 : decode cX8_init 52 = .ok (.getfield 29, 3) := by decide +kernel
theorem dX8_init_55 : decode cX8_init 55 = .ok (.iload_n 1, 1) := by decide +kernel
theorem dX8_init_56 : decode cX8_init 56 = .ok (.new 22, 3) := by decide +kernel
theorem dX8_init_59 : decode cX8_init 59 = .ok (.dup, 1) := by decide +kernel
theorem dX8_init_60 : decode cX8_init 60 = .ok (.invokespecial 24, 3) := by decide +kernel
theorem dX8_init_63 : decode cX8_init 63 = .ok (.aastore, 1) := by decide +kernel
theorem dX8_init_64 : decode cX8_init 64 = .ok (.iinc 1 1, 3) := by decide +kernel
theorem dX8_init_67 : decode cX8_init 67 = .ok (.goto (-22), 3) := by decide +kernel
theorem dX8_init_70 : decode cX8_init 70 = .ok (.aload_n 0, 1) := by decide +kernel
theorem dX8_init_71 : decode cX8_init 71 = .ok (.iconst 4, 1) := by decide +kernel
theorem dX8_init_72 : decode cX8_init 72 = .ok (.newarray .int, 2) := by decide +kernel
theorem dX8_init_74 : decode cX8_init 74 = .ok (.putfield 33, 3) := by decide +kernel
theorem dX8_init_77 : decode cX8_init 77 = .ok (.aload_n 0, 1) := by decide +kernel
theorem dX8_init_78 : decode cX8_init 78 = .ok (.iconst 4, 1) := by decide +kernel
theorem dX8_init_79 : decode cX8_init 79 = .ok (.newarray .int, 2) := by decide +kernel
theorem dX8_init_81 : decode cX8_init 81 = .ok (.putfield 36, 3) := by decide +kernel
theorem dX8_init_84 : decode cX8_init 84 = .ok (.aload_n 0, 1) := by decide +kernel
theorem dX8_init_85 : decode cX8_init 85 = .ok (.iconst 4, 1) := by decide +kernel
theorem dX8_init_86 : decode cX8_init 86 = .ok (.anewarray 22, 3) := by decide +kernel
theorem dX8_init_89 : decode cX8_init 89 = .ok (.putfield 39, 3) := by decide +kernel
theorem dX8_init_92 : decode cX8_init 92 = .ok (.iconst 0, 1) := by decide +kernel
theorem dX8_init_93 : decode cX8_init 93 = .ok (.istore_n 1, 1) := by decide +kernel
theorem dX8_init_94 : decode cX8_init 94 = .ok (.iload_n 1, 1) := by decide +kernel
theorem dX8_init_95 : decode cX8_init 95 = .ok (.iconst 4, 1) := by decide +kernel
theorem dX8_init_96 : decode cX8_init 96 = .ok (.if_icmp .ge 22, 3) := by decide +kernel
theorem dX8_init_99 : decode cX8_init 99 = .ok (.aload_n 0, 1) := by decide +kernel
theorem dX8_init_100 : decode cX8_init 100 = .ok (.getfield 39, 3) := by decide +kernel
theorem dX8_init_103 : decode cX8_init 103 = .ok (.iload_n 1, 1) := by decide +kernel
theorem dX8_init_104 : decode cX8_init 104 = .ok (.new 22, 3) := by decide +kernel
theorem dX8_init_107 : decode cX8_init 107 = .ok (.dup, 1) := by decide +kernel
theorem dX8_init_108 : decode cX8_init 108 = .ok (.invokespecial 24, 3) := by decide +kernel
theorem dX8_init_111 : decode cX8_init 111 = .ok (.aastore, 1) := by decide +kernel
theorem dX8_init_112 : decode cX8_init 112 = .ok (.iinc 1 1, 3) := by decide +kernel
theorem dX8_init_115 : decode cX8_init 115 = .ok (.goto (-21), 3) := by decide +kernel
theorem dX8_init_118 : decode cX8_init 118 = .ok (.aload_n 0, 1) := by decide +kernel
theorem dX8_init_119 : decode cX8_init 119 = .ok (.new 22, 3) := by decide +kernel
theorem dX8_init_122 : decode cX8_init 122 = .ok (.dup, 1) := by decide +kernel
theorem dX8_init_123 : decode cX8_init 123 = .ok (.invokespecial 24, 3) := by decide +kernel
theorem dX8_init_126 : decode cX8_init 126 = .ok (.putfield 42, 3) := by decide +kernel
theorem dX8_init_129 : decode cX8_init 129 = .ok (.return_, 1) := by decide +kernel
theorem dX8_copy_0 : decode cX8_copy 0 = .ok (.iconst 0, 1) := by decide +kernel
theorem dX8_copy_1 : decode cX8_copy 1 = .ok (.istore_n 2, 1) := by decide +kernel
theorem dX8_copy_2 : decode cX8_copy 2 = .ok (.iload_n 2, 1) := by decide +kernel
theorem dX8_copy_3 : decode cX8_copy 3 = .ok (.aload_n 1, 1) := by decide +kernel
theorem dX8_copy_4 : decode cX8_copy 4 = .ok (.getfield 45, 3) := by decide +kernel
theorem dX8_copy_7 : decode cX8_copy 7 = .ok (.if_icmp .ge 21, 3) := by decide +kernel
theorem dX8_copy_10 : decode cX8_copy 10 = .ok (.aload_n 0, 1) := by decide +kernel
theorem dX8_copy_11 : decode cX8_copy 11 = .ok (.getfield 9, 3) := by decide +kernel
theorem dX8_copy_14 : decode cX8_copy 14 = .ok (.iload_n 2, 1) := by decide +kernel
theorem dX8_copy_15 : decode cX8_copy 15 = .ok (.aload_n 1, 1) := by decide +kernel
theorem dX8_copy_16 : decode cX8_copy 16 = .ok (.getfield 9, 3) := by decide +kernel
theorem dX8_copy_19 : decode cX8_copy 19 = .ok (.iload_n 2, 1) := by decide +kernel
theorem dX8_copy_20 : decode cX8_copy 20 = .ok (.iaload, 1) := by decide +kernel
theorem dX8_copy_21 : decode cX8_copy 21 = .ok (.iastore, 1) := by decide +kernel
theorem dX8_copy_22 : decode cX8_copy 22 = .ok (.iinc 2 1, 3) := by decide +kernel
theorem dX8_copy_25 : decode cX8_copy 25 = .ok (.goto (-23), 3) := by decide +kernel
theorem dX8_copy_28 : decode cX8_copy 28 = .ok (.aload_n 0, 1) := by decide +kernel
theorem dX8_copy_29 : decode cX8_copy 29 = .ok (.aload_n 1, 1) := by decide +kernel
theorem dX8_copy_30 : decode cX8_copy 30 = .ok (.getfield 45, 3) := by decide +kernel
theorem dX8_copy_33 : decode cX8_copy 33 = .ok (.putfield 45, 3) := by decide +kernel
theorem dX8_copy_36 : decode cX8_copy 36 = .ok (.aload_n 0, 1) := by decide +kernel
theorem dX8_copy_37 : decode cX8_copy 37 = .ok (.getfield 18, 3) := by decide +kernel
theorem dX8_copy_40 : decode cX8_copy 40 = .ok (.aload_n 1, 1) := by decide +kernel
theorem dX8_copy_41 : decode cX8_copy 41 = .ok (.getfield 18, 3) := by decide +kernel
theorem dX8_copy_44 : decode cX8_copy 44 = .ok (.invokevirtual 49, 3) := by decide +kernel
theorem dX8_copy_47 : decode cX8_copy 47 = .ok (.aload_n 0, 1) := by decide +kernel
theorem dX8_copy_48 : decode cX8_copy 48 = .ok (.aload_n 1, 1) := by decide +kernel
theorem dX8_copy_49 : decode cX8_copy 49 = .ok (.getfield 53, 3) := by decide +kernel
theorem dX8_copy_52 : decode cX8_copy 52 = .ok (.putfield 53, 3) := by decide +kernel
theorem dX8_copy_55 : decode cX8_copy 55 = .ok (.aload_n 0, 1) := by decide +kernel
theorem dX8_copy_56 : decode cX8_copy 56 = .ok (.aload_n 1, 1) := by decide +kernel
theorem dX8_copy_57 : decode cX8_copy 57 = .ok (.getfield 56, 3) := by decide +kernel
theorem dX8_copy_60 : decode cX8_copy 60 = .ok (.putfield 56, 3) := by decide +kernel
theorem dX8_copy_63 : decode cX8_copy 63 = .ok (.aload_n 0, 1) := by decide +kernel
theorem dX8_copy_64 : decode cX8_copy 64 = .ok (.getfield 25, 3) := by decide +kernel
theorem dX8_copy_67 : decode cX8_copy 67 = .ok (.aload_n 1, 1) := by decide +kernel
theorem dX8_copy_68 : decode cX8_copy 68 = .ok (.getfield 25, 3) := by decide +kernel
theorem dX8_copy_71 : decode cX8_copy 71 = .ok (.invokevirtual 59, 3) := by decide +kernel
theorem dX8_copy_74 : decode cX8_copy 74 = .ok (.iconst 0, 1) := by decide +kernel
theorem dX8_copy_75 : decode cX8_copy 75 = .ok (.istore_n 2, 1) := by decide +kernel
theorem dX8_copy_76 : decode cX8_copy 76 = .ok (.iload_n 2, 1) := by decide +kernel
theorem dX8_copy_77 : decode cX8_copy 77 = .ok (.bipush 6, 2) := by decide +kernel
theorem dX8_copy_79 : decode cX8_copy 79 = .ok (.if_icmp .ge 24, 3) := by decide +kernel
theorem dX8_copy_82 : decode cX8_copy 82 = .ok (.aload_n 0, 1) := by decide +kernel
theorem dX8_copy_83 : decode cX8_copy 83 = .ok (.getfield 29, 3) := by decide +kernel
theorem dX8_copy_86 : decode cX8_copy 86 = .ok (.iload_n 2, 1) := by decide +kernel
theorem dX8_copy_87 : decode cX8_copy 87 = .ok (.aaload, 1) := by decide +kernel
theorem dX8_copy_88 : decode cX8_copy 88 = .ok (.aload_n 1, 1) := by decide +kernel
theorem dX8_copy_89 : decode cX8_copy 89 = .ok (.getfield 29, 3) := by decide +kernel
theorem dX8_copy_92 : decode cX8_copy 92 = .ok (.iload_n 2, 1) := by decide +kernel
theorem dX8_copy_93 : decode cX8_copy 93 = .ok (.aaload, 1) := by decide +kernel
theorem dX8_copy_94 : decode cX8_copy 94 = .ok (.invokevirtual 59, 3) := by decide +kernel
theorem dX8_copy_97 : decode cX8_copy 97 = .ok (.iinc 2 1, 3) := by decide +kernel
theorem dX8_copy_100 : decode cX8_copy 100 = .ok (.goto (-24), 3) := by decide +kernel
theorem dX8_copy_103 : decode cX8_copy 103 = .ok (.aload_n 0, 1) := by decide +kernel
theorem dX8_copy_104 : decode cX8_copy 104 = .ok (.aload_n 1, 1) := by decide +kernel
theorem dX8_copy_105 : decode cX8_copy 105 = .ok (.getfield 62, 3) := by decide +kernel
theorem dX8_copy_108 : decode cX8_copy 108 = .ok (.putfield 62, 3) := by decide +kernel
theorem dX8_copy_111 : decode cX8_copy 111 = .ok (.iconst 0, 1) := by decide +kernel
theorem dX8_copy_112 : decode cX8_copy 112 = .ok (.istore_n 2, 1) := by decide +kernel
theorem dX8_copy_113 : decode cX8_copy 113 = .ok (.iload_n 2, 1) := by decide +kernel
theorem dX8_copy_114 : decode cX8_copy 114 = .ok (.iconst 4, 1) := by decide +kernel
theorem dX8_copy_115 : decode cX8_copy 115 = .ok (.if_icmp .ge 48, 3) := by decide +kernel
theorem dX8_copy_118 : decode cX8_copy 118 = .ok (.aload_n 0, 1) := by decide +kernel
theorem dX8_copy_119 : decode cX8_copy 119 = .ok (.getfield 33, 3) := by decide +kernel
theorem dX8_copy_122 : decode cX8_copy 122 = .ok (.iload_n 2, 1) := by decide +kernel
theorem dX8_copy_123 : decode cX8_copy 123 = .ok (.aload_n 1, 1) := by decide +kernel
theorem dX8_copy_124 : decode cX8_copy 124 = .ok (.getfield 33, 3) := by decide +kernel
theorem dX8_copy_127 : decode cX8_copy 127 = .ok (.iload_n 2, 1) := by decide +kernel
theorem dX8_copy_128 : decode cX8_copy 128 = .ok (.iaload, 1) := by decide +kernel
theorem dX8_copy_129 : decode cX8_copy 129 = .ok (.iastore, 1) := by decide +kernel
theorem dX8_copy_130 : decode cX8_copy 130 = .ok (.aload_n 0, 1) := by decide +kernel
theorem dX8_copy_131 : decode cX8_copy 131 = .ok (.getfield 36, 3) := by decide +kernel
theorem dX8_copy_134 : decode cX8_copy 134 = .ok (.iload_n 2, 1) := by decide +kernel
theorem dX8_copy_135 : decode cX8_copy 135 = .ok (.aload_n 1, 1) := by decide +kernel
theorem dX8_copy_136 : decode cX8_copy 136 = .ok (.getfield 36, 3) := by decide +kernel
theorem dX8_copy_139 : decode cX8_copy 139 = .ok (.iload_n 2, 1) := by decide +kernel
theorem dX8_copy_140 : decode cX8_copy 140 = .ok (.iaload, 1) := by decide +kernel
theorem dX8_copy_141 : decode cX8_copy 141 = .ok (.iastore, 1) := by decide +kernel
theorem dX8_copy_142 : decode cX8_copy 142 = .ok (.aload_n 0, 1) := by decide +kernel
theorem dX8_copy_143 : decode cX8_copy 143 = .ok (.getfield 39, 3) := by decide +kernel
theorem dX8_copy_146 : decode cX8_copy 146 = .ok (.iload_n 2, 1) := by decide +kernel
theorem dX8_copy_147 : decode cX8_copy 147 = .ok (.aaload, 1) := by decide +kernel
theorem dX8_copy_148 : decode cX8_copy 148 = .ok (.aload_n 1, 1) := by decide +kernel
theorem dX8_copy_149 : decode cX8_copy 149 = .ok (.getfield 39, 3) := by decide +kernel
theorem dX8_copy_152 : decode cX8_copy 152 = .ok (.iload_n 2, 1) := by decide +kernel
theorem dX8_copy_153 : decode cX8_copy 153 = .ok (.aaload, 1) := by decide +kernel
theorem dX8_copy_154 : decode cX8_copy 154 = .ok (.invokevirtual 59, 3) := by decide +kernel
theorem dX8_copy_157 : decode cX8_copy 157 = .ok (.iinc 2 1, 3) := by decide +kernel
theorem dX8_copy_160 : decode cX8_copy 160 = .ok (.goto (-47), 3) := by decide +kernel
theorem dX8_copy_163 : decode cX8_copy 163 = .ok (.aload_n 0, 1) := by decide +kernel
theorem dX8_copy_164 : decode cX8_copy 164 = .ok (.aload_n 1, 1) := by decide +kernel
theorem dX8_copy_165 : decode cX8_copy 165 = .ok (.getfield 65, 3) := by decide +kernel
theorem dX8_copy_168 : decode cX8_copy 168 = .ok (.putfield 65, 3) := by decide +kernel
theorem dX8_copy_171 : decode cX8_copy 171 = .ok (.aload_n 0, 1) := by decide +kernel
theorem dX8_copy_172 : decode cX8_copy 172 = .ok (.getfield 42, 3) := by decide +kernel
theorem dX8_copy_175 : decode cX8_copy 175 = .ok (.aload_n 1, 1) := by decide +kernel
theorem dX8_copy_176 : decode cX8_copy 176 = .ok (.getfield 42, 3) := by decide +kernel
theorem dX8_copy_179 : decode cX8_copy 179 = .ok (.invokevirtual 59, 3) := by decide +kernel
theorem dX8_copy_182 : decode cX8_copy 182 = .ok (.return_, 1) := by decide +kernel
theorem dX8_addByte_0 : decode cX8_addByte 0 = .ok (.aload_n 0, 1) := by decide +kernel
theorem dX8_addByte_1 : decode cX8_addByte 1 = .ok (.getfield 45, 3) := by decide +kernel
theorem dX8_addByte_4 : decode cX8_addByte 4 = .ok (.bipush 100, 2) := by decide +kernel
theorem dX8_addByte_6 : decode cX8_addByte 6 = .ok (.if_icmp .lt 5, 3) := by decide +kernel
theorem dX8_addByte_9 : decode cX8_addByte 9 = .ok (.iconst 0, 1) := by decide +kernel
theorem dX8_addByte_10 : decode cX8_addByte 10 = .ok (.ireturn, 1) := by decide +kernel
theorem dX8_addByte_11 : decode cX8_addByte 11 = .ok (.aload_n 0, 1) := by decide +kernel
theorem dX8_addByte_12 : decode cX8_addByte 12 = .ok (.getfield 9, 3) := by decide +kernel
theorem dX8_addByte_15 : decode cX8_addByte 15 = .ok (.aload_n 0, 1) := by decide +kernel
theorem dX8_addByte_16 : decode cX8_addByte 16 = .ok (.getfield 45, 3) := by decide +kernel
theorem dX8_addByte_19 : decode cX8_addByte 19 = .ok (.iload_n 1, 1) := by decide +kernel
theorem dX8_addByte_20 : decode cX8_addByte 20 = .ok (.iastore, 1) := by decide +kernel
theorem dX8_addByte_21 : decode cX8_addByte 21 = .ok (.aload_n 0, 1) := by decide +kernel
theorem dX8_addByte_22 : decode cX8_addByte 22 = .ok (.dup, 1) := by decide +kernel
theorem dX8_addByte_23 : decode cX8_addByte 23 = .ok (.getfield 45, 3) := by decide +kernel
theorem dX8_addByte_26 : decode cX8_addByte 26 = .ok (.iconst 1, 1) := by decide +kernel
theorem dX8_addByte_27 : decode cX8_addByte 27 = .ok (.iadd, 1) := by decide +kernel
theorem dX8_addByte_28 : decode cX8_addByte 28 = .ok (.putfield 45, 3) := by decide +kernel
theorem dX8_addByte_31 : decode cX8_addByte 31 = .ok (.iconst 1, 1) := by decide +kernel
theorem dX8_addByte_32 : decode cX8_addByte 32 = .ok (.ireturn, 1) := by decide +kernel
theorem dX8_addPlayer_0 : decode cX8_addPlayer 0 = .ok (.aload_n 0, 1) := by decide +kernel
theorem dX8_addPlayer_1 : decode cX8_addPlayer 1 = .ok (.getfield 65, 3) := by decide +kernel
theorem dX8_addPlayer_4 : decode cX8_addPlayer 4 = .ok (.iconst 4, 1) := by decide +kernel
theorem dX8_addPlayer_5 : decode cX8_addPlayer 5 = .ok (.if_icmp .lt 5, 3) := by decide +kernel
theorem dX8_addPlayer_8 : decode cX8_addPlayer 8 = .ok (.iconst 0, 1) := by decide +kernel
theorem dX8_addPlayer_9 : decode cX8_addPlayer 9 = .ok (.ireturn, 1) := by decide +kernel
theorem dX8_addPlayer_10 : decode cX8_addPlayer 10 = .ok (.aload_n 0, 1) := by decide +kernel
theorem dX8_addPlayer_11 : decode cX8_addPlayer 11 = .ok (.getfield 33, 3) := by decide +kernel
theorem dX8_addPlayer_14 : decode cX8_addPlayer 14 = .ok (.aload_n 0, 1) := by decide +kernel
theorem dX8_addPlayer_15 : decode cX8_addPlayer 15 = .ok (.getfield 65, 3) := by decide +kernel
theorem dX8_addPlayer_18 : decode cX8_addPlayer 18 = .ok (.iload_n 1, 1) := by decide +kernel
theorem dX8_addPlayer_19 : decode cX8_addPlayer 19 = .ok (.iastore, 1) := by decide +kernel
theorem dX8_addPlayer_20 : decode cX8_addPlayer 20 = .ok (.aload_n 0, 1) := by decide +kernel
theorem dX8_addPlayer_21 : decode cX8_addPlayer 21 = .ok (.getfield 36, 3) := by decide +kernel
theorem dX8_addPlayer_24 : decode cX8_addPlayer 24 = .ok (.aload_n 0, 1) := by decide +kernel
theorem dX8_addPlayer_25 : decode cX8_addPlayer 25 = .ok (.getfield 65, 3) := by decide +kernel
theorem dX8_addPlayer_28 : decode cX8_addPlayer 28 = .ok (.iload_n 2, 1) := by decide +kernel
theorem dX8_addPlayer_29 : decode cX8_addPlayer 29 = .ok (.iastore, 1) := by decide +kernel
theorem dX8_addPlayer_30 : decode cX8_addPlayer 30 = .ok (.aload_n 0, 1) := by decide +kernel
theorem dX8_addPlayer_31 : decode cX8_addPlayer 31 = .ok (.dup, 1) := by decide +kernel
theorem dX8_addPlayer_32 : decode cX8_addPlayer 32 = .ok (.getfield 65, 3) := by decide +kernel
theorem dX8_addPlayer_35 : decode cX8_addPlayer 35 = .ok (.iconst 1, 1) := by decide +kernel
theorem dX8_addPlayer_36 : decode cX8_addPlayer 36 = .ok (.iadd, 1) := by decide +kernel
theorem dX8_addPlayer_37 : decode cX8_addPlayer 37 = .ok (.putfield 65, 3) := by decide +kernel
theorem dX8_addPlayer_40 : decode cX8_addPlayer 40 = .ok (.iconst 1, 1) := by decide +kernel
theorem dX8_addPlayer_41 : decode cX8_addPlayer 41 = .ok (.ireturn, 1) := by decide +kernel
theorem dX8_hasPlayer_0 : decode cX8_hasPlayer 0 = .ok (.iload_n 1, 1) := by decide +kernel
theorem dX8_hasPlayer_1 : decode cX8_hasPlayer 1 = .ok (.ifCond .lt 15, 3) := by decide +kernel
theorem dX8_hasPlayer_4 : decode cX8_hasPlayer 4 = .ok (.iload_n 1, 1) := by decide +kernel
theorem dX8_hasPlayer_5 : decode cX8_hasPlayer 5 = .ok (.aload_n 0, 1) := by decide +kernel
theorem dX8_hasPlayer_6 : decode cX8_hasPlayer 6 = .ok (.getfield 65, 3) := by decide +kernel
theorem dX8_hasPlayer_9 : decode cX8_hasPlayer 9 = .ok (.if_icmp .ge 7, 3) := by decide +kernel
theorem dX8_hasPlayer_12 : decode cX8_hasPlayer 12 = .ok (.iconst 1, 1) := by decide +kernel
theorem dX8_hasPlayer_13 : decode cX8_hasPlayer 13 = .ok (.goto 4, 3) := by decide +kernel
theorem dX8_hasPlayer_16 : decode cX8_hasPlayer 16 = .ok (.iconst 0, 1) := by decide +kernel
theorem dX8_hasPlayer_17 : decode cX8_hasPlayer 17 = .ok (.ireturn, 1) := by decide +kernel
theorem dX8_rowAt_0 : decode cX8_rowAt 0 = .ok (.iload_n 1, 1) := by decide +kernel
theorem dX8_rowAt_1 : decode cX8_rowAt 1 = .ok (.ifCond .lt 11, 3) := by decide +kernel
theorem dX8_rowAt_4 : decode cX8_rowAt 4 = .ok (.iload_n 1, 1) := by decide +kernel
theorem dX8_rowAt_5 : decode cX8_rowAt 5 = .ok (.aload_n 0, 1) := by decide +kernel
theorem dX8_rowAt_6 : decode cX8_rowAt 6 = .ok (.getfield 62, 3) := by decide +kernel
theorem dX8_rowAt_9 : decode cX8_rowAt 9 = .ok (.if_icmp .lt 7, 3) := by decide +kernel
theorem dX8_rowAt_12 : decode cX8_rowAt 12 = .ok (.aconst_null, 1) := by decide +kernel
theorem dX8_rowAt_13 : decode cX8_rowAt 13 = .ok (.goto 9, 3) := by decide +kernel
theorem dX8_rowAt_16 : decode cX8_rowAt 16 = .ok (.aload_n 0, 1) := by decide +kernel
theorem dX8_rowAt_17 : decode cX8_rowAt 17 = .ok (.getfield 29, 3) := by decide +kernel
theorem dX8_rowAt_20 : decode cX8_rowAt 20 = .ok (.iload_n 1, 1) := by decide +kernel
theorem dX8_rowAt_21 : decode cX8_rowAt 21 = .ok (.aaload, 1) := by decide +kernel
theorem dX8_rowAt_22 : decode cX8_rowAt 22 = .ok (.areturn, 1) := by decide +kernel
theorem dX9_init_0 : decode cX9_init 0 = .ok (.aload_n 0, 1) := by decide +kernel
theorem dX9_init_1 : decode cX9_init 1 = .ok (.invokespecial 3, 3) := by decide +kernel
theorem dX9_init_4 : decode cX9_init 4 = .ok (.aload_n 0, 1) := by decide +kernel
theorem dX9_init_5 : decode cX9_init 5 = .ok (.new 9, 3) := by decide +kernel
theorem dX9_init_8 : decode cX9_init 8 = .ok (.dup, 1) := by decide +kernel
theorem dX9_init_9 : decode cX9_init 9 = .ok (.invokespecial 11, 3) := by decide +kernel
theorem dX9_init_12 : decode cX9_init 12 = .ok (.putfield 12, 3) := by decide +kernel
theorem dX9_init_15 : decode cX9_init 15 = .ok (.aload_n 0, 1) := by decide +kernel
theorem dX9_init_16 : decode cX9_init 16 = .ok (.new 9, 3) := by decide +kernel
theorem dX9_init_19 : decode cX9_init 19 = .ok (.dup, 1) := by decide +kernel
theorem dX9_init_20 : decode cX9_init 20 = .ok (.invokespecial 11, 3) := by decide +kernel
theorem dX9_init_23 : decode cX9_init 23 = .ok (.putfield 18, 3) := by decide +kernel
theorem dX9_init_26 : decode cX9_init 26 = .ok (.aload_n 0, 1) := by decide +kernel
theorem dX9_init_27 : decode cX9_init 27 = .ok (.iconst 0, 1) := by decide +kernel
theorem dX9_init_28 : decode cX9_init 28 = .ok (.putfield 21, 3) := by decide +kernel
theorem dX9_init_31 : decode cX9_init 31 = .ok (.aload_n 0, 1) := by decide +kernel
theorem dX9_init_32 : decode cX9_init 32 = .ok (.new 25, 3) := by decide +kernel
theorem dX9_init_35 : decode cX9_init 35 = .ok (.dup, 1) := by decide +kernel
theorem dX9_init_36 : decode cX9_init 36 = .ok (.invokespecial 27, 3) := by decide +kernel
theorem dX9_init_39 : decode cX9_init 39 = .ok (.putfield 28, 3) := by decide +kernel
theorem dX9_init_42 : decode cX9_init 42 = .ok (.aload_n 0, 1) := by decide +kernel
theorem dX9_init_43 : decode cX9_init 43 = .ok (.new 32, 3) := by decide +kernel
theorem dX9_init_46 : decode cX9_init 46 = .ok (.dup, 1) := by decide +kernel
theorem dX9_init_47 : decode cX9_init 47 = .ok (.invokespecial 34, 3) := by decide +kernel
theorem dX9_init_50 : decode cX9_init 50 = .ok (.putfield 35, 3) := by decide +kernel
theorem dX9_init_53 : decode cX9_init 53 = .ok (.aload_n 0, 1) := by decide +kernel
theorem dX9_init_54 : decode cX9_init 54 = .ok (.new 39, 3) := by decide +kernel
theorem dX9_init_57 : decode cX9_init 57 = .ok (.dup, 1) := by decide +kernel
theorem dX9_init_58 : decode cX9_init 58 = .ok (.invokespecial 41, 3) := by decide +kernel
theorem dX9_init_61 : decode cX9_init 61 = .ok (.putfield 42, 3) := by decide +kernel
theorem dX9_init_64 : decode cX9_init 64 = .ok (.aload_n 0, 1) := by decide +kernel
theorem dX9_init_65 : decode cX9_init 65 = .ok (.new 46, 3) := by decide +kernel
theorem dX9_init_68 : decode cX9_init 68 = .ok (.dup, 1) := by decide +kernel
theorem dX9_init_69 : decode cX9_init 69 = .ok (.invokespecial 48, 3) := by decide +kernel
theorem dX9_init_72 : decode cX9_init 72 = .ok (.putfield 49, 3) := by decide +kernel
theorem dX9_init_75 : decode cX9_init 75 = .ok (.aload_n 0, 1) := by decide +kernel
theorem dX9_init_76 : decode cX9_init 76 = .ok (.new 53, 3) := by decide +kernel
theorem dX9_init_79 : decode cX9_init 79 = .ok (.dup, 1) := by decide +kernel
theorem dX9_init_80 : decode cX9_init 80 = .ok (.invokespecial 55, 3) := by decide +kernel
theorem dX9_init_83 : decode cX9_init 83 = .ok (.putfield 56, 3) := by decide +kernel
theorem dX9_init_86 : decode cX9_init 86 = .ok (.aload_n 0, 1) := by decide +kernel
theorem dX9_init_87 : decode cX9_init 87 = .ok (.new 60, 3) := by decide +kernel
theorem dX9_init_90 : decode cX9_init 90 = .ok (.dup, 1) := by decide +kernel
theorem dX9_init_91 : decode cX9_init 91 = .ok (.invokespecial 62, 3) := by decide +kernel
theorem dX9_init_94 : decode cX9_init 94 = .ok (.putfield 63, 3) := by decide +kernel
theorem dX9_init_97 : decode cX9_init 97 = .ok (.aload_n 0, 1) := by decide +kernel
theorem dX9_init_98 : decode cX9_init 98 = .ok (.new 67, 3) := by decide +kernel
theorem dX9_init_101 : decode cX9_init 101 = .ok (.dup, 1) := by decide +kernel
theorem dX9_init_102 : decode cX9_init 102 = .ok (.invokespecial 69, 3) := by decide +kernel
theorem dX9_init_105 : decode cX9_init 105 = .ok (.putfield 70, 3) := by decide +kernel
theorem dX9_init_108 : decode cX9_init 108 = .ok (.return_, 1) := by decide +kernel
theorem dX9_feed_0 : decode cX9_feed 0 = .ok (.iload_n 1, 1) := by decide +kernel
theorem dX9_feed_1 : decode cX9_feed 1 = .ok (.ifCond .lt 9, 3) := by decide +kernel
theorem dX9_feed_4 : decode cX9_feed 4 = .ok (.iload_n 1, 1) := by decide +kernel
theorem dX9_feed_5 : decode cX9_feed 5 = .ok (.bipush 127, 2) := by decide +kernel
theorem dX9_feed_7 : decode cX9_feed 7 = .ok (.if_icmp .le 6, 3) := by decide +kernel
theorem dX9_feed_10 : decode cX9_feed 10 = .ok (.bipush (-2), 2) := by decide +kernel
theorem dX9_feed_12 : decode cX9_feed 12 = .ok (.ireturn, 1) := by decide +kernel
theorem dX9_feed_13 : decode cX9_feed 13 = .ok (.aload_n 0, 1) := by decide +kernel
theorem dX9_feed_14 : decode cX9_feed 14 = .ok (.getfield 12, 3) := by decide +kernel
theorem dX9_feed_17 : decode cX9_feed 17 = .ok (.iload_n 1, 1) := by decide +kernel
theorem dX9_feed_18 : decode cX9_feed 18 = .ok (.invokevirtual 74, 3) := by decide +kernel
theorem dX9_feed_21 : decode cX9_feed 21 = .ok (.ifCond .eq 13, 3) := by decide +kernel
theorem dX9_feed_24 : decode cX9_feed 24 = .ok (.aload_n 0, 1) := by decide +kernel
theorem dX9_feed_25 : decode cX9_feed 25 = .ok (.getfield 12, 3) := by decide +kernel
theorem dX9_feed_28 : decode cX9_feed 28 = .ok (.getfield 78, 3) := by decide +kernel
theorem dX9_feed_31 : decode cX9_feed 31 = .ok (.goto 5, 3) := by decide +kernel
theorem dX9_feed_34 : decode cX9_feed 34 = .ok (.bipush (-4), 2) := by decide +kernel
theorem dX9_feed_36 : decode cX9_feed 36 = .ok (.ireturn, 1) := by decide +kernel
theorem dX9_stall_0 : decode cX9_stall 0 = .ok (.aload_n 0, 1) := by decide +kernel
theorem dX9_stall_1 : decode cX9_stall 1 = .ok (.getfield 12, 3) := by decide +kernel
theorem dX9_stall_4 : decode cX9_stall 4 = .ok (.getfield 82, 3) := by decide +kernel
theorem dX9_stall_7 : decode cX9_stall 7 = .ok (.iconst 5, 1) := by decide +kernel
theorem dX9_stall_8 : decode cX9_stall 8 = .ok (.if_icmp .lt 6, 3) := by decide +kernel
theorem dX9_stall_11 : decode cX9_stall 11 = .ok (.bipush (-4), 2) := by decide +kernel
theorem dX9_stall_13 : decode cX9_stall 13 = .ok (.ireturn, 1) := by decide +kernel
theorem dX9_stall_14 : decode cX9_stall 14 = .ok (.aload_n 0, 1) := by decide +kernel
theorem dX9_stall_15 : decode cX9_stall 15 = .ok (.getfield 35, 3) := by decide +kernel
theorem dX9_stall_18 : decode cX9_stall 18 = .ok (.aload_n 0, 1) := by decide +kernel
theorem dX9_stall_19 : decode cX9_stall 19 = .ok (.getfield 12, 3) := by decide +kernel
theorem dX9_stall_22 : decode cX9_stall 22 = .ok (.getfield 85, 3) := by decide +kernel
theorem dX9_stall_25 : decode cX9_stall 25 = .ok (.aload_n 0, 1) := by decide +kernel
theorem dX9_stall_26 : decode cX9_stall 26 = .ok (.getfield 12, 3) := by decide +kernel
theorem dX9_stall_29 : decode cX9_stall 29 = .ok (.getfield 78, 3) := by decide +kernel
theorem dX9_stall_32 : decode cX9_stall 32 = .ok (.aload_n 0, 1) := by decide +kernel
theorem dX9_stall_33 : decode cX9_stall 33 = .ok (.getfield 28, 3) := by decide +kernel
theorem dX9_stall_36 : decode cX9_stall 36 = .ok (.invokevirtual 89, 3) := by decide +kernel
theorem dX9_stall_39 : decode cX9_stall 39 = .ok (.istore_n 1, 1) := by decide +kernel
theorem dX9_stall_40 : decode cX9_stall 40 = .ok (.aload_n 0, 1) := by decide +kernel
theorem dX9_stall_41 : decode cX9_stall 41 = .ok (.getfield 12, 3) := by decide +kernel
theorem dX9_stall_44 : decode cX9_stall 44 = .ok (.iconst 0, 1) := by decide +kernel
theorem dX9_stall_45 : decode cX9_stall 45 = .ok (.putfield 78, 3) := by decide +kernel
theorem dX9_stall_48 : decode cX9_stall 48 = .ok (.iload_n 1, 1) := by decide +kernel
theorem dX9_stall_49 : decode cX9_stall 49 = .ok (.ifCond .lt 8, 3) := by decide +kernel
theorem dX9_stall_52 : decode cX9_stall 52 = .ok (.bipush (-10), 2) := by decide +kernel
theorem dX9_stall_54 : decode cX9_stall 54 = .ok (.iload_n 1, 1) := by decide +kernel
theorem dX9_stall_55 : decode cX9_stall 55 = .ok (.isub, 1) := by decide +kernel
theorem dX9_stall_56 : decode cX9_stall 56 = .ok (.ireturn, 1) := by decide +kernel
theorem dX9_stall_57 : decode cX9_stall 57 = .ok (.aload_n 0, 1) := by decide +kernel
theorem dX9_stall_58 : decode cX9_stall 58 = .ok (.getfield 12, 3) := by decide +kernel
theorem dX9_stall_61 : decode cX9_stall 61 = .ok (.getfield 93, 3) := by decide +kernel
theorem dX9_stall_64 : decode cX9_stall 64 = .ok (.aload_n 0, 1) := by decide +kernel
theorem dX9_stall_65 : decode cX9_stall 65 = .ok (.getfield 28, 3) := by decide +kernel
theorem dX9_stall_68 : decode cX9_stall 68 = .ok (.invokevirtual 96, 3) := by decide +kernel
theorem dX9_stall_71 : decode cX9_stall 71 = .ok (.aload_n 0, 1) := by decide +kernel
theorem dX9_stall_72 : decode cX9_stall 72 = .ok (.getfield 12, 3) := by decide +kernel
theorem dX9_stall_75 : decode cX9_stall 75 = .ok (.dup, 1) := by decide +kernel
theorem dX9_stall_76 : decode cX9_stall 76 = .ok (.getfield 82, 3) := by decide +kernel
theorem dX9_stall_79 : decode cX9_stall 79 = .ok (.iconst 1, 1) := by decide +kernel
theorem dX9_stall_80 : decode cX9_stall 80 = .ok (.iadd, 1) := by decide +kernel
theorem dX9_stall_81 : decode cX9_stall 81 = .ok (.putfield 82, 3) := by decide +kernel
theorem dX9_stall_84 : decode cX9_stall 84 = .ok (.aload_n 0, 1) := by decide +kernel
theorem dX9_stall_85 : decode cX9_stall 85 = .ok (.getfield 12, 3) := by decide +kernel
theorem dX9_stall_88 : decode cX9_stall 88 = .ok (.getfield 82, 3) := by decide +kernel
theorem dX9_stall_91 : decode cX9_stall 91 = .ok (.iconst 1, 1) := by decide +kernel
theorem dX9_stall_92 : decode cX9_stall 92 = .ok (.isub, 1) := by decide +kernel
theorem dX9_stall_93 : decode cX9_stall 93 = .ok (.ireturn, 1) := by decide +kernel
theorem dX9_day_0 : decode cX9_day 0 = .ok (.iload_n 1, 1) := by decide +kernel
theorem dX9_day_1 : decode cX9_day 1 = .ok (.ifCond .lt 9, 3) := by decide +kernel
theorem dX9_day_4 : decode cX9_day 4 = .ok (.iload_n 1, 1) := by decide +kernel
theorem dX9_day_5 : decode cX9_day 5 = .ok (.bipush 10, 2) := by decide +kernel
theorem dX9_day_7 : decode cX9_day 7 = .ok (.if_icmp .lt 6, 3) := by decide +kernel
theorem dX9_day_10 : decode cX9_day 10 = .ok (.bipush (-2), 2) := by decide +kernel
theorem dX9_day_12 : decode cX9_day 12 = .ok (.ireturn, 1) := by decide +kernel
theorem dX9_day_13 : decode cX9_day 13 = .ok (.aload_n 0, 1) := by decide +kernel
theorem dX9_day_14 : decode cX9_day 14 = .ok (.getfield 12, 3) := by decide +kernel
theorem dX9_day_17 : decode cX9_day 17 = .ok (.getfield 100, 3) := by decide +kernel
theorem dX9_day_20 : decode cX9_day 20 = .ok (.istore_n 2, 1) := by decide +kernel
theorem dX9_day_21 : decode cX9_day 21 = .ok (.aload_n 0, 1) := by decide +kernel
theorem dX9_day_22 : decode cX9_day 22 = .ok (.getfield 12, 3) := by decide +kernel
theorem dX9_day_25 : decode cX9_day 25 = .ok (.iload_n 1, 1) := by decide +kernel
theorem dX9_day_26 : decode cX9_day 26 = .ok (.putfield 100, 3) := by decide +kernel
theorem dX9_day_29 : decode cX9_day 29 = .ok (.iload_n 2, 1) := by decide +kernel
theorem dX9_day_30 : decode cX9_day 30 = .ok (.ireturn, 1) := by decide +kernel
theorem dX9_told_0 : decode cX9_told 0 = .ok (.aload_n 0, 1) := by decide +kernel
theorem dX9_told_1 : decode cX9_told 1 = .ok (.invokevirtual 103, 3) := by decide +kernel
theorem dX9_told_4 : decode cX9_told 4 = .ok (.iload_n 1, 1) := by decide +kernel
theorem dX9_told_5 : decode cX9_told 5 = .ok (.tableswitch 143 0 12 #[67, 75, 86, 97, 105, 143, 143, 143, 143, 143, 113, 113, 113], 67) := by decide +kernel
theorem dX9_told_72 : decode cX9_told 72 = .ok (.aload_n 0, 1) := by decide +kernel
theorem dX9_told_73 : decode cX9_told 73 = .ok (.getfield 42, 3) := by decide +kernel
theorem dX9_told_76 : decode cX9_told 76 = .ok (.getfield 106, 3) := by decide +kernel
theorem dX9_told_79 : decode cX9_told 79 = .ok (.ireturn, 1) := by decide +kernel
theorem dX9_told_80 : decode cX9_told 80 = .ok (.aload_n 0, 1) := by decide +kernel
theorem dX9_told_81 : decode cX9_told 81 = .ok (.getfield 12, 3) := by decide +kernel
theorem dX9_told_84 : decode cX9_told 84 = .ok (.getfield 93, 3) := by decide +kernel
theorem dX9_told_87 : decode cX9_told 87 = .ok (.getfield 109, 3) := by decide +kernel
theorem dX9_told_90 : decode cX9_told 90 = .ok (.ireturn, 1) := by decide +kernel
theorem dX9_told_91 : decode cX9_told 91 = .ok (.aload_n 0, 1) := by decide +kernel
theorem dX9_told_92 : decode cX9_told 92 = .ok (.getfield 12, 3) := by decide +kernel
theorem dX9_told_95 : decode cX9_told 95 = .ok (.getfield 93, 3) := by decide +kernel
theorem dX9_told_98 : decode cX9_told 98 = .ok (.getfield 112, 3) := by decide +kernel
theorem dX9_told_101 : decode cX9_told 101 = .ok (.ireturn, 1) := by decide +kernel
theorem dX9_told_102 : decode cX9_told 102 = .ok (.aload_n 0, 1) := by decide +kernel
theorem dX9_told_103 : decode cX9_told 103 = .ok (.getfield 12, 3) := by decide +kernel
theorem dX9_told_106 : decode cX9_told 106 = .ok (.getfield 100, 3) := by decide +kernel
theorem dX9_told_109 : decode cX9_told 109 = .ok (.ireturn, 1) := by decide +kernel
theorem dX9_told_110 : decode cX9_told 110 = .ok (.aload_n 0, 1) := by decide +kernel
theorem dX9_told_111 : decode cX9_told 111 = .ok (.getfield 42, 3) := by decide +kernel
theorem dX9_told_114 : decode cX9_told 114 = .ok (.getfield 115, 3) := by decide +kernel
theorem dX9_told_117 : decode cX9_told 117 = .ok (.ireturn, 1) := by decide +kernel
theorem dX9_told_118 : decode cX9_told 118 = .ok (.iload_n 1, 1) := by decide +kernel
theorem dX9_told_119 : decode cX9_told 119 = .ok (.bipush 10, 2) := by decide +kernel
theorem dX9_told_121 : decode cX9_told 121 = .ok (.isub, 1) := by decide +kernel
theorem dX9_told_122 : decode cX9_told 122 = .ok (.aload_n 0, 1) := by decide +kernel
theorem dX9_told_123 : decode cX9_told 123 = .ok (.getfield 42, 3) := by decide +kernel
theorem dX9_told_126 : decode cX9_told 126 = .ok (.getfield 106, 3) := by decide +kernel
theorem dX9_told_129 : decode cX9_told 129 = .ok (.if_icmp .ge 17, 3) := by decide +kernel
theorem dX9_told_132 : decode cX9_told 132 = .ok (.aload_n 0, 1) := by decide +kernel
theorem dX9_told_133 : decode cX9_told 133 = .ok (.getfield 42, 3) := by decide +kernel
theorem dX9_told_136 : decode cX9_told 136 = .ok (.iload_n 1, 1) := by decide +kernel
theorem dX9_told_137 : decode cX9_told 137 = .ok (.bipush 10, 2) := by decide +kernel
theorem dX9_told_139 : decode cX9_told 139 = .ok (.isub, 1) := by decide +kernel
theorem dX9_told_140 : decode cX9_told 140 = .ok (.invokevirtual 118, 3) := by decide +kernel
theorem dX9_told_143 : decode cX9_told 143 = .ok (.goto 4, 3) := by decide +kernel
theorem dX9_told_146 : decode cX9_told 146 = .ok (.iconst (-1), 1) := by decide +kernel
theorem dX9_told_147 : decode cX9_told 147 = .ok (.ireturn, 1) := by decide +kernel
theorem dX9_told_148 : decode cX9_told 148 = .ok (.iconst (-1), 1) := by decide +kernel
theorem dX9_told_149 : decode cX9_told 149 = .ok (.ireturn, 1) := by decide +kernel
theorem dX9_sign_0 : decode cX9_sign 0 = .ok (.iload_n 1, 1) := by decide +kernel
theorem dX9_sign_1 : decode cX9_sign 1 = .ok (.iconst (-1), 1) := by decide +kernel
theorem dX9_sign_2 : decode cX9_sign 2 = .ok (.if_icmp .lt 8, 3) := by decide +kernel
theorem dX9_sign_5 : decode cX9_sign 5 = .ok (.iload_n 1, 1) := by decide +kernel
theorem dX9_sign_6 : decode cX9_sign 6 = .ok (.iconst 3, 1) := by decide +kernel
theorem dX9_sign_7 : decode cX9_sign 7 = .ok (.if_icmp .lt 6, 3) := by decide +kernel
theorem dX9_sign_10 : decode cX9_sign 10 = .ok (.bipush (-2), 2) := by decide +kernel
theorem dX9_sign_12 : decode cX9_sign 12 = .ok (.ireturn, 1) := by decide +kernel
theorem dX9_sign_13 : decode cX9_sign 13 = .ok (.aload_n 0, 1) := by decide +kernel
theorem dX9_sign_14 : decode cX9_sign 14 = .ok (.getfield 12, 3) := by decide +kernel
theorem dX9_sign_17 : decode cX9_sign 17 = .ok (.getfield 122, 3) := by decide +kernel
theorem dX9_sign_20 : decode cX9_sign 20 = .ok (.iload_n 1, 1) := by decide +kernel
theorem dX9_sign_21 : decode cX9_sign 21 = .ok (.bipush 6, 2) := by decide +kernel
theorem dX9_sign_23 : decode cX9_sign 23 = .ok (.invokestatic 126, 3) := by decide +kernel
theorem dX9_sign_26 : decode cX9_sign 26 = .ok (.ireturn, 1) := by decide +kernel
theorem dX9_row_0 : decode cX9_row 0 = .ok (.aload_n 0, 1) := by decide +kernel
theorem dX9_row_1 : decode cX9_row 1 = .ok (.getfield 12, 3) := by decide +kernel
theorem dX9_row_4 : decode cX9_row 4 = .ok (.getfield 122, 3) := by decide +kernel
theorem dX9_row_7 : decode cX9_row 7 = .ok (.getfield 130, 3) := by decide +kernel
theorem dX9_row_10 : decode cX9_row 10 = .ok (.ifCond .ne 6, 3) := by decide +kernel
theorem dX9_row_13 : decode cX9_row 13 = .ok (.bipush (-3), 2) := by decide +kernel
theorem dX9_row_15 : decode cX9_row 15 = .ok (.ireturn, 1) := by decide +kernel
theorem dX9_row_16 : decode cX9_row 16 = .ok (.aload_n 0, 1) := by decide +kernel
theorem dX9_row_17 : decode cX9_row 17 = .ok (.getfield 12, 3) := by decide +kernel
theorem dX9_row_20 : decode cX9_row 20 = .ok (.getfield 135, 3) := by decide +kernel
theorem dX9_row_23 : decode cX9_row 23 = .ok (.bipush 6, 2) := by decide +kernel
theorem dX9_row_25 : decode cX9_row 25 = .ok (.if_icmp .lt 6, 3) := by decide +kernel
theorem dX9_row_28 : decode cX9_row 28 = .ok (.bipush (-4), 2) := by decide +kernel
theorem dX9_row_30 : decode cX9_row 30 = .ok (.ireturn, 1) := by decide +kernel
theorem dX9_row_31 : decode cX9_row 31 = .ok (.aload_n 0, 1) := by decide +kernel
theorem dX9_row_32 : decode cX9_row 32 = .ok (.getfield 12, 3) := by decide +kernel
theorem dX9_row_35 : decode cX9_row 35 = .ok (.getfield 138, 3) := by decide +kernel
theorem dX9_row_38 : decode cX9_row 38 = .ok (.aload_n 0, 1) := by decide +kernel
theorem dX9_row_39 : decode cX9_row 39 = .ok (.getfield 12, 3) := by decide +kernel
theorem dX9_row_42 : decode cX9_row 42 = .ok (.getfield 135, 3) := by decide +kernel
theorem dX9_row_45 : decode cX9_row 45 = .ok (.aaload, 1) := by decide +kernel
theorem dX9_row_46 : decode cX9_row 46 = .ok (.aload_n 0, 1) := by decide +kernel
theorem dX9_row_47 : decode cX9_row 47 = .ok (.getfield 12, 3) := by decide +kernel
theorem dX9_row_50 : decode cX9_row 50 = .ok (.getfield 122, 3) := by decide +kernel
theorem dX9_row_53 : decode cX9_row 53 = .ok (.invokevirtual 142, 3) := by decide +kernel
theorem dX9_row_56 : decode cX9_row 56 = .ok (.aload_n 0, 1) := by decide +kernel
theorem dX9_row_57 : decode cX9_row 57 = .ok (.getfield 12, 3) := by decide +kernel
theorem dX9_row_60 : decode cX9_row 60 = .ok (.getfield 122, 3) := by decide +kernel
theorem dX9_row_63 : decode cX9_row 63 = .ok (.iconst 0, 1) := by decide +kernel
theorem dX9_row_64 : decode cX9_row 64 = .ok (.invokevirtual 145, 3) := by decide +kernel
theorem dX9_row_67 : decode cX9_row 67 = .ok (.aload_n 0, 1) := by decide +kernel
theorem dX9_row_68 : decode cX9_row 68 = .ok (.getfield 12, 3) := by decide +kernel
theorem dX9_row_71 : decode cX9_row 71 = .ok (.dup, 1) := by decide +kernel
theorem dX9_row_72 : decode cX9_row 72 = .ok (.getfield 135, 3) := by decide +kernel
theorem dX9_row_75 : decode cX9_row 75 = .ok (.iconst 1, 1) := by decide +kernel
theorem dX9_row_76 : decode cX9_row 76 = .ok (.iadd, 1) := by decide +kernel
theorem dX9_row_77 : decode cX9_row 77 = .ok (.putfield 135, 3) := by decide +kernel
theorem dX9_row_80 : decode cX9_row 80 = .ok (.aload_n 0, 1) := by decide +kernel
theorem dX9_row_81 : decode cX9_row 81 = .ok (.getfield 12, 3) := by decide +kernel
theorem dX9_row_84 : decode cX9_row 84 = .ok (.getfield 135, 3) := by decide +kernel
theorem dX9_row_87 : decode cX9_row 87 = .ok (.iconst 1, 1) := by decide +kernel
theorem dX9_row_88 : decode cX9_row 88 = .ok (.isub, 1) := by decide +kernel
theorem dX9_row_89 : decode cX9_row 89 = .ok (.ireturn, 1) := by decide +kernel
theorem dX9_of_0 : decode cX9_of 0 = .ok (.aload_n 0, 1) := by decide +kernel
theorem dX9_of_1 : decode cX9_of 1 = .ok (.getfield 12, 3) := by decide +kernel
theorem dX9_of_4 : decode cX9_of 4 = .ok (.iload_n 1, 1) := by decide +kernel
theorem dX9_of_5 : decode cX9_of 5 = .ok (.invokevirtual 149, 3) := by decide +kernel
theorem dX9_of_8 : decode cX9_of 8 = .ok (.iload_n 2, 1) := by decide +kernel
theorem dX9_of_9 : decode cX9_of 9 = .ok (.invokestatic 153, 3) := by decide +kernel
theorem dX9_of_12 : decode cX9_of 12 = .ok (.ireturn, 1) := by decide +kernel
theorem dX9_player_0 : decode cX9_player 0 = .ok (.iload_n 1, 1) := by decide +kernel
theorem dX9_player_1 : decode cX9_player 1 = .ok (.ifCond .lt 9, 3) := by decide +kernel
theorem dX9_player_4 : decode cX9_player 4 = .ok (.iload_n 1, 1) := by decide +kernel
theorem dX9_player_5 : decode cX9_player 5 = .ok (.bipush 7, 2) := by decide +kernel
theorem dX9_player_7 : decode cX9_player 7 = .ok (.if_icmp .lt 5, 3) := by decide +kernel
theorem dX9_player_10 : decode cX9_player 10 = .ok (.iconst (-1), 1) := by decide +kernel
theorem dX9_player_11 : decode cX9_player 11 = .ok (.ireturn, 1) := by decide +kernel
theorem dX9_player_12 : decode cX9_player 12 = .ok (.iload_n 2, 1) := by decide +kernel
theorem dX9_player_13 : decode cX9_player 13 = .ok (.ifCond .lt 9, 3) := by decide +kernel
theorem dX9_player_16 : decode cX9_player 16 = .ok (.iload_n 2, 1) := by decide +kernel
theorem dX9_player_17 : decode cX9_player 17 = .ok (.bipush 9, 2) := by decide +kernel
theorem dX9_player_19 : decode cX9_player 19 = .ok (.if_icmp .le 6, 3) := by decide +kernel
theorem dX9_player_22 : decode cX9_player 22 = .ok (.bipush (-2), 2) := by decide +kernel
theorem dX9_player_24 : decode cX9_player 24 = .ok (.ireturn, 1) := by decide +kernel
theorem dX9_player_25 : decode cX9_player 25 = .ok (.aload_n 0, 1) := by decide +kernel
theorem dX9_player_26 : decode cX9_player 26 = .ok (.getfield 12, 3) := by decide +kernel
theorem dX9_player_29 : decode cX9_player 29 = .ok (.iload_n 1, 1) := by decide +kernel
theorem dX9_player_30 : decode cX9_player 30 = .ok (.iload_n 2, 1) := by decide +kernel
theorem dX9_player_31 : decode cX9_player 31 = .ok (.invokevirtual 157, 3) := by decide +kernel
theorem dX9_player_34 : decode cX9_player 34 = .ok (.ifCond .eq 15, 3) := by decide +kernel
theorem dX9_player_37 : decode cX9_player 37 = .ok (.aload_n 0, 1) := by decide +kernel
theorem dX9_player_38 : decode cX9_player 38 = .ok (.getfield 12, 3) := by decide +kernel
theorem dX9_player_41 : decode cX9_player 41 = .ok (.getfield 161, 3) := by decide +kernel
theorem dX9_player_44 : decode cX9_player 44 = .ok (.iconst 1, 1) := by decide +kernel
theorem dX9_player_45 : decode cX9_player 45 = .ok (.isub, 1) := by decide +kernel
theorem dX9_player_46 : decode cX9_player 46 = .ok (.goto 5, 3) := by decide +kernel
theorem dX9_player_49 : decode cX9_player 49 = .ok (.bipush (-4), 2) := by decide +kernel
theorem dX9_player_51 : decode cX9_player 51 = .ok (.ireturn, 1) := by decide +kernel
theorem dX9_own_0 : decode cX9_own 0 = .ok (.aload_n 0, 1) := by decide +kernel
theorem dX9_own_1 : decode cX9_own 1 = .ok (.getfield 12, 3) := by decide +kernel
theorem dX9_own_4 : decode cX9_own 4 = .ok (.iload_n 1, 1) := by decide +kernel
theorem dX9_own_5 : decode cX9_own 5 = .ok (.invokevirtual 164, 3) := by decide +kernel
theorem dX9_own_8 : decode cX9_own 8 = .ok (.ifCond .ne 5, 3) := by decide +kernel
theorem dX9_own_11 : decode cX9_own 11 = .ok (.iconst (-1), 1) := by decide +kernel
theorem dX9_own_12 : decode cX9_own 12 = .ok (.ireturn, 1) := by decide +kernel
theorem dX9_own_13 : decode cX9_own 13 = .ok (.aload_n 0, 1) := by decide +kernel
theorem dX9_own_14 : decode cX9_own 14 = .ok (.getfield 12, 3) := by decide +kernel
theorem dX9_own_17 : decode cX9_own 17 = .ok (.getfield 167, 3) := by decide +kernel
theorem dX9_own_20 : decode cX9_own 20 = .ok (.iload_n 1, 1) := by decide +kernel
theorem dX9_own_21 : decode cX9_own 21 = .ok (.iaload, 1) := by decide +kernel
theorem dX9_own_22 : decode cX9_own 22 = .ok (.bipush 6, 2) := by decide +kernel
theorem dX9_own_24 : decode cX9_own 24 = .ok (.if_icmp .eq 6, 3) := by decide +kernel
theorem dX9_own_27 : decode cX9_own 27 = .ok (.bipush (-3), 2) := by decide +kernel
theorem dX9_own_29 : decode cX9_own 29 = .ok (.ireturn, 1) := by decide +kernel
theorem dX9_own_30 : decode cX9_own 30 = .ok (.aload_n 0, 1) := by decide +kernel
theorem dX9_own_31 : decode cX9_own 31 = .ok (.getfield 12, 3) := by decide +kernel
theorem dX9_own_34 : decode cX9_own 34 = .ok (.getfield 170, 3) := by decide +kernel
theorem dX9_own_37 : decode cX9_own 37 = .ok (.iload_n 1, 1) := by decide +kernel
theorem dX9_own_38 : decode cX9_own 38 = .ok (.aaload, 1) := by decide +kernel
theorem dX9_own_39 : decode cX9_own 39 = .ok (.aload_n 0, 1) := by decide +kernel
theorem dX9_own_40 : decode cX9_own 40 = .ok (.getfield 12, 3) := by decide +kernel
theorem dX9_own_43 : decode cX9_own 43 = .ok (.getfield 122, 3) := by decide +kernel
theorem dX9_own_46 : decode cX9_own 46 = .ok (.invokevirtual 142, 3) := by decide +kernel
theorem dX9_own_49 : decode cX9_own 49 = .ok (.aload_n 0, 1) := by decide +kernel
theorem dX9_own_50 : decode cX9_own 50 = .ok (.getfield 12, 3) := by decide +kernel
theorem dX9_own_53 : decode cX9_own 53 = .ok (.getfield 122, 3) := by decide +kernel
theorem dX9_own_56 : decode cX9_own 56 = .ok (.iconst 0, 1) := by decide +kernel
theorem dX9_own_57 : decode cX9_own 57 = .ok (.invokevirtual 145, 3) := by decide +kernel
theorem dX9_own_60 : decode cX9_own 60 = .ok (.aload_n 0, 1) := by decide +kernel
theorem dX9_own_61 : decode cX9_own 61 = .ok (.getfield 12, 3) := by decide +kernel
theorem dX9_own_64 : decode cX9_own 64 = .ok (.getfield 170, 3) := by decide +kernel
theorem dX9_own_67 : decode cX9_own 67 = .ok (.iload_n 1, 1) := by decide +kernel
theorem dX9_own_68 : decode cX9_own 68 = .ok (.aaload, 1) := by decide +kernel
theorem dX9_own_69 : decode cX9_own 69 = .ok (.getfield 130, 3) := by decide +kernel
theorem dX9_own_72 : decode cX9_own 72 = .ok (.ireturn, 1) := by decide +kernel
theorem dX9_waits_0 : decode cX9_waits 0 = .ok (.aload_n 0, 1) := by decide +kernel
theorem dX9_waits_1 : decode cX9_waits 1 = .ok (.invokevirtual 103, 3) := by decide +kernel
theorem dX9_waits_4 : decode cX9_waits 4 = .ok (.aload_n 0, 1) := by decide +kernel
theorem dX9_waits_5 : decode cX9_waits 5 = .ok (.iload_n 1, 1) := by decide +kernel
theorem dX9_waits_6 : decode cX9_waits 6 = .ok (.invokevirtual 173, 3) := by decide +kernel
theorem dX9_waits_9 : decode cX9_waits 9 = .ok (.astore_n 3, 1) := by decide +kernel
theorem dX9_waits_10 : decode cX9_waits 10 = .ok (.aload_n 3, 1) := by decide +kernel
theorem dX9_waits_11 : decode cX9_waits 11 = .ok (.ifnull 10, 3) := by decide +kernel
theorem dX9_waits_14 : decode cX9_waits 14 = .ok (.iload_n 2, 1) := by decide +kernel
theorem dX9_waits_15 : decode cX9_waits 15 = .ok (.invokestatic 176, 3) := by decide +kernel
theorem dX9_waits_18 : decode cX9_waits 18 = .ok (.ifCond .ne 7, 3) := by decide +kernel
theorem dX9_waits_21 : decode cX9_waits 21 = .ok (.ldc2_w 179, 3) := by decide +kernel
theorem dX9_waits_24 : decode cX9_waits 24 = .ok (.lreturn, 1) := by decide +kernel
theorem dX9_waits_25 : decode cX9_waits 25 = .ok (.aload_n 0, 1) := by decide +kernel
theorem dX9_waits_26 : decode cX9_waits 26 = .ok (.getfield 42, 3) := by decide +kernel
theorem dX9_waits_29 : decode cX9_waits 29 = .ok (.aload_n 3, 1) := by decide +kernel
theorem dX9_waits_30 : decode cX9_waits 30 = .ok (.aload_n 3, 1) := by decide +kernel
theorem dX9_waits_31 : decode cX9_waits 31 = .ok (.invokevirtual 181, 3) := by decide +kernel
theorem dX9_waits_34 : decode cX9_waits 34 = .ok (.aload_n 0, 1) := by decide +kernel
theorem dX9_waits_35 : decode cX9_waits 35 = .ok (.getfield 42, 3) := by decide +kernel
theorem dX9_waits_38 : decode cX9_waits 38 = .ok (.aload_n 3, 1) := by decide +kernel
theorem dX9_waits_39 : decode cX9_waits 39 = .ok (.invokevirtual 185, 3) := by decide +kernel
theorem dX9_waits_42 : decode cX9_waits 42 = .ok (.iload_n 2, 1) := by decide +kernel
theorem dX9_waits_43 : decode cX9_waits 43 = .ok (.invokestatic 189, 3) := by decide +kernel
theorem dX9_waits_46 : decode cX9_waits 46 = .ok (.lreturn, 1) := by decide +kernel
theorem dX9_odds_0 : decode cX9_odds 0 = .ok (.iload_n 3, 1) := by decide +kernel
theorem dX9_odds_1 : decode cX9_odds 1 = .ok (.invokestatic 176, 3) := by decide +kernel
theorem dX9_odds_4 : decode cX9_odds 4 = .ok (.ifCond .eq 12, 3) := by decide +kernel
theorem dX9_odds_7 : decode cX9_odds 7 = .ok (.aload_n 0, 1) := by decide +kernel
theorem dX9_odds_8 : decode cX9_odds 8 = .ok (.iload_n 1, 1) := by decide +kernel
theorem dX9_odds_9 : decode cX9_odds 9 = .ok (.iload_n 2, 1) := by decide +kernel
theorem dX9_odds_10 : decode cX9_odds 10 = .ok (.invokevirtual 193, 3) := by decide +kernel
theorem dX9_odds_13 : decode cX9_odds 13 = .ok (.ifCond .ne 7, 3) := by decide +kernel
theorem dX9_odds_16 : decode cX9_odds 16 = .ok (.ldc2_w 179, 3) := by decide +kernel
theorem dX9_odds_19 : decode cX9_odds 19 = .ok (.lreturn, 1) := by decide +kernel
theorem dX9_odds_20 : decode cX9_odds 20 = .ok (.aload_n 0, 1) := by decide +kernel
theorem dX9_odds_21 : decode cX9_odds 21 = .ok (.getfield 49, 3) := by decide +kernel
theorem dX9_odds_24 : decode cX9_odds 24 = .ok (.getfield 196, 3) := by decide +kernel
theorem dX9_odds_27 : decode cX9_odds 27 = .ok (.aload_n 0, 1) := by decide +kernel
theorem dX9_odds_28 : decode cX9_odds 28 = .ok (.getfield 49, 3) := by decide +kernel
theorem dX9_odds_31 : decode cX9_odds 31 = .ok (.getfield 200, 3) := by decide +kernel
theorem dX9_odds_34 : decode cX9_odds 34 = .ok (.iload_n 3, 1) := by decide +kernel
theorem dX9_odds_35 : decode cX9_odds 35 = .ok (.invokestatic 189, 3) := by decide +kernel
theorem dX9_odds_38 : decode cX9_odds 38 = .ok (.lreturn, 1) := by decide +kernel
theorem dX9_lasts_0 : decode cX9_lasts 0 = .ok (.iload_n 3, 1) := by decide +kernel
theorem dX9_lasts_1 : decode cX9_lasts 1 = .ok (.invokestatic 176, 3) := by decide +kernel
theorem dX9_lasts_4 : decode cX9_lasts 4 = .ok (.ifCond .eq 12, 3) := by decide +kernel
theorem dX9_lasts_7 : decode cX9_lasts 7 = .ok (.aload_n 0, 1) := by decide +kernel
theorem dX9_lasts_8 : decode cX9_lasts 8 = .ok (.iload_n 1, 1) := by decide +kernel
theorem dX9_lasts_9 : decode cX9_lasts 9 = .ok (.iload_n 2, 1) := by decide +kernel
theorem dX9_lasts_10 : decode cX9_lasts 10 = .ok (.invokevirtual 193, 3) := by decide +kernel
theorem dX9_lasts_13 : decode cX9_lasts 13 = .ok (.ifCond .ne 7, 3) := by decide +kernel
theorem dX9_lasts_16 : decode cX9_lasts 16 = .ok (.ldc2_w 179, 3) := by decide +kernel
theorem dX9_lasts_19 : decode cX9_lasts 19 = .ok (.lreturn, 1) := by decide +kernel
theorem dX9_lasts_20 : decode cX9_lasts 20 = .ok (.aload_n 0, 1) := by decide +kernel
theorem dX9_lasts_21 : decode cX9_lasts 21 = .ok (.getfield 49, 3) := by decide +kernel
theorem dX9_lasts_24 : decode cX9_lasts 24 = .ok (.getfield 203, 3) := by decide +kernel
theorem dX9_lasts_27 : decode cX9_lasts 27 = .ok (.aload_n 0, 1) := by decide +kernel
theorem dX9_lasts_28 : decode cX9_lasts 28 = .ok (.getfield 49, 3) := by decide +kernel
theorem dX9_lasts_31 : decode cX9_lasts 31 = .ok (.getfield 200, 3) := by decide +kernel
theorem dX9_lasts_34 : decode cX9_lasts 34 = .ok (.iload_n 3, 1) := by decide +kernel
theorem dX9_lasts_35 : decode cX9_lasts 35 = .ok (.invokestatic 189, 3) := by decide +kernel
theorem dX9_lasts_38 : decode cX9_lasts 38 = .ok (.lreturn, 1) := by decide +kernel
theorem dX9_half_0 : decode cX9_half 0 = .ok (.iload_n 3, 1) := by decide +kernel
theorem dX9_half_1 : decode cX9_half 1 = .ok (.invokestatic 176, 3) := by decide +kernel
theorem dX9_half_4 : decode cX9_half 4 = .ok (.ifCond .eq 12, 3) := by decide +kernel
theorem dX9_half_7 : decode cX9_half 7 = .ok (.aload_n 0, 1) := by decide +kernel
theorem dX9_half_8 : decode cX9_half 8 = .ok (.iload_n 1, 1) := by decide +kernel
theorem dX9_half_9 : decode cX9_half 9 = .ok (.iload_n 2, 1) := by decide +kernel
theorem dX9_half_10 : decode cX9_half 10 = .ok (.invokevirtual 193, 3) := by decide +kernel
theorem dX9_half_13 : decode cX9_half 13 = .ok (.ifCond .ne 7, 3) := by decide +kernel
theorem dX9_half_16 : decode cX9_half 16 = .ok (.ldc2_w 179, 3) := by decide +kernel
theorem dX9_half_19 : decode cX9_half 19 = .ok (.lreturn, 1) := by decide +kernel
theorem dX9_half_20 : decode cX9_half 20 = .ok (.aload_n 0, 1) := by decide +kernel
theorem dX9_half_21 : decode cX9_half 21 = .ok (.getfield 12, 3) := by decide +kernel
theorem dX9_half_24 : decode cX9_half 24 = .ok (.iload_n 1, 1) := by decide +kernel
theorem dX9_half_25 : decode cX9_half 25 = .ok (.invokevirtual 149, 3) := by decide +kernel
theorem dX9_half_28 : decode cX9_half 28 = .ok (.astore 4, 2) := by decide +kernel
theorem dX9_half_30 : decode cX9_half 30 = .ok (.aload_n 0, 1) := by decide +kernel
theorem dX9_half_31 : decode cX9_half 31 = .ok (.getfield 12, 3) := by decide +kernel
theorem dX9_half_34 : decode cX9_half 34 = .ok (.iload_n 2, 1) := by decide +kernel
theorem dX9_half_35 : decode cX9_half 35 = .ok (.invokevirtual 149, 3) := by decide +kernel
theorem dX9_half_38 : decode cX9_half 38 = .ok (.astore 5, 2) := by decide +kernel
theorem dX9_half_40 : decode cX9_half 40 = .ok (.aload_n 0, 1) := by decide +kernel
theorem dX9_half_41 : decode cX9_half 41 = .ok (.getfield 12, 3) := by decide +kernel
theorem dX9_half_44 : decode cX9_half 44 = .ok (.getfield 206, 3) := by decide +kernel
theorem dX9_half_47 : decode cX9_half 47 = .ok (.astore 6, 2) := by decide +kernel
theorem dX9_half_49 : decode cX9_half 49 = .ok (.aload 4, 2) := by decide +kernel
theorem dX9_half_51 : decode cX9_half 51 = .ok (.ifnull 40, 3) := by decide +kernel
theorem dX9_half_54 : decode cX9_half 54 = .ok (.aload 5, 2) := by decide +kernel
theorem dX9_half_56 : decode cX9_half 56 = .ok (.ifnull 35, 3) := by decide +kernel
theorem dX9_half_59 : decode cX9_half 59 = .ok (.aload_n 0, 1) := by decide +kernel
theorem dX9_half_60 : decode cX9_half 60 = .ok (.getfield 42, 3) := by decide +kernel
theorem dX9_half_63 : decode cX9_half 63 = .ok (.aload 6, 2) := by decide +kernel
theorem dX9_half_65 : decode cX9_half 65 = .ok (.invokevirtual 209, 3) := by decide +kernel
theorem dX9_half_68 : decode cX9_half 68 = .ok (.ifCond .eq 23, 3) := by decide +kernel
theorem dX9_half_71 : decode cX9_half 71 = .ok (.aload 6, 2) := by decide +kernel
theorem dX9_half_73 : decode cX9_half 73 = .ok (.aload 4, 2) := by decide +kernel
theorem dX9_half_75 : decode cX9_half 75 = .ok (.invokevirtual 213, 3) := by decide +kernel
theorem dX9_half_78 : decode cX9_half 78 = .ok (.ifCond .ne 13, 3) := by decide +kernel
theorem dX9_half_81 : decode cX9_half 81 = .ok (.aload 6, 2) := by decide +kernel
theorem dX9_half_83 : decode cX9_half 83 = .ok (.aload 5, 2) := by decide +kernel
theorem dX9_half_85 : decode cX9_half 85 = .ok (.invokevirtual 213, 3) := by decide +kernel
theorem dX9_half_88 : decode cX9_half 88 = .ok (.ifCond .eq 7, 3) := by decide +kernel
theorem dX9_half_91 : decode cX9_half 91 = .ok (.ldc2_w 179, 3) := by decide +kernel
theorem dX9_half_94 : decode cX9_half 94 = .ok (.lreturn, 1) := by decide +kernel
theorem dX9_half_95 : decode cX9_half 95 = .ok (.aload_n 0, 1) := by decide +kernel
theorem dX9_half_96 : decode cX9_half 96 = .ok (.getfield 42, 3) := by decide +kernel
theorem dX9_half_99 : decode cX9_half 99 = .ok (.aload 6, 2) := by decide +kernel
theorem dX9_half_101 : decode cX9_half 101 = .ok (.aload 5, 2) := by decide +kernel
theorem dX9_half_103 : decode cX9_half 103 = .ok (.invokevirtual 181, 3) := by decide +kernel
theorem dX9_half_106 : decode cX9_half 106 = .ok (.aload_n 0, 1) := by decide +kernel
theorem dX9_half_107 : decode cX9_half 107 = .ok (.getfield 42, 3) := by decide +kernel
theorem dX9_half_110 : decode cX9_half 110 = .ok (.aload 4, 2) := by decide +kernel
theorem dX9_half_112 : decode cX9_half 112 = .ok (.invokevirtual 185, 3) := by decide +kernel
theorem dX9_half_115 : decode cX9_half 115 = .ok (.lmul, 1) := by decide +kernel
theorem dX9_half_116 : decode cX9_half 116 = .ok (.lstore 7, 2) := by decide +kernel
theorem dX9_half_118 : decode cX9_half 118 = .ok (.aload_n 0, 1) := by decide +kernel
theorem dX9_half_119 : decode cX9_half 119 = .ok (.getfield 42, 3) := by decide +kernel
theorem dX9_half_122 : decode cX9_half 122 = .ok (.aload 6, 2) := by decide +kernel
theorem dX9_half_124 : decode cX9_half 124 = .ok (.aload 4, 2) := by decide +kernel
theorem dX9_half_126 : decode cX9_half 126 = .ok (.invokevirtual 181, 3) := by decide +kernel
theorem dX9_half_129 : decode cX9_half 129 = .ok (.aload_n 0, 1) := by decide +kernel
theorem dX9_half_130 : decode cX9_half 130 = .ok (.getfield 42, 3) := by decide +kernel
theorem dX9_half_133 : decode cX9_half 133 = .ok (.aload 5, 2) := by decide +kernel
theorem dX9_half_135 : decode cX9_half 135 = .ok (.invokevirtual 185, 3) := by decide +kernel
theorem dX9_half_138 : decode cX9_half 138 = .ok (.lmul, 1) := by decide +kernel
theorem dX9_half_139 : decode cX9_half 139 = .ok (.lstore 9, 2) := by decide +kernel
theorem dX9_half_141 : decode cX9_half 141 = .ok (.aload_n 0, 1) := by decide +kernel
theorem dX9_half_142 : decode cX9_half 142 = .ok (.getfield 49, 3) := by decide +kernel
theorem dX9_half_145 : decode cX9_half 145 = .ok (.getfield 196, 3) := by decide +kernel
theorem dX9_half_148 : decode cX9_half 148 = .ok (.lload 7, 2) := by decide +kernel
theorem dX9_half_150 : decode cX9_half 150 = .ok (.lsub, 1) := by decide +kernel
theorem dX9_half_151 : decode cX9_half 151 = .ok (.lload 9, 2) := by decide +kernel
theorem dX9_half_153 : decode cX9_half 153 = .ok (.ladd, 1) := by decide +kernel
theorem dX9_half_154 : decode cX9_half 154 = .ok (.aload_n 0, 1) := by decide +kernel
theorem dX9_half_155 : decode cX9_half 155 = .ok (.getfield 49, 3) := by decide +kernel
theorem dX9_half_158 : decode cX9_half 158 = .ok (.getfield 200, 3) := by decide +kernel
theorem dX9_half_161 : decode cX9_half 161 = .ok (.iload_n 3, 1) := by decide +kernel
theorem dX9_half_162 : decode cX9_half 162 = .ok (.invokestatic 189, 3) := by decide +kernel
theorem dX9_half_165 : decode cX9_half 165 = .ok (.lreturn, 1) := by decide +kernel
theorem dX9_worth_0 : decode cX9_worth 0 = .ok (.iload_n 3, 1) := by decide +kernel
theorem dX9_worth_1 : decode cX9_worth 1 = .ok (.invokestatic 176, 3) := by decide +kernel
theorem dX9_worth_4 : decode cX9_worth 4 = .ok (.ifCond .eq 12, 3) := by decide +kernel
theorem dX9_worth_7 : decode cX9_worth 7 = .ok (.aload_n 0, 1) := by decide +kernel
theorem dX9_worth_8 : decode cX9_worth 8 = .ok (.iload_n 1, 1) := by decide +kernel
theorem dX9_worth_9 : decode cX9_worth 9 = .ok (.iload_n 2, 1) := by decide +kernel
theorem dX9_worth_10 : decode cX9_worth 10 = .ok (.invokevirtual 193, 3) := by decide +kernel
theorem dX9_worth_13 : decode cX9_worth 13 = .ok (.ifCond .ne 7, 3) := by decide +kernel
theorem dX9_worth_16 : decode cX9_worth 16 = .ok (.ldc2_w 179, 3) := by decide +kernel
theorem dX9_worth_19 : decode cX9_worth 19 = .ok (.lreturn, 1) := by decide +kernel
theorem dX9_worth_20 : decode cX9_worth 20 = .ok (.aload_n 0, 1) := by decide +kernel
theorem dX9_worth_21 : decode cX9_worth 21 = .ok (.getfield 12, 3) := by decide +kernel
theorem dX9_worth_24 : decode cX9_worth 24 = .ok (.getfield 93, 3) := by decide +kernel
theorem dX9_worth_27 : decode cX9_worth 27 = .ok (.getfield 112, 3) := by decide +kernel
theorem dX9_worth_30 : decode cX9_worth 30 = .ok (.i2l, 1) := by decide +kernel
theorem dX9_worth_31 : decode cX9_worth 31 = .ok (.aload_n 0, 1) := by decide +kernel
theorem dX9_worth_32 : decode cX9_worth 32 = .ok (.getfield 49, 3) := by decide +kernel
theorem dX9_worth_35 : decode cX9_worth 35 = .ok (.getfield 196, 3) := by decide +kernel
theorem dX9_worth_38 : decode cX9_worth 38 = .ok (.lmul, 1) := by decide +kernel
theorem dX9_worth_39 : decode cX9_worth 39 = .ok (.aload_n 0, 1) := by decide +kernel
theorem dX9_worth_40 : decode cX9_worth 40 = .ok (.getfield 12, 3) := by decide +kernel
theorem dX9_worth_43 : decode cX9_worth 43 = .ok (.getfield 93, 3) := by decide +kernel
theorem dX9_worth_46 : decode cX9_worth 46 = .ok (.getfield 109, 3) := by decide +kernel
theorem dX9_worth_49 : decode cX9_worth 49 = .ok (.i2l, 1) := by decide +kernel
theorem dX9_worth_50 : decode cX9_worth 50 = .ok (.aload_n 0, 1) := by decide +kernel
theorem dX9_worth_51 : decode cX9_worth 51 = .ok (.getfield 49, 3) := by decide +kernel
theorem dX9_worth_54 : decode cX9_worth 54 = .ok (.getfield 203, 3) := by decide +kernel
theorem dX9_worth_57 : decode cX9_worth 57 = .ok (.lmul, 1) := by decide +kernel
theorem dX9_worth_58 : decode cX9_worth 58 = .ok (.lsub, 1) := by decide +kernel
theorem dX9_worth_59 : decode cX9_worth 59 = .ok (.lstore 4, 2) := by decide +kernel
theorem dX9_worth_61 : decode cX9_worth 61 = .ok (.lload 4, 2) := by decide +kernel
theorem dX9_worth_63 : decode cX9_worth 63 = .ok (.aload_n 0, 1) := by decide +kernel
theorem dX9_worth_64 : decode cX9_worth 64 = .ok (.getfield 49, 3) := by decide +kernel
theorem dX9_worth_67 : decode cX9_worth 67 = .ok (.getfield 200, 3) := by decide +kernel
theorem dX9_worth_70 : decode cX9_worth 70 = .ok (.iload_n 3, 1) := by decide +kernel
theorem dX9_worth_71 : decode cX9_worth 71 = .ok (.invokestatic 189, 3) := by decide +kernel
theorem dX9_worth_74 : decode cX9_worth 74 = .ok (.lreturn, 1) := by decide +kernel
theorem dX9_best_0 : decode cX9_best 0 = .ok (.aload_n 0, 1) := by decide +kernel
theorem dX9_best_1 : decode cX9_best 1 = .ok (.getfield 12, 3) := by decide +kernel
theorem dX9_best_4 : decode cX9_best 4 = .ok (.iload_n 1, 1) := by decide +kernel
theorem dX9_best_5 : decode cX9_best 5 = .ok (.invokevirtual 149, 3) := by decide +kernel
theorem dX9_best_8 : decode cX9_best 8 = .ok (.astore 4, 2) := by decide +kernel
theorem dX9_best_10 : decode cX9_best 10 = .ok (.aload 4, 2) := by decide +kernel
theorem dX9_best_12 : decode cX9_best 12 = .ok (.ifnull 12, 3) := by decide +kernel
theorem dX9_best_15 : decode cX9_best 15 = .ok (.iload_n 3, 1) := by decide +kernel
theorem dX9_best_16 : decode cX9_best 16 = .ok (.ifCond .lt 8, 3) := by decide +kernel
theorem dX9_best_19 : decode cX9_best 19 = .ok (.iload_n 3, 1) := by decide +kernel
theorem dX9_best_20 : decode cX9_best 20 = .ok (.iconst 4, 1) := by decide +kernel
theorem dX9_best_21 : decode cX9_best 21 = .ok (.if_icmp .lt 5, 3) := by decide +kernel
theorem dX9_best_24 : decode cX9_best 24 = .ok (.iconst (-1), 1) := by decide +kernel
theorem dX9_best_25 : decode cX9_best 25 = .ok (.ireturn, 1) := by decide +kernel
theorem dX9_best_26 : decode cX9_best 26 = .ok (.iload_n 2, 1) := by decide +kernel
theorem dX9_best_27 : decode cX9_best 27 = .ok (.iconst 1, 1) := by decide +kernel
theorem dX9_best_28 : decode cX9_best 28 = .ok (.if_icmp .lt 8, 3) := by decide +kernel
theorem dX9_best_31 : decode cX9_best 31 = .ok (.iload_n 2, 1) := by decide +kernel
theorem dX9_best_32 : decode cX9_best 32 = .ok (.iconst 4, 1) := by decide +kernel
theorem dX9_best_33 : decode cX9_best 33 = .ok (.if_icmp .le 6, 3) := by decide +kernel
theorem dX9_best_36 : decode cX9_best 36 = .ok (.bipush (-2), 2) := by decide +kernel
theorem dX9_best_38 : decode cX9_best 38 = .ok (.ireturn, 1) := by decide +kernel
theorem dX9_best_39 : decode cX9_best 39 = .ok (.aload_n 0, 1) := by decide +kernel
theorem dX9_best_40 : decode cX9_best 40 = .ok (.invokevirtual 103, 3) := by decide +kernel
theorem dX9_best_43 : decode cX9_best 43 = .ok (.aload_n 0, 1) := by decide +kernel
theorem dX9_best_44 : decode cX9_best 44 = .ok (.getfield 42, 3) := by decide +kernel
theorem dX9_best_47 : decode cX9_best 47 = .ok (.aload 4, 2) := by decide +kernel
theorem dX9_best_49 : decode cX9_best 49 = .ok (.invokevirtual 209, 3) := by decide +kernel
theorem dX9_best_52 : decode cX9_best 52 = .ok (.ifCond .ne 6, 3) := by decide +kernel
theorem dX9_best_55 : decode cX9_best 55 = .ok (.bipush (-3), 2) := by decide +kernel
theorem dX9_best_57 : decode cX9_best 57 = .ok (.ireturn, 1) := by decide +kernel
theorem dX9_best_58 : decode cX9_best 58 = .ok (.aload_n 0, 1) := by decide +kernel
theorem dX9_best_59 : decode cX9_best 59 = .ok (.getfield 56, 3) := by decide +kernel
theorem dX9_best_62 : decode cX9_best 62 = .ok (.aload_n 0, 1) := by decide +kernel
theorem dX9_best_63 : decode cX9_best 63 = .ok (.getfield 42, 3) := by decide +kernel
theorem dX9_best_66 : decode cX9_best 66 = .ok (.aload_n 0, 1) := by decide +kernel
theorem dX9_best_67 : decode cX9_best 67 = .ok (.getfield 49, 3) := by decide +kernel
theorem dX9_best_70 : decode cX9_best 70 = .ok (.aload 4, 2) := by decide +kernel
theorem dX9_best_72 : decode cX9_best 72 = .ok (.iload_n 2, 1) := by decide +kernel
theorem dX9_best_73 : decode cX9_best 73 = .ok (.invokevirtual 216, 3) := by decide +kernel
theorem dX9_best_76 : decode cX9_best 76 = .ok (.ifCond .eq 17, 3) := by decide +kernel
theorem dX9_best_79 : decode cX9_best 79 = .ok (.aload_n 0, 1) := by decide +kernel
theorem dX9_best_80 : decode cX9_best 80 = .ok (.getfield 56, 3) := by decide +kernel
theorem dX9_best_83 : decode cX9_best 83 = .ok (.getfield 220, 3) := by decide +kernel
theorem dX9_best_86 : decode cX9_best 86 = .ok (.iload_n 3, 1) := by decide +kernel
theorem dX9_best_87 : decode cX9_best 87 = .ok (.invokevirtual 223, 3) := by decide +kernel
theorem dX9_best_90 : decode cX9_best 90 = .ok (.goto 4, 3) := by decide +kernel
theorem dX9_best_93 : decode cX9_best 93 = .ok (.iconst (-1), 1) := by decide +kernel
theorem dX9_best_94 : decode cX9_best 94 = .ok (.ireturn, 1) := by decide +kernel
theorem dX9_ring_0 : decode cX9_ring 0 = .ok (.aload_n 0, 1) := by decide +kernel
theorem dX9_ring_1 : decode cX9_ring 1 = .ok (.getfield 12, 3) := by decide +kernel
theorem dX9_ring_4 : decode cX9_ring 4 = .ok (.iload_n 1, 1) := by decide +kernel
theorem dX9_ring_5 : decode cX9_ring 5 = .ok (.invokevirtual 149, 3) := by decide +kernel
theorem dX9_ring_8 : decode cX9_ring 8 = .ok (.astore 4, 2) := by decide +kernel
theorem dX9_ring_10 : decode cX9_ring 10 = .ok (.aload_n 0, 1) := by decide +kernel
theorem dX9_ring_11 : decode cX9_ring 11 = .ok (.getfield 12, 3) := by decide +kernel
theorem dX9_ring_14 : decode cX9_ring 14 = .ok (.iload_n 2, 1) := by decide +kernel
theorem dX9_ring_15 : decode cX9_ring 15 = .ok (.invokevirtual 149, 3) := by decide +kernel
theorem dX9_ring_18 : decode cX9_ring 18 = .ok (.astore 5, 2) := by decide +kernel
theorem dX9_ring_20 : decode cX9_ring 20 = .ok (.aload_n 0, 1) := by decide +kernel
theorem dX9_ring_21 : decode cX9_ring 21 = .ok (.getfield 12, 3) := by decide +kernel
theorem dX9_ring_24 : decode cX9_ring 24 = .ok (.iload_n 3, 1) := by decide +kernel
theorem dX9_ring_25 : decode cX9_ring 25 = .ok (.invokevirtual 149, 3) := by decide +kernel
theorem dX9_ring_28 : decode cX9_ring 28 = .ok (.astore 6, 2) := by decide +kernel
theorem dX9_ring_30 : decode cX9_ring 30 = .ok (.aload 4, 2) := by decide +kernel
theorem dX9_ring_32 : decode cX9_ring 32 = .ok (.ifnull 13, 3) := by decide +kernel
theorem dX9_ring_35 : decode cX9_ring 35 = .ok (.aload 5, 2) := by decide +kernel
theorem dX9_ring_37 : decode cX9_ring 37 = .ok (.ifnull 8, 3) := by decide +kernel
theorem dX9_ring_40 : decode cX9_ring 40 = .ok (.aload 6, 2) := by decide +kernel
theorem dX9_ring_42 : decode cX9_ring 42 = .ok (.ifnonnull 5, 3) := by decide +kernel
theorem dX9_ring_45 : decode cX9_ring 45 = .ok (.iconst (-1), 1) := by decide +kernel
theorem dX9_ring_46 : decode cX9_ring 46 = .ok (.ireturn, 1) := by decide +kernel
theorem dX9_ring_47 : decode cX9_ring 47 = .ok (.aload_n 0, 1) := by decide +kernel
theorem dX9_ring_48 : decode cX9_ring 48 = .ok (.invokevirtual 103, 3) := by decide +kernel
theorem dX9_ring_51 : decode cX9_ring 51 = .ok (.aload_n 0, 1) := by decide +kernel
theorem dX9_ring_52 : decode cX9_ring 52 = .ok (.getfield 42, 3) := by decide +kernel
theorem dX9_ring_55 : decode cX9_ring 55 = .ok (.aload 4, 2) := by decide +kernel
theorem dX9_ring_57 : decode cX9_ring 57 = .ok (.invokevirtual 209, 3) := by decide +kernel
theorem dX9_ring_60 : decode cX9_ring 60 = .ok (.ifCond .eq 27, 3) := by decide +kernel
theorem dX9_ring_63 : decode cX9_ring 63 = .ok (.aload_n 0, 1) := by decide +kernel
theorem dX9_ring_64 : decode cX9_ring 64 = .ok (.getfield 42, 3) := by decide +kernel
theorem dX9_ring_67 : decode cX9_ring 67 = .ok (.aload 5, 2) := by decide +kernel
theorem dX9_ring_69 : decode cX9_ring 69 = .ok (.invokevirtual 209, 3) := by decide +kernel
theorem dX9_ring_72 : decode cX9_ring 72 = .ok (.ifCond .eq 15, 3) := by decide +kernel
theorem dX9_ring_75 : decode cX9_ring 75 = .ok (.aload_n 0, 1) := by decide +kernel
theorem dX9_ring_76 : decode cX9_ring 76 = .ok (.getfield 42, 3) := by decide +kernel
theorem dX9_ring_79 : decode cX9_ring 79 = .ok (.aload 6, 2) := by decide +kernel
theorem dX9_ring_81 : decode cX9_ring 81 = .ok (.invokevirtual 209, 3) := by decide +kernel
theorem dX9_ring_84 : decode cX9_ring 84 = .ok (.ifCond .ne 6, 3) := by decide +kernel
theorem dX9_ring_87 : decode cX9_ring 87 = .ok (.bipush (-3), 2) := by decide +kernel
theorem dX9_ring_89 : decode cX9_ring 89 = .ok (.ireturn, 1) := by decide +kernel
theorem dX9_ring_90 : decode cX9_ring 90 = .ok (.aload_n 0, 1) := by decide +kernel
theorem dX9_ring_91 : decode cX9_ring 91 = .ok (.aload 4, 2) := by decide +kernel
theorem dX9_ring_93 : decode cX9_ring 93 = .ok (.aload 5, 2) := by decide +kernel
theorem dX9_ring_95 : decode cX9_ring 95 = .ok (.invokevirtual 226, 3) := by decide +kernel
theorem dX9_ring_98 : decode cX9_ring 98 = .ok (.ifCond .eq 29, 3) := by decide +kernel
theorem dX9_ring_101 : decode cX9_ring 101 = .ok (.aload_n 0, 1) := by decide +kernel
theorem dX9_ring_102 : decode cX9_ring 102 = .ok (.aload 5, 2) := by decide +kernel
theorem dX9_ring_104 : decode cX9_ring 104 = .ok (.aload 6, 2) := by decide +kernel
theorem dX9_ring_106 : decode cX9_ring 106 = .ok (.invokevirtual 226, 3) := by decide +kernel
theorem dX9_ring_109 : decode cX9_ring 109 = .ok (.ifCond .eq 18, 3) := by decide +kernel
theorem dX9_ring_112 : decode cX9_ring 112 = .ok (.aload_n 0, 1) := by decide +kernel
theorem dX9_ring_113 : decode cX9_ring 113 = .ok (.aload 6, 2) := by decide +kernel
theorem dX9_ring_115 : decode cX9_ring 115 = .ok (.aload 4, 2) := by decide +kernel
theorem dX9_ring_117 : decode cX9_ring 117 = .ok (.invokevirtual 226, 3) := by decide +kernel
theorem dX9_ring_120 : decode cX9_ring 120 = .ok (.ifCond .eq 7, 3) := by decide +kernel
theorem dX9_ring_123 : decode cX9_ring 123 = .ok (.iconst 1, 1) := by decide +kernel
theorem dX9_ring_124 : decode cX9_ring 124 = .ok (.goto 4, 3) := by decide +kernel
theorem dX9_ring_127 : decode cX9_ring 127 = .ok (.iconst 0, 1) := by decide +kernel
theorem dX9_ring_128 : decode cX9_ring 128 = .ok (.ireturn, 1) := by decide +kernel
theorem dX9_pick_0 : decode cX9_pick 0 = .ok (.aload_n 0, 1) := by decide +kernel
theorem dX9_pick_1 : decode cX9_pick 1 = .ok (.getfield 12, 3) := by decide +kernel
theorem dX9_pick_4 : decode cX9_pick 4 = .ok (.iload_n 2, 1) := by decide +kernel
theorem dX9_pick_5 : decode cX9_pick 5 = .ok (.invokevirtual 149, 3) := by decide +kernel
theorem dX9_pick_8 : decode cX9_pick 8 = .ok (.astore 4, 2) := by decide +kernel
theorem dX9_pick_10 : decode cX9_pick 10 = .ok (.aload_n 0, 1) := by decide +kernel
theorem dX9_pick_11 : decode cX9_pick 11 = .ok (.getfield 12, 3) := by decide +kernel
theorem dX9_pick_14 : decode cX9_pick 14 = .ok (.iload_n 1, 1) := by decide +kernel
theorem dX9_pick_15 : decode cX9_pick 15 = .ok (.invokevirtual 164, 3) := by decide +kernel
theorem dX9_pick_18 : decode cX9_pick 18 = .ok (.ifCond .eq 19, 3) := by decide +kernel
theorem dX9_pick_21 : decode cX9_pick 21 = .ok (.aload 4, 2) := by decide +kernel
theorem dX9_pick_23 : decode cX9_pick 23 = .ok (.ifnull 14, 3) := by decide +kernel
theorem dX9_pick_26 : decode cX9_pick 26 = .ok (.iload_n 3, 1) := by decide +kernel
theorem dX9_pick_27 : decode cX9_pick 27 = .ok (.iconst (-1), 1) := by decide +kernel
theorem dX9_pick_28 : decode cX9_pick 28 = .ok (.if_icmp .lt 9, 3) := by decide +kernel
theorem dX9_pick_31 : decode cX9_pick 31 = .ok (.iload_n 3, 1) := by decide +kernel
theorem dX9_pick_32 : decode cX9_pick 32 = .ok (.bipush 6, 2) := by decide +kernel
theorem dX9_pick_34 : decode cX9_pick 34 = .ok (.if_icmp .lt 5, 3) := by decide +kernel
theorem dX9_pick_37 : decode cX9_pick 37 = .ok (.iconst (-1), 1) := by decide +kernel
theorem dX9_pick_38 : decode cX9_pick 38 = .ok (.ireturn, 1) := by decide +kernel
theorem dX9_pick_39 : decode cX9_pick 39 = .ok (.aload_n 0, 1) := by decide +kernel
theorem dX9_pick_40 : decode cX9_pick 40 = .ok (.invokevirtual 103, 3) := by decide +kernel
theorem dX9_pick_43 : decode cX9_pick 43 = .ok (.aload_n 0, 1) := by decide +kernel
theorem dX9_pick_44 : decode cX9_pick 44 = .ok (.getfield 42, 3) := by decide +kernel
theorem dX9_pick_47 : decode cX9_pick 47 = .ok (.aload 4, 2) := by decide +kernel
theorem dX9_pick_49 : decode cX9_pick 49 = .ok (.invokevirtual 209, 3) := by decide +kernel
theorem dX9_pick_52 : decode cX9_pick 52 = .ok (.ifCond .ne 6, 3) := by decide +kernel
theorem dX9_pick_55 : decode cX9_pick 55 = .ok (.bipush (-3), 2) := by decide +kernel
theorem dX9_pick_57 : decode cX9_pick 57 = .ok (.ireturn, 1) := by decide +kernel
theorem dX9_pick_58 : decode cX9_pick 58 = .ok (.aload_n 0, 1) := by decide +kernel
theorem dX9_pick_59 : decode cX9_pick 59 = .ok (.iload_n 1, 1) := by decide +kernel
theorem dX9_pick_60 : decode cX9_pick 60 = .ok (.aload 4, 2) := by decide +kernel
theorem dX9_pick_62 : decode cX9_pick 62 = .ok (.invokevirtual 230, 3) := by decide +kernel
theorem dX9_pick_65 : decode cX9_pick 65 = .ok (.iload_n 3, 1) := by decide +kernel
theorem dX9_pick_66 : decode cX9_pick 66 = .ok (.invokestatic 153, 3) := by decide +kernel
theorem dX9_pick_69 : decode cX9_pick 69 = .ok (.ireturn, 1) := by decide +kernel
theorem dX9_fair_0 : decode cX9_fair 0 = .ok (.aload_n 0, 1) := by decide +kernel
theorem dX9_fair_1 : decode cX9_fair 1 = .ok (.getfield 12, 3) := by decide +kernel
theorem dX9_fair_4 : decode cX9_fair 4 = .ok (.iload_n 1, 1) := by decide +kernel
theorem dX9_fair_5 : decode cX9_fair 5 = .ok (.invokevirtual 149, 3) := by decide +kernel
theorem dX9_fair_8 : decode cX9_fair 8 = .ok (.astore_n 3, 1) := by decide +kernel
theorem dX9_fair_9 : decode cX9_fair 9 = .ok (.aload_n 0, 1) := by decide +kernel
theorem dX9_fair_10 : decode cX9_fair 10 = .ok (.getfield 12, 3) := by decide +kernel
theorem dX9_fair_13 : decode cX9_fair 13 = .ok (.iload_n 2, 1) := by decide +kernel
theorem dX9_fair_14 : decode cX9_fair 14 = .ok (.invokevirtual 149, 3) := by decide +kernel
theorem dX9_fair_17 : decode cX9_fair 17 = .ok (.astore 4, 2) := by decide +kernel
theorem dX9_fair_19 : decode cX9_fair 19 = .ok (.aload_n 3, 1) := by decide +kernel
theorem dX9_fair_20 : decode cX9_fair 20 = .ok (.ifnull 8, 3) := by decide +kernel
theorem dX9_fair_23 : decode cX9_fair 23 = .ok (.aload 4, 2) := by decide +kernel
theorem dX9_fair_25 : decode cX9_fair 25 = .ok (.ifnonnull 5, 3) := by decide +kernel
theorem dX9_fair_28 : decode cX9_fair 28 = .ok (.iconst (-1), 1) := by decide +kernel
theorem dX9_fair_29 : decode cX9_fair 29 = .ok (.ireturn, 1) := by decide +kernel
theorem dX9_fair_30 : decode cX9_fair 30 = .ok (.aload_n 0, 1) := by decide +kernel
theorem dX9_fair_31 : decode cX9_fair 31 = .ok (.invokevirtual 103, 3) := by decide +kernel
theorem dX9_fair_34 : decode cX9_fair 34 = .ok (.aload_n 0, 1) := by decide +kernel
theorem dX9_fair_35 : decode cX9_fair 35 = .ok (.getfield 42, 3) := by decide +kernel
theorem dX9_fair_38 : decode cX9_fair 38 = .ok (.aload_n 3, 1) := by decide +kernel
theorem dX9_fair_39 : decode cX9_fair 39 = .ok (.invokevirtual 209, 3) := by decide +kernel
theorem dX9_fair_42 : decode cX9_fair 42 = .ok (.ifCond .eq 24, 3) := by decide +kernel
theorem dX9_fair_45 : decode cX9_fair 45 = .ok (.aload_n 0, 1) := by decide +kernel
theorem dX9_fair_46 : decode cX9_fair 46 = .ok (.getfield 42, 3) := by decide +kernel
theorem dX9_fair_49 : decode cX9_fair 49 = .ok (.aload 4, 2) := by decide +kernel
theorem dX9_fair_51 : decode cX9_fair 51 = .ok (.invokevirtual 209, 3) := by decide +kernel
theorem dX9_fair_54 : decode cX9_fair 54 = .ok (.ifCond .eq 12, 3) := by decide +kernel
theorem dX9_fair_57 : decode cX9_fair 57 = .ok (.aload_n 3, 1) := by decide +kernel
theorem dX9_fair_58 : decode cX9_fair 58 = .ok (.aload 4, 2) := by decide +kernel
theorem dX9_fair_60 : decode cX9_fair 60 = .ok (.invokevirtual 234, 3) := by decide +kernel
theorem dX9_fair_63 : decode cX9_fair 63 = .ok (.ifCond .ne 6, 3) := by decide +kernel
theorem dX9_fair_66 : decode cX9_fair 66 = .ok (.bipush (-3), 2) := by decide +kernel
theorem dX9_fair_68 : decode cX9_fair 68 = .ok (.ireturn, 1) := by decide +kernel
theorem dX9_fair_69 : decode cX9_fair 69 = .ok (.aload_n 0, 1) := by decide +kernel
theorem dX9_fair_70 : decode cX9_fair 70 = .ok (.aload_n 3, 1) := by decide +kernel
theorem dX9_fair_71 : decode cX9_fair 71 = .ok (.aload 4, 2) := by decide +kernel
theorem dX9_fair_73 : decode cX9_fair 73 = .ok (.invokevirtual 237, 3) := by decide +kernel
theorem dX9_fair_76 : decode cX9_fair 76 = .ok (.ireturn, 1) := by decide +kernel
theorem dX9_within_0 : decode cX9_within 0 = .ok (.aload_n 0, 1) := by decide +kernel
theorem dX9_within_1 : decode cX9_within 1 = .ok (.invokevirtual 103, 3) := by decide +kernel
theorem dX9_within_4 : decode cX9_within 4 = .ok (.aload_n 0, 1) := by decide +kernel
theorem dX9_within_5 : decode cX9_within 5 = .ok (.iload_n 1, 1) := by decide +kernel
theorem dX9_within_6 : decode cX9_within 6 = .ok (.invokevirtual 173, 3) := by decide +kernel
theorem dX9_within_9 : decode cX9_within 9 = .ok (.ifnull 20, 3) := by decide +kernel
theorem dX9_within_12 : decode cX9_within 12 = .ok (.iload_n 2, 1) := by decide +kernel
theorem dX9_within_13 : decode cX9_within 13 = .ok (.ifCond .lt 16, 3) := by decide +kernel
theorem dX9_within_16 : decode cX9_within 16 = .ok (.iload_n 2, 1) := by decide +kernel
theorem dX9_within_17 : decode cX9_within 17 = .ok (.bipush 15, 2) := by decide +kernel
theorem dX9_within_19 : decode cX9_within 19 = .ok (.if_icmp .gt 10, 3) := by decide +kernel
theorem dX9_within_22 : decode cX9_within 22 = .ok (.iload_n 3, 1) := by decide +kernel
theorem dX9_within_23 : decode cX9_within 23 = .ok (.invokestatic 176, 3) := by decide +kernel
theorem dX9_within_26 : decode cX9_within 26 = .ok (.ifCond .ne 7, 3) := by decide +kernel
theorem dX9_within_29 : decode cX9_within 29 = .ok (.ldc2_w 179, 3) := by decide +kernel
theorem dX9_within_32 : decode cX9_within 32 = .ok (.lreturn, 1) := by decide +kernel
theorem dX9_within_33 : decode cX9_within 33 = .ok (.aload_n 0, 1) := by decide +kernel
theorem dX9_within_34 : decode cX9_within 34 = .ok (.getfield 63, 3) := by decide +kernel
theorem dX9_within_37 : decode cX9_within 37 = .ok (.aload_n 0, 1) := by decide +kernel
theorem dX9_within_38 : decode cX9_within 38 = .ok (.getfield 12, 3) := by decide +kernel
theorem dX9_within_41 : decode cX9_within 41 = .ok (.aload_n 0, 1) := by decide +kernel
theorem dX9_within_42 : decode cX9_within 42 = .ok (.getfield 42, 3) := by decide +kernel
theorem dX9_within_45 : decode cX9_within 45 = .ok (.invokevirtual 241, 3) := by decide +kernel
theorem dX9_within_48 : decode cX9_within 48 = .ok (.aload_n 0, 1) := by decide +kernel
theorem dX9_within_49 : decode cX9_within 49 = .ok (.getfield 63, 3) := by decide +kernel
theorem dX9_within_52 : decode cX9_within 52 = .ok (.iload_n 1, 1) := by decide +kernel
theorem dX9_within_53 : decode cX9_within 53 = .ok (.iload_n 2, 1) := by decide +kernel
theorem dX9_within_54 : decode cX9_within 54 = .ok (.invokevirtual 245, 3) := by decide +kernel
theorem dX9_within_57 : decode cX9_within 57 = .ok (.aload_n 0, 1) := by decide +kernel
theorem dX9_within_58 : decode cX9_within 58 = .ok (.getfield 42, 3) := by decide +kernel
theorem dX9_within_61 : decode cX9_within 61 = .ok (.getfield 115, 3) := by decide +kernel
theorem dX9_within_64 : decode cX9_within 64 = .ok (.i2l, 1) := by decide +kernel
theorem dX9_within_65 : decode cX9_within 65 = .ok (.iload_n 2, 1) := by decide +kernel
theorem dX9_within_66 : decode cX9_within 66 = .ok (.invokestatic 249, 3) := by decide +kernel
theorem dX9_within_69 : decode cX9_within 69 = .ok (.iload_n 3, 1) := by decide +kernel
theorem dX9_within_70 : decode cX9_within 70 = .ok (.invokestatic 189, 3) := by decide +kernel
theorem dX9_within_73 : decode cX9_within 73 = .ok (.lreturn, 1) := by decide +kernel
theorem dX9_often_0 : decode cX9_often 0 = .ok (.aload_n 0, 1) := by decide +kernel
theorem dX9_often_1 : decode cX9_often 1 = .ok (.invokevirtual 103, 3) := by decide +kernel
theorem dX9_often_4 : decode cX9_often 4 = .ok (.aload_n 0, 1) := by decide +kernel
theorem dX9_often_5 : decode cX9_often 5 = .ok (.iload_n 1, 1) := by decide +kernel
theorem dX9_often_6 : decode cX9_often 6 = .ok (.invokevirtual 173, 3) := by decide +kernel
theorem dX9_often_9 : decode cX9_often 9 = .ok (.astore 4, 2) := by decide +kernel
theorem dX9_often_11 : decode cX9_often 11 = .ok (.aload 4, 2) := by decide +kernel
theorem dX9_often_13 : decode cX9_often 13 = .ok (.ifnull 20, 3) := by decide +kernel
theorem dX9_often_16 : decode cX9_often 16 = .ok (.iload_n 2, 1) := by decide +kernel
theorem dX9_often_17 : decode cX9_often 17 = .ok (.ifCond .lt 16, 3) := by decide +kernel
theorem dX9_often_20 : decode cX9_often 20 = .ok (.iload_n 2, 1) := by decide +kernel
theorem dX9_often_21 : decode cX9_often 21 = .ok (.bipush 60, 2) := by decide +kernel
theorem dX9_often_23 : decode cX9_often 23 = .ok (.if_icmp .gt 10, 3) := by decide +kernel
theorem dX9_often_26 : decode cX9_often 26 = .ok (.iload_n 3, 1) := by decide +kernel
theorem dX9_often_27 : decode cX9_often 27 = .ok (.invokestatic 176, 3) := by decide +kernel
theorem dX9_often_30 : decode cX9_often 30 = .ok (.ifCond .ne 7, 3) := by decide +kernel
theorem dX9_often_33 : decode cX9_often 33 = .ok (.ldc2_w 179, 3) := by decide +kernel
theorem dX9_often_36 : decode cX9_often 36 = .ok (.lreturn, 1) := by decide +kernel
theorem dX9_often_37 : decode cX9_often 37 = .ok (.iconst 0, 1) := by decide +kernel
theorem dX9_often_38 : decode cX9_often 38 = .ok (.iload_n 2, 1) := by decide +kernel
theorem dX9_often_39 : decode cX9_often 39 = .ok (.aload 4, 2) := by decide +kernel
theorem dX9_often_41 : decode cX9_often 41 = .ok (.getfield 130, 3) := by decide +kernel
theorem dX9_often_44 : decode cX9_often 44 = .ok (.isub, 1) := by decide +kernel
theorem dX9_often_45 : decode cX9_often 45 = .ok (.iconst 1, 1) := by decide +kernel
theorem dX9_often_46 : decode cX9_often 46 = .ok (.iadd, 1) := by decide +kernel
theorem dX9_often_47 : decode cX9_often 47 = .ok (.invokestatic 253, 3) := by decide +kernel
theorem dX9_often_50 : decode cX9_often 50 = .ok (.i2l, 1) := by decide +kernel
theorem dX9_often_51 : decode cX9_often 51 = .ok (.lstore 5, 2) := by decide +kernel
theorem dX9_often_53 : decode cX9_often 53 = .ok (.lload 5, 2) := by decide +kernel
theorem dX9_often_55 : decode cX9_often 55 = .ok (.aload_n 0, 1) := by decide +kernel
theorem dX9_often_56 : decode cX9_often 56 = .ok (.getfield 42, 3) := by decide +kernel
theorem dX9_often_59 : decode cX9_often 59 = .ok (.aload 4, 2) := by decide +kernel
theorem dX9_often_61 : decode cX9_often 61 = .ok (.invokevirtual 185, 3) := by decide +kernel
theorem dX9_often_64 : decode cX9_often 64 = .ok (.lmul, 1) := by decide +kernel
theorem dX9_often_65 : decode cX9_often 65 = .ok (.aload_n 0, 1) := by decide +kernel
theorem dX9_often_66 : decode cX9_often 66 = .ok (.getfield 42, 3) := by decide +kernel
theorem dX9_often_69 : decode cX9_often 69 = .ok (.getfield 115, 3) := by decide +kernel
theorem dX9_often_72 : decode cX9_often 72 = .ok (.i2l, 1) := by decide +kernel
theorem dX9_often_73 : decode cX9_often 73 = .ok (.aload 4, 2) := by decide +kernel
theorem dX9_often_75 : decode cX9_often 75 = .ok (.getfield 130, 3) := by decide +kernel
theorem dX9_often_78 : decode cX9_often 78 = .ok (.invokestatic 249, 3) := by decide +kernel
theorem dX9_often_81 : decode cX9_often 81 = .ok (.iload_n 3, 1) := by decide +kernel
theorem dX9_often_82 : decode cX9_often 82 = .ok (.invokestatic 189, 3) := by decide +kernel
theorem dX9_often_85 : decode cX9_often 85 = .ok (.lreturn, 1) := by decide +kernel
theorem dX9_free_0 : decode cX9_free 0 = .ok (.iload_n 1, 1) := by decide +kernel
theorem dX9_free_1 : decode cX9_free 1 = .ok (.ifCond .lt 9, 3) := by decide +kernel
theorem dX9_free_4 : decode cX9_free 4 = .ok (.iload_n 1, 1) := by decide +kernel
theorem dX9_free_5 : decode cX9_free 5 = .ok (.bipush 30, 2) := by decide +kernel
theorem dX9_free_7 : decode cX9_free 7 = .ok (.if_icmp .le 7, 3) := by decide +kernel
theorem dX9_free_10 : decode cX9_free 10 = .ok (.ldc2_w 179, 3) := by decide +kernel
theorem dX9_free_13 : decode cX9_free 13 = .ok (.lreturn, 1) := by decide +kernel
theorem dX9_free_14 : decode cX9_free 14 = .ok (.aload_n 0, 1) := by decide +kernel
theorem dX9_free_15 : decode cX9_free 15 = .ok (.invokevirtual 103, 3) := by decide +kernel
theorem dX9_free_18 : decode cX9_free 18 = .ok (.aload_n 0, 1) := by decide +kernel
theorem dX9_free_19 : decode cX9_free 19 = .ok (.getfield 63, 3) := by decide +kernel
theorem dX9_free_22 : decode cX9_free 22 = .ok (.aload_n 0, 1) := by decide +kernel
theorem dX9_free_23 : decode cX9_free 23 = .ok (.getfield 12, 3) := by decide +kernel
theorem dX9_free_26 : decode cX9_free 26 = .ok (.aload_n 0, 1) := by decide +kernel
theorem dX9_free_27 : decode cX9_free 27 = .ok (.getfield 42, 3) := by decide +kernel
theorem dX9_free_30 : decode cX9_free 30 = .ok (.invokevirtual 241, 3) := by decide +kernel
theorem dX9_free_33 : decode cX9_free 33 = .ok (.aload_n 0, 1) := by decide +kernel
theorem dX9_free_34 : decode cX9_free 34 = .ok (.getfield 63, 3) := by decide +kernel
theorem dX9_free_37 : decode cX9_free 37 = .ok (.iload_n 1, 1) := by decide +kernel
theorem dX9_free_38 : decode cX9_free 38 = .ok (.invokevirtual 259, 3) := by decide +kernel
theorem dX9_free_41 : decode cX9_free 41 = .ok (.lreturn, 1) := by decide +kernel
theorem dX9_toss_0 : decode cX9_toss 0 = .ok (.iload_n 1, 1) := by decide +kernel
theorem dX9_toss_1 : decode cX9_toss 1 = .ok (.iconst (-1), 1) := by decide +kernel
theorem dX9_toss_2 : decode cX9_toss 2 = .ok (.if_icmp .lt 8, 3) := by decide +kernel
theorem dX9_toss_5 : decode cX9_toss 5 = .ok (.iload_n 1, 1) := by decide +kernel
theorem dX9_toss_6 : decode cX9_toss 6 = .ok (.iconst 3, 1) := by decide +kernel
theorem dX9_toss_7 : decode cX9_toss 7 = .ok (.if_icmp .lt 6, 3) := by decide +kernel
theorem dX9_toss_10 : decode cX9_toss 10 = .ok (.bipush (-2), 2) := by decide +kernel
theorem dX9_toss_12 : decode cX9_toss 12 = .ok (.ireturn, 1) := by decide +kernel
theorem dX9_toss_13 : decode cX9_toss 13 = .ok (.aload_n 0, 1) := by decide +kernel
theorem dX9_toss_14 : decode cX9_toss 14 = .ok (.getfield 12, 3) := by decide +kernel
theorem dX9_toss_17 : decode cX9_toss 17 = .ok (.getfield 206, 3) := by decide +kernel
theorem dX9_toss_20 : decode cX9_toss 20 = .ok (.iload_n 1, 1) := by decide +kernel
theorem dX9_toss_21 : decode cX9_toss 21 = .ok (.bipush 24, 2) := by decide +kernel
theorem dX9_toss_23 : decode cX9_toss 23 = .ok (.invokestatic 126, 3) := by decide +kernel
theorem dX9_toss_26 : decode cX9_toss 26 = .ok (.ireturn, 1) := by decide +kernel
theorem dX9_came_0 : decode cX9_came 0 = .ok (.aload_n 0, 1) := by decide +kernel
theorem dX9_came_1 : decode cX9_came 1 = .ok (.getfield 12, 3) := by decide +kernel
theorem dX9_came_4 : decode cX9_came 4 = .ok (.iload_n 1, 1) := by decide +kernel
theorem dX9_came_5 : decode cX9_came 5 = .ok (.invokevirtual 149, 3) := by decide +kernel
theorem dX9_came_8 : decode cX9_came 8 = .ok (.astore_n 2, 1) := by decide +kernel
theorem dX9_came_9 : decode cX9_came 9 = .ok (.aload_n 2, 1) := by decide +kernel
theorem dX9_came_10 : decode cX9_came 10 = .ok (.ifnonnull 5, 3) := by decide +kernel
theorem dX9_came_13 : decode cX9_came 13 = .ok (.iconst (-1), 1) := by decide +kernel
theorem dX9_came_14 : decode cX9_came 14 = .ok (.ireturn, 1) := by decide +kernel
theorem dX9_came_15 : decode cX9_came 15 = .ok (.aload_n 0, 1) := by decide +kernel
theorem dX9_came_16 : decode cX9_came 16 = .ok (.getfield 12, 3) := by decide +kernel
theorem dX9_came_19 : decode cX9_came 19 = .ok (.getfield 206, 3) := by decide +kernel
theorem dX9_came_22 : decode cX9_came 22 = .ok (.aload_n 2, 1) := by decide +kernel
theorem dX9_came_23 : decode cX9_came 23 = .ok (.invokevirtual 263, 3) := by decide +kernel
theorem dX9_came_26 : decode cX9_came 26 = .ok (.ireturn, 1) := by decide +kernel
theorem dX9_ends_0 : decode cX9_ends 0 = .ok (.aload_n 0, 1) := by decide +kernel
theorem dX9_ends_1 : decode cX9_ends 1 = .ok (.getfield 12, 3) := by decide +kernel
theorem dX9_ends_4 : decode cX9_ends 4 = .ok (.iload_n 1, 1) := by decide +kernel
theorem dX9_ends_5 : decode cX9_ends 5 = .ok (.invokevirtual 149, 3) := by decide +kernel
theorem dX9_ends_8 : decode cX9_ends 8 = .ok (.astore_n 2, 1) := by decide +kernel
theorem dX9_ends_9 : decode cX9_ends 9 = .ok (.aload_n 2, 1) := by decide +kernel
theorem dX9_ends_10 : decode cX9_ends 10 = .ok (.ifnonnull 5, 3) := by decide +kernel
theorem dX9_ends_13 : decode cX9_ends 13 = .ok (.iconst (-1), 1) := by decide +kernel
theorem dX9_ends_14 : decode cX9_ends 14 = .ok (.ireturn, 1) := by decide +kernel
theorem dX9_ends_15 : decode cX9_ends 15 = .ok (.iconst 0, 1) := by decide +kernel
theorem dX9_ends_16 : decode cX9_ends 16 = .ok (.istore_n 3, 1) := by decide +kernel
theorem dX9_ends_17 : decode cX9_ends 17 = .ok (.iconst 1, 1) := by decide +kernel
theorem dX9_ends_18 : decode cX9_ends 18 = .ok (.istore 4, 2) := by decide +kernel
theorem dX9_ends_20 : decode cX9_ends 20 = .ok (.iload 4, 2) := by decide +kernel
theorem dX9_ends_22 : decode cX9_ends 22 = .ok (.aload_n 0, 1) := by decide +kernel
theorem dX9_ends_23 : decode cX9_ends 23 = .ok (.getfield 12, 3) := by decide +kernel
theorem dX9_ends_26 : decode cX9_ends 26 = .ok (.getfield 206, 3) := by decide +kernel
theorem dX9_ends_29 : decode cX9_ends 29 = .ok (.getfield 130, 3) := by decide +kernel
theorem dX9_ends_32 : decode cX9_ends 32 = .ok (.if_icmp .gt 28, 3) := by decide +kernel
theorem dX9_ends_35 : decode cX9_ends 35 = .ok (.aload_n 0, 1) := by decide +kernel
theorem dX9_ends_36 : decode cX9_ends 36 = .ok (.getfield 12, 3) := by decide +kernel
theorem dX9_ends_39 : decode cX9_ends 39 = .ok (.getfield 206, 3) := by decide +kernel
theorem dX9_ends_42 : decode cX9_ends 42 = .ok (.aload_n 2, 1) := by decide +kernel
theorem dX9_ends_43 : decode cX9_ends 43 = .ok (.iload 4, 2) := by decide +kernel
theorem dX9_ends_45 : decode cX9_ends 45 = .ok (.invokevirtual 267, 3) := by decide +kernel
theorem dX9_ends_48 : decode cX9_ends 48 = .ok (.ifCond .eq 6, 3) := by decide +kernel
theorem dX9_ends_51 : decode cX9_ends 51 = .ok (.iinc 3 1, 3) := by decide +kernel
theorem dX9_ends_54 : decode cX9_ends 54 = .ok (.iinc 4 1, 3) := by decide +kernel
theorem dX9_ends_57 : decode cX9_ends 57 = .ok (.goto (-37), 3) := by decide +kernel
theorem dX9_ends_60 : decode cX9_ends 60 = .ok (.iload_n 3, 1) := by decide +kernel
theorem dX9_ends_61 : decode cX9_ends 61 = .ok (.ireturn, 1) := by decide +kernel
theorem dX9_ahead_0 : decode cX9_ahead 0 = .ok (.iconst 1, 1) := by decide +kernel
theorem dX9_ahead_1 : decode cX9_ahead 1 = .ok (.istore_n 1, 1) := by decide +kernel
theorem dX9_ahead_2 : decode cX9_ahead 2 = .ok (.iload_n 1, 1) := by decide +kernel
theorem dX9_ahead_3 : decode cX9_ahead 3 = .ok (.aload_n 0, 1) := by decide +kernel
theorem dX9_ahead_4 : decode cX9_ahead 4 = .ok (.getfield 12, 3) := by decide +kernel
theorem dX9_ahead_7 : decode cX9_ahead 7 = .ok (.getfield 206, 3) := by decide +kernel
theorem dX9_ahead_10 : decode cX9_ahead 10 = .ok (.getfield 130, 3) := by decide +kernel
theorem dX9_ahead_13 : decode cX9_ahead 13 = .ok (.if_icmp .gt 53, 3) := by decide +kernel
theorem dX9_ahead_16 : decode cX9_ahead 16 = .ok (.iconst 0, 1) := by decide +kernel
theorem dX9_ahead_17 : decode cX9_ahead 17 = .ok (.istore_n 2, 1) := by decide +kernel
theorem dX9_ahead_18 : decode cX9_ahead 18 = .ok (.iload_n 2, 1) := by decide +kernel
theorem dX9_ahead_19 : decode cX9_ahead 19 = .ok (.aload_n 0, 1) := by decide +kernel
theorem dX9_ahead_20 : decode cX9_ahead 20 = .ok (.getfield 12, 3) := by decide +kernel
theorem dX9_ahead_23 : decode cX9_ahead 23 = .ok (.getfield 135, 3) := by decide +kernel
theorem dX9_ahead_26 : decode cX9_ahead 26 = .ok (.if_icmp .ge 34, 3) := by decide +kernel
theorem dX9_ahead_29 : decode cX9_ahead 29 = .ok (.aload_n 0, 1) := by decide +kernel
theorem dX9_ahead_30 : decode cX9_ahead 30 = .ok (.getfield 12, 3) := by decide +kernel
theorem dX9_ahead_33 : decode cX9_ahead 33 = .ok (.getfield 206, 3) := by decide +kernel
theorem dX9_ahead_36 : decode cX9_ahead 36 = .ok (.aload_n 0, 1) := by decide +kernel
theorem dX9_ahead_37 : decode cX9_ahead 37 = .ok (.getfield 12, 3) := by decide +kernel
theorem dX9_ahead_40 : decode cX9_ahead 40 = .ok (.getfield 138, 3) := by decide +kernel
theorem dX9_ahead_43 : decode cX9_ahead 43 = .ok (.iload_n 2, 1) := by decide +kernel
theorem dX9_ahead_44 : decode cX9_ahead 44 = .ok (.aaload, 1) := by decide +kernel
theorem dX9_ahead_45 : decode cX9_ahead 45 = .ok (.iload_n 1, 1) := by decide +kernel
theorem dX9_ahead_46 : decode cX9_ahead 46 = .ok (.invokevirtual 267, 3) := by decide +kernel
theorem dX9_ahead_49 : decode cX9_ahead 49 = .ok (.ifCond .eq 5, 3) := by decide +kernel
theorem dX9_ahead_52 : decode cX9_ahead 52 = .ok (.iload_n 2, 1) := by decide +kernel
theorem dX9_ahead_53 : decode cX9_ahead 53 = .ok (.ireturn, 1) := by decide +kernel
theorem dX9_ahead_54 : decode cX9_ahead 54 = .ok (.iinc 2 1, 3) := by decide +kernel
theorem dX9_ahead_57 : decode cX9_ahead 57 = .ok (.goto (-39), 3) := by decide +kernel
theorem dX9_ahead_60 : decode cX9_ahead 60 = .ok (.iinc 1 1, 3) := by decide +kernel
theorem dX9_ahead_63 : decode cX9_ahead 63 = .ok (.goto (-61), 3) := by decide +kernel
theorem dX9_ahead_66 : decode cX9_ahead 66 = .ok (.bipush (-5), 2) := by decide +kernel
theorem dX9_ahead_68 : decode cX9_ahead 68 = .ok (.ireturn, 1) := by decide +kernel
theorem dX9_act_0 : decode cX9_act 0 = .ok (.aload_n 0, 1) := by decide +kernel
theorem dX9_act_1 : decode cX9_act 1 = .ok (.getfield 70, 3) := by decide +kernel
theorem dX9_act_4 : decode cX9_act 4 = .ok (.invokevirtual 271, 3) := by decide +kernel
theorem dX9_act_7 : decode cX9_act 7 = .ok (.aload_n 0, 1) := by decide +kernel
theorem dX9_act_8 : decode cX9_act 8 = .ok (.getfield 12, 3) := by decide +kernel
theorem dX9_act_11 : decode cX9_act 11 = .ok (.iload_n 1, 1) := by decide +kernel
theorem dX9_act_12 : decode cX9_act 12 = .ok (.invokevirtual 164, 3) := by decide +kernel
theorem dX9_act_15 : decode cX9_act 15 = .ok (.ifCond .eq 12, 3) := by decide +kernel
theorem dX9_act_18 : decode cX9_act 18 = .ok (.iload_n 2, 1) := by decide +kernel
theorem dX9_act_19 : decode cX9_act 19 = .ok (.ifCond .lt 8, 3) := by decide +kernel
theorem dX9_act_22 : decode cX9_act 22 = .ok (.iload_n 2, 1) := by decide +kernel
theorem dX9_act_23 : decode cX9_act 23 = .ok (.iconst 3, 1) := by decide +kernel
theorem dX9_act_24 : decode cX9_act 24 = .ok (.if_icmp .lt 5, 3) := by decide +kernel
theorem dX9_act_27 : decode cX9_act 27 = .ok (.iconst 0, 1) := by decide +kernel
theorem dX9_act_28 : decode cX9_act 28 = .ok (.ireturn, 1) := by decide +kernel
theorem dX9_act_29 : decode cX9_act 29 = .ok (.aload_n 0, 1) := by decide +kernel
theorem dX9_act_30 : decode cX9_act 30 = .ok (.getfield 70, 3) := by decide +kernel
theorem dX9_act_33 : decode cX9_act 33 = .ok (.aload_n 0, 1) := by decide +kernel
theorem dX9_act_34 : decode cX9_act 34 = .ok (.getfield 12, 3) := by decide +kernel
theorem dX9_act_37 : decode cX9_act 37 = .ok (.iload_n 1, 1) := by decide +kernel
theorem dX9_act_38 : decode cX9_act 38 = .ok (.iload_n 2, 1) := by decide +kernel
theorem dX9_act_39 : decode cX9_act 39 = .ok (.iload_n 3, 1) := by decide +kernel
theorem dX9_act_40 : decode cX9_act 40 = .ok (.invokevirtual 274, 3) := by decide +kernel
theorem dX9_act_43 : decode cX9_act 43 = .ok (.ireturn, 1) := by decide +kernel
theorem dX9_trace_0 : decode cX9_trace 0 = .ok (.iload_n 1, 1) := by decide +kernel
theorem dX9_trace_1 : decode cX9_trace 1 = .ok (.ifCond .lt 20, 3) := by decide +kernel
theorem dX9_trace_4 : decode cX9_trace 4 = .ok (.iload_n 1, 1) := by decide +kernel
theorem dX9_trace_5 : decode cX9_trace 5 = .ok (.aload_n 0, 1) := by decide +kernel
theorem dX9_trace_6 : decode cX9_trace 6 = .ok (.getfield 70, 3) := by decide +kernel
theorem dX9_trace_9 : decode cX9_trace 9 = .ok (.getfield 278, 3) := by decide +kernel
theorem dX9_trace_12 : decode cX9_trace 12 = .ok (.if_icmp .ge 9, 3) := by decide +kernel
theorem dX9_trace_15 : decode cX9_trace 15 = .ok (.iload_n 1, 1) := by decide +kernel
theorem dX9_trace_16 : decode cX9_trace 16 = .ok (.bipush 20, 2) := by decide +kernel
theorem dX9_trace_18 : decode cX9_trace 18 = .ok (.if_icmp .lt 7, 3) := by decide +kernel
theorem dX9_trace_21 : decode cX9_trace 21 = .ok (.iconst (-1), 1) := by decide +kernel
theorem dX9_trace_22 : decode cX9_trace 22 = .ok (.goto 12, 3) := by decide +kernel
theorem dX9_trace_25 : decode cX9_trace 25 = .ok (.aload_n 0, 1) := by decide +kernel
theorem dX9_trace_26 : decode cX9_trace 26 = .ok (.getfield 70, 3) := by decide +kernel
theorem dX9_trace_29 : decode cX9_trace 29 = .ok (.getfield 281, 3) := by decide +kernel
theorem dX9_trace_32 : decode cX9_trace 32 = .ok (.iload_n 1, 1) := by decide +kernel
theorem dX9_trace_33 : decode cX9_trace 33 = .ok (.iaload, 1) := by decide +kernel
theorem dX9_trace_34 : decode cX9_trace 34 = .ok (.ireturn, 1) := by decide +kernel
theorem dX9_as_0 : decode cX9_as 0 = .ok (.aload_n 0, 1) := by decide +kernel
theorem dX9_as_1 : decode cX9_as 1 = .ok (.getfield 12, 3) := by decide +kernel
theorem dX9_as_4 : decode cX9_as 4 = .ok (.iload_n 1, 1) := by decide +kernel
theorem dX9_as_5 : decode cX9_as 5 = .ok (.invokevirtual 164, 3) := by decide +kernel
theorem dX9_as_8 : decode cX9_as 8 = .ok (.ifCond .eq 13, 3) := by decide +kernel
theorem dX9_as_11 : decode cX9_as 11 = .ok (.iload_n 2, 1) := by decide +kernel
theorem dX9_as_12 : decode cX9_as 12 = .ok (.ifCond .lt 9, 3) := by decide +kernel
theorem dX9_as_15 : decode cX9_as 15 = .ok (.iload_n 2, 1) := by decide +kernel
theorem dX9_as_16 : decode cX9_as 16 = .ok (.bipush 7, 2) := by decide +kernel
theorem dX9_as_18 : decode cX9_as 18 = .ok (.if_icmp .lt 5, 3) := by decide +kernel
theorem dX9_as_21 : decode cX9_as 21 = .ok (.iconst (-1), 1) := by decide +kernel
theorem dX9_as_22 : decode cX9_as 22 = .ok (.ireturn, 1) := by decide +kernel
theorem dX9_as_23 : decode cX9_as 23 = .ok (.aload_n 0, 1) := by decide +kernel
theorem dX9_as_24 : decode cX9_as 24 = .ok (.getfield 12, 3) := by decide +kernel
theorem dX9_as_27 : decode cX9_as 27 = .ok (.getfield 167, 3) := by decide +kernel
theorem dX9_as_30 : decode cX9_as 30 = .ok (.iload_n 1, 1) := by decide +kernel
theorem dX9_as_31 : decode cX9_as 31 = .ok (.iaload, 1) := by decide +kernel
theorem dX9_as_32 : decode cX9_as 32 = .ok (.istore_n 3, 1) := by decide +kernel
theorem dX9_as_33 : decode cX9_as 33 = .ok (.iconst 0, 1) := by decide +kernel
theorem dX9_as_34 : decode cX9_as 34 = .ok (.istore 4, 2) := by decide +kernel
theorem dX9_as_36 : decode cX9_as 36 = .ok (.iload 4, 2) := by decide +kernel
theorem dX9_as_38 : decode cX9_as 38 = .ok (.bipush 7, 2) := by decide +kernel
theorem dX9_as_40 : decode cX9_as 40 = .ok (.if_icmp .ge 33, 3) := by decide +kernel
theorem dX9_as_43 : decode cX9_as 43 = .ok (.iload_n 3, 1) := by decide +kernel
theorem dX9_as_44 : decode cX9_as 44 = .ok (.ifCond .lt 29, 3) := by decide +kernel
theorem dX9_as_47 : decode cX9_as 47 = .ok (.iload_n 3, 1) := by decide +kernel
theorem dX9_as_48 : decode cX9_as 48 = .ok (.iload_n 2, 1) := by decide +kernel
theorem dX9_as_49 : decode cX9_as 49 = .ok (.if_icmp .ne 13, 3) := by decide +kernel
theorem dX9_as_52 : decode cX9_as 52 = .ok (.aload_n 0, 1) := by decide +kernel
theorem dX9_as_53 : decode cX9_as 53 = .ok (.getfield 12, 3) := by decide +kernel
theorem dX9_as_56 : decode cX9_as 56 = .ok (.getfield 284, 3) := by decide +kernel
theorem dX9_as_59 : decode cX9_as 59 = .ok (.iload_n 1, 1) := by decide +kernel
theorem dX9_as_60 : decode cX9_as 60 = .ok (.iaload, 1) := by decide +kernel
theorem dX9_as_61 : decode cX9_as 61 = .ok (.ireturn, 1) := by decide +kernel
theorem dX9_as_62 : decode cX9_as 62 = .ok (.iload_n 3, 1) := by decide +kernel
theorem dX9_as_63 : decode cX9_as 63 = .ok (.invokestatic 287, 3) := by decide +kernel
theorem dX9_as_66 : decode cX9_as 66 = .ok (.istore_n 3, 1) := by decide +kernel
theorem dX9_as_67 : decode cX9_as 67 = .ok (.iinc 4 1, 3) := by decide +kernel
theorem dX9_as_70 : decode cX9_as 70 = .ok (.goto (-34), 3) := by decide +kernel
theorem dX9_as_73 : decode cX9_as 73 = .ok (.bipush (-6), 2) := by decide +kernel
theorem dX9_as_75 : decode cX9_as 75 = .ok (.ireturn, 1) := by decide +kernel
theorem dX9_image_0 : decode cX9_image 0 = .ok (.aload_n 0, 1) := by decide +kernel
theorem dX9_image_1 : decode cX9_image 1 = .ok (.getfield 18, 3) := by decide +kernel
theorem dX9_image_4 : decode cX9_image 4 = .ok (.aload_n 0, 1) := by decide +kernel
theorem dX9_image_5 : decode cX9_image 5 = .ok (.getfield 12, 3) := by decide +kernel
theorem dX9_image_8 : decode cX9_image 8 = .ok (.invokevirtual 290, 3) := by decide +kernel
theorem dX9_image_11 : decode cX9_image 11 = .ok (.aload_n 0, 1) := by decide +kernel
theorem dX9_image_12 : decode cX9_image 12 = .ok (.iconst 1, 1) := by decide +kernel
theorem dX9_image_13 : decode cX9_image 13 = .ok (.putfield 21, 3) := by decide +kernel
theorem dX9_image_16 : decode cX9_image 16 = .ok (.aload_n 0, 1) := by decide +kernel
theorem dX9_image_17 : decode cX9_image 17 = .ok (.getfield 12, 3) := by decide +kernel
theorem dX9_image_20 : decode cX9_image 20 = .ok (.getfield 135, 3) := by decide +kernel
theorem dX9_image_23 : decode cX9_image 23 = .ok (.ireturn, 1) := by decide +kernel
theorem dX9_undo_0 : decode cX9_undo 0 = .ok (.aload_n 0, 1) := by decide +kernel
theorem dX9_undo_1 : decode cX9_undo 1 = .ok (.getfield 21, 3) := by decide +kernel
theorem dX9_undo_4 : decode cX9_undo 4 = .ok (.ifCond .ne 6, 3) := by decide +kernel
theorem dX9_undo_7 : decode cX9_undo 7 = .ok (.bipush (-3), 2) := by decide +kernel
theorem dX9_undo_9 : decode cX9_undo 9 = .ok (.ireturn, 1) := by decide +kernel
theorem dX9_undo_10 : decode cX9_undo 10 = .ok (.aload_n 0, 1) := by decide +kernel
theorem dX9_undo_11 : decode cX9_undo 11 = .ok (.getfield 12, 3) := by decide +kernel
theorem dX9_undo_14 : decode cX9_undo 14 = .ok (.aload_n 0, 1) := by decide +kernel
theorem dX9_undo_15 : decode cX9_undo 15 = .ok (.getfield 18, 3) := by decide +kernel
theorem dX9_undo_18 : decode cX9_undo 18 = .ok (.invokevirtual 290, 3) := by decide +kernel
theorem dX9_undo_21 : decode cX9_undo 21 = .ok (.aload_n 0, 1) := by decide +kernel
theorem dX9_undo_22 : decode cX9_undo 22 = .ok (.getfield 12, 3) := by decide +kernel
theorem dX9_undo_25 : decode cX9_undo 25 = .ok (.getfield 135, 3) := by decide +kernel
theorem dX9_undo_28 : decode cX9_undo 28 = .ok (.ireturn, 1) := by decide +kernel
theorem dX9_count_0 : decode cX9_count 0 = .ok (.iload_n 1, 1) := by decide +kernel
theorem dX9_count_1 : decode cX9_count 1 = .ok (.tableswitch 105 0 6 #[43, 51, 59, 67, 78, 89, 97], 43) := by decide +kernel
theorem dX9_count_44 : decode cX9_count 44 = .ok (.aload_n 0, 1) := by decide +kernel
theorem dX9_count_45 : decode cX9_count 45 = .ok (.getfield 12, 3) := by decide +kernel
theorem dX9_count_48 : decode cX9_count 48 = .ok (.getfield 135, 3) := by decide +kernel
theorem dX9_count_51 : decode cX9_count 51 = .ok (.ireturn, 1) := by decide +kernel
theorem dX9_count_52 : decode cX9_count 52 = .ok (.aload_n 0, 1) := by decide +kernel
theorem dX9_count_53 : decode cX9_count 53 = .ok (.getfield 12, 3) := by decide +kernel
theorem dX9_count_56 : decode cX9_count 56 = .ok (.getfield 161, 3) := by decide +kernel
theorem dX9_count_59 : decode cX9_count 59 = .ok (.ireturn, 1) := by decide +kernel
theorem dX9_count_60 : decode cX9_count 60 = .ok (.aload_n 0, 1) := by decide +kernel
theorem dX9_count_61 : decode cX9_count 61 = .ok (.getfield 12, 3) := by decide +kernel
theorem dX9_count_64 : decode cX9_count 64 = .ok (.getfield 82, 3) := by decide +kernel
theorem dX9_count_67 : decode cX9_count 67 = .ok (.ireturn, 1) := by decide +kernel
theorem dX9_count_68 : decode cX9_count 68 = .ok (.aload_n 0, 1) := by decide +kernel
theorem dX9_count_69 : decode cX9_count 69 = .ok (.getfield 12, 3) := by decide +kernel
theorem dX9_count_72 : decode cX9_count 72 = .ok (.getfield 122, 3) := by decide +kernel
theorem dX9_count_75 : decode cX9_count 75 = .ok (.getfield 130, 3) := by decide +kernel
theorem dX9_count_78 : decode cX9_count 78 = .ok (.ireturn, 1) := by decide +kernel
theorem dX9_count_79 : decode cX9_count 79 = .ok (.aload_n 0, 1) := by decide +kernel
theorem dX9_count_80 : decode cX9_count 80 = .ok (.getfield 12, 3) := by decide +kernel
theorem dX9_count_83 : decode cX9_count 83 = .ok (.getfield 206, 3) := by decide +kernel
theorem dX9_count_86 : decode cX9_count 86 = .ok (.getfield 130, 3) := by decide +kernel
theorem dX9_count_89 : decode cX9_count 89 = .ok (.ireturn, 1) := by decide +kernel
theorem dX9_count_90 : decode cX9_count 90 = .ok (.aload_n 0, 1) := by decide +kernel
theorem dX9_count_91 : decode cX9_count 91 = .ok (.getfield 12, 3) := by decide +kernel
theorem dX9_count_94 : decode cX9_count 94 = .ok (.getfield 78, 3) := by decide +kernel
theorem dX9_count_97 : decode cX9_count 97 = .ok (.ireturn, 1) := by decide +kernel
theorem dX9_count_98 : decode cX9_count 98 = .ok (.aload_n 0, 1) := by decide +kernel
theorem dX9_count_99 : decode cX9_count 99 = .ok (.getfield 70, 3) := by decide +kernel
theorem dX9_count_102 : decode cX9_count 102 = .ok (.getfield 278, 3) := by decide +kernel
theorem dX9_count_105 : decode cX9_count 105 = .ok (.ireturn, 1) := by decide +kernel
theorem dX9_count_106 : decode cX9_count 106 = .ok (.iconst (-1), 1) := by decide +kernel
theorem dX9_count_107 : decode cX9_count 107 = .ok (.ireturn, 1) := by decide +kernel
theorem dX9_weigh_0 : decode cX9_weigh 0 = .ok (.aload_n 0, 1) := by decide +kernel
theorem dX9_weigh_1 : decode cX9_weigh 1 = .ok (.getfield 42, 3) := by decide +kernel
theorem dX9_weigh_4 : decode cX9_weigh 4 = .ok (.aload_n 0, 1) := by decide +kernel
theorem dX9_weigh_5 : decode cX9_weigh 5 = .ok (.getfield 12, 3) := by decide +kernel
theorem dX9_weigh_8 : decode cX9_weigh 8 = .ok (.getfield 93, 3) := by decide +kernel
theorem dX9_weigh_11 : decode cX9_weigh 11 = .ok (.aload_n 0, 1) := by decide +kernel
theorem dX9_weigh_12 : decode cX9_weigh 12 = .ok (.getfield 12, 3) := by decide +kernel
theorem dX9_weigh_15 : decode cX9_weigh 15 = .ok (.getfield 100, 3) := by decide +kernel
theorem dX9_weigh_18 : decode cX9_weigh 18 = .ok (.invokevirtual 293, 3) := by decide +kernel
theorem dX9_weigh_21 : decode cX9_weigh 21 = .ok (.return_, 1) := by decide +kernel
theorem dX9_isPart_0 : decode cX9_isPart 0 = .ok (.iload_n 0, 1) := by decide +kernel
theorem dX9_isPart_1 : decode cX9_isPart 1 = .ok (.ifCond .eq 8, 3) := by decide +kernel
theorem dX9_isPart_4 : decode cX9_isPart 4 = .ok (.iload_n 0, 1) := by decide +kernel
theorem dX9_isPart_5 : decode cX9_isPart 5 = .ok (.iconst 1, 1) := by decide +kernel
theorem dX9_isPart_6 : decode cX9_isPart 6 = .ok (.if_icmp .ne 7, 3) := by decide +kernel
theorem dX9_isPart_9 : decode cX9_isPart 9 = .ok (.iconst 1, 1) := by decide +kernel
theorem dX9_isPart_10 : decode cX9_isPart 10 = .ok (.goto 4, 3) := by decide +kernel
theorem dX9_isPart_13 : decode cX9_isPart 13 = .ok (.iconst 0, 1) := by decide +kernel
theorem dX9_isPart_14 : decode cX9_isPart 14 = .ok (.ireturn, 1) := by decide +kernel
theorem dX9_above_0 : decode cX9_above 0 = .ok (.iload_n 0, 1) := by decide +kernel
theorem dX9_above_1 : decode cX9_above 1 = .ok (.ifCond .lt 9, 3) := by decide +kernel
theorem dX9_above_4 : decode cX9_above 4 = .ok (.iload_n 0, 1) := by decide +kernel
theorem dX9_above_5 : decode cX9_above 5 = .ok (.bipush 7, 2) := by decide +kernel
theorem dX9_above_7 : decode cX9_above 7 = .ok (.if_icmp .lt 7, 3) := by decide +kernel
theorem dX9_above_10 : decode cX9_above 10 = .ok (.iconst (-1), 1) := by decide +kernel
theorem dX9_above_11 : decode cX9_above 11 = .ok (.goto 8, 3) := by decide +kernel
theorem dX9_above_14 : decode cX9_above 14 = .ok (.getstatic 296, 3) := by decide +kernel
theorem dX9_above_17 : decode cX9_above 17 = .ok (.iload_n 0, 1) := by decide +kernel
theorem dX9_above_18 : decode cX9_above 18 = .ok (.iaload, 1) := by decide +kernel
theorem dX9_above_19 : decode cX9_above 19 = .ok (.ireturn, 1) := by decide +kernel
theorem dX9_lawfulRow_0 : decode cX9_lawfulRow 0 = .ok (.aload_n 0, 1) := by decide +kernel
theorem dX9_lawfulRow_1 : decode cX9_lawfulRow 1 = .ok (.getfield 12, 3) := by decide +kernel
theorem dX9_lawfulRow_4 : decode cX9_lawfulRow 4 = .ok (.iload_n 1, 1) := by decide +kernel
theorem dX9_lawfulRow_5 : decode cX9_lawfulRow 5 = .ok (.invokevirtual 149, 3) := by decide +kernel
theorem dX9_lawfulRow_8 : decode cX9_lawfulRow 8 = .ok (.astore_n 2, 1) := by decide +kernel
theorem dX9_lawfulRow_9 : decode cX9_lawfulRow 9 = .ok (.aload_n 2, 1) := by decide +kernel
theorem dX9_lawfulRow_10 : decode cX9_lawfulRow 10 = .ok (.ifnull 18, 3) := by decide +kernel
theorem dX9_lawfulRow_13 : decode cX9_lawfulRow 13 = .ok (.aload_n 0, 1) := by decide +kernel
theorem dX9_lawfulRow_14 : decode cX9_lawfulRow 14 = .ok (.getfield 42, 3) := by decide +kernel
theorem dX9_lawfulRow_17 : decode cX9_lawfulRow 17 = .ok (.aload_n 2, 1) := by decide +kernel
theorem dX9_lawfulRow_18 : decode cX9_lawfulRow 18 = .ok (.invokevirtual 209, 3) := by decide +kernel
theorem dX9_lawfulRow_21 : decode cX9_lawfulRow 21 = .ok (.ifCond .eq 7, 3) := by decide +kernel
theorem dX9_lawfulRow_24 : decode cX9_lawfulRow 24 = .ok (.aload_n 2, 1) := by decide +kernel
theorem dX9_lawfulRow_25 : decode cX9_lawfulRow 25 = .ok (.goto 4, 3) := by decide +kernel
theorem dX9_lawfulRow_28 : decode cX9_lawfulRow 28 = .ok (.aconst_null, 1) := by decide +kernel
theorem dX9_lawfulRow_29 : decode cX9_lawfulRow 29 = .ok (.areturn, 1) := by decide +kernel
theorem dX9_measured_0 : decode cX9_measured 0 = .ok (.aload_n 0, 1) := by decide +kernel
theorem dX9_measured_1 : decode cX9_measured 1 = .ok (.invokevirtual 103, 3) := by decide +kernel
theorem dX9_measured_4 : decode cX9_measured 4 = .ok (.aload_n 0, 1) := by decide +kernel
theorem dX9_measured_5 : decode cX9_measured 5 = .ok (.iload_n 1, 1) := by decide +kernel
theorem dX9_measured_6 : decode cX9_measured 6 = .ok (.invokevirtual 173, 3) := by decide +kernel
theorem dX9_measured_9 : decode cX9_measured 9 = .ok (.astore_n 3, 1) := by decide +kernel
theorem dX9_measured_10 : decode cX9_measured 10 = .ok (.aload_n 0, 1) := by decide +kernel
theorem dX9_measured_11 : decode cX9_measured 11 = .ok (.iload_n 2, 1) := by decide +kernel
theorem dX9_measured_12 : decode cX9_measured 12 = .ok (.invokevirtual 173, 3) := by decide +kernel
theorem dX9_measured_15 : decode cX9_measured 15 = .ok (.astore 4, 2) := by decide +kernel
theorem dX9_measured_17 : decode cX9_measured 17 = .ok (.aload_n 3, 1) := by decide +kernel
theorem dX9_measured_18 : decode cX9_measured 18 = .ok (.ifnull 17, 3) := by decide +kernel
theorem dX9_measured_21 : decode cX9_measured 21 = .ok (.aload 4, 2) := by decide +kernel
theorem dX9_measured_23 : decode cX9_measured 23 = .ok (.ifnull 12, 3) := by decide +kernel
theorem dX9_measured_26 : decode cX9_measured 26 = .ok (.aload_n 3, 1) := by decide +kernel
theorem dX9_measured_27 : decode cX9_measured 27 = .ok (.aload 4, 2) := by decide +kernel
theorem dX9_measured_29 : decode cX9_measured 29 = .ok (.invokevirtual 234, 3) := by decide +kernel
theorem dX9_measured_32 : decode cX9_measured 32 = .ok (.ifCond .ne 5, 3) := by decide +kernel
theorem dX9_measured_35 : decode cX9_measured 35 = .ok (.iconst 0, 1) := by decide +kernel
theorem dX9_measured_36 : decode cX9_measured 36 = .ok (.ireturn, 1) := by decide +kernel
theorem dX9_measured_37 : decode cX9_measured 37 = .ok (.aload_n 0, 1) := by decide +kernel
theorem dX9_measured_38 : decode cX9_measured 38 = .ok (.getfield 49, 3) := by decide +kernel
theorem dX9_measured_41 : decode cX9_measured 41 = .ok (.aload_n 0, 1) := by decide +kernel
theorem dX9_measured_42 : decode cX9_measured 42 = .ok (.getfield 42, 3) := by decide +kernel
theorem dX9_measured_45 : decode cX9_measured 45 = .ok (.aload_n 3, 1) := by decide +kernel
theorem dX9_measured_46 : decode cX9_measured 46 = .ok (.aload 4, 2) := by decide +kernel
theorem dX9_measured_48 : decode cX9_measured 48 = .ok (.invokevirtual 299, 3) := by decide +kernel
theorem dX9_measured_51 : decode cX9_measured 51 = .ok (.iconst 1, 1) := by decide +kernel
theorem dX9_measured_52 : decode cX9_measured 52 = .ok (.ireturn, 1) := by decide +kernel
theorem dX9_beats_0 : decode cX9_beats 0 = .ok (.aload_n 1, 1) := by decide +kernel
theorem dX9_beats_1 : decode cX9_beats 1 = .ok (.aload_n 2, 1) := by decide +kernel
theorem dX9_beats_2 : decode cX9_beats 2 = .ok (.invokevirtual 234, 3) := by decide +kernel
theorem dX9_beats_5 : decode cX9_beats 5 = .ok (.ifCond .ne 5, 3) := by decide +kernel
theorem dX9_beats_8 : decode cX9_beats 8 = .ok (.iconst 0, 1) := by decide +kernel
theorem dX9_beats_9 : decode cX9_beats 9 = .ok (.ireturn, 1) := by decide +kernel
theorem dX9_beats_10 : decode cX9_beats 10 = .ok (.aload_n 0, 1) := by decide +kernel
theorem dX9_beats_11 : decode cX9_beats 11 = .ok (.getfield 49, 3) := by decide +kernel
theorem dX9_beats_14 : decode cX9_beats 14 = .ok (.aload_n 0, 1) := by decide +kernel
theorem dX9_beats_15 : decode cX9_beats 15 = .ok (.getfield 42, 3) := by decide +kernel
theorem dX9_beats_18 : decode cX9_beats 18 = .ok (.aload_n 1, 1) := by decide +kernel
theorem dX9_beats_19 : decode cX9_beats 19 = .ok (.aload_n 2, 1) := by decide +kernel
theorem dX9_beats_20 : decode cX9_beats 20 = .ok (.invokevirtual 299, 3) := by decide +kernel
theorem dX9_beats_23 : decode cX9_beats 23 = .ok (.aload_n 0, 1) := by decide +kernel
theorem dX9_beats_24 : decode cX9_beats 24 = .ok (.getfield 49, 3) := by decide +kernel
theorem dX9_beats_27 : decode cX9_beats 27 = .ok (.getfield 196, 3) := by decide +kernel
theorem dX9_beats_30 : decode cX9_beats 30 = .ok (.aload_n 0, 1) := by decide +kernel
theorem dX9_beats_31 : decode cX9_beats 31 = .ok (.getfield 49, 3) := by decide +kernel
theorem dX9_beats_34 : decode cX9_beats 34 = .ok (.getfield 303, 3) := by decide +kernel
theorem dX9_beats_37 : decode cX9_beats 37 = .ok (.lcmp, 1) := by decide +kernel
theorem dX9_beats_38 : decode cX9_beats 38 = .ok (.ifCond .le 7, 3) := by decide +kernel
theorem dX9_beats_41 : decode cX9_beats 41 = .ok (.iconst 1, 1) := by decide +kernel
theorem dX9_beats_42 : decode cX9_beats 42 = .ok (.goto 4, 3) := by decide +kernel
theorem dX9_beats_45 : decode cX9_beats 45 = .ok (.iconst 0, 1) := by decide +kernel
theorem dX9_beats_46 : decode cX9_beats 46 = .ok (.ireturn, 1) := by decide +kernel
theorem dX9_lengthen_0 : decode cX9_lengthen 0 = .ok (.iload_n 1, 1) := by decide +kernel
theorem dX9_lengthen_1 : decode cX9_lengthen 1 = .ok (.ifCond .ge 10, 3) := by decide +kernel
theorem dX9_lengthen_4 : decode cX9_lengthen 4 = .ok (.aload_n 0, 1) := by decide +kernel
theorem dX9_lengthen_5 : decode cX9_lengthen 5 = .ok (.iconst 0, 1) := by decide +kernel
theorem dX9_lengthen_6 : decode cX9_lengthen 6 = .ok (.invokevirtual 145, 3) := by decide +kernel
theorem dX9_lengthen_9 : decode cX9_lengthen 9 = .ok (.iconst 0, 1) := by decide +kernel
theorem dX9_lengthen_10 : decode cX9_lengthen 10 = .ok (.ireturn, 1) := by decide +kernel
theorem dX9_lengthen_11 : decode cX9_lengthen 11 = .ok (.aload_n 0, 1) := by decide +kernel
theorem dX9_lengthen_12 : decode cX9_lengthen 12 = .ok (.getfield 130, 3) := by decide +kernel
theorem dX9_lengthen_15 : decode cX9_lengthen 15 = .ok (.iload_n 2, 1) := by decide +kernel
theorem dX9_lengthen_16 : decode cX9_lengthen 16 = .ok (.if_icmp .lt 6, 3) := by decide +kernel
theorem dX9_lengthen_19 : decode cX9_lengthen 19 = .ok (.bipush (-4), 2) := by decide +kernel
theorem dX9_lengthen_21 : decode cX9_lengthen 21 = .ok (.ireturn, 1) := by decide +kernel
theorem dX9_lengthen_22 : decode cX9_lengthen 22 = .ok (.aload_n 0, 1) := by decide +kernel
theorem dX9_lengthen_23 : decode cX9_lengthen 23 = .ok (.iload_n 1, 1) := by decide +kernel
theorem dX9_lengthen_24 : decode cX9_lengthen 24 = .ok (.invokevirtual 306, 3) := by decide +kernel
theorem dX9_lengthen_27 : decode cX9_lengthen 27 = .ok (.aload_n 0, 1) := by decide +kernel
theorem dX9_lengthen_28 : decode cX9_lengthen 28 = .ok (.getfield 130, 3) := by decide +kernel
theorem dX9_lengthen_31 : decode cX9_lengthen 31 = .ok (.ireturn, 1) := by decide +kernel
theorem dX9_partOfRow_0 : decode cX9_partOfRow 0 = .ok (.aload_n 0, 1) := by decide +kernel
theorem dX9_partOfRow_1 : decode cX9_partOfRow 1 = .ok (.ifnonnull 5, 3) := by decide +kernel
theorem dX9_partOfRow_4 : decode cX9_partOfRow 4 = .ok (.iconst (-1), 1) := by decide +kernel
theorem dX9_partOfRow_5 : decode cX9_partOfRow 5 = .ok (.ireturn, 1) := by decide +kernel
theorem dX9_partOfRow_6 : decode cX9_partOfRow 6 = .ok (.iload_n 1, 1) := by decide +kernel
theorem dX9_partOfRow_7 : decode cX9_partOfRow 7 = .ok (.iconst (-1), 1) := by decide +kernel
theorem dX9_partOfRow_8 : decode cX9_partOfRow 8 = .ok (.if_icmp .ne 10, 3) := by decide +kernel
theorem dX9_partOfRow_11 : decode cX9_partOfRow 11 = .ok (.aload_n 0, 1) := by decide +kernel
theorem dX9_partOfRow_12 : decode cX9_partOfRow 12 = .ok (.getfield 130, 3) := by decide +kernel
theorem dX9_partOfRow_15 : decode cX9_partOfRow 15 = .ok (.goto 8, 3) := by decide +kernel
theorem dX9_partOfRow_18 : decode cX9_partOfRow 18 = .ok (.aload_n 0, 1) := by decide +kernel
theorem dX9_partOfRow_19 : decode cX9_partOfRow 19 = .ok (.iload_n 1, 1) := by decide +kernel
theorem dX9_partOfRow_20 : decode cX9_partOfRow 20 = .ok (.invokevirtual 223, 3) := by decide +kernel
theorem dX9_partOfRow_23 : decode cX9_partOfRow 23 = .ok (.ireturn, 1) := by decide +kernel
theorem dX9_pickedBy_0 : decode cX9_pickedBy 0 = .ok (.aload_n 0, 1) := by decide +kernel
theorem dX9_pickedBy_1 : decode cX9_pickedBy 1 = .ok (.getfield 12, 3) := by decide +kernel
theorem dX9_pickedBy_4 : decode cX9_pickedBy 4 = .ok (.getfield 284, 3) := by decide +kernel
theorem dX9_pickedBy_7 : decode cX9_pickedBy 7 = .ok (.iload_n 1, 1) := by decide +kernel
theorem dX9_pickedBy_8 : decode cX9_pickedBy 8 = .ok (.iaload, 1) := by decide +kernel
theorem dX9_pickedBy_9 : decode cX9_pickedBy 9 = .ok (.iconst 4, 1) := by decide +kernel
theorem dX9_pickedBy_10 : decode cX9_pickedBy 10 = .ok (.irem, 1) := by decide +kernel
theorem dX9_pickedBy_11 : decode cX9_pickedBy 11 = .ok (.iconst 1, 1) := by decide +kernel
theorem dX9_pickedBy_12 : decode cX9_pickedBy 12 = .ok (.iadd, 1) := by decide +kernel
theorem dX9_pickedBy_13 : decode cX9_pickedBy 13 = .ok (.istore_n 3, 1) := by decide +kernel
theorem dX9_pickedBy_14 : decode cX9_pickedBy 14 = .ok (.aload_n 0, 1) := by decide +kernel
theorem dX9_pickedBy_15 : decode cX9_pickedBy 15 = .ok (.getfield 12, 3) := by decide +kernel
theorem dX9_pickedBy_18 : decode cX9_pickedBy 18 = .ok (.getfield 167, 3) := by decide +kernel
theorem dX9_pickedBy_21 : decode cX9_pickedBy 21 = .ok (.iload_n 1, 1) := by decide +kernel
theorem dX9_pickedBy_22 : decode cX9_pickedBy 22 = .ok (.iaload, 1) := by decide +kernel
theorem dX9_pickedBy_23 : decode cX9_pickedBy 23 = .ok (.tableswitch 196 1 6 #[37, 53, 69, 84, 120, 156], 37) := by decide +kernel
theorem dX9_pickedBy_60 : decode cX9_pickedBy 60 = .ok (.aload_n 0, 1) := by decide +kernel
theorem dX9_pickedBy_61 : decode cX9_pickedBy 61 = .ok (.getfield 56, 3) := by decide +kernel
theorem dX9_pickedBy_64 : decode cX9_pickedBy 64 = .ok (.aload_n 0, 1) := by decide +kernel
theorem dX9_pickedBy_65 : decode cX9_pickedBy 65 = .ok (.getfield 42, 3) := by decide +kernel
theorem dX9_pickedBy_68 : decode cX9_pickedBy 68 = .ok (.iload_n 3, 1) := by decide +kernel
theorem dX9_pickedBy_69 : decode cX9_pickedBy 69 = .ok (.iconst 0, 1) := by decide +kernel
theorem dX9_pickedBy_70 : decode cX9_pickedBy 70 = .ok (.invokevirtual 309, 3) := by decide +kernel
theorem dX9_pickedBy_73 : decode cX9_pickedBy 73 = .ok (.goto 157, 3) := by decide +kernel
theorem dX9_pickedBy_76 : decode cX9_pickedBy 76 = .ok (.aload_n 0, 1) := by decide +kernel
theorem dX9_pickedBy_77 : decode cX9_pickedBy 77 = .ok (.getfield 56, 3) := by decide +kernel
theorem dX9_pickedBy_80 : decode cX9_pickedBy 80 = .ok (.aload_n 0, 1) := by decide +kernel
theorem dX9_pickedBy_81 : decode cX9_pickedBy 81 = .ok (.getfield 42, 3) := by decide +kernel
theorem dX9_pickedBy_84 : decode cX9_pickedBy 84 = .ok (.iload_n 3, 1) := by decide +kernel
theorem dX9_pickedBy_85 : decode cX9_pickedBy 85 = .ok (.iconst 1, 1) := by decide +kernel
theorem dX9_pickedBy_86 : decode cX9_pickedBy 86 = .ok (.invokevirtual 309, 3) := by decide +kernel
theorem dX9_pickedBy_89 : decode cX9_pickedBy 89 = .ok (.goto 141, 3) := by decide +kernel
theorem dX9_pickedBy_92 : decode cX9_pickedBy 92 = .ok (.aload_n 0, 1) := by decide +kernel
theorem dX9_pickedBy_93 : decode cX9_pickedBy 93 = .ok (.getfield 56, 3) := by decide +kernel
theorem dX9_pickedBy_96 : decode cX9_pickedBy 96 = .ok (.aload_n 0, 1) := by decide +kernel
theorem dX9_pickedBy_97 : decode cX9_pickedBy 97 = .ok (.getfield 42, 3) := by decide +kernel
theorem dX9_pickedBy_100 : decode cX9_pickedBy 100 = .ok (.aload_n 2, 1) := by decide +kernel
theorem dX9_pickedBy_101 : decode cX9_pickedBy 101 = .ok (.invokevirtual 313, 3) := by decide +kernel
theorem dX9_pickedBy_104 : decode cX9_pickedBy 104 = .ok (.goto 126, 3) := by decide +kernel
theorem dX9_pickedBy_107 : decode cX9_pickedBy 107 = .ok (.aload_n 0, 1) := by decide +kernel
theorem dX9_pickedBy_108 : decode cX9_pickedBy 108 = .ok (.getfield 56, 3) := by decide +kernel
theorem dX9_pickedBy_111 : decode cX9_pickedBy 111 = .ok (.aload_n 0, 1) := by decide +kernel
theorem dX9_pickedBy_112 : decode cX9_pickedBy 112 = .ok (.getfield 42, 3) := by decide +kernel
theorem dX9_pickedBy_115 : decode cX9_pickedBy 115 = .ok (.aload_n 0, 1) := by decide +kernel
theorem dX9_pickedBy_116 : decode cX9_pickedBy 116 = .ok (.getfield 49, 3) := by decide +kernel
theorem dX9_pickedBy_119 : decode cX9_pickedBy 119 = .ok (.aload_n 2, 1) := by decide +kernel
theorem dX9_pickedBy_120 : decode cX9_pickedBy 120 = .ok (.iload_n 3, 1) := by decide +kernel
theorem dX9_pickedBy_121 : decode cX9_pickedBy 121 = .ok (.invokevirtual 216, 3) := by decide +kernel
theorem dX9_pickedBy_124 : decode cX9_pickedBy 124 = .ok (.ifCond .ne 106, 3) := by decide +kernel
theorem dX9_pickedBy_127 : decode cX9_pickedBy 127 = .ok (.aload_n 0, 1) := by decide +kernel
theorem dX9_pickedBy_128 : decode cX9_pickedBy 128 = .ok (.getfield 56, 3) := by decide +kernel
theorem dX9_pickedBy_131 : decode cX9_pickedBy 131 = .ok (.aload_n 0, 1) := by decide +kernel
theorem dX9_pickedBy_132 : decode cX9_pickedBy 132 = .ok (.getfield 42, 3) := by decide +kernel
theorem dX9_pickedBy_135 : decode cX9_pickedBy 135 = .ok (.iload_n 3, 1) := by decide +kernel
theorem dX9_pickedBy_136 : decode cX9_pickedBy 136 = .ok (.iconst 0, 1) := by decide +kernel
theorem dX9_pickedBy_137 : decode cX9_pickedBy 137 = .ok (.invokevirtual 309, 3) := by decide +kernel
theorem dX9_pickedBy_140 : decode cX9_pickedBy 140 = .ok (.goto 90, 3) := by decide +kernel
theorem dX9_pickedBy_143 : decode cX9_pickedBy 143 = .ok (.aload_n 0, 1) := by decide +kernel
theorem dX9_pickedBy_144 : decode cX9_pickedBy 144 = .ok (.getfield 56, 3) := by decide +kernel
theorem dX9_pickedBy_147 : decode cX9_pickedBy 147 = .ok (.aload_n 0, 1) := by decide +kernel
theorem dX9_pickedBy_148 : decode cX9_pickedBy 148 = .ok (.getfield 42, 3) := by decide +kernel
theorem dX9_pickedBy_151 : decode cX9_pickedBy 151 = .ok (.aload_n 0, 1) := by decide +kernel
theorem dX9_pickedBy_152 : decode cX9_pickedBy 152 = .ok (.getfield 49, 3) := by decide +kernel
theorem dX9_pickedBy_155 : decode cX9_pickedBy 155 = .ok (.aload_n 2, 1) := by decide +kernel
theorem dX9_pickedBy_156 : decode cX9_pickedBy 156 = .ok (.iload_n 3, 1) := by decide +kernel
theorem dX9_pickedBy_157 : decode cX9_pickedBy 157 = .ok (.invokevirtual 317, 3) := by decide +kernel
theorem dX9_pickedBy_160 : decode cX9_pickedBy 160 = .ok (.ifCond .ne 70, 3) := by decide +kernel
theorem dX9_pickedBy_163 : decode cX9_pickedBy 163 = .ok (.aload_n 0, 1) := by decide +kernel
theorem dX9_pickedBy_164 : decode cX9_pickedBy 164 = .ok (.getfield 56, 3) := by decide +kernel
theorem dX9_pickedBy_167 : decode cX9_pickedBy 167 = .ok (.aload_n 0, 1) := by decide +kernel
theorem dX9_pickedBy_168 : decode cX9_pickedBy 168 = .ok (.getfield 42, 3) := by decide +kernel
theorem dX9_pickedBy_171 : decode cX9_pickedBy 171 = .ok (.iload_n 3, 1) := by decide +kernel
theorem dX9_pickedBy_172 : decode cX9_pickedBy 172 = .ok (.iconst 1, 1) := by decide +kernel
theorem dX9_pickedBy_173 : decode cX9_pickedBy 173 = .ok (.invokevirtual 309, 3) := by decide +kernel
theorem dX9_pickedBy_176 : decode cX9_pickedBy 176 = .ok (.goto 54, 3) := by decide +kernel
theorem dX9_pickedBy_179 : decode cX9_pickedBy 179 = .ok (.aload_n 0, 1) := by decide +kernel
theorem dX9_pickedBy_180 : decode cX9_pickedBy 180 = .ok (.getfield 12, 3) := by decide +kernel
theorem dX9_pickedBy_183 : decode cX9_pickedBy 183 = .ok (.getfield 170, 3) := by decide +kernel
theorem dX9_pickedBy_186 : decode cX9_pickedBy 186 = .ok (.iload_n 1, 1) := by decide +kernel
theorem dX9_pickedBy_187 : decode cX9_pickedBy 187 = .ok (.aaload, 1) := by decide +kernel
theorem dX9_pickedBy_188 : decode cX9_pickedBy 188 = .ok (.getfield 130, 3) := by decide +kernel
theorem dX9_pickedBy_191 : decode cX9_pickedBy 191 = .ok (.ifCond .le 13, 3) := by decide +kernel
theorem dX9_pickedBy_194 : decode cX9_pickedBy 194 = .ok (.aload_n 0, 1) := by decide +kernel
theorem dX9_pickedBy_195 : decode cX9_pickedBy 195 = .ok (.getfield 12, 3) := by decide +kernel
theorem dX9_pickedBy_198 : decode cX9_pickedBy 198 = .ok (.getfield 170, 3) := by decide +kernel
theorem dX9_pickedBy_201 : decode cX9_pickedBy 201 = .ok (.iload_n 1, 1) := by decide +kernel
theorem dX9_pickedBy_202 : decode cX9_pickedBy 202 = .ok (.aaload, 1) := by decide +kernel
theorem dX9_pickedBy_203 : decode cX9_pickedBy 203 = .ok (.areturn, 1) := by decide +kernel
theorem dX9_pickedBy_204 : decode cX9_pickedBy 204 = .ok (.aload_n 0, 1) := by decide +kernel
theorem dX9_pickedBy_205 : decode cX9_pickedBy 205 = .ok (.getfield 56, 3) := by decide +kernel
theorem dX9_pickedBy_208 : decode cX9_pickedBy 208 = .ok (.aload_n 0, 1) := by decide +kernel
theorem dX9_pickedBy_209 : decode cX9_pickedBy 209 = .ok (.getfield 42, 3) := by decide +kernel
theorem dX9_pickedBy_212 : decode cX9_pickedBy 212 = .ok (.aload_n 2, 1) := by decide +kernel
theorem dX9_pickedBy_213 : decode cX9_pickedBy 213 = .ok (.invokevirtual 313, 3) := by decide +kernel
theorem dX9_pickedBy_216 : decode cX9_pickedBy 216 = .ok (.goto 14, 3) := by decide +kernel
theorem dX9_pickedBy_219 : decode cX9_pickedBy 219 = .ok (.aload_n 0, 1) := by decide +kernel
theorem dX9_pickedBy_220 : decode cX9_pickedBy 220 = .ok (.getfield 56, 3) := by decide +kernel
theorem dX9_pickedBy_223 : decode cX9_pickedBy 223 = .ok (.getfield 220, 3) := by decide +kernel
theorem dX9_pickedBy_226 : decode cX9_pickedBy 226 = .ok (.iload_n 3, 1) := by decide +kernel
theorem dX9_pickedBy_227 : decode cX9_pickedBy 227 = .ok (.invokevirtual 145, 3) := by decide +kernel
theorem dX9_pickedBy_230 : decode cX9_pickedBy 230 = .ok (.aload_n 0, 1) := by decide +kernel
theorem dX9_pickedBy_231 : decode cX9_pickedBy 231 = .ok (.getfield 56, 3) := by decide +kernel
theorem dX9_pickedBy_234 : decode cX9_pickedBy 234 = .ok (.getfield 220, 3) := by decide +kernel
theorem dX9_pickedBy_237 : decode cX9_pickedBy 237 = .ok (.areturn, 1) := by decide +kernel
theorem dX9_fairest_0 : decode cX9_fairest 0 = .ok (.iconst 0, 1) := by decide +kernel
theorem dX9_fairest_1 : decode cX9_fairest 1 = .ok (.istore_n 3, 1) := by decide +kernel
theorem dX9_fairest_2 : decode cX9_fairest 2 = .ok (.lconst 0, 1) := by decide +kernel
theorem dX9_fairest_3 : decode cX9_fairest 3 = .ok (.lstore 4, 2) := by decide +kernel
theorem dX9_fairest_5 : decode cX9_fairest 5 = .ok (.lconst 1, 1) := by decide +kernel
theorem dX9_fairest_6 : decode cX9_fairest 6 = .ok (.lstore 6, 2) := by decide +kernel
theorem dX9_fairest_8 : decode cX9_fairest 8 = .ok (.iconst 1, 1) := by decide +kernel
theorem dX9_fairest_9 : decode cX9_fairest 9 = .ok (.istore 8, 2) := by decide +kernel
theorem dX9_fairest_11 : decode cX9_fairest 11 = .ok (.iload 8, 2) := by decide +kernel
theorem dX9_fairest_13 : decode cX9_fairest 13 = .ok (.bipush 9, 2) := by decide +kernel
theorem dX9_fairest_15 : decode cX9_fairest 15 = .ok (.if_icmp .gt 90, 3) := by decide +kernel
theorem dX9_fairest_18 : decode cX9_fairest 18 = .ok (.aload_n 0, 1) := by decide +kernel
theorem dX9_fairest_19 : decode cX9_fairest 19 = .ok (.getfield 42, 3) := by decide +kernel
theorem dX9_fairest_22 : decode cX9_fairest 22 = .ok (.iload 8, 2) := by decide +kernel
theorem dX9_fairest_24 : decode cX9_fairest 24 = .ok (.invokevirtual 320, 3) := by decide +kernel
theorem dX9_fairest_27 : decode cX9_fairest 27 = .ok (.aload_n 0, 1) := by decide +kernel
theorem dX9_fairest_28 : decode cX9_fairest 28 = .ok (.getfield 49, 3) := by decide +kernel
theorem dX9_fairest_31 : decode cX9_fairest 31 = .ok (.aload_n 0, 1) := by decide +kernel
theorem dX9_fairest_32 : decode cX9_fairest 32 = .ok (.getfield 42, 3) := by decide +kernel
theorem dX9_fairest_35 : decode cX9_fairest 35 = .ok (.aload_n 1, 1) := by decide +kernel
theorem dX9_fairest_36 : decode cX9_fairest 36 = .ok (.aload_n 2, 1) := by decide +kernel
theorem dX9_fairest_37 : decode cX9_fairest 37 = .ok (.invokevirtual 299, 3) := by decide +kernel
theorem dX9_fairest_40 : decode cX9_fairest 40 = .ok (.aload_n 0, 1) := by decide +kernel
theorem dX9_fairest_41 : decode cX9_fairest 41 = .ok (.getfield 49, 3) := by decide +kernel
theorem dX9_fairest_44 : decode cX9_fairest 44 = .ok (.getfield 196, 3) := by decide +kernel
theorem dX9_fairest_47 : decode cX9_fairest 47 = .ok (.aload_n 0, 1) := by decide +kernel
theorem dX9_fairest_48 : decode cX9_fairest 48 = .ok (.getfield 49, 3) := by decide +kernel
theorem dX9_fairest_51 : decode cX9_fairest 51 = .ok (.getfield 303, 3) := by decide +kernel
theorem dX9_fairest_54 : decode cX9_fairest 54 = .ok (.lsub, 1) := by decide +kernel
theorem dX9_fairest_55 : decode cX9_fairest 55 = .ok (.invokestatic 323, 3) := by decide +kernel
theorem dX9_fairest_58 : decode cX9_fairest 58 = .ok (.lstore 9, 2) := by decide +kernel
theorem dX9_fairest_60 : decode cX9_fairest 60 = .ok (.iload_n 3, 1) := by decide +kernel
theorem dX9_fairest_61 : decode cX9_fairest 61 = .ok (.ifCond .eq 22, 3) := by decide +kernel
theorem dX9_fairest_64 : decode cX9_fairest 64 = .ok (.lload 9, 2) := by decide +kernel
theorem dX9_fairest_66 : decode cX9_fairest 66 = .ok (.aload_n 0, 1) := by decide +kernel
theorem dX9_fairest_67 : decode cX9_fairest 67 = .ok (.getfield 49, 3) := by decide +kernel
theorem dX9_fairest_70 : decode cX9_fairest 70 = .ok (.getfield 200, 3) := by decide +kernel
theorem dX9_fairest_73 : decode cX9_fairest 73 = .ok (.lload 4, 2) := by decide +kernel
theorem dX9_fairest_75 : decode cX9_fairest 75 = .ok (.lload 6, 2) := by decide +kernel
theorem dX9_fairest_77 : decode cX9_fairest 77 = .ok (.invokestatic 327, 3) := by decide +kernel
theorem dX9_fairest_80 : decode cX9_fairest 80 = .ok (.ifCond .ge 19, 3) := by decide +kernel
theorem dX9_fairest_83 : decode cX9_fairest 83 = .ok (.iload 8, 2) := by decide +kernel
theorem dX9_fairest_85 : decode cX9_fairest 85 = .ok (.istore_n 3, 1) := by decide +kernel
theorem dX9_fairest_86 : decode cX9_fairest 86 = .ok (.lload 9, 2) := by decide +kernel
theorem dX9_fairest_88 : decode cX9_fairest 88 = .ok (.lstore 4, 2) := by decide +kernel
theorem dX9_fairest_90 : decode cX9_fairest 90 = .ok (.aload_n 0, 1) := by decide +kernel
theorem dX9_fairest_91 : decode cX9_fairest 91 = .ok (.getfield 49, 3) := by decide +kernel
theorem dX9_fairest_94 : decode cX9_fairest 94 = .ok (.getfield 200, 3) := by decide +kernel
theorem dX9_fairest_97 : decode cX9_fairest 97 = .ok (.lstore 6, 2) := by decide +kernel
theorem dX9_fairest_99 : decode cX9_fairest 99 = .ok (.iinc 8 1, 3) := by decide +kernel
theorem dX9_fairest_102 : decode cX9_fairest 102 = .ok (.goto (-91), 3) := by decide +kernel
theorem dX9_fairest_105 : decode cX9_fairest 105 = .ok (.iload_n 3, 1) := by decide +kernel
theorem dX9_fairest_106 : decode cX9_fairest 106 = .ok (.ireturn, 1) := by decide +kernel
theorem dX9_fraction_0 : decode cX9_fraction 0 = .ok (.lload_n 0, 1) := by decide +kernel
theorem dX9_fraction_1 : decode cX9_fraction 1 = .ok (.invokestatic 323, 3) := by decide +kernel
theorem dX9_fraction_4 : decode cX9_fraction 4 = .ok (.lload_n 2, 1) := by decide +kernel
theorem dX9_fraction_5 : decode cX9_fraction 5 = .ok (.invokestatic 323, 3) := by decide +kernel
theorem dX9_fraction_8 : decode cX9_fraction 8 = .ok (.invokestatic 331, 3) := by decide +kernel
theorem dX9_fraction_11 : decode cX9_fraction 11 = .ok (.lstore 5, 2) := by decide +kernel
theorem dX9_fraction_13 : decode cX9_fraction 13 = .ok (.lload 5, 2) := by decide +kernel
theorem dX9_fraction_15 : decode cX9_fraction 15 = .ok (.lconst 0, 1) := by decide +kernel
theorem dX9_fraction_16 : decode cX9_fraction 16 = .ok (.lcmp, 1) := by decide +kernel
theorem dX9_fraction_17 : decode cX9_fraction 17 = .ok (.ifCond .ne 7, 3) := by decide +kernel
theorem dX9_fraction_20 : decode cX9_fraction 20 = .ok (.ldc2_w 179, 3) := by decide +kernel
theorem dX9_fraction_23 : decode cX9_fraction 23 = .ok (.lreturn, 1) := by decide +kernel
theorem dX9_fraction_24 : decode cX9_fraction 24 = .ok (.iload 4, 2) := by decide +kernel
theorem dX9_fraction_26 : decode cX9_fraction 26 = .ok (.ifCond .ne 7, 3) := by decide +kernel
theorem dX9_fraction_29 : decode cX9_fraction 29 = .ok (.lload_n 0, 1) := by decide +kernel
theorem dX9_fraction_30 : decode cX9_fraction 30 = .ok (.goto 4, 3) := by decide +kernel
theorem dX9_fraction_33 : decode cX9_fraction 33 = .ok (.lload_n 2, 1) := by decide +kernel
theorem dX9_fraction_34 : decode cX9_fraction 34 = .ok (.lload 5, 2) := by decide +kernel
theorem dX9_fraction_36 : decode cX9_fraction 36 = .ok (.ldiv, 1) := by decide +kernel
theorem dX9_fraction_37 : decode cX9_fraction 37 = .ok (.lreturn, 1) := by decide +kernel
theorem dX9_divisor_0 : decode cX9_divisor 0 = .ok (.lload_n 0, 1) := by decide +kernel
theorem dX9_divisor_1 : decode cX9_divisor 1 = .ok (.lstore 4, 2) := by decide +kernel
theorem dX9_divisor_3 : decode cX9_divisor 3 = .ok (.lload_n 2, 1) := by decide +kernel
theorem dX9_divisor_4 : decode cX9_divisor 4 = .ok (.lstore 6, 2) := by decide +kernel
theorem dX9_divisor_6 : decode cX9_divisor 6 = .ok (.iconst 0, 1) := by decide +kernel
theorem dX9_divisor_7 : decode cX9_divisor 7 = .ok (.istore 8, 2) := by decide +kernel
theorem dX9_divisor_9 : decode cX9_divisor 9 = .ok (.iload 8, 2) := by decide +kernel
theorem dX9_divisor_11 : decode cX9_divisor 11 = .ok (.sipush 200, 3) := by decide +kernel
theorem dX9_divisor_14 : decode cX9_divisor 14 = .ok (.if_icmp .ge 31, 3) := by decide +kernel
theorem dX9_divisor_17 : decode cX9_divisor 17 = .ok (.lload 6, 2) := by decide +kernel
theorem dX9_divisor_19 : decode cX9_divisor 19 = .ok (.lconst 0, 1) := by decide +kernel
theorem dX9_divisor_20 : decode cX9_divisor 20 = .ok (.lcmp, 1) := by decide +kernel
theorem dX9_divisor_21 : decode cX9_divisor 21 = .ok (.ifCond .eq 24, 3) := by decide +kernel
theorem dX9_divisor_24 : decode cX9_divisor 24 = .ok (.lload 4, 2) := by decide +kernel
theorem dX9_divisor_26 : decode cX9_divisor 26 = .ok (.lload 6, 2) := by decide +kernel
theorem dX9_divisor_28 : decode cX9_divisor 28 = .ok (.lrem, 1) := by decide +kernel
theorem dX9_divisor_29 : decode cX9_divisor 29 = .ok (.lstore 9, 2) := by decide +kernel
theorem dX9_divisor_31 : decode cX9_divisor 31 = .ok (.lload 6, 2) := by decide +kernel
theorem dX9_divisor_33 : decode cX9_divisor 33 = .ok (.lstore 4, 2) := by decide +kernel
theorem dX9_divisor_35 : decode cX9_divisor 35 = .ok (.lload 9, 2) := by decide +kernel
theorem dX9_divisor_37 : decode cX9_divisor 37 = .ok (.lstore 6, 2) := by decide +kernel
theorem dX9_divisor_39 : decode cX9_divisor 39 = .ok (.iinc 8 1, 3) := by decide +kernel
theorem dX9_divisor_42 : decode cX9_divisor 42 = .ok (.goto (-33), 3) := by decide +kernel
