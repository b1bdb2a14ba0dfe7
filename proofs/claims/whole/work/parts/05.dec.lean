theorem dX4_reckon_170 : decode cX4_reckon 170 = .ok (.iastore, 1) := by decide +kernel
theorem dX4_reckon_171 : decode cX4_reckon 171 = .ok (.goto 115, 3) := by decide +kernel
theorem dX4_reckon_174 : decode cX4_reckon 174 = .ok (.aload_n 0, 1) := by decide +kernel
theorem dX4_reckon_175 : decode cX4_reckon 175 = .ok (.getfield 22, 3) := by decide +kernel
theorem dX4_reckon_178 : decode cX4_reckon 178 = .ok (.iload_n 1, 1) := by decide +kernel
theorem dX4_reckon_179 : decode cX4_reckon 179 = .ok (.iaload, 1) := by decide +kernel
theorem dX4_reckon_180 : decode cX4_reckon 180 = .ok (.iconst 1, 1) := by decide +kernel
theorem dX4_reckon_181 : decode cX4_reckon 181 = .ok (.if_icmp .ne 35, 3) := by decide +kernel
theorem dX4_reckon_184 : decode cX4_reckon 184 = .ok (.aload_n 0, 1) := by decide +kernel
theorem dX4_reckon_185 : decode cX4_reckon 185 = .ok (.getfield 37, 3) := by decide +kernel
theorem dX4_reckon_188 : decode cX4_reckon 188 = .ok (.iload_n 1, 1) := by decide +kernel
theorem dX4_reckon_189 : decode cX4_reckon 189 = .ok (.aload_n 0, 1) := by decide +kernel
theorem dX4_reckon_190 : decode cX4_reckon 190 = .ok (.getfield 37, 3) := by decide +kernel
theorem dX4_reckon_193 : decode cX4_reckon 193 = .ok (.aload_n 0, 1) := by decide +kernel
theorem dX4_reckon_194 : decode cX4_reckon 194 = .ok (.getfield 25, 3) := by decide +kernel
theorem dX4_reckon_197 : decode cX4_reckon 197 = .ok (.iload_n 1, 1) := by decide +kernel
theorem dX4_reckon_198 : decode cX4_reckon 198 = .ok (.iaload, 1) := by decide +kernel
theorem dX4_reckon_199 : decode cX4_reckon 199 = .ok (.iaload, 1) := by decide +kernel
theorem dX4_reckon_200 : decode cX4_reckon 200 = .ok (.aload_n 0, 1) := by decide +kernel
theorem dX4_reckon_201 : decode cX4_reckon 201 = .ok (.getfield 37, 3) := by decide +kernel
theorem dX4_reckon_204 : decode cX4_reckon 204 = .ok (.aload_n 0, 1) := by decide +kernel
theorem dX4_reckon_205 : decode cX4_reckon 205 = .ok (.getfield 28, 3) := by decide +kernel
theorem dX4_reckon_208 : decode cX4_reckon 208 = .ok (.iload_n 1, 1) := by decide +kernel
theorem dX4_reckon_209 : decode cX4_reckon 209 = .ok (.iaload, 1) := by decide +kernel
theorem dX4_reckon_210 : decode cX4_reckon 210 = .ok (.iaload, 1) := by decide +kernel
theorem dX4_reckon_211 : decode cX4_reckon 211 = .ok (.iand, 1) := by decide +kernel
theorem dX4_reckon_212 : decode cX4_reckon 212 = .ok (.iastore, 1) := by decide +kernel
theorem dX4_reckon_213 : decode cX4_reckon 213 = .ok (.goto 73, 3) := by decide +kernel
theorem dX4_reckon_216 : decode cX4_reckon 216 = .ok (.aload_n 0, 1) := by decide +kernel
theorem dX4_reckon_217 : decode cX4_reckon 217 = .ok (.getfield 22, 3) := by decide +kernel
theorem dX4_reckon_220 : decode cX4_reckon 220 = .ok (.iload_n 1, 1) := by decide +kernel
theorem dX4_reckon_221 : decode cX4_reckon 221 = .ok (.iaload, 1) := by decide +kernel
theorem dX4_reckon_222 : decode cX4_reckon 222 = .ok (.iconst 2, 1) := by decide +kernel
theorem dX4_reckon_223 : decode cX4_reckon 223 = .ok (.if_icmp .ne 35, 3) := by decide +kernel
theorem dX4_reckon_226 : decode cX4_reckon 226 = .ok (.aload_n 0, 1) := by decide +kernel
theorem dX4_reckon_227 : decode cX4_reckon 227 = .ok (.getfield 37, 3) := by decide +kernel
theorem dX4_reckon_230 : decode cX4_reckon 230 = .ok (.iload_n 1, 1) := by decide +kernel
theorem dX4_reckon_231 : decode cX4_reckon 231 = .ok (.aload_n 0, 1) := by decide +kernel
theorem dX4_reckon_232 : decode cX4_reckon 232 = .ok (.getfield 37, 3) := by decide +kernel
theorem dX4_reckon_235 : decode cX4_reckon 235 = .ok (.aload_n 0, 1) := by decide +kernel
theorem dX4_reckon_236 : decode cX4_reckon 236 = .ok (.getfield 25, 3) := by decide +kernel
theorem dX4_reckon_239 : decode cX4_reckon 239 = .ok (.iload_n 1, 1) := by decide +kernel
theorem dX4_reckon_240 : decode cX4_reckon 240 = .ok (.iaload, 1) := by decide +kernel
theorem dX4_reckon_241 : decode cX4_reckon 241 = .ok (.iaload, 1) := by decide +kernel
theorem dX4_reckon_242 : decode cX4_reckon 242 = .ok (.aload_n 0, 1) := by decide +kernel
theorem dX4_reckon_243 : decode cX4_reckon 243 = .ok (.getfield 37, 3) := by decide +kernel
theorem dX4_reckon_246 : decode cX4_reckon 246 = .ok (.aload_n 0, 1) := by decide +kernel
theorem dX4_reckon_247 : decode cX4_reckon 247 = .ok (.getfield 28, 3) := by decide +kernel
theorem dX4_reckon_250 : decode cX4_reckon 250 = .ok (.iload_n 1, 1) := by decide +kernel
theorem dX4_reckon_251 : decode cX4_reckon 251 = .ok (.iaload, 1) := by decide +kernel
theorem dX4_reckon_252 : decode cX4_reckon 252 = .ok (.iaload, 1) := by decide +kernel
theorem dX4_reckon_253 : decode cX4_reckon 253 = .ok (.ior, 1) := by decide +kernel
theorem dX4_reckon_254 : decode cX4_reckon 254 = .ok (.iastore, 1) := by decide +kernel
theorem dX4_reckon_255 : decode cX4_reckon 255 = .ok (.goto 31, 3) := by decide +kernel
theorem dX4_reckon_258 : decode cX4_reckon 258 = .ok (.aload_n 0, 1) := by decide +kernel
theorem dX4_reckon_259 : decode cX4_reckon 259 = .ok (.getfield 37, 3) := by decide +kernel
theorem dX4_reckon_262 : decode cX4_reckon 262 = .ok (.iload_n 1, 1) := by decide +kernel
theorem dX4_reckon_263 : decode cX4_reckon 263 = .ok (.aload_n 0, 1) := by decide +kernel
theorem dX4_reckon_264 : decode cX4_reckon 264 = .ok (.getfield 37, 3) := by decide +kernel
theorem dX4_reckon_267 : decode cX4_reckon 267 = .ok (.aload_n 0, 1) := by decide +kernel
theorem dX4_reckon_268 : decode cX4_reckon 268 = .ok (.getfield 25, 3) := by decide +kernel
theorem dX4_reckon_271 : decode cX4_reckon 271 = .ok (.iload_n 1, 1) := by decide +kernel
theorem dX4_reckon_272 : decode cX4_reckon 272 = .ok (.iaload, 1) := by decide +kernel
theorem dX4_reckon_273 : decode cX4_reckon 273 = .ok (.iaload, 1) := by decide +kernel
theorem dX4_reckon_274 : decode cX4_reckon 274 = .ok (.iconst (-1), 1) := by decide +kernel
theorem dX4_reckon_275 : decode cX4_reckon 275 = .ok (.ixor, 1) := by decide +kernel
theorem dX4_reckon_276 : decode cX4_reckon 276 = .ok (.iconst 1, 1) := by decide +kernel
theorem dX4_reckon_277 : decode cX4_reckon 277 = .ok (.aload_n 0, 1) := by decide +kernel
theorem dX4_reckon_278 : decode cX4_reckon 278 = .ok (.getfield 51, 3) := by decide +kernel
theorem dX4_reckon_281 : decode cX4_reckon 281 = .ok (.ishl, 1) := by decide +kernel
theorem dX4_reckon_282 : decode cX4_reckon 282 = .ok (.iconst 1, 1) := by decide +kernel
theorem dX4_reckon_283 : decode cX4_reckon 283 = .ok (.isub, 1) := by decide +kernel
theorem dX4_reckon_284 : decode cX4_reckon 284 = .ok (.iand, 1) := by decide +kernel
theorem dX4_reckon_285 : decode cX4_reckon 285 = .ok (.iastore, 1) := by decide +kernel
theorem dX4_reckon_286 : decode cX4_reckon 286 = .ok (.iinc 1 1, 3) := by decide +kernel
theorem dX4_reckon_289 : decode cX4_reckon 289 = .ok (.goto (-152), 3) := by decide +kernel
theorem dX4_reckon_292 : decode cX4_reckon 292 = .ok (.return_, 1) := by decide +kernel
theorem dX4_addTag_0 : decode cX4_addTag 0 = .ok (.aload_n 0, 1) := by decide +kernel
theorem dX4_addTag_1 : decode cX4_addTag 1 = .ok (.iconst 0, 1) := by decide +kernel
theorem dX4_addTag_2 : decode cX4_addTag 2 = .ok (.putfield 40, 3) := by decide +kernel
theorem dX4_addTag_5 : decode cX4_addTag 5 = .ok (.aload_n 0, 1) := by decide +kernel
theorem dX4_addTag_6 : decode cX4_addTag 6 = .ok (.getfield 44, 3) := by decide +kernel
theorem dX4_addTag_9 : decode cX4_addTag 9 = .ok (.bipush 16, 2) := by decide +kernel
theorem dX4_addTag_11 : decode cX4_addTag 11 = .ok (.if_icmp .ne 9, 3) := by decide +kernel
theorem dX4_addTag_14 : decode cX4_addTag 14 = .ok (.aload_n 0, 1) := by decide +kernel
theorem dX4_addTag_15 : decode cX4_addTag 15 = .ok (.iconst 1, 1) := by decide +kernel
theorem dX4_addTag_16 : decode cX4_addTag 16 = .ok (.invokevirtual 68, 3) := by decide +kernel
theorem dX4_addTag_19 : decode cX4_addTag 19 = .ok (.ireturn, 1) := by decide +kernel
theorem dX4_addTag_20 : decode cX4_addTag 20 = .ok (.aload_n 0, 1) := by decide +kernel
theorem dX4_addTag_21 : decode cX4_addTag 21 = .ok (.getfield 9, 3) := by decide +kernel
theorem dX4_addTag_24 : decode cX4_addTag 24 = .ok (.aload_n 0, 1) := by decide +kernel
theorem dX4_addTag_25 : decode cX4_addTag 25 = .ok (.getfield 44, 3) := by decide +kernel
theorem dX4_addTag_28 : decode cX4_addTag 28 = .ok (.iconst (-1), 1) := by decide +kernel
theorem dX4_addTag_29 : decode cX4_addTag 29 = .ok (.iastore, 1) := by decide +kernel
theorem dX4_addTag_30 : decode cX4_addTag 30 = .ok (.aload_n 0, 1) := by decide +kernel
theorem dX4_addTag_31 : decode cX4_addTag 31 = .ok (.dup, 1) := by decide +kernel
theorem dX4_addTag_32 : decode cX4_addTag 32 = .ok (.getfield 44, 3) := by decide +kernel
theorem dX4_addTag_35 : decode cX4_addTag 35 = .ok (.iconst 1, 1) := by decide +kernel
theorem dX4_addTag_36 : decode cX4_addTag 36 = .ok (.iadd, 1) := by decide +kernel
theorem dX4_addTag_37 : decode cX4_addTag 37 = .ok (.putfield 44, 3) := by decide +kernel
theorem dX4_addTag_40 : decode cX4_addTag 40 = .ok (.aload_n 0, 1) := by decide +kernel
theorem dX4_addTag_41 : decode cX4_addTag 41 = .ok (.getfield 44, 3) := by decide +kernel
theorem dX4_addTag_44 : decode cX4_addTag 44 = .ok (.iconst 1, 1) := by decide +kernel
theorem dX4_addTag_45 : decode cX4_addTag 45 = .ok (.isub, 1) := by decide +kernel
theorem dX4_addTag_46 : decode cX4_addTag 46 = .ok (.ireturn, 1) := by decide +kernel
theorem dX4_canPut_0 : decode cX4_canPut 0 = .ok (.aload_n 0, 1) := by decide +kernel
theorem dX4_canPut_1 : decode cX4_canPut 1 = .ok (.aload_n 0, 1) := by decide +kernel
theorem dX4_canPut_2 : decode cX4_canPut 2 = .ok (.iload_n 1, 1) := by decide +kernel
theorem dX4_canPut_3 : decode cX4_canPut 3 = .ok (.invokevirtual 71, 3) := by decide +kernel
theorem dX4_canPut_6 : decode cX4_canPut 6 = .ok (.ifCond .eq 11, 3) := by decide +kernel
theorem dX4_canPut_9 : decode cX4_canPut 9 = .ok (.aload_n 0, 1) := by decide +kernel
theorem dX4_canPut_10 : decode cX4_canPut 10 = .ok (.iload_n 2, 1) := by decide +kernel
theorem dX4_canPut_11 : decode cX4_canPut 11 = .ok (.invokevirtual 71, 3) := by decide +kernel
theorem dX4_canPut_14 : decode cX4_canPut 14 = .ok (.ifCond .ne 7, 3) := by decide +kernel
theorem dX4_canPut_17 : decode cX4_canPut 17 = .ok (.iconst 1, 1) := by decide +kernel
theorem dX4_canPut_18 : decode cX4_canPut 18 = .ok (.goto 26, 3) := by decide +kernel
theorem dX4_canPut_21 : decode cX4_canPut 21 = .ok (.iload_n 1, 1) := by decide +kernel
theorem dX4_canPut_22 : decode cX4_canPut 22 = .ok (.iload_n 2, 1) := by decide +kernel
theorem dX4_canPut_23 : decode cX4_canPut 23 = .ok (.if_icmp .ne 7, 3) := by decide +kernel
theorem dX4_canPut_26 : decode cX4_canPut 26 = .ok (.iconst 2, 1) := by decide +kernel
theorem dX4_canPut_27 : decode cX4_canPut 27 = .ok (.goto 17, 3) := by decide +kernel
theorem dX4_canPut_30 : decode cX4_canPut 30 = .ok (.aload_n 0, 1) := by decide +kernel
theorem dX4_canPut_31 : decode cX4_canPut 31 = .ok (.iload_n 2, 1) := by decide +kernel
theorem dX4_canPut_32 : decode cX4_canPut 32 = .ok (.iload_n 1, 1) := by decide +kernel
theorem dX4_canPut_33 : decode cX4_canPut 33 = .ok (.invokevirtual 65, 3) := by decide +kernel
theorem dX4_canPut_36 : decode cX4_canPut 36 = .ok (.ifCond .eq 7, 3) := by decide +kernel
theorem dX4_canPut_39 : decode cX4_canPut 39 = .ok (.iconst 3, 1) := by decide +kernel
theorem dX4_canPut_40 : decode cX4_canPut 40 = .ok (.goto 4, 3) := by decide +kernel
theorem dX4_canPut_43 : decode cX4_canPut 43 = .ok (.iconst 0, 1) := by decide +kernel
theorem dX4_canPut_44 : decode cX4_canPut 44 = .ok (.putfield 40, 3) := by decide +kernel
theorem dX4_canPut_47 : decode cX4_canPut 47 = .ok (.aload_n 0, 1) := by decide +kernel
theorem dX4_canPut_48 : decode cX4_canPut 48 = .ok (.getfield 40, 3) := by decide +kernel
theorem dX4_canPut_51 : decode cX4_canPut 51 = .ok (.ifCond .ne 7, 3) := by decide +kernel
theorem dX4_canPut_54 : decode cX4_canPut 54 = .ok (.iconst 1, 1) := by decide +kernel
theorem dX4_canPut_55 : decode cX4_canPut 55 = .ok (.goto 4, 3) := by decide +kernel
theorem dX4_canPut_58 : decode cX4_canPut 58 = .ok (.iconst 0, 1) := by decide +kernel
theorem dX4_canPut_59 : decode cX4_canPut 59 = .ok (.ireturn, 1) := by decide +kernel
theorem dX4_putUnder_0 : decode cX4_putUnder 0 = .ok (.aload_n 0, 1) := by decide +kernel
theorem dX4_putUnder_1 : decode cX4_putUnder 1 = .ok (.iload_n 1, 1) := by decide +kernel
theorem dX4_putUnder_2 : decode cX4_putUnder 2 = .ok (.iload_n 2, 1) := by decide +kernel
theorem dX4_putUnder_3 : decode cX4_putUnder 3 = .ok (.invokevirtual 75, 3) := by decide +kernel
theorem dX4_putUnder_6 : decode cX4_putUnder 6 = .ok (.ifCond .ne 5, 3) := by decide +kernel
theorem dX4_putUnder_9 : decode cX4_putUnder 9 = .ok (.iconst 0, 1) := by decide +kernel
theorem dX4_putUnder_10 : decode cX4_putUnder 10 = .ok (.ireturn, 1) := by decide +kernel
theorem dX4_putUnder_11 : decode cX4_putUnder 11 = .ok (.aload_n 0, 1) := by decide +kernel
theorem dX4_putUnder_12 : decode cX4_putUnder 12 = .ok (.getfield 9, 3) := by decide +kernel
theorem dX4_putUnder_15 : decode cX4_putUnder 15 = .ok (.iload_n 1, 1) := by decide +kernel
theorem dX4_putUnder_16 : decode cX4_putUnder 16 = .ok (.iload_n 2, 1) := by decide +kernel
theorem dX4_putUnder_17 : decode cX4_putUnder 17 = .ok (.iastore, 1) := by decide +kernel
theorem dX4_putUnder_18 : decode cX4_putUnder 18 = .ok (.aload_n 0, 1) := by decide +kernel
theorem dX4_putUnder_19 : decode cX4_putUnder 19 = .ok (.iload_n 1, 1) := by decide +kernel
theorem dX4_putUnder_20 : decode cX4_putUnder 20 = .ok (.invokevirtual 57, 3) := by decide +kernel
theorem dX4_putUnder_23 : decode cX4_putUnder 23 = .ok (.invokestatic 78, 3) := by decide +kernel
theorem dX4_putUnder_26 : decode cX4_putUnder 26 = .ok (.ireturn, 1) := by decide +kernel
theorem dX4_freeTag_0 : decode cX4_freeTag 0 = .ok (.aload_n 0, 1) := by decide +kernel
theorem dX4_freeTag_1 : decode cX4_freeTag 1 = .ok (.iconst 0, 1) := by decide +kernel
theorem dX4_freeTag_2 : decode cX4_freeTag 2 = .ok (.putfield 40, 3) := by decide +kernel
theorem dX4_freeTag_5 : decode cX4_freeTag 5 = .ok (.aload_n 0, 1) := by decide +kernel
theorem dX4_freeTag_6 : decode cX4_freeTag 6 = .ok (.iload_n 1, 1) := by decide +kernel
theorem dX4_freeTag_7 : decode cX4_freeTag 7 = .ok (.invokevirtual 71, 3) := by decide +kernel
theorem dX4_freeTag_10 : decode cX4_freeTag 10 = .ok (.ifCond .ne 9, 3) := by decide +kernel
theorem dX4_freeTag_13 : decode cX4_freeTag 13 = .ok (.aload_n 0, 1) := by decide +kernel
theorem dX4_freeTag_14 : decode cX4_freeTag 14 = .ok (.iconst 1, 1) := by decide +kernel
theorem dX4_freeTag_15 : decode cX4_freeTag 15 = .ok (.invokevirtual 68, 3) := by decide +kernel
theorem dX4_freeTag_18 : decode cX4_freeTag 18 = .ok (.ireturn, 1) := by decide +kernel
theorem dX4_freeTag_19 : decode cX4_freeTag 19 = .ok (.aload_n 0, 1) := by decide +kernel
theorem dX4_freeTag_20 : decode cX4_freeTag 20 = .ok (.getfield 9, 3) := by decide +kernel
theorem dX4_freeTag_23 : decode cX4_freeTag 23 = .ok (.iload_n 1, 1) := by decide +kernel
theorem dX4_freeTag_24 : decode cX4_freeTag 24 = .ok (.iaload, 1) := by decide +kernel
theorem dX4_freeTag_25 : decode cX4_freeTag 25 = .ok (.iconst (-1), 1) := by decide +kernel
theorem dX4_freeTag_26 : decode cX4_freeTag 26 = .ok (.if_icmp .ne 9, 3) := by decide +kernel
theorem dX4_freeTag_29 : decode cX4_freeTag 29 = .ok (.aload_n 0, 1) := by decide +kernel
theorem dX4_freeTag_30 : decode cX4_freeTag 30 = .ok (.iconst 2, 1) := by decide +kernel
theorem dX4_freeTag_31 : decode cX4_freeTag 31 = .ok (.invokevirtual 68, 3) := by decide +kernel
theorem dX4_freeTag_34 : decode cX4_freeTag 34 = .ok (.ireturn, 1) := by decide +kernel
theorem dX4_freeTag_35 : decode cX4_freeTag 35 = .ok (.aload_n 0, 1) := by decide +kernel
theorem dX4_freeTag_36 : decode cX4_freeTag 36 = .ok (.getfield 9, 3) := by decide +kernel
theorem dX4_freeTag_39 : decode cX4_freeTag 39 = .ok (.iload_n 1, 1) := by decide +kernel
theorem dX4_freeTag_40 : decode cX4_freeTag 40 = .ok (.iaload, 1) := by decide +kernel
theorem dX4_freeTag_41 : decode cX4_freeTag 41 = .ok (.istore_n 2, 1) := by decide +kernel
theorem dX4_freeTag_42 : decode cX4_freeTag 42 = .ok (.aload_n 0, 1) := by decide +kernel
theorem dX4_freeTag_43 : decode cX4_freeTag 43 = .ok (.getfield 9, 3) := by decide +kernel
theorem dX4_freeTag_46 : decode cX4_freeTag 46 = .ok (.iload_n 1, 1) := by decide +kernel
theorem dX4_freeTag_47 : decode cX4_freeTag 47 = .ok (.iconst (-1), 1) := by decide +kernel
theorem dX4_freeTag_48 : decode cX4_freeTag 48 = .ok (.iastore, 1) := by decide +kernel
theorem dX4_freeTag_49 : decode cX4_freeTag 49 = .ok (.iload_n 2, 1) := by decide +kernel
theorem dX4_freeTag_50 : decode cX4_freeTag 50 = .ok (.ireturn, 1) := by decide +kernel
theorem dX4_addDream_0 : decode cX4_addDream 0 = .ok (.aload_n 0, 1) := by decide +kernel
theorem dX4_addDream_1 : decode cX4_addDream 1 = .ok (.iconst 0, 1) := by decide +kernel
theorem dX4_addDream_2 : decode cX4_addDream 2 = .ok (.putfield 40, 3) := by decide +kernel
theorem dX4_addDream_5 : decode cX4_addDream 5 = .ok (.aload_n 0, 1) := by decide +kernel
theorem dX4_addDream_6 : decode cX4_addDream 6 = .ok (.iload_n 1, 1) := by decide +kernel
theorem dX4_addDream_7 : decode cX4_addDream 7 = .ok (.invokevirtual 71, 3) := by decide +kernel
theorem dX4_addDream_10 : decode cX4_addDream 10 = .ok (.ifCond .ne 9, 3) := by decide +kernel
theorem dX4_addDream_13 : decode cX4_addDream 13 = .ok (.aload_n 0, 1) := by decide +kernel
theorem dX4_addDream_14 : decode cX4_addDream 14 = .ok (.iconst 1, 1) := by decide +kernel
theorem dX4_addDream_15 : decode cX4_addDream 15 = .ok (.invokevirtual 68, 3) := by decide +kernel
theorem dX4_addDream_18 : decode cX4_addDream 18 = .ok (.ireturn, 1) := by decide +kernel
theorem dX4_addDream_19 : decode cX4_addDream 19 = .ok (.iload_n 2, 1) := by decide +kernel
theorem dX4_addDream_20 : decode cX4_addDream 20 = .ok (.iconst 1, 1) := by decide +kernel
theorem dX4_addDream_21 : decode cX4_addDream 21 = .ok (.bipush 9, 2) := by decide +kernel
theorem dX4_addDream_23 : decode cX4_addDream 23 = .ok (.invokestatic 47, 3) := by decide +kernel
theorem dX4_addDream_26 : decode cX4_addDream 26 = .ok (.ifCond .ne 9, 3) := by decide +kernel
theorem dX4_addDream_29 : decode cX4_addDream 29 = .ok (.aload_n 0, 1) := by decide +kernel
theorem dX4_addDream_30 : decode cX4_addDream 30 = .ok (.iconst 2, 1) := by decide +kernel
theorem dX4_addDream_31 : decode cX4_addDream 31 = .ok (.invokevirtual 68, 3) := by decide +kernel
theorem dX4_addDream_34 : decode cX4_addDream 34 = .ok (.ireturn, 1) := by decide +kernel
theorem dX4_addDream_35 : decode cX4_addDream 35 = .ok (.aload_n 0, 1) := by decide +kernel
theorem dX4_addDream_36 : decode cX4_addDream 36 = .ok (.getfield 51, 3) := by decide +kernel
theorem dX4_addDream_39 : decode cX4_addDream 39 = .ok (.bipush 24, 2) := by decide +kernel
theorem dX4_addDream_41 : decode cX4_addDream 41 = .ok (.if_icmp .ne 9, 3) := by decide +kernel
theorem dX4_addDream_44 : decode cX4_addDream 44 = .ok (.aload_n 0, 1) := by decide +kernel
theorem dX4_addDream_45 : decode cX4_addDream 45 = .ok (.iconst 3, 1) := by decide +kernel
theorem dX4_addDream_46 : decode cX4_addDream 46 = .ok (.invokevirtual 68, 3) := by decide +kernel
theorem dX4_addDream_49 : decode cX4_addDream 49 = .ok (.ireturn, 1) := by decide +kernel
theorem dX4_addDream_50 : decode cX4_addDream 50 = .ok (.aload_n 0, 1) := by decide +kernel
theorem dX4_addDream_51 : decode cX4_addDream 51 = .ok (.getfield 13, 3) := by decide +kernel
theorem dX4_addDream_54 : decode cX4_addDream 54 = .ok (.aload_n 0, 1) := by decide +kernel
theorem dX4_addDream_55 : decode cX4_addDream 55 = .ok (.getfield 51, 3) := by decide +kernel
theorem dX4_addDream_58 : decode cX4_addDream 58 = .ok (.iconst 1, 1) := by decide +kernel
theorem dX4_addDream_59 : decode cX4_addDream 59 = .ok (.iload_n 1, 1) := by decide +kernel
theorem dX4_addDream_60 : decode cX4_addDream 60 = .ok (.ishl, 1) := by decide +kernel
theorem dX4_addDream_61 : decode cX4_addDream 61 = .ok (.iastore, 1) := by decide +kernel
theorem dX4_addDream_62 : decode cX4_addDream 62 = .ok (.aload_n 0, 1) := by decide +kernel
theorem dX4_addDream_63 : decode cX4_addDream 63 = .ok (.getfield 16, 3) := by decide +kernel
theorem dX4_addDream_66 : decode cX4_addDream 66 = .ok (.aload_n 0, 1) := by decide +kernel
theorem dX4_addDream_67 : decode cX4_addDream 67 = .ok (.getfield 51, 3) := by decide +kernel
theorem dX4_addDream_70 : decode cX4_addDream 70 = .ok (.iload_n 2, 1) := by decide +kernel
theorem dX4_addDream_71 : decode cX4_addDream 71 = .ok (.iastore, 1) := by decide +kernel
theorem dX4_addDream_72 : decode cX4_addDream 72 = .ok (.aload_n 0, 1) := by decide +kernel
theorem dX4_addDream_73 : decode cX4_addDream 73 = .ok (.getfield 19, 3) := by decide +kernel
theorem dX4_addDream_76 : decode cX4_addDream 76 = .ok (.aload_n 0, 1) := by decide +kernel
theorem dX4_addDream_77 : decode cX4_addDream 77 = .ok (.getfield 51, 3) := by decide +kernel
theorem dX4_addDream_80 : decode cX4_addDream 80 = .ok (.aload_n 0, 1) := by decide +kernel
theorem dX4_addDream_81 : decode cX4_addDream 81 = .ok (.getfield 81, 3) := by decide +kernel
theorem dX4_addDream_84 : decode cX4_addDream 84 = .ok (.iastore, 1) := by decide +kernel
theorem dX4_addDream_85 : decode cX4_addDream 85 = .ok (.aload_n 0, 1) := by decide +kernel
theorem dX4_addDream_86 : decode cX4_addDream 86 = .ok (.dup, 1) := by decide +kernel
theorem dX4_addDream_87 : decode cX4_addDream 87 = .ok (.getfield 51, 3) := by decide +kernel
theorem dX4_addDream_90 : decode cX4_addDream 90 = .ok (.iconst 1, 1) := by decide +kernel
theorem dX4_addDream_91 : decode cX4_addDream 91 = .ok (.iadd, 1) := by decide +kernel
theorem dX4_addDream_92 : decode cX4_addDream 92 = .ok (.putfield 51, 3) := by decide +kernel
theorem dX4_addDream_95 : decode cX4_addDream 95 = .ok (.aload_n 0, 1) := by decide +kernel
theorem dX4_addDream_96 : decode cX4_addDream 96 = .ok (.getfield 51, 3) := by decide +kernel
theorem dX4_addDream_99 : decode cX4_addDream 99 = .ok (.iconst 1, 1) := by decide +kernel
theorem dX4_addDream_100 : decode cX4_addDream 100 = .ok (.isub, 1) := by decide +kernel
theorem dX4_addDream_101 : decode cX4_addDream 101 = .ok (.ireturn, 1) := by decide +kernel
theorem dX4_changed_0 : decode cX4_changed 0 = .ok (.aload_n 0, 1) := by decide +kernel
theorem dX4_changed_1 : decode cX4_changed 1 = .ok (.getfield 13, 3) := by decide +kernel
theorem dX4_changed_4 : decode cX4_changed 4 = .ok (.iload_n 1, 1) := by decide +kernel
theorem dX4_changed_5 : decode cX4_changed 5 = .ok (.dup2, 1) := by decide +kernel
theorem dX4_changed_6 : decode cX4_changed 6 = .ok (.iaload, 1) := by decide +kernel
theorem dX4_changed_7 : decode cX4_changed 7 = .ok (.iconst 1, 1) := by decide +kernel
theorem dX4_changed_8 : decode cX4_changed 8 = .ok (.iload_n 2, 1) := by decide +kernel
theorem dX4_changed_9 : decode cX4_changed 9 = .ok (.ishl, 1) := by decide +kernel
theorem dX4_changed_10 : decode cX4_changed 10 = .ok (.ixor, 1) := by decide +kernel
theorem dX4_changed_11 : decode cX4_changed 11 = .ok (.iastore, 1) := by decide +kernel
theorem dX4_changed_12 : decode cX4_changed 12 = .ok (.aload_n 0, 1) := by decide +kernel
theorem dX4_changed_13 : decode cX4_changed 13 = .ok (.getfield 13, 3) := by decide +kernel
theorem dX4_changed_16 : decode cX4_changed 16 = .ok (.iload_n 1, 1) := by decide +kernel
theorem dX4_changed_17 : decode cX4_changed 17 = .ok (.iaload, 1) := by decide +kernel
theorem dX4_changed_18 : decode cX4_changed 18 = .ok (.invokestatic 78, 3) := by decide +kernel
theorem dX4_changed_21 : decode cX4_changed 21 = .ok (.ireturn, 1) := by decide +kernel
theorem dX4_tagDream_0 : decode cX4_tagDream 0 = .ok (.aload_n 0, 1) := by decide +kernel
theorem dX4_tagDream_1 : decode cX4_tagDream 1 = .ok (.iconst 0, 1) := by decide +kernel
theorem dX4_tagDream_2 : decode cX4_tagDream 2 = .ok (.putfield 40, 3) := by decide +kernel
theorem dX4_tagDream_5 : decode cX4_tagDream 5 = .ok (.aload_n 0, 1) := by decide +kernel
theorem dX4_tagDream_6 : decode cX4_tagDream 6 = .ok (.iload_n 1, 1) := by decide +kernel
theorem dX4_tagDream_7 : decode cX4_tagDream 7 = .ok (.invokevirtual 84, 3) := by decide +kernel
theorem dX4_tagDream_10 : decode cX4_tagDream 10 = .ok (.ifCond .eq 11, 3) := by decide +kernel
theorem dX4_tagDream_13 : decode cX4_tagDream 13 = .ok (.aload_n 0, 1) := by decide +kernel
theorem dX4_tagDream_14 : decode cX4_tagDream 14 = .ok (.iload_n 2, 1) := by decide +kernel
theorem dX4_tagDream_15 : decode cX4_tagDream 15 = .ok (.invokevirtual 71, 3) := by decide +kernel
theorem dX4_tagDream_18 : decode cX4_tagDream 18 = .ok (.ifCond .ne 9, 3) := by decide +kernel
theorem dX4_tagDream_21 : decode cX4_tagDream 21 = .ok (.aload_n 0, 1) := by decide +kernel
theorem dX4_tagDream_22 : decode cX4_tagDream 22 = .ok (.iconst 1, 1) := by decide +kernel
theorem dX4_tagDream_23 : decode cX4_tagDream 23 = .ok (.invokevirtual 68, 3) := by decide +kernel
theorem dX4_tagDream_26 : decode cX4_tagDream 26 = .ok (.ireturn, 1) := by decide +kernel
theorem dX4_tagDream_27 : decode cX4_tagDream 27 = .ok (.aload_n 0, 1) := by decide +kernel
theorem dX4_tagDream_28 : decode cX4_tagDream 28 = .ok (.getfield 13, 3) := by decide +kernel
theorem dX4_tagDream_31 : decode cX4_tagDream 31 = .ok (.iload_n 1, 1) := by decide +kernel
theorem dX4_tagDream_32 : decode cX4_tagDream 32 = .ok (.iaload, 1) := by decide +kernel
theorem dX4_tagDream_33 : decode cX4_tagDream 33 = .ok (.iload_n 2, 1) := by decide +kernel
theorem dX4_tagDream_34 : decode cX4_tagDream 34 = .ok (.invokestatic 61, 3) := by decide +kernel
theorem dX4_tagDream_37 : decode cX4_tagDream 37 = .ok (.ifCond .eq 11, 3) := by decide +kernel
theorem dX4_tagDream_40 : decode cX4_tagDream 40 = .ok (.aload_n 0, 1) := by decide +kernel
theorem dX4_tagDream_41 : decode cX4_tagDream 41 = .ok (.iconst 2, 1) := by decide +kernel
theorem dX4_tagDream_42 : decode cX4_tagDream 42 = .ok (.invokevirtual 68, 3) := by decide +kernel
theorem dX4_tagDream_45 : decode cX4_tagDream 45 = .ok (.goto 9, 3) := by decide +kernel
theorem dX4_tagDream_48 : decode cX4_tagDream 48 = .ok (.aload_n 0, 1) := by decide +kernel
theorem dX4_tagDream_49 : decode cX4_tagDream 49 = .ok (.iload_n 1, 1) := by decide +kernel
theorem dX4_tagDream_50 : decode cX4_tagDream 50 = .ok (.iload_n 2, 1) := by decide +kernel
theorem dX4_tagDream_51 : decode cX4_tagDream 51 = .ok (.invokevirtual 87, 3) := by decide +kernel
theorem dX4_tagDream_54 : decode cX4_tagDream 54 = .ok (.ireturn, 1) := by decide +kernel
theorem dX4_untagDream_0 : decode cX4_untagDream 0 = .ok (.aload_n 0, 1) := by decide +kernel
theorem dX4_untagDream_1 : decode cX4_untagDream 1 = .ok (.iconst 0, 1) := by decide +kernel
theorem dX4_untagDream_2 : decode cX4_untagDream 2 = .ok (.putfield 40, 3) := by decide +kernel
theorem dX4_untagDream_5 : decode cX4_untagDream 5 = .ok (.aload_n 0, 1) := by decide +kernel
theorem dX4_untagDream_6 : decode cX4_untagDream 6 = .ok (.iload_n 1, 1) := by decide +kernel
theorem dX4_untagDream_7 : decode cX4_untagDream 7 = .ok (.invokevirtual 84, 3) := by decide +kernel
theorem dX4_untagDream_10 : decode cX4_untagDream 10 = .ok (.ifCond .eq 11, 3) := by decide +kernel
theorem dX4_untagDream_13 : decode cX4_untagDream 13 = .ok (.aload_n 0, 1) := by decide +kernel
theorem dX4_untagDream_14 : decode cX4_untagDream 14 = .ok (.iload_n 2, 1) := by decide +kernel
theorem dX4_untagDream_15 : decode cX4_untagDream 15 = .ok (.invokevirtual 71, 3) := by decide +kernel
theorem dX4_untagDream_18 : decode cX4_untagDream 18 = .ok (.ifCond .ne 9, 3) := by decide +kernel
theorem dX4_untagDream_21 : decode cX4_untagDream 21 = .ok (.aload_n 0, 1) := by decide +kernel
theorem dX4_untagDream_22 : decode cX4_untagDream 22 = .ok (.iconst 1, 1) := by decide +kernel
theorem dX4_untagDream_23 : decode cX4_untagDream 23 = .ok (.invokevirtual 68, 3) := by decide +kernel
theorem dX4_untagDream_26 : decode cX4_untagDream 26 = .ok (.ireturn, 1) := by decide +kernel
theorem dX4_untagDream_27 : decode cX4_untagDream 27 = .ok (.aload_n 0, 1) := by decide +kernel
theorem dX4_untagDream_28 : decode cX4_untagDream 28 = .ok (.getfield 13, 3) := by decide +kernel
theorem dX4_untagDream_31 : decode cX4_untagDream 31 = .ok (.iload_n 1, 1) := by decide +kernel
theorem dX4_untagDream_32 : decode cX4_untagDream 32 = .ok (.iaload, 1) := by decide +kernel
theorem dX4_untagDream_33 : decode cX4_untagDream 33 = .ok (.iload_n 2, 1) := by decide +kernel
theorem dX4_untagDream_34 : decode cX4_untagDream 34 = .ok (.invokestatic 61, 3) := by decide +kernel
theorem dX4_untagDream_37 : decode cX4_untagDream 37 = .ok (.ifCond .eq 15, 3) := by decide +kernel
theorem dX4_untagDream_40 : decode cX4_untagDream 40 = .ok (.aload_n 0, 1) := by decide +kernel
theorem dX4_untagDream_41 : decode cX4_untagDream 41 = .ok (.getfield 13, 3) := by decide +kernel
theorem dX4_untagDream_44 : decode cX4_untagDream 44 = .ok (.iload_n 1, 1) := by decide +kernel
theorem dX4_untagDream_45 : decode cX4_untagDream 45 = .ok (.iaload, 1) := by decide +kernel
theorem dX4_untagDream_46 : decode cX4_untagDream 46 = .ok (.iconst 1, 1) := by decide +kernel
theorem dX4_untagDream_47 : decode cX4_untagDream 47 = .ok (.iload_n 2, 1) := by decide +kernel
theorem dX4_untagDream_48 : decode cX4_untagDream 48 = .ok (.ishl, 1) := by decide +kernel
theorem dX4_untagDream_49 : decode cX4_untagDream 49 = .ok (.if_icmp .ne 11, 3) := by decide +kernel
theorem dX4_untagDream_52 : decode cX4_untagDream 52 = .ok (.aload_n 0, 1) := by decide +kernel
theorem dX4_untagDream_53 : decode cX4_untagDream 53 = .ok (.iconst 2, 1) := by decide +kernel
theorem dX4_untagDream_54 : decode cX4_untagDream 54 = .ok (.invokevirtual 68, 3) := by decide +kernel
theorem dX4_untagDream_57 : decode cX4_untagDream 57 = .ok (.goto 9, 3) := by decide +kernel
theorem dX4_untagDream_60 : decode cX4_untagDream 60 = .ok (.aload_n 0, 1) := by decide +kernel
theorem dX4_untagDream_61 : decode cX4_untagDream 61 = .ok (.iload_n 1, 1) := by decide +kernel
theorem dX4_untagDream_62 : decode cX4_untagDream 62 = .ok (.iload_n 2, 1) := by decide +kernel
theorem dX4_untagDream_63 : decode cX4_untagDream 63 = .ok (.invokevirtual 87, 3) := by decide +kernel
theorem dX4_untagDream_66 : decode cX4_untagDream 66 = .ok (.ireturn, 1) := by decide +kernel
theorem dX4_recall_0 : decode cX4_recall 0 = .ok (.aload_n 0, 1) := by decide +kernel
theorem dX4_recall_1 : decode cX4_recall 1 = .ok (.iconst 0, 1) := by decide +kernel
theorem dX4_recall_2 : decode cX4_recall 2 = .ok (.putfield 40, 3) := by decide +kernel
theorem dX4_recall_5 : decode cX4_recall 5 = .ok (.aload_n 0, 1) := by decide +kernel
theorem dX4_recall_6 : decode cX4_recall 6 = .ok (.iload_n 1, 1) := by decide +kernel
theorem dX4_recall_7 : decode cX4_recall 7 = .ok (.invokevirtual 84, 3) := by decide +kernel
theorem dX4_recall_10 : decode cX4_recall 10 = .ok (.ifCond .ne 9, 3) := by decide +kernel
theorem dX4_recall_13 : decode cX4_recall 13 = .ok (.aload_n 0, 1) := by decide +kernel
theorem dX4_recall_14 : decode cX4_recall 14 = .ok (.iconst 1, 1) := by decide +kernel
theorem dX4_recall_15 : decode cX4_recall 15 = .ok (.invokevirtual 68, 3) := by decide +kernel
theorem dX4_recall_18 : decode cX4_recall 18 = .ok (.ireturn, 1) := by decide +kernel
theorem dX4_recall_19 : decode cX4_recall 19 = .ok (.iload_n 2, 1) := by decide +kernel
theorem dX4_recall_20 : decode cX4_recall 20 = .ok (.iconst 0, 1) := by decide +kernel
theorem dX4_recall_21 : decode cX4_recall 21 = .ok (.bipush 9, 2) := by decide +kernel
theorem dX4_recall_23 : decode cX4_recall 23 = .ok (.invokestatic 47, 3) := by decide +kernel
theorem dX4_recall_26 : decode cX4_recall 26 = .ok (.ifCond .ne 9, 3) := by decide +kernel
theorem dX4_recall_29 : decode cX4_recall 29 = .ok (.aload_n 0, 1) := by decide +kernel
theorem dX4_recall_30 : decode cX4_recall 30 = .ok (.iconst 2, 1) := by decide +kernel
theorem dX4_recall_31 : decode cX4_recall 31 = .ok (.invokevirtual 68, 3) := by decide +kernel
theorem dX4_recall_34 : decode cX4_recall 34 = .ok (.ireturn, 1) := by decide +kernel
theorem dX4_recall_35 : decode cX4_recall 35 = .ok (.aload_n 0, 1) := by decide +kernel
theorem dX4_recall_36 : decode cX4_recall 36 = .ok (.getfield 16, 3) := by decide +kernel
theorem dX4_recall_39 : decode cX4_recall 39 = .ok (.iload_n 1, 1) := by decide +kernel
theorem dX4_recall_40 : decode cX4_recall 40 = .ok (.iaload, 1) := by decide +kernel
theorem dX4_recall_41 : decode cX4_recall 41 = .ok (.istore_n 3, 1) := by decide +kernel
theorem dX4_recall_42 : decode cX4_recall 42 = .ok (.aload_n 0, 1) := by decide +kernel
theorem dX4_recall_43 : decode cX4_recall 43 = .ok (.getfield 16, 3) := by decide +kernel
theorem dX4_recall_46 : decode cX4_recall 46 = .ok (.iload_n 1, 1) := by decide +kernel
theorem dX4_recall_47 : decode cX4_recall 47 = .ok (.iload_n 2, 1) := by decide +kernel
theorem dX4_recall_48 : decode cX4_recall 48 = .ok (.iastore, 1) := by decide +kernel
theorem dX4_recall_49 : decode cX4_recall 49 = .ok (.iload_n 3, 1) := by decide +kernel
theorem dX4_recall_50 : decode cX4_recall 50 = .ok (.ireturn, 1) := by decide +kernel
theorem dX4_later_0 : decode cX4_later 0 = .ok (.iload_n 1, 1) := by decide +kernel
theorem dX4_later_1 : decode cX4_later 1 = .ok (.aload_n 0, 1) := by decide +kernel
theorem dX4_later_2 : decode cX4_later 2 = .ok (.getfield 51, 3) := by decide +kernel
theorem dX4_later_5 : decode cX4_later 5 = .ok (.iconst 1, 1) := by decide +kernel
theorem dX4_later_6 : decode cX4_later 6 = .ok (.isub, 1) := by decide +kernel
theorem dX4_later_7 : decode cX4_later 7 = .ok (.if_icmp .eq 24, 3) := by decide +kernel
theorem dX4_later_10 : decode cX4_later 10 = .ok (.aload_n 0, 1) := by decide +kernel
theorem dX4_later_11 : decode cX4_later 11 = .ok (.getfield 13, 3) := by decide +kernel
theorem dX4_later_14 : decode cX4_later 14 = .ok (.iload_n 1, 1) := by decide +kernel
theorem dX4_later_15 : decode cX4_later 15 = .ok (.iaload, 1) := by decide +kernel
theorem dX4_later_16 : decode cX4_later 16 = .ok (.aload_n 0, 1) := by decide +kernel
theorem dX4_later_17 : decode cX4_later 17 = .ok (.getfield 13, 3) := by decide +kernel
theorem dX4_later_20 : decode cX4_later 20 = .ok (.aload_n 0, 1) := by decide +kernel
theorem dX4_later_21 : decode cX4_later 21 = .ok (.getfield 51, 3) := by decide +kernel
theorem dX4_later_24 : decode cX4_later 24 = .ok (.iconst 1, 1) := by decide +kernel
theorem dX4_later_25 : decode cX4_later 25 = .ok (.isub, 1) := by decide +kernel
theorem dX4_later_26 : decode cX4_later 26 = .ok (.iaload, 1) := by decide +kernel
theorem dX4_later_27 : decode cX4_later 27 = .ok (.iand, 1) := by decide +kernel
theorem dX4_later_28 : decode cX4_later 28 = .ok (.ifCond .eq 7, 3) := by decide +kernel
theorem dX4_later_31 : decode cX4_later 31 = .ok (.iconst 1, 1) := by decide +kernel
theorem dX4_later_32 : decode cX4_later 32 = .ok (.goto 4, 3) := by decide +kernel
theorem dX4_later_35 : decode cX4_later 35 = .ok (.iconst 0, 1) := by decide +kernel
theorem dX4_later_36 : decode cX4_later 36 = .ok (.istore_n 3, 1) := by decide +kernel
theorem dX4_later_37 : decode cX4_later 37 = .ok (.iload_n 3, 1) := by decide +kernel
theorem dX4_later_38 : decode cX4_later 38 = .ok (.ifCond .eq 12, 3) := by decide +kernel
theorem dX4_later_41 : decode cX4_later 41 = .ok (.aload_n 0, 1) := by decide +kernel
theorem dX4_later_42 : decode cX4_later 42 = .ok (.getfield 16, 3) := by decide +kernel
theorem dX4_later_45 : decode cX4_later 45 = .ok (.iload_n 1, 1) := by decide +kernel
theorem dX4_later_46 : decode cX4_later 46 = .ok (.iaload, 1) := by decide +kernel
theorem dX4_later_47 : decode cX4_later 47 = .ok (.goto 15, 3) := by decide +kernel
theorem dX4_later_50 : decode cX4_later 50 = .ok (.iconst 0, 1) := by decide +kernel
theorem dX4_later_51 : decode cX4_later 51 = .ok (.aload_n 0, 1) := by decide +kernel
theorem dX4_later_52 : decode cX4_later 52 = .ok (.getfield 16, 3) := by decide +kernel
theorem dX4_later_55 : decode cX4_later 55 = .ok (.iload_n 1, 1) := by decide +kernel
theorem dX4_later_56 : decode cX4_later 56 = .ok (.iaload, 1) := by decide +kernel
theorem dX4_later_57 : decode cX4_later 57 = .ok (.iload_n 2, 1) := by decide +kernel
theorem dX4_later_58 : decode cX4_later 58 = .ok (.isub, 1) := by decide +kernel
theorem dX4_later_59 : decode cX4_later 59 = .ok (.invokestatic 91, 3) := by decide +kernel
theorem dX4_later_62 : decode cX4_later 62 = .ok (.ireturn, 1) := by decide +kernel
theorem dX4_faded_0 : decode cX4_faded 0 = .ok (.iconst 0, 1) := by decide +kernel
theorem dX4_faded_1 : decode cX4_faded 1 = .ok (.istore_n 2, 1) := by decide +kernel
theorem dX4_faded_2 : decode cX4_faded 2 = .ok (.iconst 0, 1) := by decide +kernel
theorem dX4_faded_3 : decode cX4_faded 3 = .ok (.istore_n 3, 1) := by decide +kernel
theorem dX4_faded_4 : decode cX4_faded 4 = .ok (.iload_n 3, 1) := by decide +kernel
theorem dX4_faded_5 : decode cX4_faded 5 = .ok (.aload_n 0, 1) := by decide +kernel
theorem dX4_faded_6 : decode cX4_faded 6 = .ok (.getfield 51, 3) := by decide +kernel
theorem dX4_faded_9 : decode cX4_faded 9 = .ok (.if_icmp .ge 26, 3) := by decide +kernel
theorem dX4_faded_12 : decode cX4_faded 12 = .ok (.iload_n 2, 1) := by decide +kernel
theorem dX4_faded_13 : decode cX4_faded 13 = .ok (.aload_n 0, 1) := by decide +kernel
theorem dX4_faded_14 : decode cX4_faded 14 = .ok (.iload_n 3, 1) := by decide +kernel
theorem dX4_faded_15 : decode cX4_faded 15 = .ok (.iload_n 1, 1) := by decide +kernel
theorem dX4_faded_16 : decode cX4_faded 16 = .ok (.invokevirtual 96, 3) := by decide +kernel
theorem dX4_faded_19 : decode cX4_faded 19 = .ok (.ifCond .ne 7, 3) := by decide +kernel
theorem dX4_faded_22 : decode cX4_faded 22 = .ok (.iconst 1, 1) := by decide +kernel
theorem dX4_faded_23 : decode cX4_faded 23 = .ok (.goto 4, 3) := by decide +kernel
theorem dX4_faded_26 : decode cX4_faded 26 = .ok (.iconst 0, 1) := by decide +kernel
theorem dX4_faded_27 : decode cX4_faded 27 = .ok (.iadd, 1) := by decide +kernel
theorem dX4_faded_28 : decode cX4_faded 28 = .ok (.istore_n 2, 1) := by decide +kernel
theorem dX4_faded_29 : decode cX4_faded 29 = .ok (.iinc 3 1, 3) := by decide +kernel
theorem dX4_faded_32 : decode cX4_faded 32 = .ok (.goto (-28), 3) := by decide +kernel
theorem dX4_faded_35 : decode cX4_faded 35 = .ok (.iload_n 2, 1) := by decide +kernel
theorem dX4_faded_36 : decode cX4_faded 36 = .ok (.ireturn, 1) := by decide +kernel
theorem dX4_passNights_0 : decode cX4_passNights 0 = .ok (.aload_n 0, 1) := by decide +kernel
theorem dX4_passNights_1 : decode cX4_passNights 1 = .ok (.iconst 0, 1) := by decide +kernel
theorem dX4_passNights_2 : decode cX4_passNights 2 = .ok (.putfield 40, 3) := by decide +kernel
theorem dX4_passNights_5 : decode cX4_passNights 5 = .ok (.iload_n 1, 1) := by decide +kernel
theorem dX4_passNights_6 : decode cX4_passNights 6 = .ok (.iconst 1, 1) := by decide +kernel
theorem dX4_passNights_7 : decode cX4_passNights 7 = .ok (.bipush 30, 2) := by decide +kernel
theorem dX4_passNights_9 : decode cX4_passNights 9 = .ok (.invokestatic 47, 3) := by decide +kernel
theorem dX4_passNights_12 : decode cX4_passNights 12 = .ok (.ifCond .ne 9, 3) := by decide +kernel
theorem dX4_passNights_15 : decode cX4_passNights 15 = .ok (.aload_n 0, 1) := by decide +kernel
theorem dX4_passNights_16 : decode cX4_passNights 16 = .ok (.iconst 1, 1) := by decide +kernel
theorem dX4_passNights_17 : decode cX4_passNights 17 = .ok (.invokevirtual 68, 3) := by decide +kernel
theorem dX4_passNights_20 : decode cX4_passNights 20 = .ok (.ireturn, 1) := by decide +kernel
theorem dX4_passNights_21 : decode cX4_passNights 21 = .ok (.iconst 0, 1) := by decide +kernel
theorem dX4_passNights_22 : decode cX4_passNights 22 = .ok (.istore_n 2, 1) := by decide +kernel
theorem dX4_passNights_23 : decode cX4_passNights 23 = .ok (.iload_n 2, 1) := by decide +kernel
theorem dX4_passNights_24 : decode cX4_passNights 24 = .ok (.aload_n 0, 1) := by decide +kernel
theorem dX4_passNights_25 : decode cX4_passNights 25 = .ok (.getfield 51, 3) := by decide +kernel
theorem dX4_passNights_28 : decode cX4_passNights 28 = .ok (.if_icmp .ge 21, 3) := by decide +kernel
theorem dX4_passNights_31 : decode cX4_passNights 31 = .ok (.aload_n 0, 1) := by decide +kernel
theorem dX4_passNights_32 : decode cX4_passNights 32 = .ok (.getfield 16, 3) := by decide +kernel
theorem dX4_passNights_35 : decode cX4_passNights 35 = .ok (.iload_n 2, 1) := by decide +kernel
theorem dX4_passNights_36 : decode cX4_passNights 36 = .ok (.aload_n 0, 1) := by decide +kernel
theorem dX4_passNights_37 : decode cX4_passNights 37 = .ok (.iload_n 2, 1) := by decide +kernel
theorem dX4_passNights_38 : decode cX4_passNights 38 = .ok (.iload_n 1, 1) := by decide +kernel
theorem dX4_passNights_39 : decode cX4_passNights 39 = .ok (.invokevirtual 96, 3) := by decide +kernel
theorem dX4_passNights_42 : decode cX4_passNights 42 = .ok (.iastore, 1) := by decide +kernel
theorem dX4_passNights_43 : decode cX4_passNights 43 = .ok (.iinc 2 1, 3) := by decide +kernel
theorem dX4_passNights_46 : decode cX4_passNights 46 = .ok (.goto (-23), 3) := by decide +kernel
theorem dX4_passNights_49 : decode cX4_passNights 49 = .ok (.aload_n 0, 1) := by decide +kernel
theorem dX4_passNights_50 : decode cX4_passNights 50 = .ok (.dup, 1) := by decide +kernel
theorem dX4_passNights_51 : decode cX4_passNights 51 = .ok (.getfield 81, 3) := by decide +kernel
theorem dX4_passNights_54 : decode cX4_passNights 54 = .ok (.iload_n 1, 1) := by decide +kernel
theorem dX4_passNights_55 : decode cX4_passNights 55 = .ok (.iadd, 1) := by decide +kernel
theorem dX4_passNights_56 : decode cX4_passNights 56 = .ok (.putfield 81, 3) := by decide +kernel
theorem dX4_passNights_59 : decode cX4_passNights 59 = .ok (.aload_n 0, 1) := by decide +kernel
theorem dX4_passNights_60 : decode cX4_passNights 60 = .ok (.iconst 0, 1) := by decide +kernel
theorem dX4_passNights_61 : decode cX4_passNights 61 = .ok (.invokevirtual 99, 3) := by decide +kernel
theorem dX4_passNights_64 : decode cX4_passNights 64 = .ok (.ireturn, 1) := by decide +kernel
theorem dX4_add_0 : decode cX4_add 0 = .ok (.aload_n 0, 1) := by decide +kernel
theorem dX4_add_1 : decode cX4_add 1 = .ok (.getfield 54, 3) := by decide +kernel
theorem dX4_add_4 : decode cX4_add 4 = .ok (.bipush 20, 2) := by decide +kernel
theorem dX4_add_6 : decode cX4_add 6 = .ok (.if_icmp .ne 9, 3) := by decide +kernel
theorem dX4_add_9 : decode cX4_add 9 = .ok (.aload_n 0, 1) := by decide +kernel
theorem dX4_add_10 : decode cX4_add 10 = .ok (.iconst 2, 1) := by decide +kernel
theorem dX4_add_11 : decode cX4_add 11 = .ok (.invokevirtual 68, 3) := by decide +kernel
theorem dX4_add_14 : decode cX4_add 14 = .ok (.ireturn, 1) := by decide +kernel
theorem dX4_add_15 : decode cX4_add 15 = .ok (.aload_n 0, 1) := by decide +kernel
theorem dX4_add_16 : decode cX4_add 16 = .ok (.getfield 22, 3) := by decide +kernel
theorem dX4_add_19 : decode cX4_add 19 = .ok (.aload_n 0, 1) := by decide +kernel
theorem dX4_add_20 : decode cX4_add 20 = .ok (.getfield 54, 3) := by decide +kernel
theorem dX4_add_23 : decode cX4_add 23 = .ok (.iload_n 1, 1) := by decide +kernel
theorem dX4_add_24 : decode cX4_add 24 = .ok (.iastore, 1) := by decide +kernel
theorem dX4_add_25 : decode cX4_add 25 = .ok (.aload_n 0, 1) := by decide +kernel
theorem dX4_add_26 : decode cX4_add 26 = .ok (.getfield 25, 3) := by decide +kernel
theorem dX4_add_29 : decode cX4_add 29 = .ok (.aload_n 0, 1) := by decide +kernel
theorem dX4_add_30 : decode cX4_add 30 = .ok (.getfield 54, 3) := by decide +kernel
theorem dX4_add_33 : decode cX4_add 33 = .ok (.iload_n 2, 1) := by decide +kernel
theorem dX4_add_34 : decode cX4_add 34 = .ok (.iastore, 1) := by decide +kernel
theorem dX4_add_35 : decode cX4_add 35 = .ok (.aload_n 0, 1) := by decide +kernel
theorem dX4_add_36 : decode cX4_add 36 = .ok (.getfield 28, 3) := by decide +kernel
theorem dX4_add_39 : decode cX4_add 39 = .ok (.aload_n 0, 1) := by decide +kernel
theorem dX4_add_40 : decode cX4_add 40 = .ok (.getfield 54, 3) := by decide +kernel
theorem dX4_add_43 : decode cX4_add 43 = .ok (.iload_n 3, 1) := by decide +kernel
theorem dX4_add_44 : decode cX4_add 44 = .ok (.iastore, 1) := by decide +kernel
theorem dX4_add_45 : decode cX4_add 45 = .ok (.aload_n 0, 1) := by decide +kernel
theorem dX4_add_46 : decode cX4_add 46 = .ok (.dup, 1) := by decide +kernel
theorem dX4_add_47 : decode cX4_add 47 = .ok (.getfield 54, 3) := by decide +kernel
theorem dX4_add_50 : decode cX4_add 50 = .ok (.iconst 1, 1) := by decide +kernel
theorem dX4_add_51 : decode cX4_add 51 = .ok (.iadd, 1) := by decide +kernel
theorem dX4_add_52 : decode cX4_add 52 = .ok (.putfield 54, 3) := by decide +kernel
theorem dX4_add_55 : decode cX4_add 55 = .ok (.aload_n 0, 1) := by decide +kernel
theorem dX4_add_56 : decode cX4_add 56 = .ok (.getfield 54, 3) := by decide +kernel
theorem dX4_add_59 : decode cX4_add 59 = .ok (.iconst 1, 1) := by decide +kernel
theorem dX4_add_60 : decode cX4_add 60 = .ok (.isub, 1) := by decide +kernel
theorem dX4_add_61 : decode cX4_add 61 = .ok (.ireturn, 1) := by decide +kernel
theorem dX4_addTagTerm_0 : decode cX4_addTagTerm 0 = .ok (.aload_n 0, 1) := by decide +kernel
theorem dX4_addTagTerm_1 : decode cX4_addTagTerm 1 = .ok (.iconst 0, 1) := by decide +kernel
theorem dX4_addTagTerm_2 : decode cX4_addTagTerm 2 = .ok (.putfield 40, 3) := by decide +kernel
theorem dX4_addTagTerm_5 : decode cX4_addTagTerm 5 = .ok (.aload_n 0, 1) := by decide +kernel
theorem dX4_addTagTerm_6 : decode cX4_addTagTerm 6 = .ok (.iload_n 1, 1) := by decide +kernel
theorem dX4_addTagTerm_7 : decode cX4_addTagTerm 7 = .ok (.invokevirtual 71, 3) := by decide +kernel
theorem dX4_addTagTerm_10 : decode cX4_addTagTerm 10 = .ok (.ifCond .eq 13, 3) := by decide +kernel
theorem dX4_addTagTerm_13 : decode cX4_addTagTerm 13 = .ok (.aload_n 0, 1) := by decide +kernel
theorem dX4_addTagTerm_14 : decode cX4_addTagTerm 14 = .ok (.iconst 0, 1) := by decide +kernel
theorem dX4_addTagTerm_15 : decode cX4_addTagTerm 15 = .ok (.iload_n 1, 1) := by decide +kernel
theorem dX4_addTagTerm_16 : decode cX4_addTagTerm 16 = .ok (.iconst 0, 1) := by decide +kernel
theorem dX4_addTagTerm_17 : decode cX4_addTagTerm 17 = .ok (.invokevirtual 102, 3) := by decide +kernel
theorem dX4_addTagTerm_20 : decode cX4_addTagTerm 20 = .ok (.goto 8, 3) := by decide +kernel
theorem dX4_addTagTerm_23 : decode cX4_addTagTerm 23 = .ok (.aload_n 0, 1) := by decide +kernel
theorem dX4_addTagTerm_24 : decode cX4_addTagTerm 24 = .ok (.iconst 1, 1) := by decide +kernel
theorem dX4_addTagTerm_25 : decode cX4_addTagTerm 25 = .ok (.invokevirtual 68, 3) := by decide +kernel
theorem dX4_addTagTerm_28 : decode cX4_addTagTerm 28 = .ok (.ireturn, 1) := by decide +kernel
theorem dX4_addBothTerm_0 : decode cX4_addBothTerm 0 = .ok (.aload_n 0, 1) := by decide +kernel
theorem dX4_addBothTerm_1 : decode cX4_addBothTerm 1 = .ok (.iconst 0, 1) := by decide +kernel
theorem dX4_addBothTerm_2 : decode cX4_addBothTerm 2 = .ok (.putfield 40, 3) := by decide +kernel
theorem dX4_addBothTerm_5 : decode cX4_addBothTerm 5 = .ok (.aload_n 0, 1) := by decide +kernel
theorem dX4_addBothTerm_6 : decode cX4_addBothTerm 6 = .ok (.iload_n 1, 1) := by decide +kernel
theorem dX4_addBothTerm_7 : decode cX4_addBothTerm 7 = .ok (.invokevirtual 106, 3) := by decide +kernel
theorem dX4_addBothTerm_10 : decode cX4_addBothTerm 10 = .ok (.ifCond .eq 21, 3) := by decide +kernel
theorem dX4_addBothTerm_13 : decode cX4_addBothTerm 13 = .ok (.aload_n 0, 1) := by decide +kernel
theorem dX4_addBothTerm_14 : decode cX4_addBothTerm 14 = .ok (.iload_n 2, 1) := by decide +kernel
theorem dX4_addBothTerm_15 : decode cX4_addBothTerm 15 = .ok (.invokevirtual 106, 3) := by decide +kernel
theorem dX4_addBothTerm_18 : decode cX4_addBothTerm 18 = .ok (.ifCond .eq 13, 3) := by decide +kernel
theorem dX4_addBothTerm_21 : decode cX4_addBothTerm 21 = .ok (.aload_n 0, 1) := by decide +kernel
theorem dX4_addBothTerm_22 : decode cX4_addBothTerm 22 = .ok (.iconst 1, 1) := by decide +kernel
theorem dX4_addBothTerm_23 : decode cX4_addBothTerm 23 = .ok (.iload_n 1, 1) := by decide +kernel
theorem dX4_addBothTerm_24 : decode cX4_addBothTerm 24 = .ok (.iload_n 2, 1) := by decide +kernel
theorem dX4_addBothTerm_25 : decode cX4_addBothTerm 25 = .ok (.invokevirtual 102, 3) := by decide +kernel
theorem dX4_addBothTerm_28 : decode cX4_addBothTerm 28 = .ok (.goto 8, 3) := by decide +kernel
theorem dX4_addBothTerm_31 : decode cX4_addBothTerm 31 = .ok (.aload_n 0, 1) := by decide +kernel
theorem dX4_addBothTerm_32 : decode cX4_addBothTerm 32 = .ok (.iconst 1, 1) := by decide +kernel
theorem dX4_addBothTerm_33 : decode cX4_addBothTerm 33 = .ok (.invokevirtual 68, 3) := by decide +kernel
theorem dX4_addBothTerm_36 : decode cX4_addBothTerm 36 = .ok (.ireturn, 1) := by decide +kernel
theorem dX4_addEitherTerm_0 : decode cX4_addEitherTerm 0 = .ok (.aload_n 0, 1) := by decide +kernel
theorem dX4_addEitherTerm_1 : decode cX4_addEitherTerm 1 = .ok (.iconst 0, 1) := by decide +kernel
theorem dX4_addEitherTerm_2 : decode cX4_addEitherTerm 2 = .ok (.putfield 40, 3) := by decide +kernel
theorem dX4_addEitherTerm_5 : decode cX4_addEitherTerm 5 = .ok (.aload_n 0, 1) := by decide +kernel
theorem dX4_addEitherTerm_6 : decode cX4_addEitherTerm 6 = .ok (.iload_n 1, 1) := by decide +kernel
theorem dX4_addEitherTerm_7 : decode cX4_addEitherTerm 7 = .ok (.invokevirtual 106, 3) := by decide +kernel
theorem dX4_addEitherTerm_10 : decode cX4_addEitherTerm 10 = .ok (.ifCond .eq 21, 3) := by decide +kernel
theorem dX4_addEitherTerm_13 : decode cX4_addEitherTerm 13 = .ok (.aload_n 0, 1) := by decide +kernel
theorem dX4_addEitherTerm_14 : decode cX4_addEitherTerm 14 = .ok (.iload_n 2, 1) := by decide +kernel
theorem dX4_addEitherTerm_15 : decode cX4_addEitherTerm 15 = .ok (.invokevirtual 106, 3) := by decide +kernel
theorem dX4_addEitherTerm_18 : decode cX4_addEitherTerm 18 = .ok (.ifCond .eq 13, 3) := by decide +kernel
theorem dX4_addEitherTerm_21 : decode cX4_addEitherTerm 21 = .ok (.aload_n 0, 1) := by decide +kernel
theorem dX4_addEitherTerm_22 : decode cX4_addEitherTerm 22 = .ok (.iconst 2, 1) := by decide +kernel
theorem dX4_addEitherTerm_23 : decode cX4_addEitherTerm 23 = .ok (.iload_n 1, 1) := by decide +kernel
theorem dX4_addEitherTerm_24 : decode cX4_addEitherTerm 24 = .ok (.iload_n 2, 1) := by decide +kernel
theorem dX4_addEitherTerm_25 : decode cX4_addEitherTerm 25 = .ok (.invokevirtual 102, 3) := by decide +kernel
theorem dX4_addEitherTerm_28 : decode cX4_addEitherTerm 28 = .ok (.goto 8, 3) := by decide +kernel
theorem dX4_addEitherTerm_31 : decode cX4_addEitherTerm 31 = .ok (.aload_n 0, 1) := by decide +kernel
theorem dX4_addEitherTerm_32 : decode cX4_addEitherTerm 32 = .ok (.iconst 1, 1) := by decide +kernel
theorem dX4_addEitherTerm_33 : decode cX4_addEitherTerm 33 = .ok (.invokevirtual 68, 3) := by decide +kernel
theorem dX4_addEitherTerm_36 : decode cX4_addEitherTerm 36 = .ok (.ireturn, 1) := by decide +kernel
theorem dX4_addWithoutTerm_0 : decode cX4_addWithoutTerm 0 = .ok (.aload_n 0, 1) := by decide +kernel
theorem dX4_addWithoutTerm_1 : decode cX4_addWithoutTerm 1 = .ok (.iconst 0, 1) := by decide +kernel
theorem dX4_addWithoutTerm_2 : decode cX4_addWithoutTerm 2 = .ok (.putfield 40, 3) := by decide +kernel
theorem dX4_addWithoutTerm_5 : decode cX4_addWithoutTerm 5 = .ok (.aload_n 0, 1) := by decide +kernel
theorem dX4_addWithoutTerm_6 : decode cX4_addWithoutTerm 6 = .ok (.iload_n 1, 1) := by decide +kernel
theorem dX4_addWithoutTerm_7 : decode cX4_addWithoutTerm 7 = .ok (.invokevirtual 106, 3) := by decide +kernel
theorem dX4_addWithoutTerm_10 : decode cX4_addWithoutTerm 10 = .ok (.ifCond .eq 13, 3) := by decide +kernel
theorem dX4_addWithoutTerm_13 : decode cX4_addWithoutTerm 13 = .ok (.aload_n 0, 1) := by decide +kernel
theorem dX4_addWithoutTerm_14 : decode cX4_addWithoutTerm 14 = .ok (.iconst 3, 1) := by decide +kernel
theorem dX4_addWithoutTerm_15 : decode cX4_addWithoutTerm 15 = .ok (.iload_n 1, 1) := by decide +kernel
theorem dX4_addWithoutTerm_16 : decode cX4_addWithoutTerm 16 = .ok (.iconst 0, 1) := by decide +kernel
theorem dX4_addWithoutTerm_17 : decode cX4_addWithoutTerm 17 = .ok (.invokevirtual 102, 3) := by decide +kernel
theorem dX4_addWithoutTerm_20 : decode cX4_addWithoutTerm 20 = .ok (.goto 8, 3) := by decide +kernel
theorem dX4_addWithoutTerm_23 : decode cX4_addWithoutTerm 23 = .ok (.aload_n 0, 1) := by decide +kernel
theorem dX4_addWithoutTerm_24 : decode cX4_addWithoutTerm 24 = .ok (.iconst 1, 1) := by decide +kernel
theorem dX4_addWithoutTerm_25 : decode cX4_addWithoutTerm 25 = .ok (.invokevirtual 68, 3) := by decide +kernel
theorem dX4_addWithoutTerm_28 : decode cX4_addWithoutTerm 28 = .ok (.ireturn, 1) := by decide +kernel
theorem dX4_clearTerms_0 : decode cX4_clearTerms 0 = .ok (.aload_n 0, 1) := by decide +kernel
theorem dX4_clearTerms_1 : decode cX4_clearTerms 1 = .ok (.iconst 0, 1) := by decide +kernel
theorem dX4_clearTerms_2 : decode cX4_clearTerms 2 = .ok (.putfield 40, 3) := by decide +kernel
theorem dX4_clearTerms_5 : decode cX4_clearTerms 5 = .ok (.aload_n 0, 1) := by decide +kernel
theorem dX4_clearTerms_6 : decode cX4_clearTerms 6 = .ok (.getfield 54, 3) := by decide +kernel
theorem dX4_clearTerms_9 : decode cX4_clearTerms 9 = .ok (.istore_n 1, 1) := by decide +kernel
theorem dX4_clearTerms_10 : decode cX4_clearTerms 10 = .ok (.aload_n 0, 1) := by decide +kernel
theorem dX4_clearTerms_11 : decode cX4_clearTerms 11 = .ok (.iconst 0, 1) := by decide +kernel
theorem dX4_clearTerms_12 : decode cX4_clearTerms 12 = .ok (.putfield 54, 3) := by decide +kernel
theorem dX4_clearTerms_15 : decode cX4_clearTerms 15 = .ok (.iload_n 1, 1) := by decide +kernel
theorem dX4_clearTerms_16 : decode cX4_clearTerms 16 = .ok (.ireturn, 1) := by decide +kernel
theorem dX4_hasParent_0 : decode cX4_hasParent 0 = .ok (.aload_n 0, 1) := by decide +kernel
theorem dX4_hasParent_1 : decode cX4_hasParent 1 = .ok (.iconst 0, 1) := by decide +kernel
theorem dX4_hasParent_2 : decode cX4_hasParent 2 = .ok (.putfield 40, 3) := by decide +kernel
theorem dX4_hasParent_5 : decode cX4_hasParent 5 = .ok (.aload_n 0, 1) := by decide +kernel
theorem dX4_hasParent_6 : decode cX4_hasParent 6 = .ok (.iload_n 1, 1) := by decide +kernel
theorem dX4_hasParent_7 : decode cX4_hasParent 7 = .ok (.invokevirtual 71, 3) := by decide +kernel
theorem dX4_hasParent_10 : decode cX4_hasParent 10 = .ok (.ifCond .eq 21, 3) := by decide +kernel
theorem dX4_hasParent_13 : decode cX4_hasParent 13 = .ok (.aload_n 0, 1) := by decide +kernel
theorem dX4_hasParent_14 : decode cX4_hasParent 14 = .ok (.getfield 9, 3) := by decide +kernel
theorem dX4_hasParent_17 : decode cX4_hasParent 17 = .ok (.iload_n 1, 1) := by decide +kernel
theorem dX4_hasParent_18 : decode cX4_hasParent 18 = .ok (.iaload, 1) := by decide +kernel
theorem dX4_hasParent_19 : decode cX4_hasParent 19 = .ok (.iconst (-1), 1) := by decide +kernel
theorem dX4_hasParent_20 : decode cX4_hasParent 20 = .ok (.if_icmp .eq 7, 3) := by decide +kernel
theorem dX4_hasParent_23 : decode cX4_hasParent 23 = .ok (.iconst 1, 1) := by decide +kernel
theorem dX4_hasParent_24 : decode cX4_hasParent 24 = .ok (.goto 12, 3) := by decide +kernel
theorem dX4_hasParent_27 : decode cX4_hasParent 27 = .ok (.iconst 0, 1) := by decide +kernel
theorem dX4_hasParent_28 : decode cX4_hasParent 28 = .ok (.goto 8, 3) := by decide +kernel
theorem dX4_hasParent_31 : decode cX4_hasParent 31 = .ok (.aload_n 0, 1) := by decide +kernel
theorem dX4_hasParent_32 : decode cX4_hasParent 32 = .ok (.iconst 1, 1) := by decide +kernel
theorem dX4_hasParent_33 : decode cX4_hasParent 33 = .ok (.invokevirtual 109, 3) := by decide +kernel
theorem dX4_hasParent_36 : decode cX4_hasParent 36 = .ok (.ireturn, 1) := by decide +kernel
theorem dX4_parentOf_0 : decode cX4_parentOf 0 = .ok (.aload_n 0, 1) := by decide +kernel
theorem dX4_parentOf_1 : decode cX4_parentOf 1 = .ok (.iconst 0, 1) := by decide +kernel
theorem dX4_parentOf_2 : decode cX4_parentOf 2 = .ok (.putfield 40, 3) := by decide +kernel
theorem dX4_parentOf_5 : decode cX4_parentOf 5 = .ok (.aload_n 0, 1) := by decide +kernel
theorem dX4_parentOf_6 : decode cX4_parentOf 6 = .ok (.iload_n 1, 1) := by decide +kernel
theorem dX4_parentOf_7 : decode cX4_parentOf 7 = .ok (.invokevirtual 71, 3) := by decide +kernel
theorem dX4_parentOf_10 : decode cX4_parentOf 10 = .ok (.ifCond .ne 9, 3) := by decide +kernel
theorem dX4_parentOf_13 : decode cX4_parentOf 13 = .ok (.aload_n 0, 1) := by decide +kernel
theorem dX4_parentOf_14 : decode cX4_parentOf 14 = .ok (.iconst 1, 1) := by decide +kernel
theorem dX4_parentOf_15 : decode cX4_parentOf 15 = .ok (.invokevirtual 68, 3) := by decide +kernel
theorem dX4_parentOf_18 : decode cX4_parentOf 18 = .ok (.ireturn, 1) := by decide +kernel
theorem dX4_parentOf_19 : decode cX4_parentOf 19 = .ok (.aload_n 0, 1) := by decide +kernel
theorem dX4_parentOf_20 : decode cX4_parentOf 20 = .ok (.getfield 9, 3) := by decide +kernel
theorem dX4_parentOf_23 : decode cX4_parentOf 23 = .ok (.iload_n 1, 1) := by decide +kernel
theorem dX4_parentOf_24 : decode cX4_parentOf 24 = .ok (.iaload, 1) := by decide +kernel
theorem dX4_parentOf_25 : decode cX4_parentOf 25 = .ok (.iconst (-1), 1) := by decide +kernel
theorem dX4_parentOf_26 : decode cX4_parentOf 26 = .ok (.if_icmp .ne 11, 3) := by decide +kernel
theorem dX4_parentOf_29 : decode cX4_parentOf 29 = .ok (.aload_n 0, 1) := by decide +kernel
theorem dX4_parentOf_30 : decode cX4_parentOf 30 = .ok (.iconst 2, 1) := by decide +kernel
theorem dX4_parentOf_31 : decode cX4_parentOf 31 = .ok (.invokevirtual 68, 3) := by decide +kernel
theorem dX4_parentOf_34 : decode cX4_parentOf 34 = .ok (.goto 9, 3) := by decide +kernel
theorem dX4_parentOf_37 : decode cX4_parentOf 37 = .ok (.aload_n 0, 1) := by decide +kernel
theorem dX4_parentOf_38 : decode cX4_parentOf 38 = .ok (.getfield 9, 3) := by decide +kernel
theorem dX4_parentOf_41 : decode cX4_parentOf 41 = .ok (.iload_n 1, 1) := by decide +kernel
theorem dX4_parentOf_42 : decode cX4_parentOf 42 = .ok (.iaload, 1) := by decide +kernel
theorem dX4_parentOf_43 : decode cX4_parentOf 43 = .ok (.ireturn, 1) := by decide +kernel
theorem dX4_tagsAbove_0 : decode cX4_tagsAbove 0 = .ok (.aload_n 0, 1) := by decide +kernel
theorem dX4_tagsAbove_1 : decode cX4_tagsAbove 1 = .ok (.iconst 0, 1) := by decide +kernel
theorem dX4_tagsAbove_2 : decode cX4_tagsAbove 2 = .ok (.putfield 40, 3) := by decide +kernel
theorem dX4_tagsAbove_5 : decode cX4_tagsAbove 5 = .ok (.aload_n 0, 1) := by decide +kernel
theorem dX4_tagsAbove_6 : decode cX4_tagsAbove 6 = .ok (.iload_n 1, 1) := by decide +kernel
theorem dX4_tagsAbove_7 : decode cX4_tagsAbove 7 = .ok (.invokevirtual 71, 3) := by decide +kernel
theorem dX4_tagsAbove_10 : decode cX4_tagsAbove 10 = .ok (.ifCond .eq 14, 3) := by decide +kernel
theorem dX4_tagsAbove_13 : decode cX4_tagsAbove 13 = .ok (.aload_n 0, 1) := by decide +kernel
theorem dX4_tagsAbove_14 : decode cX4_tagsAbove 14 = .ok (.iload_n 1, 1) := by decide +kernel
theorem dX4_tagsAbove_15 : decode cX4_tagsAbove 15 = .ok (.invokevirtual 57, 3) := by decide +kernel
theorem dX4_tagsAbove_18 : decode cX4_tagsAbove 18 = .ok (.invokestatic 78, 3) := by decide +kernel
theorem dX4_tagsAbove_21 : decode cX4_tagsAbove 21 = .ok (.goto 8, 3) := by decide +kernel
theorem dX4_tagsAbove_24 : decode cX4_tagsAbove 24 = .ok (.aload_n 0, 1) := by decide +kernel
theorem dX4_tagsAbove_25 : decode cX4_tagsAbove 25 = .ok (.iconst 1, 1) := by decide +kernel
theorem dX4_tagsAbove_26 : decode cX4_tagsAbove 26 = .ok (.invokevirtual 68, 3) := by decide +kernel
theorem dX4_tagsAbove_29 : decode cX4_tagsAbove 29 = .ok (.ireturn, 1) := by decide +kernel
theorem dX4_tagsBelow_0 : decode cX4_tagsBelow 0 = .ok (.aload_n 0, 1) := by decide +kernel
theorem dX4_tagsBelow_1 : decode cX4_tagsBelow 1 = .ok (.iconst 0, 1) := by decide +kernel
theorem dX4_tagsBelow_2 : decode cX4_tagsBelow 2 = .ok (.putfield 40, 3) := by decide +kernel
theorem dX4_tagsBelow_5 : decode cX4_tagsBelow 5 = .ok (.aload_n 0, 1) := by decide +kernel
theorem dX4_tagsBelow_6 : decode cX4_tagsBelow 6 = .ok (.iload_n 1, 1) := by decide +kernel
theorem dX4_tagsBelow_7 : decode cX4_tagsBelow 7 = .ok (.invokevirtual 71, 3) := by decide +kernel
theorem dX4_tagsBelow_10 : decode cX4_tagsBelow 10 = .ok (.ifCond .eq 11, 3) := by decide +kernel
theorem dX4_tagsBelow_13 : decode cX4_tagsBelow 13 = .ok (.aload_n 0, 1) := by decide +kernel
theorem dX4_tagsBelow_14 : decode cX4_tagsBelow 14 = .ok (.iload_n 1, 1) := by decide +kernel
theorem dX4_tagsBelow_15 : decode cX4_tagsBelow 15 = .ok (.invokevirtual 112, 3) := by decide +kernel
theorem dX4_tagsBelow_18 : decode cX4_tagsBelow 18 = .ok (.goto 8, 3) := by decide +kernel
theorem dX4_tagsBelow_21 : decode cX4_tagsBelow 21 = .ok (.aload_n 0, 1) := by decide +kernel
theorem dX4_tagsBelow_22 : decode cX4_tagsBelow 22 = .ok (.iconst 1, 1) := by decide +kernel
theorem dX4_tagsBelow_23 : decode cX4_tagsBelow 23 = .ok (.invokevirtual 68, 3) := by decide +kernel
theorem dX4_tagsBelow_26 : decode cX4_tagsBelow 26 = .ok (.ireturn, 1) := by decide +kernel
theorem dX4_isBelow_0 : decode cX4_isBelow 0 = .ok (.aload_n 0, 1) := by decide +kernel
theorem dX4_isBelow_1 : decode cX4_isBelow 1 = .ok (.iconst 0, 1) := by decide +kernel
theorem dX4_isBelow_2 : decode cX4_isBelow 2 = .ok (.putfield 40, 3) := by decide +kernel
theorem dX4_isBelow_5 : decode cX4_isBelow 5 = .ok (.aload_n 0, 1) := by decide +kernel
theorem dX4_isBelow_6 : decode cX4_isBelow 6 = .ok (.iload_n 1, 1) := by decide +kernel
theorem dX4_isBelow_7 : decode cX4_isBelow 7 = .ok (.invokevirtual 71, 3) := by decide +kernel
theorem dX4_isBelow_10 : decode cX4_isBelow 10 = .ok (.ifCond .eq 20, 3) := by decide +kernel
theorem dX4_isBelow_13 : decode cX4_isBelow 13 = .ok (.aload_n 0, 1) := by decide +kernel
theorem dX4_isBelow_14 : decode cX4_isBelow 14 = .ok (.iload_n 2, 1) := by decide +kernel
theorem dX4_isBelow_15 : decode cX4_isBelow 15 = .ok (.invokevirtual 71, 3) := by decide +kernel
theorem dX4_isBelow_18 : decode cX4_isBelow 18 = .ok (.ifCond .eq 12, 3) := by decide +kernel
theorem dX4_isBelow_21 : decode cX4_isBelow 21 = .ok (.aload_n 0, 1) := by decide +kernel
theorem dX4_isBelow_22 : decode cX4_isBelow 22 = .ok (.iload_n 1, 1) := by decide +kernel
theorem dX4_isBelow_23 : decode cX4_isBelow 23 = .ok (.iload_n 2, 1) := by decide +kernel
theorem dX4_isBelow_24 : decode cX4_isBelow 24 = .ok (.invokevirtual 65, 3) := by decide +kernel
theorem dX4_isBelow_27 : decode cX4_isBelow 27 = .ok (.goto 8, 3) := by decide +kernel
theorem dX4_isBelow_30 : decode cX4_isBelow 30 = .ok (.aload_n 0, 1) := by decide +kernel
theorem dX4_isBelow_31 : decode cX4_isBelow 31 = .ok (.iconst 1, 1) := by decide +kernel
theorem dX4_isBelow_32 : decode cX4_isBelow 32 = .ok (.invokevirtual 109, 3) := by decide +kernel
theorem dX4_isBelow_35 : decode cX4_isBelow 35 = .ok (.ireturn, 1) := by decide +kernel
theorem dX4_nearestAbove_0 : decode cX4_nearestAbove 0 = .ok (.aload_n 0, 1) := by decide +kernel
theorem dX4_nearestAbove_1 : decode cX4_nearestAbove 1 = .ok (.iconst 0, 1) := by decide +kernel
theorem dX4_nearestAbove_2 : decode cX4_nearestAbove 2 = .ok (.putfield 40, 3) := by decide +kernel
theorem dX4_nearestAbove_5 : decode cX4_nearestAbove 5 = .ok (.aload_n 0, 1) := by decide +kernel
theorem dX4_nearestAbove_6 : decode cX4_nearestAbove 6 = .ok (.iload_n 1, 1) := by decide +kernel
theorem dX4_nearestAbove_7 : decode cX4_nearestAbove 7 = .ok (.invokevirtual 71, 3) := by decide +kernel
theorem dX4_nearestAbove_10 : decode cX4_nearestAbove 10 = .ok (.ifCond .eq 11, 3) := by decide +kernel
theorem dX4_nearestAbove_13 : decode cX4_nearestAbove 13 = .ok (.aload_n 0, 1) := by decide +kernel
theorem dX4_nearestAbove_14 : decode cX4_nearestAbove 14 = .ok (.iload_n 2, 1) := by decide +kernel
theorem dX4_nearestAbove_15 : decode cX4_nearestAbove 15 = .ok (.invokevirtual 71, 3) := by decide +kernel
theorem dX4_nearestAbove_18 : decode cX4_nearestAbove 18 = .ok (.ifCond .ne 9, 3) := by decide +kernel
theorem dX4_nearestAbove_21 : decode cX4_nearestAbove 21 = .ok (.aload_n 0, 1) := by decide +kernel
theorem dX4_nearestAbove_22 : decode cX4_nearestAbove 22 = .ok (.iconst 1, 1) := by decide +kernel
theorem dX4_nearestAbove_23 : decode cX4_nearestAbove 23 = .ok (.invokevirtual 68, 3) := by decide +kernel
theorem dX4_nearestAbove_26 : decode cX4_nearestAbove 26 = .ok (.ireturn, 1) := by decide +kernel
theorem dX4_nearestAbove_27 : decode cX4_nearestAbove 27 = .ok (.aload_n 0, 1) := by decide +kernel
theorem dX4_nearestAbove_28 : decode cX4_nearestAbove 28 = .ok (.iload_n 1, 1) := by decide +kernel
theorem dX4_nearestAbove_29 : decode cX4_nearestAbove 29 = .ok (.invokevirtual 57, 3) := by decide +kernel
theorem dX4_nearestAbove_32 : decode cX4_nearestAbove 32 = .ok (.iconst 1, 1) := by decide +kernel
theorem dX4_nearestAbove_33 : decode cX4_nearestAbove 33 = .ok (.iload_n 1, 1) := by decide +kernel
theorem dX4_nearestAbove_34 : decode cX4_nearestAbove 34 = .ok (.ishl, 1) := by decide +kernel
theorem dX4_nearestAbove_35 : decode cX4_nearestAbove 35 = .ok (.ior, 1) := by decide +kernel
theorem dX4_nearestAbove_36 : decode cX4_nearestAbove 36 = .ok (.aload_n 0, 1) := by decide +kernel
theorem dX4_nearestAbove_37 : decode cX4_nearestAbove 37 = .ok (.iload_n 2, 1) := by decide +kernel
theorem dX4_nearestAbove_38 : decode cX4_nearestAbove 38 = .ok (.invokevirtual 57, 3) := by decide +kernel
theorem dX4_nearestAbove_41 : decode cX4_nearestAbove 41 = .ok (.iconst 1, 1) := by decide +kernel
theorem dX4_nearestAbove_42 : decode cX4_nearestAbove 42 = .ok (.iload_n 2, 1) := by decide +kernel
theorem dX4_nearestAbove_43 : decode cX4_nearestAbove 43 = .ok (.ishl, 1) := by decide +kernel
theorem dX4_nearestAbove_44 : decode cX4_nearestAbove 44 = .ok (.ior, 1) := by decide +kernel
theorem dX4_nearestAbove_45 : decode cX4_nearestAbove 45 = .ok (.iand, 1) := by decide +kernel
theorem dX4_nearestAbove_46 : decode cX4_nearestAbove 46 = .ok (.istore_n 3, 1) := by decide +kernel
theorem dX4_nearestAbove_47 : decode cX4_nearestAbove 47 = .ok (.iconst (-1), 1) := by decide +kernel
theorem dX4_nearestAbove_48 : decode cX4_nearestAbove 48 = .ok (.istore 4, 2) := by decide +kernel
theorem dX4_nearestAbove_50 : decode cX4_nearestAbove 50 = .ok (.iconst 0, 1) := by decide +kernel
theorem dX4_nearestAbove_51 : decode cX4_nearestAbove 51 = .ok (.istore 5, 2) := by decide +kernel
theorem dX4_nearestAbove_53 : decode cX4_nearestAbove 53 = .ok (.iload 5, 2) := by decide +kernel
theorem dX4_nearestAbove_55 : decode cX4_nearestAbove 55 = .ok (.aload_n 0, 1) := by decide +kernel
theorem dX4_nearestAbove_56 : decode cX4_nearestAbove 56 = .ok (.getfield 44, 3) := by decide +kernel
theorem dX4_nearestAbove_59 : decode cX4_nearestAbove 59 = .ok (.if_icmp .ge 49, 3) := by decide +kernel
theorem dX4_nearestAbove_62 : decode cX4_nearestAbove 62 = .ok (.iload_n 3, 1) := by decide +kernel
theorem dX4_nearestAbove_63 : decode cX4_nearestAbove 63 = .ok (.iload 5, 2) := by decide +kernel
theorem dX4_nearestAbove_65 : decode cX4_nearestAbove 65 = .ok (.invokestatic 61, 3) := by decide +kernel
theorem dX4_nearestAbove_68 : decode cX4_nearestAbove 68 = .ok (.ifCond .eq 34, 3) := by decide +kernel
theorem dX4_nearestAbove_71 : decode cX4_nearestAbove 71 = .ok (.iload 4, 2) := by decide +kernel
theorem dX4_nearestAbove_73 : decode cX4_nearestAbove 73 = .ok (.iconst (-1), 1) := by decide +kernel
theorem dX4_nearestAbove_74 : decode cX4_nearestAbove 74 = .ok (.if_icmp .eq 24, 3) := by decide +kernel
theorem dX4_nearestAbove_77 : decode cX4_nearestAbove 77 = .ok (.aload_n 0, 1) := by decide +kernel
theorem dX4_nearestAbove_78 : decode cX4_nearestAbove 78 = .ok (.iload 5, 2) := by decide +kernel
theorem dX4_nearestAbove_80 : decode cX4_nearestAbove 80 = .ok (.invokevirtual 57, 3) := by decide +kernel
theorem dX4_nearestAbove_83 : decode cX4_nearestAbove 83 = .ok (.invokestatic 78, 3) := by decide +kernel
theorem dX4_nearestAbove_86 : decode cX4_nearestAbove 86 = .ok (.aload_n 0, 1) := by decide +kernel
theorem dX4_nearestAbove_87 : decode cX4_nearestAbove 87 = .ok (.iload 4, 2) := by decide +kernel
theorem dX4_nearestAbove_89 : decode cX4_nearestAbove 89 = .ok (.invokevirtual 57, 3) := by decide +kernel
theorem dX4_nearestAbove_92 : decode cX4_nearestAbove 92 = .ok (.invokestatic 78, 3) := by decide +kernel
theorem dX4_nearestAbove_95 : decode cX4_nearestAbove 95 = .ok (.if_icmp .le 7, 3) := by decide +kernel
theorem dX4_nearestAbove_98 : decode cX4_nearestAbove 98 = .ok (.iload 5, 2) := by decide +kernel
theorem dX4_nearestAbove_100 : decode cX4_nearestAbove 100 = .ok (.istore 4, 2) := by decide +kernel
theorem dX4_nearestAbove_102 : decode cX4_nearestAbove 102 = .ok (.iinc 5 1, 3) := by decide +kernel
theorem dX4_nearestAbove_105 : decode cX4_nearestAbove 105 = .ok (.goto (-52), 3) := by decide +kernel
theorem dX4_nearestAbove_108 : decode cX4_nearestAbove 108 = .ok (.iload 4, 2) := by decide +kernel
theorem dX4_nearestAbove_110 : decode cX4_nearestAbove 110 = .ok (.ireturn, 1) := by decide +kernel
theorem dX4_dreamsWith_0 : decode cX4_dreamsWith 0 = .ok (.aload_n 0, 1) := by decide +kernel
theorem dX4_dreamsWith_1 : decode cX4_dreamsWith 1 = .ok (.iconst 0, 1) := by decide +kernel
theorem dX4_dreamsWith_2 : decode cX4_dreamsWith 2 = .ok (.putfield 40, 3) := by decide +kernel
theorem dX4_dreamsWith_5 : decode cX4_dreamsWith 5 = .ok (.aload_n 0, 1) := by decide +kernel
theorem dX4_dreamsWith_6 : decode cX4_dreamsWith 6 = .ok (.iload_n 1, 1) := by decide +kernel
theorem dX4_dreamsWith_7 : decode cX4_dreamsWith 7 = .ok (.invokevirtual 71, 3) := by decide +kernel
theorem dX4_dreamsWith_10 : decode cX4_dreamsWith 10 = .ok (.ifCond .ne 9, 3) := by decide +kernel
theorem dX4_dreamsWith_13 : decode cX4_dreamsWith 13 = .ok (.aload_n 0, 1) := by decide +kernel
theorem dX4_dreamsWith_14 : decode cX4_dreamsWith 14 = .ok (.iconst 1, 1) := by decide +kernel
theorem dX4_dreamsWith_15 : decode cX4_dreamsWith 15 = .ok (.invokevirtual 68, 3) := by decide +kernel
theorem dX4_dreamsWith_18 : decode cX4_dreamsWith 18 = .ok (.ireturn, 1) := by decide +kernel
theorem dX4_dreamsWith_19 : decode cX4_dreamsWith 19 = .ok (.aload_n 0, 1) := by decide +kernel
theorem dX4_dreamsWith_20 : decode cX4_dreamsWith 20 = .ok (.invokevirtual 115, 3) := by decide +kernel
theorem dX4_dreamsWith_23 : decode cX4_dreamsWith 23 = .ok (.aload_n 0, 1) := by decide +kernel
theorem dX4_dreamsWith_24 : decode cX4_dreamsWith 24 = .ok (.getfield 34, 3) := by decide +kernel
theorem dX4_dreamsWith_27 : decode cX4_dreamsWith 27 = .ok (.iload_n 1, 1) := by decide +kernel
theorem dX4_dreamsWith_28 : decode cX4_dreamsWith 28 = .ok (.iaload, 1) := by decide +kernel
theorem dX4_dreamsWith_29 : decode cX4_dreamsWith 29 = .ok (.invokestatic 78, 3) := by decide +kernel
theorem dX4_dreamsWith_32 : decode cX4_dreamsWith 32 = .ok (.ireturn, 1) := by decide +kernel
theorem dX4_hasOwnTag_0 : decode cX4_hasOwnTag 0 = .ok (.aload_n 0, 1) := by decide +kernel
theorem dX4_hasOwnTag_1 : decode cX4_hasOwnTag 1 = .ok (.iconst 0, 1) := by decide +kernel
theorem dX4_hasOwnTag_2 : decode cX4_hasOwnTag 2 = .ok (.putfield 40, 3) := by decide +kernel
theorem dX4_hasOwnTag_5 : decode cX4_hasOwnTag 5 = .ok (.aload_n 0, 1) := by decide +kernel
theorem dX4_hasOwnTag_6 : decode cX4_hasOwnTag 6 = .ok (.iload_n 1, 1) := by decide +kernel
theorem dX4_hasOwnTag_7 : decode cX4_hasOwnTag 7 = .ok (.invokevirtual 84, 3) := by decide +kernel
theorem dX4_hasOwnTag_10 : decode cX4_hasOwnTag 10 = .ok (.ifCond .eq 24, 3) := by decide +kernel
theorem dX4_hasOwnTag_13 : decode cX4_hasOwnTag 13 = .ok (.aload_n 0, 1) := by decide +kernel
theorem dX4_hasOwnTag_14 : decode cX4_hasOwnTag 14 = .ok (.iload_n 2, 1) := by decide +kernel
theorem dX4_hasOwnTag_15 : decode cX4_hasOwnTag 15 = .ok (.invokevirtual 71, 3) := by decide +kernel
theorem dX4_hasOwnTag_18 : decode cX4_hasOwnTag 18 = .ok (.ifCond .eq 16, 3) := by decide +kernel
theorem dX4_hasOwnTag_21 : decode cX4_hasOwnTag 21 = .ok (.aload_n 0, 1) := by decide +kernel
theorem dX4_hasOwnTag_22 : decode cX4_hasOwnTag 22 = .ok (.getfield 13, 3) := by decide +kernel
theorem dX4_hasOwnTag_25 : decode cX4_hasOwnTag 25 = .ok (.iload_n 1, 1) := by decide +kernel
theorem dX4_hasOwnTag_26 : decode cX4_hasOwnTag 26 = .ok (.iaload, 1) := by decide +kernel
theorem dX4_hasOwnTag_27 : decode cX4_hasOwnTag 27 = .ok (.iload_n 2, 1) := by decide +kernel
theorem dX4_hasOwnTag_28 : decode cX4_hasOwnTag 28 = .ok (.invokestatic 61, 3) := by decide +kernel
theorem dX4_hasOwnTag_31 : decode cX4_hasOwnTag 31 = .ok (.goto 8, 3) := by decide +kernel
theorem dX4_hasOwnTag_34 : decode cX4_hasOwnTag 34 = .ok (.aload_n 0, 1) := by decide +kernel
theorem dX4_hasOwnTag_35 : decode cX4_hasOwnTag 35 = .ok (.iconst 1, 1) := by decide +kernel
theorem dX4_hasOwnTag_36 : decode cX4_hasOwnTag 36 = .ok (.invokevirtual 109, 3) := by decide +kernel
theorem dX4_hasOwnTag_39 : decode cX4_hasOwnTag 39 = .ok (.ireturn, 1) := by decide +kernel
theorem dX4_hasTag_0 : decode cX4_hasTag 0 = .ok (.aload_n 0, 1) := by decide +kernel
theorem dX4_hasTag_1 : decode cX4_hasTag 1 = .ok (.iconst 0, 1) := by decide +kernel
theorem dX4_hasTag_2 : decode cX4_hasTag 2 = .ok (.putfield 40, 3) := by decide +kernel
theorem dX4_hasTag_5 : decode cX4_hasTag 5 = .ok (.aload_n 0, 1) := by decide +kernel
theorem dX4_hasTag_6 : decode cX4_hasTag 6 = .ok (.iload_n 1, 1) := by decide +kernel
theorem dX4_hasTag_7 : decode cX4_hasTag 7 = .ok (.invokevirtual 84, 3) := by decide +kernel
theorem dX4_hasTag_10 : decode cX4_hasTag 10 = .ok (.ifCond .eq 11, 3) := by decide +kernel
theorem dX4_hasTag_13 : decode cX4_hasTag 13 = .ok (.aload_n 0, 1) := by decide +kernel
theorem dX4_hasTag_14 : decode cX4_hasTag 14 = .ok (.iload_n 2, 1) := by decide +kernel
theorem dX4_hasTag_15 : decode cX4_hasTag 15 = .ok (.invokevirtual 71, 3) := by decide +kernel
theorem dX4_hasTag_18 : decode cX4_hasTag 18 = .ok (.ifCond .ne 9, 3) := by decide +kernel
theorem dX4_hasTag_21 : decode cX4_hasTag 21 = .ok (.aload_n 0, 1) := by decide +kernel
theorem dX4_hasTag_22 : decode cX4_hasTag 22 = .ok (.iconst 1, 1) := by decide +kernel
theorem dX4_hasTag_23 : decode cX4_hasTag 23 = .ok (.invokevirtual 109, 3) := by decide +kernel
theorem dX4_hasTag_26 : decode cX4_hasTag 26 = .ok (.ireturn, 1) := by decide +kernel
theorem dX4_hasTag_27 : decode cX4_hasTag 27 = .ok (.aload_n 0, 1) := by decide +kernel
theorem dX4_hasTag_28 : decode cX4_hasTag 28 = .ok (.invokevirtual 115, 3) := by decide +kernel
theorem dX4_hasTag_31 : decode cX4_hasTag 31 = .ok (.aload_n 0, 1) := by decide +kernel
theorem dX4_hasTag_32 : decode cX4_hasTag 32 = .ok (.getfield 31, 3) := by decide +kernel
theorem dX4_hasTag_35 : decode cX4_hasTag 35 = .ok (.iload_n 1, 1) := by decide +kernel
theorem dX4_hasTag_36 : decode cX4_hasTag 36 = .ok (.iaload, 1) := by decide +kernel
theorem dX4_hasTag_37 : decode cX4_hasTag 37 = .ok (.iload_n 2, 1) := by decide +kernel
theorem dX4_hasTag_38 : decode cX4_hasTag 38 = .ok (.invokestatic 61, 3) := by decide +kernel
theorem dX4_hasTag_41 : decode cX4_hasTag 41 = .ok (.ireturn, 1) := by decide +kernel
theorem dX4_tagsOf_0 : decode cX4_tagsOf 0 = .ok (.aload_n 0, 1) := by decide +kernel
theorem dX4_tagsOf_1 : decode cX4_tagsOf 1 = .ok (.iconst 0, 1) := by decide +kernel
theorem dX4_tagsOf_2 : decode cX4_tagsOf 2 = .ok (.putfield 40, 3) := by decide +kernel
theorem dX4_tagsOf_5 : decode cX4_tagsOf 5 = .ok (.aload_n 0, 1) := by decide +kernel
theorem dX4_tagsOf_6 : decode cX4_tagsOf 6 = .ok (.iload_n 1, 1) := by decide +kernel
theorem dX4_tagsOf_7 : decode cX4_tagsOf 7 = .ok (.invokevirtual 84, 3) := by decide +kernel
theorem dX4_tagsOf_10 : decode cX4_tagsOf 10 = .ok (.ifCond .ne 9, 3) := by decide +kernel
theorem dX4_tagsOf_13 : decode cX4_tagsOf 13 = .ok (.aload_n 0, 1) := by decide +kernel
theorem dX4_tagsOf_14 : decode cX4_tagsOf 14 = .ok (.iconst 1, 1) := by decide +kernel
theorem dX4_tagsOf_15 : decode cX4_tagsOf 15 = .ok (.invokevirtual 68, 3) := by decide +kernel
theorem dX4_tagsOf_18 : decode cX4_tagsOf 18 = .ok (.ireturn, 1) := by decide +kernel
theorem dX4_tagsOf_19 : decode cX4_tagsOf 19 = .ok (.aload_n 0, 1) := by decide +kernel
theorem dX4_tagsOf_20 : decode cX4_tagsOf 20 = .ok (.invokevirtual 115, 3) := by decide +kernel
theorem dX4_tagsOf_23 : decode cX4_tagsOf 23 = .ok (.aload_n 0, 1) := by decide +kernel
theorem dX4_tagsOf_24 : decode cX4_tagsOf 24 = .ok (.getfield 31, 3) := by decide +kernel
theorem dX4_tagsOf_27 : decode cX4_tagsOf 27 = .ok (.iload_n 1, 1) := by decide +kernel
theorem dX4_tagsOf_28 : decode cX4_tagsOf 28 = .ok (.iaload, 1) := by decide +kernel
theorem dX4_tagsOf_29 : decode cX4_tagsOf 29 = .ok (.invokestatic 78, 3) := by decide +kernel
theorem dX4_tagsOf_32 : decode cX4_tagsOf 32 = .ok (.ireturn, 1) := by decide +kernel
theorem dX4_vividnessOf_0 : decode cX4_vividnessOf 0 = .ok (.aload_n 0, 1) := by decide +kernel
theorem dX4_vividnessOf_1 : decode cX4_vividnessOf 1 = .ok (.iconst 0, 1) := by decide +kernel
theorem dX4_vividnessOf_2 : decode cX4_vividnessOf 2 = .ok (.putfield 40, 3) := by decide +kernel
theorem dX4_vividnessOf_5 : decode cX4_vividnessOf 5 = .ok (.aload_n 0, 1) := by decide +kernel
theorem dX4_vividnessOf_6 : decode cX4_vividnessOf 6 = .ok (.iload_n 1, 1) := by decide +kernel
theorem dX4_vividnessOf_7 : decode cX4_vividnessOf 7 = .ok (.invokevirtual 84, 3) := by decide +kernel
theorem dX4_vividnessOf_10 : decode cX4_vividnessOf 10 = .ok (.ifCond .eq 12, 3) := by decide +kernel
theorem dX4_vividnessOf_13 : decode cX4_vividnessOf 13 = .ok (.aload_n 0, 1) := by decide +kernel
theorem dX4_vividnessOf_14 : decode cX4_vividnessOf 14 = .ok (.getfield 16, 3) := by decide +kernel
theorem dX4_vividnessOf_17 : decode cX4_vividnessOf 17 = .ok (.iload_n 1, 1) := by decide +kernel
theorem dX4_vividnessOf_18 : decode cX4_vividnessOf 18 = .ok (.iaload, 1) := by decide +kernel
theorem dX4_vividnessOf_19 : decode cX4_vividnessOf 19 = .ok (.goto 8, 3) := by decide +kernel
theorem dX4_vividnessOf_22 : decode cX4_vividnessOf 22 = .ok (.aload_n 0, 1) := by decide +kernel
theorem dX4_vividnessOf_23 : decode cX4_vividnessOf 23 = .ok (.iconst 1, 1) := by decide +kernel
theorem dX4_vividnessOf_24 : decode cX4_vividnessOf 24 = .ok (.invokevirtual 68, 3) := by decide +kernel
theorem dX4_vividnessOf_27 : decode cX4_vividnessOf 27 = .ok (.ireturn, 1) := by decide +kernel
theorem dX4_nightOf_0 : decode cX4_nightOf 0 = .ok (.aload_n 0, 1) := by decide +kernel
theorem dX4_nightOf_1 : decode cX4_nightOf 1 = .ok (.iconst 0, 1) := by decide +kernel
theorem dX4_nightOf_2 : decode cX4_nightOf 2 = .ok (.putfield 40, 3) := by decide +kernel
theorem dX4_nightOf_5 : decode cX4_nightOf 5 = .ok (.aload_n 0, 1) := by decide +kernel
theorem dX4_nightOf_6 : decode cX4_nightOf 6 = .ok (.iload_n 1, 1) := by decide +kernel
theorem dX4_nightOf_7 : decode cX4_nightOf 7 = .ok (.invokevirtual 84, 3) := by decide +kernel
theorem dX4_nightOf_10 : decode cX4_nightOf 10 = .ok (.ifCond .eq 12, 3) := by decide +kernel
theorem dX4_nightOf_13 : decode cX4_nightOf 13 = .ok (.aload_n 0, 1) := by decide +kernel
theorem dX4_nightOf_14 : decode cX4_nightOf 14 = .ok (.getfield 19, 3) := by decide +kernel
theorem dX4_nightOf_17 : decode cX4_nightOf 17 = .ok (.iload_n 1, 1) := by decide +kernel
theorem dX4_nightOf_18 : decode cX4_nightOf 18 = .ok (.iaload, 1) := by decide +kernel
theorem dX4_nightOf_19 : decode cX4_nightOf 19 = .ok (.goto 8, 3) := by decide +kernel
theorem dX4_nightOf_22 : decode cX4_nightOf 22 = .ok (.aload_n 0, 1) := by decide +kernel
theorem dX4_nightOf_23 : decode cX4_nightOf 23 = .ok (.iconst 1, 1) := by decide +kernel
theorem dX4_nightOf_24 : decode cX4_nightOf 24 = .ok (.invokevirtual 68, 3) := by decide +kernel
theorem dX4_nightOf_27 : decode cX4_nightOf 27 = .ok (.ireturn, 1) := by decide +kernel
theorem dX4_matches_0 : decode cX4_matches 0 = .ok (.aload_n 0, 1) := by decide +kernel
theorem dX4_matches_1 : decode cX4_matches 1 = .ok (.iconst 0, 1) := by decide +kernel
theorem dX4_matches_2 : decode cX4_matches 2 = .ok (.putfield 40, 3) := by decide +kernel
theorem dX4_matches_5 : decode cX4_matches 5 = .ok (.aload_n 0, 1) := by decide +kernel
theorem dX4_matches_6 : decode cX4_matches 6 = .ok (.iload_n 1, 1) := by decide +kernel
theorem dX4_matches_7 : decode cX4_matches 7 = .ok (.invokevirtual 106, 3) := by decide +kernel
theorem dX4_matches_10 : decode cX4_matches 10 = .ok (.ifCond .eq 11, 3) := by decide +kernel
theorem dX4_matches_13 : decode cX4_matches 13 = .ok (.aload_n 0, 1) := by decide +kernel
theorem dX4_matches_14 : decode cX4_matches 14 = .ok (.iload_n 2, 1) := by decide +kernel
theorem dX4_matches_15 : decode cX4_matches 15 = .ok (.invokevirtual 84, 3) := by decide +kernel
theorem dX4_matches_18 : decode cX4_matches 18 = .ok (.ifCond .ne 9, 3) := by decide +kernel
theorem dX4_matches_21 : decode cX4_matches 21 = .ok (.aload_n 0, 1) := by decide +kernel
theorem dX4_matches_22 : decode cX4_matches 22 = .ok (.iconst 1, 1) := by decide +kernel
theorem dX4_matches_23 : decode cX4_matches 23 = .ok (.invokevirtual 109, 3) := by decide +kernel
theorem dX4_matches_26 : decode cX4_matches 26 = .ok (.ireturn, 1) := by decide +kernel
theorem dX4_matches_27 : decode cX4_matches 27 = .ok (.aload_n 0, 1) := by decide +kernel
theorem dX4_matches_28 : decode cX4_matches 28 = .ok (.invokevirtual 115, 3) := by decide +kernel
theorem dX4_matches_31 : decode cX4_matches 31 = .ok (.aload_n 0, 1) := by decide +kernel
theorem dX4_matches_32 : decode cX4_matches 32 = .ok (.getfield 37, 3) := by decide +kernel
theorem dX4_matches_35 : decode cX4_matches 35 = .ok (.iload_n 1, 1) := by decide +kernel
theorem dX4_matches_36 : decode cX4_matches 36 = .ok (.iaload, 1) := by decide +kernel
theorem dX4_matches_37 : decode cX4_matches 37 = .ok (.iload_n 2, 1) := by decide +kernel
theorem dX4_matches_38 : decode cX4_matches 38 = .ok (.invokestatic 61, 3) := by decide +kernel
theorem dX4_matches_41 : decode cX4_matches 41 = .ok (.ireturn, 1) := by decide +kernel
theorem dX4_matchesOf_0 : decode cX4_matchesOf 0 = .ok (.aload_n 0, 1) := by decide +kernel
theorem dX4_matchesOf_1 : decode cX4_matchesOf 1 = .ok (.iconst 0, 1) := by decide +kernel
theorem dX4_matchesOf_2 : decode cX4_matchesOf 2 = .ok (.putfield 40, 3) := by decide +kernel
theorem dX4_matchesOf_5 : decode cX4_matchesOf 5 = .ok (.aload_n 0, 1) := by decide +kernel
theorem dX4_matchesOf_6 : decode cX4_matchesOf 6 = .ok (.iload_n 1, 1) := by decide +kernel
theorem dX4_matchesOf_7 : decode cX4_matchesOf 7 = .ok (.invokevirtual 106, 3) := by decide +kernel
theorem dX4_matchesOf_10 : decode cX4_matchesOf 10 = .ok (.ifCond .ne 9, 3) := by decide +kernel
theorem dX4_matchesOf_13 : decode cX4_matchesOf 13 = .ok (.aload_n 0, 1) := by decide +kernel
theorem dX4_matchesOf_14 : decode cX4_matchesOf 14 = .ok (.iconst 1, 1) := by decide +kernel
theorem dX4_matchesOf_15 : decode cX4_matchesOf 15 = .ok (.invokevirtual 68, 3) := by decide +kernel
theorem dX4_matchesOf_18 : decode cX4_matchesOf 18 = .ok (.ireturn, 1) := by decide +kernel
theorem dX4_matchesOf_19 : decode cX4_matchesOf 19 = .ok (.aload_n 0, 1) := by decide +kernel
theorem dX4_matchesOf_20 : decode cX4_matchesOf 20 = .ok (.invokevirtual 115, 3) := by decide +kernel
theorem dX4_matchesOf_23 : decode cX4_matchesOf 23 = .ok (.aload_n 0, 1) := by decide +kernel
theorem dX4_matchesOf_24 : decode cX4_matchesOf 24 = .ok (.getfield 37, 3) := by decide +kernel
theorem dX4_matchesOf_27 : decode cX4_matchesOf 27 = .ok (.iload_n 1, 1) := by decide +kernel
theorem dX4_matchesOf_28 : decode cX4_matchesOf 28 = .ok (.iaload, 1) := by decide +kernel
theorem dX4_matchesOf_29 : decode cX4_matchesOf 29 = .ok (.invokestatic 78, 3) := by decide +kernel
theorem dX4_matchesOf_32 : decode cX4_matchesOf 32 = .ok (.ireturn, 1) := by decide +kernel
theorem dX4_brightest_0 : decode cX4_brightest 0 = .ok (.iconst (-1), 1) := by decide +kernel
theorem dX4_brightest_1 : decode cX4_brightest 1 = .ok (.istore_n 2, 1) := by decide +kernel
theorem dX4_brightest_2 : decode cX4_brightest 2 = .ok (.iconst 0, 1) := by decide +kernel
theorem dX4_brightest_3 : decode cX4_brightest 3 = .ok (.istore_n 3, 1) := by decide +kernel
theorem dX4_brightest_4 : decode cX4_brightest 4 = .ok (.iload_n 3, 1) := by decide +kernel
theorem dX4_brightest_5 : decode cX4_brightest 5 = .ok (.aload_n 0, 1) := by decide +kernel
theorem dX4_brightest_6 : decode cX4_brightest 6 = .ok (.getfield 51, 3) := by decide +kernel
theorem dX4_brightest_9 : decode cX4_brightest 9 = .ok (.if_icmp .ge 39, 3) := by decide +kernel
theorem dX4_brightest_12 : decode cX4_brightest 12 = .ok (.iload_n 1, 1) := by decide +kernel
theorem dX4_brightest_13 : decode cX4_brightest 13 = .ok (.iload_n 3, 1) := by decide +kernel
theorem dX4_brightest_14 : decode cX4_brightest 14 = .ok (.invokestatic 61, 3) := by decide +kernel
theorem dX4_brightest_17 : decode cX4_brightest 17 = .ok (.ifCond .eq 25, 3) := by decide +kernel
theorem dX4_brightest_20 : decode cX4_brightest 20 = .ok (.iload_n 2, 1) := by decide +kernel
theorem dX4_brightest_21 : decode cX4_brightest 21 = .ok (.iconst (-1), 1) := by decide +kernel
theorem dX4_brightest_22 : decode cX4_brightest 22 = .ok (.if_icmp .eq 18, 3) := by decide +kernel
theorem dX4_brightest_25 : decode cX4_brightest 25 = .ok (.aload_n 0, 1) := by decide +kernel
theorem dX4_brightest_26 : decode cX4_brightest 26 = .ok (.getfield 16, 3) := by decide +kernel
theorem dX4_brightest_29 : decode cX4_brightest 29 = .ok (.iload_n 3, 1) := by decide +kernel
theorem dX4_brightest_30 : decode cX4_brightest 30 = .ok (.iaload, 1) := by decide +kernel
theorem dX4_brightest_31 : decode cX4_brightest 31 = .ok (.aload_n 0, 1) := by decide +kernel
theorem dX4_brightest_32 : decode cX4_brightest 32 = .ok (.getfield 16, 3) := by decide +kernel
theorem dX4_brightest_35 : decode cX4_brightest 35 = .ok (.iload_n 2, 1) := by decide +kernel
theorem dX4_brightest_36 : decode cX4_brightest 36 = .ok (.iaload, 1) := by decide +kernel
theorem dX4_brightest_37 : decode cX4_brightest 37 = .ok (.if_icmp .le 5, 3) := by decide +kernel
theorem dX4_brightest_40 : decode cX4_brightest 40 = .ok (.iload_n 3, 1) := by decide +kernel
theorem dX4_brightest_41 : decode cX4_brightest 41 = .ok (.istore_n 2, 1) := by decide +kernel
theorem dX4_brightest_42 : decode cX4_brightest 42 = .ok (.iinc 3 1, 3) := by decide +kernel
theorem dX4_brightest_45 : decode cX4_brightest 45 = .ok (.goto (-41), 3) := by decide +kernel
theorem dX4_brightest_48 : decode cX4_brightest 48 = .ok (.iload_n 2, 1) := by decide +kernel
theorem dX4_brightest_49 : decode cX4_brightest 49 = .ok (.ireturn, 1) := by decide +kernel
theorem dX4_mostVivid_0 : decode cX4_mostVivid 0 = .ok (.aload_n 0, 1) := by decide +kernel
theorem dX4_mostVivid_1 : decode cX4_mostVivid 1 = .ok (.iconst 0, 1) := by decide +kernel
theorem dX4_mostVivid_2 : decode cX4_mostVivid 2 = .ok (.putfield 40, 3) := by decide +kernel
theorem dX4_mostVivid_5 : decode cX4_mostVivid 5 = .ok (.aload_n 0, 1) := by decide +kernel
theorem dX4_mostVivid_6 : decode cX4_mostVivid 6 = .ok (.iload_n 1, 1) := by decide +kernel
theorem dX4_mostVivid_7 : decode cX4_mostVivid 7 = .ok (.invokevirtual 106, 3) := by decide +kernel
theorem dX4_mostVivid_10 : decode cX4_mostVivid 10 = .ok (.ifCond .ne 9, 3) := by decide +kernel
theorem dX4_mostVivid_13 : decode cX4_mostVivid 13 = .ok (.aload_n 0, 1) := by decide +kernel
theorem dX4_mostVivid_14 : decode cX4_mostVivid 14 = .ok (.iconst 1, 1) := by decide +kernel
theorem dX4_mostVivid_15 : decode cX4_mostVivid 15 = .ok (.invokevirtual 68, 3) := by decide +kernel
theorem dX4_mostVivid_18 : decode cX4_mostVivid 18 = .ok (.ireturn, 1) := by decide +kernel
theorem dX4_mostVivid_19 : decode cX4_mostVivid 19 = .ok (.aload_n 0, 1) := by decide +kernel
theorem dX4_mostVivid_20 : decode cX4_mostVivid 20 = .ok (.invokevirtual 115, 3) := by decide +kernel
theorem dX4_mostVivid_23 : decode cX4_mostVivid 23 = .ok (.aload_n 0, 1) := by decide +kernel
theorem dX4_mostVivid_24 : decode cX4_mostVivid 24 = .ok (.aload_n 0, 1) := by decide +kernel
theorem dX4_mostVivid_25 : decode cX4_mostVivid 25 = .ok (.getfield 37, 3) := by decide +kernel
theorem dX4_mostVivid_28 : decode cX4_mostVivid 28 = .ok (.iload_n 1, 1) := by decide +kernel
theorem dX4_mostVivid_29 : decode cX4_mostVivid 29 = .ok (.iaload, 1) := by decide +kernel
theorem dX4_mostVivid_30 : decode cX4_mostVivid 30 = .ok (.invokevirtual 118, 3) := by decide +kernel
theorem dX4_mostVivid_33 : decode cX4_mostVivid 33 = .ok (.ireturn, 1) := by decide +kernel
theorem dX4_common_0 : decode cX4_common 0 = .ok (.iload_n 1, 1) := by decide +kernel
theorem dX4_common_1 : decode cX4_common 1 = .ok (.ifCond .ne 7, 3) := by decide +kernel
theorem dX4_common_4 : decode cX4_common 4 = .ok (.iconst 0, 1) := by decide +kernel
theorem dX4_common_5 : decode cX4_common 5 = .ok (.goto 11, 3) := by decide +kernel
theorem dX4_common_8 : decode cX4_common 8 = .ok (.iconst 1, 1) := by decide +kernel
theorem dX4_common_9 : decode cX4_common 9 = .ok (.aload_n 0, 1) := by decide +kernel
theorem dX4_common_10 : decode cX4_common 10 = .ok (.getfield 44, 3) := by decide +kernel
theorem dX4_common_13 : decode cX4_common 13 = .ok (.ishl, 1) := by decide +kernel
theorem dX4_common_14 : decode cX4_common 14 = .ok (.iconst 1, 1) := by decide +kernel
theorem dX4_common_15 : decode cX4_common 15 = .ok (.isub, 1) := by decide +kernel
theorem dX4_common_16 : decode cX4_common 16 = .ok (.istore_n 2, 1) := by decide +kernel
theorem dX4_common_17 : decode cX4_common 17 = .ok (.iconst 0, 1) := by decide +kernel
theorem dX4_common_18 : decode cX4_common 18 = .ok (.istore_n 3, 1) := by decide +kernel
theorem dX4_common_19 : decode cX4_common 19 = .ok (.iload_n 3, 1) := by decide +kernel
theorem dX4_common_20 : decode cX4_common 20 = .ok (.aload_n 0, 1) := by decide +kernel
theorem dX4_common_21 : decode cX4_common 21 = .ok (.getfield 51, 3) := by decide +kernel
theorem dX4_common_24 : decode cX4_common 24 = .ok (.if_icmp .ge 26, 3) := by decide +kernel
theorem dX4_common_27 : decode cX4_common 27 = .ok (.iload_n 1, 1) := by decide +kernel
theorem dX4_common_28 : decode cX4_common 28 = .ok (.iload_n 3, 1) := by decide +kernel
theorem dX4_common_29 : decode cX4_common 29 = .ok (.invokestatic 61, 3) := by decide +kernel
theorem dX4_common_32 : decode cX4_common 32 = .ok (.ifCond .eq 12, 3) := by decide +kernel
theorem dX4_common_35 : decode cX4_common 35 = .ok (.iload_n 2, 1) := by decide +kernel
theorem dX4_common_36 : decode cX4_common 36 = .ok (.aload_n 0, 1) := by decide +kernel
theorem dX4_common_37 : decode cX4_common 37 = .ok (.getfield 31, 3) := by decide +kernel
theorem dX4_common_40 : decode cX4_common 40 = .ok (.iload_n 3, 1) := by decide +kernel
theorem dX4_common_41 : decode cX4_common 41 = .ok (.iaload, 1) := by decide +kernel
theorem dX4_common_42 : decode cX4_common 42 = .ok (.iand, 1) := by decide +kernel
theorem dX4_common_43 : decode cX4_common 43 = .ok (.istore_n 2, 1) := by decide +kernel
theorem dX4_common_44 : decode cX4_common 44 = .ok (.iinc 3 1, 3) := by decide +kernel
theorem dX4_common_47 : decode cX4_common 47 = .ok (.goto (-28), 3) := by decide +kernel
theorem dX4_common_50 : decode cX4_common 50 = .ok (.iload_n 2, 1) := by decide +kernel
theorem dX4_common_51 : decode cX4_common 51 = .ok (.invokestatic 78, 3) := by decide +kernel
theorem dX4_common_54 : decode cX4_common 54 = .ok (.ireturn, 1) := by decide +kernel
theorem dX4_commonTags_0 : decode cX4_commonTags 0 = .ok (.aload_n 0, 1) := by decide +kernel
theorem dX4_commonTags_1 : decode cX4_commonTags 1 = .ok (.iconst 0, 1) := by decide +kernel
theorem dX4_commonTags_2 : decode cX4_commonTags 2 = .ok (.putfield 40, 3) := by decide +kernel
theorem dX4_commonTags_5 : decode cX4_commonTags 5 = .ok (.aload_n 0, 1) := by decide +kernel
theorem dX4_commonTags_6 : decode cX4_commonTags 6 = .ok (.iload_n 1, 1) := by decide +kernel
theorem dX4_commonTags_7 : decode cX4_commonTags 7 = .ok (.invokevirtual 106, 3) := by decide +kernel
theorem dX4_commonTags_10 : decode cX4_commonTags 10 = .ok (.ifCond .ne 9, 3) := by decide +kernel
theorem dX4_commonTags_13 : decode cX4_commonTags 13 = .ok (.aload_n 0, 1) := by decide +kernel
theorem dX4_commonTags_14 : decode cX4_commonTags 14 = .ok (.iconst 1, 1) := by decide +kernel
theorem dX4_commonTags_15 : decode cX4_commonTags 15 = .ok (.invokevirtual 68, 3) := by decide +kernel
theorem dX4_commonTags_18 : decode cX4_commonTags 18 = .ok (.ireturn, 1) := by decide +kernel
theorem dX4_commonTags_19 : decode cX4_commonTags 19 = .ok (.aload_n 0, 1) := by decide +kernel
theorem dX4_commonTags_20 : decode cX4_commonTags 20 = .ok (.invokevirtual 115, 3) := by decide +kernel
theorem dX4_commonTags_23 : decode cX4_commonTags 23 = .ok (.aload_n 0, 1) := by decide +kernel
theorem dX4_commonTags_24 : decode cX4_commonTags 24 = .ok (.aload_n 0, 1) := by decide +kernel
theorem dX4_commonTags_25 : decode cX4_commonTags 25 = .ok (.getfield 37, 3) := by decide +kernel
theorem dX4_commonTags_28 : decode cX4_commonTags 28 = .ok (.iload_n 1, 1) := by decide +kernel
theorem dX4_commonTags_29 : decode cX4_commonTags 29 = .ok (.iaload, 1) := by decide +kernel
theorem dX4_commonTags_30 : decode cX4_commonTags 30 = .ok (.invokevirtual 121, 3) := by decide +kernel
theorem dX4_commonTags_33 : decode cX4_commonTags 33 = .ok (.ireturn, 1) := by decide +kernel
theorem dX4_matchSame_0 : decode cX4_matchSame 0 = .ok (.aload_n 0, 1) := by decide +kernel
theorem dX4_matchSame_1 : decode cX4_matchSame 1 = .ok (.iconst 0, 1) := by decide +kernel
theorem dX4_matchSame_2 : decode cX4_matchSame 2 = .ok (.putfield 40, 3) := by decide +kernel
theorem dX4_matchSame_5 : decode cX4_matchSame 5 = .ok (.aload_n 0, 1) := by decide +kernel
theorem dX4_matchSame_6 : decode cX4_matchSame 6 = .ok (.iload_n 1, 1) := by decide +kernel
theorem dX4_matchSame_7 : decode cX4_matchSame 7 = .ok (.invokevirtual 106, 3) := by decide +kernel
theorem dX4_matchSame_10 : decode cX4_matchSame 10 = .ok (.ifCond .eq 11, 3) := by decide +kernel
theorem dX4_matchSame_13 : decode cX4_matchSame 13 = .ok (.aload_n 0, 1) := by decide +kernel
theorem dX4_matchSame_14 : decode cX4_matchSame 14 = .ok (.iload_n 2, 1) := by decide +kernel
theorem dX4_matchSame_15 : decode cX4_matchSame 15 = .ok (.invokevirtual 106, 3) := by decide +kernel
theorem dX4_matchSame_18 : decode cX4_matchSame 18 = .ok (.ifCond .ne 9, 3) := by decide +kernel
theorem dX4_matchSame_21 : decode cX4_matchSame 21 = .ok (.aload_n 0, 1) := by decide +kernel
theorem dX4_matchSame_22 : decode cX4_matchSame 22 = .ok (.iconst 1, 1) := by decide +kernel
theorem dX4_matchSame_23 : decode cX4_matchSame 23 = .ok (.invokevirtual 109, 3) := by decide +kernel
theorem dX4_matchSame_26 : decode cX4_matchSame 26 = .ok (.ireturn, 1) := by decide +kernel
theorem dX4_matchSame_27 : decode cX4_matchSame 27 = .ok (.aload_n 0, 1) := by decide +kernel
theorem dX4_matchSame_28 : decode cX4_matchSame 28 = .ok (.invokevirtual 115, 3) := by decide +kernel
theorem dX4_matchSame_31 : decode cX4_matchSame 31 = .ok (.aload_n 0, 1) := by decide +kernel
theorem dX4_matchSame_32 : decode cX4_matchSame 32 = .ok (.getfield 37, 3) := by decide +kernel
theorem dX4_matchSame_35 : decode cX4_matchSame 35 = .ok (.iload_n 1, 1) := by decide +kernel
theorem dX4_matchSame_36 : decode cX4_matchSame 36 = .ok (.iaload, 1) := by decide +kernel
theorem dX4_matchSame_37 : decode cX4_matchSame 37 = .ok (.aload_n 0, 1) := by decide +kernel
theorem dX4_matchSame_38 : decode cX4_matchSame 38 = .ok (.getfield 37, 3) := by decide +kernel
theorem dX4_matchSame_41 : decode cX4_matchSame 41 = .ok (.iload_n 2, 1) := by decide +kernel
theorem dX4_matchSame_42 : decode cX4_matchSame 42 = .ok (.iaload, 1) := by decide +kernel
theorem dX4_matchSame_43 : decode cX4_matchSame 43 = .ok (.if_icmp .ne 7, 3) := by decide +kernel
theorem dX4_matchSame_46 : decode cX4_matchSame 46 = .ok (.iconst 1, 1) := by decide +kernel
theorem dX4_matchSame_47 : decode cX4_matchSame 47 = .ok (.goto 4, 3) := by decide +kernel
theorem dX4_matchSame_50 : decode cX4_matchSame 50 = .ok (.iconst 0, 1) := by decide +kernel
theorem dX4_matchSame_51 : decode cX4_matchSame 51 = .ok (.ireturn, 1) := by decide +kernel
theorem dX4_apart_0 : decode cX4_apart 0 = .ok (.iconst 0, 1) := by decide +kernel
theorem dX4_apart_1 : decode cX4_apart 1 = .ok (.istore_n 2, 1) := by decide +kernel
theorem dX4_apart_2 : decode cX4_apart 2 = .ok (.iconst 0, 1) := by decide +kernel
theorem dX4_apart_3 : decode cX4_apart 3 = .ok (.istore_n 3, 1) := by decide +kernel
theorem dX4_apart_4 : decode cX4_apart 4 = .ok (.iconst 0, 1) := by decide +kernel
theorem dX4_apart_5 : decode cX4_apart 5 = .ok (.istore 4, 2) := by decide +kernel
theorem dX4_apart_7 : decode cX4_apart 7 = .ok (.iload 4, 2) := by decide +kernel
theorem dX4_apart_9 : decode cX4_apart 9 = .ok (.aload_n 0, 1) := by decide +kernel
theorem dX4_apart_10 : decode cX4_apart 10 = .ok (.getfield 51, 3) := by decide +kernel
theorem dX4_apart_13 : decode cX4_apart 13 = .ok (.if_icmp .ge 46, 3) := by decide +kernel
theorem dX4_apart_16 : decode cX4_apart 16 = .ok (.iload_n 1, 1) := by decide +kernel
theorem dX4_apart_17 : decode cX4_apart 17 = .ok (.iload 4, 2) := by decide +kernel
theorem dX4_apart_19 : decode cX4_apart 19 = .ok (.invokestatic 61, 3) := by decide +kernel
theorem dX4_apart_22 : decode cX4_apart 22 = .ok (.ifCond .eq 31, 3) := by decide +kernel
theorem dX4_apart_25 : decode cX4_apart 25 = .ok (.aload_n 0, 1) := by decide +kernel
theorem dX4_apart_26 : decode cX4_apart 26 = .ok (.getfield 31, 3) := by decide +kernel
theorem dX4_apart_29 : decode cX4_apart 29 = .ok (.iload 4, 2) := by decide +kernel
theorem dX4_apart_31 : decode cX4_apart 31 = .ok (.iaload, 1) := by decide +kernel
theorem dX4_apart_32 : decode cX4_apart 32 = .ok (.iload_n 2, 1) := by decide +kernel
theorem dX4_apart_33 : decode cX4_apart 33 = .ok (.iand, 1) := by decide +kernel
theorem dX4_apart_34 : decode cX4_apart 34 = .ok (.ifCond .eq 6, 3) := by decide +kernel
theorem dX4_apart_37 : decode cX4_apart 37 = .ok (.goto 16, 3) := by decide +kernel
theorem dX4_apart_40 : decode cX4_apart 40 = .ok (.iload_n 2, 1) := by decide +kernel
theorem dX4_apart_41 : decode cX4_apart 41 = .ok (.aload_n 0, 1) := by decide +kernel
theorem dX4_apart_42 : decode cX4_apart 42 = .ok (.getfield 31, 3) := by decide +kernel
theorem dX4_apart_45 : decode cX4_apart 45 = .ok (.iload 4, 2) := by decide +kernel
theorem dX4_apart_47 : decode cX4_apart 47 = .ok (.iaload, 1) := by decide +kernel
theorem dX4_apart_48 : decode cX4_apart 48 = .ok (.ior, 1) := by decide +kernel
theorem dX4_apart_49 : decode cX4_apart 49 = .ok (.istore_n 2, 1) := by decide +kernel
theorem dX4_apart_50 : decode cX4_apart 50 = .ok (.iinc 3 1, 3) := by decide +kernel
theorem dX4_apart_53 : decode cX4_apart 53 = .ok (.iinc 4 1, 3) := by decide +kernel
theorem dX4_apart_56 : decode cX4_apart 56 = .ok (.goto (-49), 3) := by decide +kernel
theorem dX4_apart_59 : decode cX4_apart 59 = .ok (.iload_n 3, 1) := by decide +kernel
theorem dX4_apart_60 : decode cX4_apart 60 = .ok (.ireturn, 1) := by decide +kernel
theorem dX4_covers_0 : decode cX4_covers 0 = .ok (.iload_n 3, 1) := by decide +kernel
theorem dX4_covers_1 : decode cX4_covers 1 = .ok (.ifCond .ne 5, 3) := by decide +kernel
theorem dX4_covers_4 : decode cX4_covers 4 = .ok (.iconst 1, 1) := by decide +kernel
theorem dX4_covers_5 : decode cX4_covers 5 = .ok (.ireturn, 1) := by decide +kernel
theorem dX4_covers_6 : decode cX4_covers 6 = .ok (.aload_n 0, 1) := by decide +kernel
theorem dX4_covers_7 : decode cX4_covers 7 = .ok (.iload_n 3, 1) := by decide +kernel
theorem dX4_covers_8 : decode cX4_covers 8 = .ok (.invokevirtual 124, 3) := by decide +kernel
theorem dX4_covers_11 : decode cX4_covers 11 = .ok (.iload_n 2, 1) := by decide +kernel
theorem dX4_covers_12 : decode cX4_covers 12 = .ok (.if_icmp .le 5, 3) := by decide +kernel
theorem dX4_covers_15 : decode cX4_covers 15 = .ok (.iconst 0, 1) := by decide +kernel
theorem dX4_covers_16 : decode cX4_covers 16 = .ok (.ireturn, 1) := by decide +kernel
theorem dX4_covers_17 : decode cX4_covers 17 = .ok (.iload_n 1, 1) := by decide +kernel
theorem dX4_covers_18 : decode cX4_covers 18 = .ok (.istore 4, 2) := by decide +kernel
theorem dX4_covers_20 : decode cX4_covers 20 = .ok (.iload 4, 2) := by decide +kernel
theorem dX4_covers_22 : decode cX4_covers 22 = .ok (.aload_n 0, 1) := by decide +kernel
theorem dX4_covers_23 : decode cX4_covers 23 = .ok (.getfield 44, 3) := by decide +kernel
theorem dX4_covers_26 : decode cX4_covers 26 = .ok (.if_icmp .ge 79, 3) := by decide +kernel
theorem dX4_covers_29 : decode cX4_covers 29 = .ok (.iload_n 3, 1) := by decide +kernel
theorem dX4_covers_30 : decode cX4_covers 30 = .ok (.aload_n 0, 1) := by decide +kernel
theorem dX4_covers_31 : decode cX4_covers 31 = .ok (.getfield 34, 3) := by decide +kernel
theorem dX4_covers_34 : decode cX4_covers 34 = .ok (.iload 4, 2) := by decide +kernel
theorem dX4_covers_36 : decode cX4_covers 36 = .ok (.iaload, 1) := by decide +kernel
theorem dX4_covers_37 : decode cX4_covers 37 = .ok (.iand, 1) := by decide +kernel
theorem dX4_covers_38 : decode cX4_covers 38 = .ok (.ifCond .ne 6, 3) := by decide +kernel
theorem dX4_covers_41 : decode cX4_covers 41 = .ok (.goto 58, 3) := by decide +kernel
theorem dX4_covers_44 : decode cX4_covers 44 = .ok (.aload_n 0, 1) := by decide +kernel
theorem dX4_covers_45 : decode cX4_covers 45 = .ok (.dup, 1) := by decide +kernel
theorem dX4_covers_46 : decode cX4_covers 46 = .ok (.getfield 127, 3) := by decide +kernel
theorem dX4_covers_49 : decode cX4_covers 49 = .ok (.iconst 1, 1) := by decide +kernel
theorem dX4_covers_50 : decode cX4_covers 50 = .ok (.iload 4, 2) := by decide +kernel
theorem dX4_covers_52 : decode cX4_covers 52 = .ok (.ishl, 1) := by decide +kernel
theorem dX4_covers_53 : decode cX4_covers 53 = .ok (.ior, 1) := by decide +kernel
theorem dX4_covers_54 : decode cX4_covers 54 = .ok (.putfield 127, 3) := by decide +kernel
theorem dX4_covers_57 : decode cX4_covers 57 = .ok (.aload_n 0, 1) := by decide +kernel
theorem dX4_covers_58 : decode cX4_covers 58 = .ok (.iload 4, 2) := by decide +kernel
theorem dX4_covers_60 : decode cX4_covers 60 = .ok (.iconst 1, 1) := by decide +kernel
theorem dX4_covers_61 : decode cX4_covers 61 = .ok (.iadd, 1) := by decide +kernel
theorem dX4_covers_62 : decode cX4_covers 62 = .ok (.iload_n 2, 1) := by decide +kernel
theorem dX4_covers_63 : decode cX4_covers 63 = .ok (.iconst 1, 1) := by decide +kernel
theorem dX4_covers_64 : decode cX4_covers 64 = .ok (.isub, 1) := by decide +kernel
theorem dX4_covers_65 : decode cX4_covers 65 = .ok (.iload_n 3, 1) := by decide +kernel
theorem dX4_covers_66 : decode cX4_covers 66 = .ok (.aload_n 0, 1) := by decide +kernel
theorem dX4_covers_67 : decode cX4_covers 67 = .ok (.getfield 34, 3) := by decide +kernel
theorem dX4_covers_70 : decode cX4_covers 70 = .ok (.iload 4, 2) := by decide +kernel
theorem dX4_covers_72 : decode cX4_covers 72 = .ok (.iaload, 1) := by decide +kernel
theorem dX4_covers_73 : decode cX4_covers 73 = .ok (.iconst (-1), 1) := by decide +kernel
theorem dX4_covers_74 : decode cX4_covers 74 = .ok (.ixor, 1) := by decide +kernel
theorem dX4_covers_75 : decode cX4_covers 75 = .ok (.iand, 1) := by decide +kernel
theorem dX4_covers_76 : decode cX4_covers 76 = .ok (.invokevirtual 130, 3) := by decide +kernel
theorem dX4_covers_79 : decode cX4_covers 79 = .ok (.ifCond .eq 5, 3) := by decide +kernel
theorem dX4_covers_82 : decode cX4_covers 82 = .ok (.iconst 1, 1) := by decide +kernel
theorem dX4_covers_83 : decode cX4_covers 83 = .ok (.ireturn, 1) := by decide +kernel
theorem dX4_covers_84 : decode cX4_covers 84 = .ok (.aload_n 0, 1) := by decide +kernel
theorem dX4_covers_85 : decode cX4_covers 85 = .ok (.dup, 1) := by decide +kernel
theorem dX4_covers_86 : decode cX4_covers 86 = .ok (.getfield 127, 3) := by decide +kernel
theorem dX4_covers_89 : decode cX4_covers 89 = .ok (.iconst 1, 1) := by decide +kernel
theorem dX4_covers_90 : decode cX4_covers 90 = .ok (.iload 4, 2) := by decide +kernel
theorem dX4_covers_92 : decode cX4_covers 92 = .ok (.ishl, 1) := by decide +kernel
theorem dX4_covers_93 : decode cX4_covers 93 = .ok (.iconst (-1), 1) := by decide +kernel
theorem dX4_covers_94 : decode cX4_covers 94 = .ok (.ixor, 1) := by decide +kernel
theorem dX4_covers_95 : decode cX4_covers 95 = .ok (.iand, 1) := by decide +kernel
theorem dX4_covers_96 : decode cX4_covers 96 = .ok (.putfield 127, 3) := by decide +kernel
theorem dX4_covers_99 : decode cX4_covers 99 = .ok (.iinc 4 1, 3) := by decide +kernel
theorem dX4_covers_102 : decode cX4_covers 102 = .ok (.goto (-82), 3) := by decide +kernel
theorem dX4_covers_105 : decode cX4_covers 105 = .ok (.iconst 0, 1) := by decide +kernel
theorem dX4_covers_106 : decode cX4_covers 106 = .ok (.ireturn, 1) := by decide +kernel
theorem dX4_cover_0 : decode cX4_cover 0 = .ok (.iconst 0, 1) := by decide +kernel
theorem dX4_cover_1 : decode cX4_cover 1 = .ok (.istore_n 2, 1) := by decide +kernel
theorem dX4_cover_2 : decode cX4_cover 2 = .ok (.aload_n 0, 1) := by decide +kernel
theorem dX4_cover_3 : decode cX4_cover 3 = .ok (.iconst 0, 1) := by decide +kernel
theorem dX4_cover_4 : decode cX4_cover 4 = .ok (.putfield 127, 3) := by decide +kernel
theorem dX4_cover_7 : decode cX4_cover 7 = .ok (.aload_n 0, 1) := by decide +kernel
theorem dX4_cover_8 : decode cX4_cover 8 = .ok (.iconst 0, 1) := by decide +kernel
theorem dX4_cover_9 : decode cX4_cover 9 = .ok (.iload_n 2, 1) := by decide +kernel
theorem dX4_cover_10 : decode cX4_cover 10 = .ok (.iload_n 1, 1) := by decide +kernel
theorem dX4_cover_11 : decode cX4_cover 11 = .ok (.invokevirtual 130, 3) := by decide +kernel
theorem dX4_cover_14 : decode cX4_cover 14 = .ok (.ifCond .ne 9, 3) := by decide +kernel
theorem dX4_cover_17 : decode cX4_cover 17 = .ok (.iinc 2 1, 3) := by decide +kernel
theorem dX4_cover_20 : decode cX4_cover 20 = .ok (.goto (-13), 3) := by decide +kernel
theorem dX4_cover_23 : decode cX4_cover 23 = .ok (.aload_n 0, 1) := by decide +kernel
theorem dX4_cover_24 : decode cX4_cover 24 = .ok (.getfield 127, 3) := by decide +kernel
theorem dX4_cover_27 : decode cX4_cover 27 = .ok (.ireturn, 1) := by decide +kernel
theorem dX4_coverSize_0 : decode cX4_coverSize 0 = .ok (.aload_n 0, 1) := by decide +kernel
theorem dX4_coverSize_1 : decode cX4_coverSize 1 = .ok (.iconst 0, 1) := by decide +kernel
theorem dX4_coverSize_2 : decode cX4_coverSize 2 = .ok (.putfield 40, 3) := by decide +kernel
theorem dX4_coverSize_5 : decode cX4_coverSize 5 = .ok (.aload_n 0, 1) := by decide +kernel
theorem dX4_coverSize_6 : decode cX4_coverSize 6 = .ok (.iload_n 1, 1) := by decide +kernel
theorem dX4_coverSize_7 : decode cX4_coverSize 7 = .ok (.invokevirtual 106, 3) := by decide +kernel
theorem dX4_coverSize_10 : decode cX4_coverSize 10 = .ok (.ifCond .ne 9, 3) := by decide +kernel
theorem dX4_coverSize_13 : decode cX4_coverSize 13 = .ok (.aload_n 0, 1) := by decide +kernel
theorem dX4_coverSize_14 : decode cX4_coverSize 14 = .ok (.iconst 1, 1) := by decide +kernel
theorem dX4_coverSize_15 : decode cX4_coverSize 15 = .ok (.invokevirtual 68, 3) := by decide +kernel
theorem dX4_coverSize_18 : decode cX4_coverSize 18 = .ok (.ireturn, 1) := by decide +kernel
theorem dX4_coverSize_19 : decode cX4_coverSize 19 = .ok (.aload_n 0, 1) := by decide +kernel
theorem dX4_coverSize_20 : decode cX4_coverSize 20 = .ok (.invokevirtual 115, 3) := by decide +kernel
theorem dX4_coverSize_23 : decode cX4_coverSize 23 = .ok (.aload_n 0, 1) := by decide +kernel
theorem dX4_coverSize_24 : decode cX4_coverSize 24 = .ok (.aload_n 0, 1) := by decide +kernel
theorem dX4_coverSize_25 : decode cX4_coverSize 25 = .ok (.getfield 37, 3) := by decide +kernel
theorem dX4_coverSize_28 : decode cX4_coverSize 28 = .ok (.iload_n 1, 1) := by decide +kernel
theorem dX4_coverSize_29 : decode cX4_coverSize 29 = .ok (.iaload, 1) := by decide +kernel
theorem dX4_coverSize_30 : decode cX4_coverSize 30 = .ok (.invokevirtual 133, 3) := by decide +kernel
theorem dX4_coverSize_33 : decode cX4_coverSize 33 = .ok (.invokestatic 78, 3) := by decide +kernel
theorem dX4_coverSize_36 : decode cX4_coverSize 36 = .ok (.ireturn, 1) := by decide +kernel
theorem dX4_coverTag_0 : decode cX4_coverTag 0 = .ok (.aload_n 0, 1) := by decide +kernel
theorem dX4_coverTag_1 : decode cX4_coverTag 1 = .ok (.iconst 0, 1) := by decide +kernel
theorem dX4_coverTag_2 : decode cX4_coverTag 2 = .ok (.putfield 40, 3) := by decide +kernel
theorem dX4_coverTag_5 : decode cX4_coverTag 5 = .ok (.aload_n 0, 1) := by decide +kernel
theorem dX4_coverTag_6 : decode cX4_coverTag 6 = .ok (.iload_n 1, 1) := by decide +kernel
theorem dX4_coverTag_7 : decode cX4_coverTag 7 = .ok (.invokevirtual 106, 3) := by decide +kernel
theorem dX4_coverTag_10 : decode cX4_coverTag 10 = .ok (.ifCond .ne 9, 3) := by decide +kernel
theorem dX4_coverTag_13 : decode cX4_coverTag 13 = .ok (.aload_n 0, 1) := by decide +kernel
theorem dX4_coverTag_14 : decode cX4_coverTag 14 = .ok (.iconst 1, 1) := by decide +kernel
theorem dX4_coverTag_15 : decode cX4_coverTag 15 = .ok (.invokevirtual 68, 3) := by decide +kernel
theorem dX4_coverTag_18 : decode cX4_coverTag 18 = .ok (.ireturn, 1) := by decide +kernel
theorem dX4_coverTag_19 : decode cX4_coverTag 19 = .ok (.aload_n 0, 1) := by decide +kernel
theorem dX4_coverTag_20 : decode cX4_coverTag 20 = .ok (.invokevirtual 115, 3) := by decide +kernel
theorem dX4_coverTag_23 : decode cX4_coverTag 23 = .ok (.aload_n 0, 1) := by decide +kernel
theorem dX4_coverTag_24 : decode cX4_coverTag 24 = .ok (.aload_n 0, 1) := by decide +kernel
theorem dX4_coverTag_25 : decode cX4_coverTag 25 = .ok (.getfield 37, 3) := by decide +kernel
theorem dX4_coverTag_28 : decode cX4_coverTag 28 = .ok (.iload_n 1, 1) := by decide +kernel
theorem dX4_coverTag_29 : decode cX4_coverTag 29 = .ok (.iaload, 1) := by decide +kernel
theorem dX4_coverTag_30 : decode cX4_coverTag 30 = .ok (.invokevirtual 133, 3) := by decide +kernel
theorem dX4_coverTag_33 : decode cX4_coverTag 33 = .ok (.istore_n 3, 1) := by decide +kernel
theorem dX4_coverTag_34 : decode cX4_coverTag 34 = .ok (.iload_n 2, 1) := by decide +kernel
theorem dX4_coverTag_35 : decode cX4_coverTag 35 = .ok (.iconst 0, 1) := by decide +kernel
theorem dX4_coverTag_36 : decode cX4_coverTag 36 = .ok (.iload_n 3, 1) := by decide +kernel
theorem dX4_coverTag_37 : decode cX4_coverTag 37 = .ok (.invokestatic 78, 3) := by decide +kernel
theorem dX4_coverTag_40 : decode cX4_coverTag 40 = .ok (.iconst 1, 1) := by decide +kernel
theorem dX4_coverTag_41 : decode cX4_coverTag 41 = .ok (.isub, 1) := by decide +kernel
theorem dX4_coverTag_42 : decode cX4_coverTag 42 = .ok (.invokestatic 47, 3) := by decide +kernel
theorem dX4_coverTag_45 : decode cX4_coverTag 45 = .ok (.ifCond .ne 9, 3) := by decide +kernel
theorem dX4_coverTag_48 : decode cX4_coverTag 48 = .ok (.aload_n 0, 1) := by decide +kernel
theorem dX4_coverTag_49 : decode cX4_coverTag 49 = .ok (.iconst 1, 1) := by decide +kernel
theorem dX4_coverTag_50 : decode cX4_coverTag 50 = .ok (.invokevirtual 68, 3) := by decide +kernel
theorem dX4_coverTag_53 : decode cX4_coverTag 53 = .ok (.ireturn, 1) := by decide +kernel
theorem dX4_coverTag_54 : decode cX4_coverTag 54 = .ok (.iconst 0, 1) := by decide +kernel
theorem dX4_coverTag_55 : decode cX4_coverTag 55 = .ok (.istore 4, 2) := by decide +kernel
theorem dX4_coverTag_57 : decode cX4_coverTag 57 = .ok (.iload 4, 2) := by decide +kernel
theorem dX4_coverTag_59 : decode cX4_coverTag 59 = .ok (.iload_n 2, 1) := by decide +kernel
theorem dX4_coverTag_60 : decode cX4_coverTag 60 = .ok (.if_icmp .ge 15, 3) := by decide +kernel
theorem dX4_coverTag_63 : decode cX4_coverTag 63 = .ok (.iload_n 3, 1) := by decide +kernel
theorem dX4_coverTag_64 : decode cX4_coverTag 64 = .ok (.iload_n 3, 1) := by decide +kernel
theorem dX4_coverTag_65 : decode cX4_coverTag 65 = .ok (.iconst 1, 1) := by decide +kernel
theorem dX4_coverTag_66 : decode cX4_coverTag 66 = .ok (.isub, 1) := by decide +kernel
theorem dX4_coverTag_67 : decode cX4_coverTag 67 = .ok (.iand, 1) := by decide +kernel
theorem dX4_coverTag_68 : decode cX4_coverTag 68 = .ok (.istore_n 3, 1) := by decide +kernel
theorem dX4_coverTag_69 : decode cX4_coverTag 69 = .ok (.iinc 4 1, 3) := by decide +kernel
theorem dX4_coverTag_72 : decode cX4_coverTag 72 = .ok (.goto (-15), 3) := by decide +kernel
theorem dX4_coverTag_75 : decode cX4_coverTag 75 = .ok (.iconst 0, 1) := by decide +kernel
theorem dX4_coverTag_76 : decode cX4_coverTag 76 = .ok (.istore 4, 2) := by decide +kernel
theorem dX4_coverTag_78 : decode cX4_coverTag 78 = .ok (.iload_n 3, 1) := by decide +kernel
theorem dX4_coverTag_79 : decode cX4_coverTag 79 = .ok (.iload 4, 2) := by decide +kernel
theorem dX4_coverTag_81 : decode cX4_coverTag 81 = .ok (.invokestatic 61, 3) := by decide +kernel
theorem dX4_coverTag_84 : decode cX4_coverTag 84 = .ok (.ifCond .ne 9, 3) := by decide +kernel
theorem dX4_coverTag_87 : decode cX4_coverTag 87 = .ok (.iinc 4 1, 3) := by decide +kernel
theorem dX4_coverTag_90 : decode cX4_coverTag 90 = .ok (.goto (-12), 3) := by decide +kernel
theorem dX4_coverTag_93 : decode cX4_coverTag 93 = .ok (.iload 4, 2) := by decide +kernel
theorem dX4_coverTag_95 : decode cX4_coverTag 95 = .ok (.ireturn, 1) := by decide +kernel
theorem dX4_tags_0 : decode cX4_tags 0 = .ok (.aload_n 0, 1) := by decide +kernel
theorem dX4_tags_1 : decode cX4_tags 1 = .ok (.iconst 0, 1) := by decide +kernel
theorem dX4_tags_2 : decode cX4_tags 2 = .ok (.putfield 40, 3) := by decide +kernel
theorem dX4_tags_5 : decode cX4_tags 5 = .ok (.aload_n 0, 1) := by decide +kernel
theorem dX4_tags_6 : decode cX4_tags 6 = .ok (.getfield 44, 3) := by decide +kernel
theorem dX4_tags_9 : decode cX4_tags 9 = .ok (.ireturn, 1) := by decide +kernel
theorem dX4_dreams_0 : decode cX4_dreams 0 = .ok (.aload_n 0, 1) := by decide +kernel
theorem dX4_dreams_1 : decode cX4_dreams 1 = .ok (.iconst 0, 1) := by decide +kernel
theorem dX4_dreams_2 : decode cX4_dreams 2 = .ok (.putfield 40, 3) := by decide +kernel
theorem dX4_dreams_5 : decode cX4_dreams 5 = .ok (.aload_n 0, 1) := by decide +kernel
theorem dX4_dreams_6 : decode cX4_dreams 6 = .ok (.getfield 51, 3) := by decide +kernel
theorem dX4_dreams_9 : decode cX4_dreams 9 = .ok (.ireturn, 1) := by decide +kernel
theorem dX4_terms_0 : decode cX4_terms 0 = .ok (.aload_n 0, 1) := by decide +kernel
theorem dX4_terms_1 : decode cX4_terms 1 = .ok (.iconst 0, 1) := by decide +kernel
theorem dX4_terms_2 : decode cX4_terms 2 = .ok (.putfield 40, 3) := by decide +kernel
theorem dX4_terms_5 : decode cX4_terms 5 = .ok (.aload_n 0, 1) := by decide +kernel
theorem dX4_terms_6 : decode cX4_terms 6 = .ok (.getfield 54, 3) := by decide +kernel
theorem dX4_terms_9 : decode cX4_terms 9 = .ok (.ireturn, 1) := by decide +kernel
theorem dX4_nights_0 : decode cX4_nights 0 = .ok (.aload_n 0, 1) := by decide +kernel
theorem dX4_nights_1 : decode cX4_nights 1 = .ok (.iconst 0, 1) := by decide +kernel
theorem dX4_nights_2 : decode cX4_nights 2 = .ok (.putfield 40, 3) := by decide +kernel
theorem dX4_nights_5 : decode cX4_nights 5 = .ok (.aload_n 0, 1) := by decide +kernel
theorem dX4_nights_6 : decode cX4_nights 6 = .ok (.getfield 81, 3) := by decide +kernel
theorem dX4_nights_9 : decode cX4_nights 9 = .ok (.ireturn, 1) := by decide +kernel
theorem dX4_fadedDreams_0 : decode cX4_fadedDreams 0 = .ok (.aload_n 0, 1) := by decide +kernel
theorem dX4_fadedDreams_1 : decode cX4_fadedDreams 1 = .ok (.iconst 0, 1) := by decide +kernel
theorem dX4_fadedDreams_2 : decode cX4_fadedDreams 2 = .ok (.putfield 40, 3) := by decide +kernel
theorem dX4_fadedDreams_5 : decode cX4_fadedDreams 5 = .ok (.aload_n 0, 1) := by decide +kernel
theorem dX4_fadedDreams_6 : decode cX4_fadedDreams 6 = .ok (.iconst 0, 1) := by decide +kernel
theorem dX4_fadedDreams_7 : decode cX4_fadedDreams 7 = .ok (.invokevirtual 99, 3) := by decide +kernel
theorem dX4_fadedDreams_10 : decode cX4_fadedDreams 10 = .ok (.ireturn, 1) := by decide +kernel
theorem dX4_fadedAfter_0 : decode cX4_fadedAfter 0 = .ok (.aload_n 0, 1) := by decide +kernel
theorem dX4_fadedAfter_1 : decode cX4_fadedAfter 1 = .ok (.iconst 0, 1) := by decide +kernel
theorem dX4_fadedAfter_2 : decode cX4_fadedAfter 2 = .ok (.putfield 40, 3) := by decide +kernel
theorem dX4_fadedAfter_5 : decode cX4_fadedAfter 5 = .ok (.iload_n 1, 1) := by decide +kernel
theorem dX4_fadedAfter_6 : decode cX4_fadedAfter 6 = .ok (.iconst 1, 1) := by decide +kernel
theorem dX4_fadedAfter_7 : decode cX4_fadedAfter 7 = .ok (.bipush 30, 2) := by decide +kernel
theorem dX4_fadedAfter_9 : decode cX4_fadedAfter 9 = .ok (.invokestatic 47, 3) := by decide +kernel
theorem dX4_fadedAfter_12 : decode cX4_fadedAfter 12 = .ok (.ifCond .eq 11, 3) := by decide +kernel
theorem dX4_fadedAfter_15 : decode cX4_fadedAfter 15 = .ok (.aload_n 0, 1) := by decide +kernel
theorem dX4_fadedAfter_16 : decode cX4_fadedAfter 16 = .ok (.iload_n 1, 1) := by decide +kernel
theorem dX4_fadedAfter_17 : decode cX4_fadedAfter 17 = .ok (.invokevirtual 99, 3) := by decide +kernel
theorem dX4_fadedAfter_20 : decode cX4_fadedAfter 20 = .ok (.goto 8, 3) := by decide +kernel
theorem dX4_fadedAfter_23 : decode cX4_fadedAfter 23 = .ok (.aload_n 0, 1) := by decide +kernel
theorem dX4_fadedAfter_24 : decode cX4_fadedAfter 24 = .ok (.iconst 1, 1) := by decide +kernel
theorem dX4_fadedAfter_25 : decode cX4_fadedAfter 25 = .ok (.invokevirtual 68, 3) := by decide +kernel
theorem dX4_fadedAfter_28 : decode cX4_fadedAfter 28 = .ok (.ireturn, 1) := by decide +kernel
theorem dX4_matchesWith_0 : decode cX4_matchesWith 0 = .ok (.aload_n 0, 1) := by decide +kernel
theorem dX4_matchesWith_1 : decode cX4_matchesWith 1 = .ok (.getfield 9, 3) := by decide +kernel
theorem dX4_matchesWith_4 : decode cX4_matchesWith 4 = .ok (.iload_n 2, 1) := by decide +kernel
theorem dX4_matchesWith_5 : decode cX4_matchesWith 5 = .ok (.iaload, 1) := by decide +kernel
theorem dX4_matchesWith_6 : decode cX4_matchesWith 6 = .ok (.istore 4, 2) := by decide +kernel
theorem dX4_matchesWith_8 : decode cX4_matchesWith 8 = .ok (.aload_n 0, 1) := by decide +kernel
theorem dX4_matchesWith_9 : decode cX4_matchesWith 9 = .ok (.getfield 9, 3) := by decide +kernel
theorem dX4_matchesWith_12 : decode cX4_matchesWith 12 = .ok (.iload_n 2, 1) := by decide +kernel
theorem dX4_matchesWith_13 : decode cX4_matchesWith 13 = .ok (.iload_n 3, 1) := by decide +kernel
theorem dX4_matchesWith_14 : decode cX4_matchesWith 14 = .ok (.iastore, 1) := by decide +kernel
theorem dX4_matchesWith_15 : decode cX4_matchesWith 15 = .ok (.aload_n 0, 1) := by decide +kernel
theorem dX4_matchesWith_16 : decode cX4_matchesWith 16 = .ok (.invokevirtual 115, 3) := by decide +kernel
theorem dX4_matchesWith_19 : decode cX4_matchesWith 19 = .ok (.aload_n 0, 1) := by decide +kernel
theorem dX4_matchesWith_20 : decode cX4_matchesWith 20 = .ok (.getfield 9, 3) := by decide +kernel
theorem dX4_matchesWith_23 : decode cX4_matchesWith 23 = .ok (.iload_n 2, 1) := by decide +kernel
theorem dX4_matchesWith_24 : decode cX4_matchesWith 24 = .ok (.iload 4, 2) := by decide +kernel
theorem dX4_matchesWith_26 : decode cX4_matchesWith 26 = .ok (.iastore, 1) := by decide +kernel
theorem dX4_matchesWith_27 : decode cX4_matchesWith 27 = .ok (.aload_n 0, 1) := by decide +kernel
theorem dX4_matchesWith_28 : decode cX4_matchesWith 28 = .ok (.getfield 37, 3) := by decide +kernel
theorem dX4_matchesWith_31 : decode cX4_matchesWith 31 = .ok (.iload_n 1, 1) := by decide +kernel
theorem dX4_matchesWith_32 : decode cX4_matchesWith 32 = .ok (.iaload, 1) := by decide +kernel
theorem dX4_matchesWith_33 : decode cX4_matchesWith 33 = .ok (.invokestatic 78, 3) := by decide +kernel
theorem dX4_matchesWith_36 : decode cX4_matchesWith 36 = .ok (.ireturn, 1) := by decide +kernel
theorem dX4_matchesIfUnder_0 : decode cX4_matchesIfUnder 0 = .ok (.aload_n 0, 1) := by decide +kernel
theorem dX4_matchesIfUnder_1 : decode cX4_matchesIfUnder 1 = .ok (.iconst 0, 1) := by decide +kernel
theorem dX4_matchesIfUnder_2 : decode cX4_matchesIfUnder 2 = .ok (.putfield 40, 3) := by decide +kernel
theorem dX4_matchesIfUnder_5 : decode cX4_matchesIfUnder 5 = .ok (.aload_n 0, 1) := by decide +kernel
theorem dX4_matchesIfUnder_6 : decode cX4_matchesIfUnder 6 = .ok (.iload_n 1, 1) := by decide +kernel
theorem dX4_matchesIfUnder_7 : decode cX4_matchesIfUnder 7 = .ok (.invokevirtual 106, 3) := by decide +kernel
theorem dX4_matchesIfUnder_10 : decode cX4_matchesIfUnder 10 = .ok (.ifCond .ne 9, 3) := by decide +kernel
theorem dX4_matchesIfUnder_13 : decode cX4_matchesIfUnder 13 = .ok (.aload_n 0, 1) := by decide +kernel
theorem dX4_matchesIfUnder_14 : decode cX4_matchesIfUnder 14 = .ok (.iconst 1, 1) := by decide +kernel
theorem dX4_matchesIfUnder_15 : decode cX4_matchesIfUnder 15 = .ok (.invokevirtual 68, 3) := by decide +kernel
theorem dX4_matchesIfUnder_18 : decode cX4_matchesIfUnder 18 = .ok (.ireturn, 1) := by decide +kernel
theorem dX4_matchesIfUnder_19 : decode cX4_matchesIfUnder 19 = .ok (.aload_n 0, 1) := by decide +kernel
theorem dX4_matchesIfUnder_20 : decode cX4_matchesIfUnder 20 = .ok (.iload_n 2, 1) := by decide +kernel
theorem dX4_matchesIfUnder_21 : decode cX4_matchesIfUnder 21 = .ok (.iload_n 3, 1) := by decide +kernel
theorem dX4_matchesIfUnder_22 : decode cX4_matchesIfUnder 22 = .ok (.invokevirtual 75, 3) := by decide +kernel
theorem dX4_matchesIfUnder_25 : decode cX4_matchesIfUnder 25 = .ok (.ifCond .eq 13, 3) := by decide +kernel
theorem dX4_matchesIfUnder_28 : decode cX4_matchesIfUnder 28 = .ok (.aload_n 0, 1) := by decide +kernel
theorem dX4_matchesIfUnder_29 : decode cX4_matchesIfUnder 29 = .ok (.iload_n 1, 1) := by decide +kernel
theorem dX4_matchesIfUnder_30 : decode cX4_matchesIfUnder 30 = .ok (.iload_n 2, 1) := by decide +kernel
theorem dX4_matchesIfUnder_31 : decode cX4_matchesIfUnder 31 = .ok (.iload_n 3, 1) := by decide +kernel
theorem dX4_matchesIfUnder_32 : decode cX4_matchesIfUnder 32 = .ok (.invokevirtual 136, 3) := by decide +kernel
theorem dX4_matchesIfUnder_35 : decode cX4_matchesIfUnder 35 = .ok (.goto 4, 3) := by decide +kernel
theorem dX4_matchesIfUnder_38 : decode cX4_matchesIfUnder 38 = .ok (.iconst 0, 1) := by decide +kernel
theorem dX4_matchesIfUnder_39 : decode cX4_matchesIfUnder 39 = .ok (.ireturn, 1) := by decide +kernel
theorem dX4_bestParent_0 : decode cX4_bestParent 0 = .ok (.aload_n 0, 1) := by decide +kernel
theorem dX4_bestParent_1 : decode cX4_bestParent 1 = .ok (.iconst 0, 1) := by decide +kernel
theorem dX4_bestParent_2 : decode cX4_bestParent 2 = .ok (.putfield 40, 3) := by decide +kernel
theorem dX4_bestParent_5 : decode cX4_bestParent 5 = .ok (.aload_n 0, 1) := by decide +kernel
theorem dX4_bestParent_6 : decode cX4_bestParent 6 = .ok (.iload_n 1, 1) := by decide +kernel
theorem dX4_bestParent_7 : decode cX4_bestParent 7 = .ok (.invokevirtual 106, 3) := by decide +kernel
theorem dX4_bestParent_10 : decode cX4_bestParent 10 = .ok (.ifCond .eq 11, 3) := by decide +kernel
theorem dX4_bestParent_13 : decode cX4_bestParent 13 = .ok (.aload_n 0, 1) := by decide +kernel
theorem dX4_bestParent_14 : decode cX4_bestParent 14 = .ok (.iload_n 2, 1) := by decide +kernel
theorem dX4_bestParent_15 : decode cX4_bestParent 15 = .ok (.invokevirtual 71, 3) := by decide +kernel
theorem dX4_bestParent_18 : decode cX4_bestParent 18 = .ok (.ifCond .ne 9, 3) := by decide +kernel
theorem dX4_bestParent_21 : decode cX4_bestParent 21 = .ok (.aload_n 0, 1) := by decide +kernel
theorem dX4_bestParent_22 : decode cX4_bestParent 22 = .ok (.iconst 1, 1) := by decide +kernel
theorem dX4_bestParent_23 : decode cX4_bestParent 23 = .ok (.invokevirtual 68, 3) := by decide +kernel
theorem dX4_bestParent_26 : decode cX4_bestParent 26 = .ok (.ireturn, 1) := by decide +kernel
theorem dX4_bestParent_27 : decode cX4_bestParent 27 = .ok (.iconst (-1), 1) := by decide +kernel
theorem dX4_bestParent_28 : decode cX4_bestParent 28 = .ok (.istore_n 3, 1) := by decide +kernel
theorem dX4_bestParent_29 : decode cX4_bestParent 29 = .ok (.aload_n 0, 1) := by decide +kernel
theorem dX4_bestParent_30 : decode cX4_bestParent 30 = .ok (.iload_n 1, 1) := by decide +kernel
theorem dX4_bestParent_31 : decode cX4_bestParent 31 = .ok (.iload_n 2, 1) := by decide +kernel
theorem dX4_bestParent_32 : decode cX4_bestParent 32 = .ok (.aload_n 0, 1) := by decide +kernel
theorem dX4_bestParent_33 : decode cX4_bestParent 33 = .ok (.getfield 9, 3) := by decide +kernel
theorem dX4_bestParent_36 : decode cX4_bestParent 36 = .ok (.iload_n 2, 1) := by decide +kernel
theorem dX4_bestParent_37 : decode cX4_bestParent 37 = .ok (.iaload, 1) := by decide +kernel
theorem dX4_bestParent_38 : decode cX4_bestParent 38 = .ok (.invokevirtual 136, 3) := by decide +kernel
theorem dX4_bestParent_41 : decode cX4_bestParent 41 = .ok (.istore 4, 2) := by decide +kernel
theorem dX4_bestParent_43 : decode cX4_bestParent 43 = .ok (.iconst 0, 1) := by decide +kernel
theorem dX4_bestParent_44 : decode cX4_bestParent 44 = .ok (.istore 5, 2) := by decide +kernel
theorem dX4_bestParent_46 : decode cX4_bestParent 46 = .ok (.iload 5, 2) := by decide +kernel
theorem dX4_bestParent_48 : decode cX4_bestParent 48 = .ok (.aload_n 0, 1) := by decide +kernel
theorem dX4_bestParent_49 : decode cX4_bestParent 49 = .ok (.getfield 44, 3) := by decide +kernel
theorem dX4_bestParent_52 : decode cX4_bestParent 52 = .ok (.if_icmp .ge 55, 3) := by decide +kernel
theorem dX4_bestParent_55 : decode cX4_bestParent 55 = .ok (.iload 5, 2) := by decide +kernel
theorem dX4_bestParent_57 : decode cX4_bestParent 57 = .ok (.iload_n 2, 1) := by decide +kernel
theorem dX4_bestParent_58 : decode cX4_bestParent 58 = .ok (.if_icmp .eq 43, 3) := by decide +kernel
theorem dX4_bestParent_61 : decode cX4_bestParent 61 = .ok (.aload_n 0, 1) := by decide +kernel
theorem dX4_bestParent_62 : decode cX4_bestParent 62 = .ok (.iload 5, 2) := by decide +kernel
theorem dX4_bestParent_64 : decode cX4_bestParent 64 = .ok (.iload_n 2, 1) := by decide +kernel
theorem dX4_bestParent_65 : decode cX4_bestParent 65 = .ok (.invokevirtual 65, 3) := by decide +kernel
theorem dX4_bestParent_68 : decode cX4_bestParent 68 = .ok (.ifCond .eq 6, 3) := by decide +kernel
theorem dX4_bestParent_71 : decode cX4_bestParent 71 = .ok (.goto 30, 3) := by decide +kernel
theorem dX4_bestParent_74 : decode cX4_bestParent 74 = .ok (.aload_n 0, 1) := by decide +kernel
theorem dX4_bestParent_75 : decode cX4_bestParent 75 = .ok (.iload_n 1, 1) := by decide +kernel
theorem dX4_bestParent_76 : decode cX4_bestParent 76 = .ok (.iload_n 2, 1) := by decide +kernel
theorem dX4_bestParent_77 : decode cX4_bestParent 77 = .ok (.iload 5, 2) := by decide +kernel
theorem dX4_bestParent_79 : decode cX4_bestParent 79 = .ok (.invokevirtual 136, 3) := by decide +kernel
theorem dX4_bestParent_82 : decode cX4_bestParent 82 = .ok (.istore 6, 2) := by decide +kernel
theorem dX4_bestParent_84 : decode cX4_bestParent 84 = .ok (.iload 6, 2) := by decide +kernel
theorem dX4_bestParent_86 : decode cX4_bestParent 86 = .ok (.iload 4, 2) := by decide +kernel
theorem dX4_bestParent_88 : decode cX4_bestParent 88 = .ok (.if_icmp .gt 6, 3) := by decide +kernel
theorem dX4_bestParent_91 : decode cX4_bestParent 91 = .ok (.goto 10, 3) := by decide +kernel
theorem dX4_bestParent_94 : decode cX4_bestParent 94 = .ok (.iload 5, 2) := by decide +kernel
theorem dX4_bestParent_96 : decode cX4_bestParent 96 = .ok (.istore_n 3, 1) := by decide +kernel
theorem dX4_bestParent_97 : decode cX4_bestParent 97 = .ok (.iload 6, 2) := by decide +kernel
theorem dX4_bestParent_99 : decode cX4_bestParent 99 = .ok (.istore 4, 2) := by decide +kernel
theorem dX4_bestParent_101 : decode cX4_bestParent 101 = .ok (.iinc 5 1, 3) := by decide +kernel
theorem dX4_bestParent_104 : decode cX4_bestParent 104 = .ok (.goto (-58), 3) := by decide +kernel
theorem dX4_bestParent_107 : decode cX4_bestParent 107 = .ok (.iload_n 3, 1) := by decide +kernel
theorem dX4_bestParent_108 : decode cX4_bestParent 108 = .ok (.ireturn, 1) := by decide +kernel
theorem dX4_meanVividness_0 : decode cX4_meanVividness 0 = .ok (.aload_n 0, 1) := by decide +kernel
theorem dX4_meanVividness_1 : decode cX4_meanVividness 1 = .ok (.iconst 0, 1) := by decide +kernel
theorem dX4_meanVividness_2 : decode cX4_meanVividness 2 = .ok (.putfield 40, 3) := by decide +kernel
theorem dX4_meanVividness_5 : decode cX4_meanVividness 5 = .ok (.iconst 0, 1) := by decide +kernel
theorem dX4_meanVividness_6 : decode cX4_meanVividness 6 = .ok (.istore_n 1, 1) := by decide +kernel
theorem dX4_meanVividness_7 : decode cX4_meanVividness 7 = .ok (.iconst 0, 1) := by decide +kernel
theorem dX4_meanVividness_8 : decode cX4_meanVividness 8 = .ok (.istore_n 2, 1) := by decide +kernel
theorem dX4_meanVividness_9 : decode cX4_meanVividness 9 = .ok (.iload_n 2, 1) := by decide +kernel
theorem dX4_meanVividness_10 : decode cX4_meanVividness 10 = .ok (.aload_n 0, 1) := by decide +kernel
theorem dX4_meanVividness_11 : decode cX4_meanVividness 11 = .ok (.getfield 51, 3) := by decide +kernel
theorem dX4_meanVividness_14 : decode cX4_meanVividness 14 = .ok (.if_icmp .ge 18, 3) := by decide +kernel
theorem dX4_meanVividness_17 : decode cX4_meanVividness 17 = .ok (.iload_n 1, 1) := by decide +kernel
theorem dX4_meanVividness_18 : decode cX4_meanVividness 18 = .ok (.aload_n 0, 1) := by decide +kernel
theorem dX4_meanVividness_19 : decode cX4_meanVividness 19 = .ok (.getfield 16, 3) := by decide +kernel
theorem dX4_meanVividness_22 : decode cX4_meanVividness 22 = .ok (.iload_n 2, 1) := by decide +kernel
theorem dX4_meanVividness_23 : decode cX4_meanVividness 23 = .ok (.iaload, 1) := by decide +kernel
theorem dX4_meanVividness_24 : decode cX4_meanVividness 24 = .ok (.iadd, 1) := by decide +kernel
theorem dX4_meanVividness_25 : decode cX4_meanVividness 25 = .ok (.istore_n 1, 1) := by decide +kernel
theorem dX4_meanVividness_26 : decode cX4_meanVividness 26 = .ok (.iinc 2 1, 3) := by decide +kernel
theorem dX4_meanVividness_29 : decode cX4_meanVividness 29 = .ok (.goto (-20), 3) := by decide +kernel
theorem dX4_meanVividness_32 : decode cX4_meanVividness 32 = .ok (.aload_n 0, 1) := by decide +kernel
theorem dX4_meanVividness_33 : decode cX4_meanVividness 33 = .ok (.getfield 51, 3) := by decide +kernel
theorem dX4_meanVividness_36 : decode cX4_meanVividness 36 = .ok (.ifCond .ne 7, 3) := by decide +kernel
theorem dX4_meanVividness_39 : decode cX4_meanVividness 39 = .ok (.dconst 0, 1) := by decide +kernel
theorem dX4_meanVividness_40 : decode cX4_meanVividness 40 = .ok (.goto 11, 3) := by decide +kernel
theorem dX4_meanVividness_43 : decode cX4_meanVividness 43 = .ok (.iload_n 1, 1) := by decide +kernel
theorem dX4_meanVividness_44 : decode cX4_meanVividness 44 = .ok (.i2d, 1) := by decide +kernel
theorem dX4_meanVividness_45 : decode cX4_meanVividness 45 = .ok (.aload_n 0, 1) := by decide +kernel
theorem dX4_meanVividness_46 : decode cX4_meanVividness 46 = .ok (.getfield 51, 3) := by decide +kernel
theorem dX4_meanVividness_49 : decode cX4_meanVividness 49 = .ok (.i2d, 1) := by decide +kernel
theorem dX4_meanVividness_50 : decode cX4_meanVividness 50 = .ok (.ddiv, 1) := by decide +kernel
theorem dX4_meanVividness_51 : decode cX4_meanVividness 51 = .ok (.dreturn, 1) := by decide +kernel
theorem dX4_digest_0 : decode cX4_digest 0 = .ok (.aload_n 0, 1) := by decide +kernel
theorem dX4_digest_1 : decode cX4_digest 1 = .ok (.iconst 0, 1) := by decide +kernel
theorem dX4_digest_2 : decode cX4_digest 2 = .ok (.putfield 40, 3) := by decide +kernel
theorem dX4_digest_5 : decode cX4_digest 5 = .ok (.aload_n 0, 1) := by decide +kernel
theorem dX4_digest_6 : decode cX4_digest 6 = .ok (.invokevirtual 115, 3) := by decide +kernel
theorem dX4_digest_9 : decode cX4_digest 9 = .ok (.iconst 5, 1) := by decide +kernel
theorem dX4_digest_10 : decode cX4_digest 10 = .ok (.newarray .int, 2) := by decide +kernel
theorem dX4_digest_12 : decode cX4_digest 12 = .ok (.dup, 1) := by decide +kernel
theorem dX4_digest_13 : decode cX4_digest 13 = .ok (.iconst 0, 1) := by decide +kernel
theorem dX4_digest_14 : decode cX4_digest 14 = .ok (.aload_n 0, 1) := by decide +kernel
theorem dX4_digest_15 : decode cX4_digest 15 = .ok (.getfield 44, 3) := by decide +kernel
theorem dX4_digest_18 : decode cX4_digest 18 = .ok (.iastore, 1) := by decide +kernel
theorem dX4_digest_19 : decode cX4_digest 19 = .ok (.dup, 1) := by decide +kernel
theorem dX4_digest_20 : decode cX4_digest 20 = .ok (.iconst 1, 1) := by decide +kernel
theorem dX4_digest_21 : decode cX4_digest 21 = .ok (.aload_n 0, 1) := by decide +kernel
theorem dX4_digest_22 : decode cX4_digest 22 = .ok (.getfield 51, 3) := by decide +kernel
theorem dX4_digest_25 : decode cX4_digest 25 = .ok (.iastore, 1) := by decide +kernel
theorem dX4_digest_26 : decode cX4_digest 26 = .ok (.dup, 1) := by decide +kernel
theorem dX4_digest_27 : decode cX4_digest 27 = .ok (.iconst 2, 1) := by decide +kernel
theorem dX4_digest_28 : decode cX4_digest 28 = .ok (.aload_n 0, 1) := by decide +kernel
theorem dX4_digest_29 : decode cX4_digest 29 = .ok (.getfield 54, 3) := by decide +kernel
theorem dX4_digest_32 : decode cX4_digest 32 = .ok (.iastore, 1) := by decide +kernel
theorem dX4_digest_33 : decode cX4_digest 33 = .ok (.dup, 1) := by decide +kernel
theorem dX4_digest_34 : decode cX4_digest 34 = .ok (.iconst 3, 1) := by decide +kernel
theorem dX4_digest_35 : decode cX4_digest 35 = .ok (.aload_n 0, 1) := by decide +kernel
theorem dX4_digest_36 : decode cX4_digest 36 = .ok (.getfield 81, 3) := by decide +kernel
theorem dX4_digest_39 : decode cX4_digest 39 = .ok (.iastore, 1) := by decide +kernel
theorem dX4_digest_40 : decode cX4_digest 40 = .ok (.dup, 1) := by decide +kernel
theorem dX4_digest_41 : decode cX4_digest 41 = .ok (.iconst 4, 1) := by decide +kernel
theorem dX4_digest_42 : decode cX4_digest 42 = .ok (.aload_n 0, 1) := by decide +kernel
theorem dX4_digest_43 : decode cX4_digest 43 = .ok (.iconst 0, 1) := by decide +kernel
theorem dX4_digest_44 : decode cX4_digest 44 = .ok (.invokevirtual 99, 3) := by decide +kernel
theorem dX4_digest_47 : decode cX4_digest 47 = .ok (.iastore, 1) := by decide +kernel
theorem dX4_digest_48 : decode cX4_digest 48 = .ok (.astore_n 1, 1) := by decide +kernel
theorem dX4_digest_49 : decode cX4_digest 49 = .ok (.ldc2_w 139, 3) := by decide +kernel
theorem dX4_digest_52 : decode cX4_digest 52 = .ok (.lstore_n 2, 1) := by decide +kernel
theorem dX4_digest_53 : decode cX4_digest 53 = .ok (.aload_n 1, 1) := by decide +kernel
theorem dX4_digest_54 : decode cX4_digest 54 = .ok (.astore 4, 2) := by decide +kernel
theorem dX4_digest_56 : decode cX4_digest 56 = .ok (.aload 4, 2) := by decide +kernel
theorem dX4_digest_58 : decode cX4_digest 58 = .ok (.arraylength, 1) := by decide +kernel
theorem dX4_digest_59 : decode cX4_digest 59 = .ok (.istore 5, 2) := by decide +kernel
theorem dX4_digest_61 : decode cX4_digest 61 = .ok (.iconst 0, 1) := by decide +kernel
theorem dX4_digest_62 : decode cX4_digest 62 = .ok (.istore 6, 2) := by decide +kernel
theorem dX4_digest_64 : decode cX4_digest 64 = .ok (.iload 6, 2) := by decide +kernel
theorem dX4_digest_66 : decode cX4_digest 66 = .ok (.iload 5, 2) := by decide +kernel
theorem dX4_digest_68 : decode cX4_digest 68 = .ok (.if_icmp .ge 26, 3) := by decide +kernel
theorem dX4_digest_71 : decode cX4_digest 71 = .ok (.aload 4, 2) := by decide +kernel
theorem dX4_digest_73 : decode cX4_digest 73 = .ok (.iload 6, 2) := by decide +kernel
theorem dX4_digest_75 : decode cX4_digest 75 = .ok (.iaload, 1) := by decide +kernel
theorem dX4_digest_76 : decode cX4_digest 76 = .ok (.istore 7, 2) := by decide +kernel
theorem dX4_digest_78 : decode cX4_digest 78 = .ok (.lload_n 2, 1) := by decide +kernel
theorem dX4_digest_79 : decode cX4_digest 79 = .ok (.ldc2_w 141, 3) := by decide +kernel
theorem dX4_digest_82 : decode cX4_digest 82 = .ok (.lmul, 1) := by decide +kernel
theorem dX4_digest_83 : decode cX4_digest 83 = .ok (.iload 7, 2) := by decide +kernel
theorem dX4_digest_85 : decode cX4_digest 85 = .ok (.i2l, 1) := by decide +kernel
theorem dX4_digest_86 : decode cX4_digest 86 = .ok (.ladd, 1) := by decide +kernel
theorem dX4_digest_87 : decode cX4_digest 87 = .ok (.lstore_n 2, 1) := by decide +kernel
theorem dX4_digest_88 : decode cX4_digest 88 = .ok (.iinc 6 1, 3) := by decide +kernel
theorem dX4_digest_91 : decode cX4_digest 91 = .ok (.goto (-27), 3) := by decide +kernel
theorem dX4_digest_94 : decode cX4_digest 94 = .ok (.iconst 0, 1) := by decide +kernel
theorem dX4_digest_95 : decode cX4_digest 95 = .ok (.istore 4, 2) := by decide +kernel
theorem dX4_digest_97 : decode cX4_digest 97 = .ok (.iload 4, 2) := by decide +kernel
theorem dX4_digest_99 : decode cX4_digest 99 = .ok (.aload_n 0, 1) := by decide +kernel
theorem dX4_digest_100 : decode cX4_digest 100 = .ok (.getfield 44, 3) := by decide +kernel
theorem dX4_digest_103 : decode cX4_digest 103 = .ok (.if_icmp .ge 73, 3) := by decide +kernel
theorem dX4_digest_106 : decode cX4_digest 106 = .ok (.lload_n 2, 1) := by decide +kernel
theorem dX4_digest_107 : decode cX4_digest 107 = .ok (.ldc2_w 141, 3) := by decide +kernel
theorem dX4_digest_110 : decode cX4_digest 110 = .ok (.lmul, 1) := by decide +kernel
theorem dX4_digest_111 : decode cX4_digest 111 = .ok (.aload_n 0, 1) := by decide +kernel
theorem dX4_digest_112 : decode cX4_digest 112 = .ok (.getfield 9, 3) := by decide +kernel
theorem dX4_digest_115 : decode cX4_digest 115 = .ok (.iload 4, 2) := by decide +kernel
theorem dX4_digest_117 : decode cX4_digest 117 = .ok (.iaload, 1) := by decide +kernel
theorem dX4_digest_118 : decode cX4_digest 118 = .ok (.i2l, 1) := by decide +kernel
theorem dX4_digest_119 : decode cX4_digest 119 = .ok (.ladd, 1) := by decide +kernel
theorem dX4_digest_120 : decode cX4_digest 120 = .ok (.lstore_n 2, 1) := by decide +kernel
theorem dX4_digest_121 : decode cX4_digest 121 = .ok (.lload_n 2, 1) := by decide +kernel
theorem dX4_digest_122 : decode cX4_digest 122 = .ok (.ldc2_w 141, 3) := by decide +kernel
theorem dX4_digest_125 : decode cX4_digest 125 = .ok (.lmul, 1) := by decide +kernel
theorem dX4_digest_126 : decode cX4_digest 126 = .ok (.aload_n 0, 1) := by decide +kernel
theorem dX4_digest_127 : decode cX4_digest 127 = .ok (.iload 4, 2) := by decide +kernel
theorem dX4_digest_129 : decode cX4_digest 129 = .ok (.invokevirtual 57, 3) := by decide +kernel
theorem dX4_digest_132 : decode cX4_digest 132 = .ok (.invokestatic 78, 3) := by decide +kernel
theorem dX4_digest_135 : decode cX4_digest 135 = .ok (.i2l, 1) := by decide +kernel
theorem dX4_digest_136 : decode cX4_digest 136 = .ok (.ladd, 1) := by decide +kernel
theorem dX4_digest_137 : decode cX4_digest 137 = .ok (.lstore_n 2, 1) := by decide +kernel
theorem dX4_digest_138 : decode cX4_digest 138 = .ok (.lload_n 2, 1) := by decide +kernel
theorem dX4_digest_139 : decode cX4_digest 139 = .ok (.ldc2_w 141, 3) := by decide +kernel
theorem dX4_digest_142 : decode cX4_digest 142 = .ok (.lmul, 1) := by decide +kernel
theorem dX4_digest_143 : decode cX4_digest 143 = .ok (.aload_n 0, 1) := by decide +kernel
theorem dX4_digest_144 : decode cX4_digest 144 = .ok (.iload 4, 2) := by decide +kernel
theorem dX4_digest_146 : decode cX4_digest 146 = .ok (.invokevirtual 112, 3) := by decide +kernel
theorem dX4_digest_149 : decode cX4_digest 149 = .ok (.i2l, 1) := by decide +kernel
theorem dX4_digest_150 : decode cX4_digest 150 = .ok (.ladd, 1) := by decide +kernel
theorem dX4_digest_151 : decode cX4_digest 151 = .ok (.lstore_n 2, 1) := by decide +kernel
theorem dX4_digest_152 : decode cX4_digest 152 = .ok (.lload_n 2, 1) := by decide +kernel
theorem dX4_digest_153 : decode cX4_digest 153 = .ok (.ldc2_w 141, 3) := by decide +kernel
theorem dX4_digest_156 : decode cX4_digest 156 = .ok (.lmul, 1) := by decide +kernel
theorem dX4_digest_157 : decode cX4_digest 157 = .ok (.aload_n 0, 1) := by decide +kernel
theorem dX4_digest_158 : decode cX4_digest 158 = .ok (.getfield 34, 3) := by decide +kernel
theorem dX4_digest_161 : decode cX4_digest 161 = .ok (.iload 4, 2) := by decide +kernel
theorem dX4_digest_163 : decode cX4_digest 163 = .ok (.iaload, 1) := by decide +kernel
theorem dX4_digest_164 : decode cX4_digest 164 = .ok (.invokestatic 78, 3) := by decide +kernel
theorem dX4_digest_167 : decode cX4_digest 167 = .ok (.i2l, 1) := by decide +kernel
theorem dX4_digest_168 : decode cX4_digest 168 = .ok (.ladd, 1) := by decide +kernel
theorem dX4_digest_169 : decode cX4_digest 169 = .ok (.lstore_n 2, 1) := by decide +kernel
theorem dX4_digest_170 : decode cX4_digest 170 = .ok (.iinc 4 1, 3) := by decide +kernel
theorem dX4_digest_173 : decode cX4_digest 173 = .ok (.goto (-76), 3) := by decide +kernel
theorem dX4_digest_176 : decode cX4_digest 176 = .ok (.iconst 0, 1) := by decide +kernel
theorem dX4_digest_177 : decode cX4_digest 177 = .ok (.istore 4, 2) := by decide +kernel
theorem dX4_digest_179 : decode cX4_digest 179 = .ok (.iload 4, 2) := by decide +kernel
theorem dX4_digest_181 : decode cX4_digest 181 = .ok (.aload_n 0, 1) := by decide +kernel
theorem dX4_digest_182 : decode cX4_digest 182 = .ok (.getfield 51, 3) := by decide +kernel
theorem dX4_digest_185 : decode cX4_digest 185 = .ok (.if_icmp .ge 95, 3) := by decide +kernel
theorem dX4_digest_188 : decode cX4_digest 188 = .ok (.lload_n 2, 1) := by decide +kernel
theorem dX4_digest_189 : decode cX4_digest 189 = .ok (.ldc2_w 141, 3) := by decide +kernel
theorem dX4_digest_192 : decode cX4_digest 192 = .ok (.lmul, 1) := by decide +kernel
theorem dX4_digest_193 : decode cX4_digest 193 = .ok (.aload_n 0, 1) := by decide +kernel
theorem dX4_digest_194 : decode cX4_digest 194 = .ok (.getfield 31, 3) := by decide +kernel
theorem dX4_digest_197 : decode cX4_digest 197 = .ok (.iload 4, 2) := by decide +kernel
theorem dX4_digest_199 : decode cX4_digest 199 = .ok (.iaload, 1) := by decide +kernel
theorem dX4_digest_200 : decode cX4_digest 200 = .ok (.invokestatic 78, 3) := by decide +kernel
theorem dX4_digest_203 : decode cX4_digest 203 = .ok (.i2l, 1) := by decide +kernel
theorem dX4_digest_204 : decode cX4_digest 204 = .ok (.ladd, 1) := by decide +kernel
theorem dX4_digest_205 : decode cX4_digest 205 = .ok (.lstore_n 2, 1) := by decide +kernel
theorem dX4_digest_206 : decode cX4_digest 206 = .ok (.lload_n 2, 1) := by decide +kernel
theorem dX4_digest_207 : decode cX4_digest 207 = .ok (.ldc2_w 141, 3) := by decide +kernel
theorem dX4_digest_210 : decode cX4_digest 210 = .ok (.lmul, 1) := by decide +kernel
theorem dX4_digest_211 : decode cX4_digest 211 = .ok (.aload_n 0, 1) := by decide +kernel
theorem dX4_digest_212 : decode cX4_digest 212 = .ok (.getfield 16, 3) := by decide +kernel
theorem dX4_digest_215 : decode cX4_digest 215 = .ok (.iload 4, 2) := by decide +kernel
theorem dX4_digest_217 : decode cX4_digest 217 = .ok (.iaload, 1) := by decide +kernel
theorem dX4_digest_218 : decode cX4_digest 218 = .ok (.i2l, 1) := by decide +kernel
theorem dX4_digest_219 : decode cX4_digest 219 = .ok (.ladd, 1) := by decide +kernel
theorem dX4_digest_220 : decode cX4_digest 220 = .ok (.lstore_n 2, 1) := by decide +kernel
theorem dX4_digest_221 : decode cX4_digest 221 = .ok (.lload_n 2, 1) := by decide +kernel
theorem dX4_digest_222 : decode cX4_digest 222 = .ok (.ldc2_w 141, 3) := by decide +kernel
theorem dX4_digest_225 : decode cX4_digest 225 = .ok (.lmul, 1) := by decide +kernel
theorem dX4_digest_226 : decode cX4_digest 226 = .ok (.aload_n 0, 1) := by decide +kernel
theorem dX4_digest_227 : decode cX4_digest 227 = .ok (.getfield 19, 3) := by decide +kernel
theorem dX4_digest_230 : decode cX4_digest 230 = .ok (.iload 4, 2) := by decide +kernel
theorem dX4_digest_232 : decode cX4_digest 232 = .ok (.iaload, 1) := by decide +kernel
theorem dX4_digest_233 : decode cX4_digest 233 = .ok (.i2l, 1) := by decide +kernel
theorem dX4_digest_234 : decode cX4_digest 234 = .ok (.ladd, 1) := by decide +kernel
theorem dX4_digest_235 : decode cX4_digest 235 = .ok (.lstore_n 2, 1) := by decide +kernel
theorem dX4_digest_236 : decode cX4_digest 236 = .ok (.iconst 0, 1) := by decide +kernel
theorem dX4_digest_237 : decode cX4_digest 237 = .ok (.istore 5, 2) := by decide +kernel
theorem dX4_digest_239 : decode cX4_digest 239 = .ok (.iload 5, 2) := by decide +kernel
theorem dX4_digest_241 : decode cX4_digest 241 = .ok (.aload_n 0, 1) := by decide +kernel
theorem dX4_digest_242 : decode cX4_digest 242 = .ok (.getfield 44, 3) := by decide +kernel
theorem dX4_digest_245 : decode cX4_digest 245 = .ok (.if_icmp .ge 29, 3) := by decide +kernel
theorem dX4_digest_248 : decode cX4_digest 248 = .ok (.lload_n 2, 1) := by decide +kernel
theorem dX4_digest_249 : decode cX4_digest 249 = .ok (.ldc2_w 141, 3) := by decide +kernel
theorem dX4_digest_252 : decode cX4_digest 252 = .ok (.lmul, 1) := by decide +kernel
theorem dX4_digest_253 : decode cX4_digest 253 = .ok (.aload_n 0, 1) := by decide +kernel
theorem dX4_digest_254 : decode cX4_digest 254 = .ok (.getfield 13, 3) := by decide +kernel
theorem dX4_digest_257 : decode cX4_digest 257 = .ok (.iload 4, 2) := by decide +kernel
theorem dX4_digest_259 : decode cX4_digest 259 = .ok (.iaload, 1) := by decide +kernel
theorem dX4_digest_260 : decode cX4_digest 260 = .ok (.iload 5, 2) := by decide +kernel
theorem dX4_digest_262 : decode cX4_digest 262 = .ok (.ishr, 1) := by decide +kernel
theorem dX4_digest_263 : decode cX4_digest 263 = .ok (.iconst 1, 1) := by decide +kernel
theorem dX4_digest_264 : decode cX4_digest 264 = .ok (.iand, 1) := by decide +kernel
theorem dX4_digest_265 : decode cX4_digest 265 = .ok (.i2l, 1) := by decide +kernel
theorem dX4_digest_266 : decode cX4_digest 266 = .ok (.ladd, 1) := by decide +kernel
theorem dX4_digest_267 : decode cX4_digest 267 = .ok (.lstore_n 2, 1) := by decide +kernel
theorem dX4_digest_268 : decode cX4_digest 268 = .ok (.iinc 5 1, 3) := by decide +kernel
theorem dX4_digest_271 : decode cX4_digest 271 = .ok (.goto (-32), 3) := by decide +kernel
theorem dX4_digest_274 : decode cX4_digest 274 = .ok (.iinc 4 1, 3) := by decide +kernel
theorem dX4_digest_277 : decode cX4_digest 277 = .ok (.goto (-98), 3) := by decide +kernel
theorem dX4_digest_280 : decode cX4_digest 280 = .ok (.iconst 0, 1) := by decide +kernel
theorem dX4_digest_281 : decode cX4_digest 281 = .ok (.istore 4, 2) := by decide +kernel
theorem dX4_digest_283 : decode cX4_digest 283 = .ok (.iload 4, 2) := by decide +kernel
theorem dX4_digest_285 : decode cX4_digest 285 = .ok (.aload_n 0, 1) := by decide +kernel
theorem dX4_digest_286 : decode cX4_digest 286 = .ok (.getfield 54, 3) := by decide +kernel
theorem dX4_digest_289 : decode cX4_digest 289 = .ok (.if_icmp .ge 151, 3) := by decide +kernel
theorem dX4_digest_292 : decode cX4_digest 292 = .ok (.aload_n 0, 1) := by decide +kernel
theorem dX4_digest_293 : decode cX4_digest 293 = .ok (.getfield 37, 3) := by decide +kernel
theorem dX4_digest_296 : decode cX4_digest 296 = .ok (.iload 4, 2) := by decide +kernel
theorem dX4_digest_298 : decode cX4_digest 298 = .ok (.iaload, 1) := by decide +kernel
theorem dX4_digest_299 : decode cX4_digest 299 = .ok (.istore 5, 2) := by decide +kernel
theorem dX4_digest_301 : decode cX4_digest 301 = .ok (.aload_n 0, 1) := by decide +kernel
theorem dX4_digest_302 : decode cX4_digest 302 = .ok (.iload 5, 2) := by decide +kernel
theorem dX4_digest_304 : decode cX4_digest 304 = .ok (.invokevirtual 133, 3) := by decide +kernel
theorem dX4_digest_307 : decode cX4_digest 307 = .ok (.istore 6, 2) := by decide +kernel
theorem dX4_digest_309 : decode cX4_digest 309 = .ok (.lload_n 2, 1) := by decide +kernel
theorem dX4_digest_310 : decode cX4_digest 310 = .ok (.ldc2_w 141, 3) := by decide +kernel
theorem dX4_digest_313 : decode cX4_digest 313 = .ok (.lmul, 1) := by decide +kernel
theorem dX4_digest_314 : decode cX4_digest 314 = .ok (.iload 5, 2) := by decide +kernel
theorem dX4_digest_316 : decode cX4_digest 316 = .ok (.invokestatic 78, 3) := by decide +kernel
theorem dX4_digest_319 : decode cX4_digest 319 = .ok (.i2l, 1) := by decide +kernel
theorem dX4_digest_320 : decode cX4_digest 320 = .ok (.ladd, 1) := by decide +kernel
theorem dX4_digest_321 : decode cX4_digest 321 = .ok (.lstore_n 2, 1) := by decide +kernel
theorem dX4_digest_322 : decode cX4_digest 322 = .ok (.lload_n 2, 1) := by decide +kernel
theorem dX4_digest_323 : decode cX4_digest 323 = .ok (.ldc2_w 141, 3) := by decide +kernel
theorem dX4_digest_326 : decode cX4_digest 326 = .ok (.lmul, 1) := by decide +kernel
theorem dX4_digest_327 : decode cX4_digest 327 = .ok (.aload_n 0, 1) := by decide +kernel
theorem dX4_digest_328 : decode cX4_digest 328 = .ok (.iload 5, 2) := by decide +kernel
theorem dX4_digest_330 : decode cX4_digest 330 = .ok (.invokevirtual 118, 3) := by decide +kernel
theorem dX4_digest_333 : decode cX4_digest 333 = .ok (.i2l, 1) := by decide +kernel
theorem dX4_digest_334 : decode cX4_digest 334 = .ok (.ladd, 1) := by decide +kernel
theorem dX4_digest_335 : decode cX4_digest 335 = .ok (.lstore_n 2, 1) := by decide +kernel
theorem dX4_digest_336 : decode cX4_digest 336 = .ok (.lload_n 2, 1) := by decide +kernel
theorem dX4_digest_337 : decode cX4_digest 337 = .ok (.ldc2_w 141, 3) := by decide +kernel
theorem dX4_digest_340 : decode cX4_digest 340 = .ok (.lmul, 1) := by decide +kernel
theorem dX4_digest_341 : decode cX4_digest 341 = .ok (.aload_n 0, 1) := by decide +kernel
theorem dX4_digest_342 : decode cX4_digest 342 = .ok (.iload 5, 2) := by decide +kernel
theorem dX4_digest_344 : decode cX4_digest 344 = .ok (.invokevirtual 121, 3) := by decide +kernel
theorem dX4_digest_347 : decode cX4_digest 347 = .ok (.i2l, 1) := by decide +kernel
theorem dX4_digest_348 : decode cX4_digest 348 = .ok (.ladd, 1) := by decide +kernel
theorem dX4_digest_349 : decode cX4_digest 349 = .ok (.lstore_n 2, 1) := by decide +kernel
theorem dX4_digest_350 : decode cX4_digest 350 = .ok (.lload_n 2, 1) := by decide +kernel
theorem dX4_digest_351 : decode cX4_digest 351 = .ok (.ldc2_w 141, 3) := by decide +kernel
theorem dX4_digest_354 : decode cX4_digest 354 = .ok (.lmul, 1) := by decide +kernel
theorem dX4_digest_355 : decode cX4_digest 355 = .ok (.iload 6, 2) := by decide +kernel
theorem dX4_digest_357 : decode cX4_digest 357 = .ok (.invokestatic 78, 3) := by decide +kernel
theorem dX4_digest_360 : decode cX4_digest 360 = .ok (.i2l, 1) := by decide +kernel
theorem dX4_digest_361 : decode cX4_digest 361 = .ok (.ladd, 1) := by decide +kernel
theorem dX4_digest_362 : decode cX4_digest 362 = .ok (.lstore_n 2, 1) := by decide +kernel
theorem dX4_digest_363 : decode cX4_digest 363 = .ok (.iconst 0, 1) := by decide +kernel
theorem dX4_digest_364 : decode cX4_digest 364 = .ok (.istore 7, 2) := by decide +kernel
theorem dX4_digest_366 : decode cX4_digest 366 = .ok (.iload 7, 2) := by decide +kernel
theorem dX4_digest_368 : decode cX4_digest 368 = .ok (.aload_n 0, 1) := by decide +kernel
theorem dX4_digest_369 : decode cX4_digest 369 = .ok (.getfield 44, 3) := by decide +kernel
theorem dX4_digest_372 : decode cX4_digest 372 = .ok (.if_icmp .ge 29, 3) := by decide +kernel
theorem dX4_digest_375 : decode cX4_digest 375 = .ok (.iload 6, 2) := by decide +kernel
theorem dX4_digest_377 : decode cX4_digest 377 = .ok (.iload 7, 2) := by decide +kernel
theorem dX4_digest_379 : decode cX4_digest 379 = .ok (.invokestatic 61, 3) := by decide +kernel
theorem dX4_digest_382 : decode cX4_digest 382 = .ok (.ifCond .eq 13, 3) := by decide +kernel
theorem dX4_digest_385 : decode cX4_digest 385 = .ok (.lload_n 2, 1) := by decide +kernel
theorem dX4_digest_386 : decode cX4_digest 386 = .ok (.ldc2_w 141, 3) := by decide +kernel
theorem dX4_digest_389 : decode cX4_digest 389 = .ok (.lmul, 1) := by decide +kernel
theorem dX4_digest_390 : decode cX4_digest 390 = .ok (.iload 7, 2) := by decide +kernel
theorem dX4_digest_392 : decode cX4_digest 392 = .ok (.i2l, 1) := by decide +kernel
theorem dX4_digest_393 : decode cX4_digest 393 = .ok (.ladd, 1) := by decide +kernel
theorem dX4_digest_394 : decode cX4_digest 394 = .ok (.lstore_n 2, 1) := by decide +kernel
theorem dX4_digest_395 : decode cX4_digest 395 = .ok (.iinc 7 1, 3) := by decide +kernel
theorem dX4_digest_398 : decode cX4_digest 398 = .ok (.goto (-32), 3) := by decide +kernel
theorem dX4_digest_401 : decode cX4_digest 401 = .ok (.iconst 0, 1) := by decide +kernel
theorem dX4_digest_402 : decode cX4_digest 402 = .ok (.istore 7, 2) := by decide +kernel
theorem dX4_digest_404 : decode cX4_digest 404 = .ok (.iload 7, 2) := by decide +kernel
theorem dX4_digest_406 : decode cX4_digest 406 = .ok (.aload_n 0, 1) := by decide +kernel
theorem dX4_digest_407 : decode cX4_digest 407 = .ok (.getfield 51, 3) := by decide +kernel
theorem dX4_digest_410 : decode cX4_digest 410 = .ok (.if_icmp .ge 24, 3) := by decide +kernel
theorem dX4_digest_413 : decode cX4_digest 413 = .ok (.lload_n 2, 1) := by decide +kernel
theorem dX4_digest_414 : decode cX4_digest 414 = .ok (.ldc2_w 141, 3) := by decide +kernel
theorem dX4_digest_417 : decode cX4_digest 417 = .ok (.lmul, 1) := by decide +kernel
theorem dX4_digest_418 : decode cX4_digest 418 = .ok (.iload 5, 2) := by decide +kernel
theorem dX4_digest_420 : decode cX4_digest 420 = .ok (.iload 7, 2) := by decide +kernel
theorem dX4_digest_422 : decode cX4_digest 422 = .ok (.ishr, 1) := by decide +kernel
theorem dX4_digest_423 : decode cX4_digest 423 = .ok (.iconst 1, 1) := by decide +kernel
theorem dX4_digest_424 : decode cX4_digest 424 = .ok (.iand, 1) := by decide +kernel
theorem dX4_digest_425 : decode cX4_digest 425 = .ok (.i2l, 1) := by decide +kernel
theorem dX4_digest_426 : decode cX4_digest 426 = .ok (.ladd, 1) := by decide +kernel
theorem dX4_digest_427 : decode cX4_digest 427 = .ok (.lstore_n 2, 1) := by decide +kernel
theorem dX4_digest_428 : decode cX4_digest 428 = .ok (.iinc 7 1, 3) := by decide +kernel
theorem dX4_digest_431 : decode cX4_digest 431 = .ok (.goto (-27), 3) := by decide +kernel
theorem dX4_digest_434 : decode cX4_digest 434 = .ok (.iinc 4 1, 3) := by decide +kernel
theorem dX4_digest_437 : decode cX4_digest 437 = .ok (.goto (-154), 3) := by decide +kernel
theorem dX4_digest_440 : decode cX4_digest 440 = .ok (.lload_n 2, 1) := by decide +kernel
theorem dX4_digest_441 : decode cX4_digest 441 = .ok (.lreturn, 1) := by decide +kernel
theorem dJ6_bitCount_0f7a4_0 : decode cJ6_bitCount_0f7a4 0 = .ok (.iload_n 0, 1) := by decide +kernel
theorem dJ6_bitCount_0f7a4_1 : decode cJ6_bitCount_0f7a4 1 = .ok (.iload_n 0, 1) := by decide +kernel
theorem dJ6_bitCount_0f7a4_2 : decode cJ6_bitCount_0f7a4 2 = .ok (.iconst 1, 1) := by decide +kernel
theorem dJ6_bitCount_0f7a4_3 : decode cJ6_bitCount_0f7a4 3 = .ok (.iushr, 1) := by decide +kernel
theorem dJ6_bitCount_0f7a4_4 : decode cJ6_bitCount_0f7a4 4 = .ok (.ldc_w 265, 3) := by decide +kernel
theorem dJ6_bitCount_0f7a4_7 : decode cJ6_bitCount_0f7a4 7 = .ok (.iand, 1) := by decide +kernel
theorem dJ6_bitCount_0f7a4_8 : decode cJ6_bitCount_0f7a4 8 = .ok (.isub, 1) := by decide +kernel
theorem dJ6_bitCount_0f7a4_9 : decode cJ6_bitCount_0f7a4 9 = .ok (.istore_n 0, 1) := by decide +kernel
theorem dJ6_bitCount_0f7a4_10 : decode cJ6_bitCount_0f7a4 10 = .ok (.iload_n 0, 1) := by decide +kernel
theorem dJ6_bitCount_0f7a4_11 : decode cJ6_bitCount_0f7a4 11 = .ok (.ldc_w 266, 3) := by decide +kernel
theorem dJ6_bitCount_0f7a4_14 : decode cJ6_bitCount_0f7a4 14 = .ok (.iand, 1) := by decide +kernel
theorem dJ6_bitCount_0f7a4_15 : decode cJ6_bitCount_0f7a4 15 = .ok (.iload_n 0, 1) := by decide +kernel
theorem dJ6_bitCount_0f7a4_16 : decode cJ6_bitCount_0f7a4 16 = .ok (.iconst 2, 1) := by decide +kernel
theorem dJ6_bitCount_0f7a4_17 : decode cJ6_bitCount_0f7a4 17 = .ok (.iushr, 1) := by decide +kernel
theorem dJ6_bitCount_0f7a4_18 : decode cJ6_bitCount_0f7a4 18 = .ok (.ldc_w 266, 3) := by decide +kernel
theorem dJ6_bitCount_0f7a4_21 : decode cJ6_bitCount_0f7a4 21 = .ok (.iand, 1) := by decide +kernel
theorem dJ6_bitCount_0f7a4_22 : decode cJ6_bitCount_0f7a4 22 = .ok (.iadd, 1) := by decide +kernel
theorem dJ6_bitCount_0f7a4_23 : decode cJ6_bitCount_0f7a4 23 = .ok (.istore_n 0, 1) := by decide +kernel
theorem dJ6_bitCount_0f7a4_24 : decode cJ6_bitCount_0f7a4 24 = .ok (.iload_n 0, 1) := by decide +kernel
theorem dJ6_bitCount_0f7a4_25 : decode cJ6_bitCount_0f7a4 25 = .ok (.iload_n 0, 1) := by decide +kernel
theorem dJ6_bitCount_0f7a4_26 : decode cJ6_bitCount_0f7a4 26 = .ok (.iconst 4, 1) := by decide +kernel
theorem dJ6_bitCount_0f7a4_27 : decode cJ6_bitCount_0f7a4 27 = .ok (.iushr, 1) := by decide +kernel
theorem dJ6_bitCount_0f7a4_28 : decode cJ6_bitCount_0f7a4 28 = .ok (.iadd, 1) := by decide +kernel
theorem dJ6_bitCount_0f7a4_29 : decode cJ6_bitCount_0f7a4 29 = .ok (.ldc_w 267, 3) := by decide +kernel
theorem dJ6_bitCount_0f7a4_32 : decode cJ6_bitCount_0f7a4 32 = .ok (.iand, 1) := by decide +kernel
theorem dJ6_bitCount_0f7a4_33 : decode cJ6_bitCount_0f7a4 33 = .ok (.istore_n 0, 1) := by decide +kernel
theorem dJ6_bitCount_0f7a4_34 : decode cJ6_bitCount_0f7a4 34 = .ok (.iload_n 0, 1) := by decide +kernel
theorem dJ6_bitCount_0f7a4_35 : decode cJ6_bitCount_0f7a4 35 = .ok (.iload_n 0, 1) := by decide +kernel
theorem dJ6_bitCount_0f7a4_36 : decode cJ6_bitCount_0f7a4 36 = .ok (.bipush 8, 2) := by decide +kernel
theorem dJ6_bitCount_0f7a4_38 : decode cJ6_bitCount_0f7a4 38 = .ok (.iushr, 1) := by decide +kernel
theorem dJ6_bitCount_0f7a4_39 : decode cJ6_bitCount_0f7a4 39 = .ok (.iadd, 1) := by decide +kernel
theorem dJ6_bitCount_0f7a4_40 : decode cJ6_bitCount_0f7a4 40 = .ok (.istore_n 0, 1) := by decide +kernel
theorem dJ6_bitCount_0f7a4_41 : decode cJ6_bitCount_0f7a4 41 = .ok (.iload_n 0, 1) := by decide +kernel
theorem dJ6_bitCount_0f7a4_42 : decode cJ6_bitCount_0f7a4 42 = .ok (.iload_n 0, 1) := by decide +kernel
theorem dJ6_bitCount_0f7a4_43 : decode cJ6_bitCount_0f7a4 43 = .ok (.bipush 16, 2) := by decide +kernel
theorem dJ6_bitCount_0f7a4_45 : decode cJ6_bitCount_0f7a4 45 = .ok (.iushr, 1) := by decide +kernel
theorem dJ6_bitCount_0f7a4_46 : decode cJ6_bitCount_0f7a4 46 = .ok (.iadd, 1) := by decide +kernel
theorem dJ6_bitCount_0f7a4_47 : decode cJ6_bitCount_0f7a4 47 = .ok (.istore_n 0, 1) := by decide +kernel
theorem dJ6_bitCount_0f7a4_48 : decode cJ6_bitCount_0f7a4 48 = .ok (.iload_n 0, 1) := by decide +kernel
theorem dJ6_bitCount_0f7a4_49 : decode cJ6_bitCount_0f7a4 49 = .ok (.bipush 63, 2) := by decide +kernel
theorem dJ6_bitCount_0f7a4_51 : decode cJ6_bitCount_0f7a4 51 = .ok (.iand, 1) := by decide +kernel
theorem dJ6_bitCount_0f7a4_52 : decode cJ6_bitCount_0f7a4 52 = .ok (.ireturn, 1) := by decide +kernel
theorem dJ9_max_7cf53_0 : decode cJ9_max_7cf53 0 = .ok (.iload_n 0, 1) := by decide +kernel
theorem dJ9_max_7cf53_1 : decode cJ9_max_7cf53 1 = .ok (.iload_n 1, 1) := by decide +kernel
theorem dJ9_max_7cf53_2 : decode cJ9_max_7cf53 2 = .ok (.if_icmp .lt 7, 3) := by decide +kernel
theorem dJ9_max_7cf53_5 : decode cJ9_max_7cf53 5 = .ok (.iload_n 0, 1) := by decide +kernel
theorem dJ9_max_7cf53_6 : decode cJ9_max_7cf53 6 = .ok (.goto 4, 3) := by decide +kernel
theorem dJ9_max_7cf53_9 : decode cJ9_max_7cf53 9 = .ok (.iload_n 1, 1) := by decide +kernel
theorem dJ9_max_7cf53_10 : decode cJ9_max_7cf53 10 = .ok (.ireturn, 1) := by decide +kernel
theorem dL_addTag_0 : decode cL_addTag 0 = .ok (.aload_n 1, 1) := by decide +kernel
theorem dL_addTag_1 : decode cL_addTag 1 = .ok (.iconst 0, 1) := by decide +kernel
theorem dL_addTag_2 : decode cL_addTag 2 = .ok (.aload_n 0, 1) := by decide +kernel
theorem dL_addTag_3 : decode cL_addTag 3 = .ok (.invokevirtual 7, 3) := by decide +kernel
theorem dL_addTag_6 : decode cL_addTag 6 = .ok (.i2l, 1) := by decide +kernel
theorem dL_addTag_7 : decode cL_addTag 7 = .ok (.lastore, 1) := by decide +kernel
theorem dL_addTag_8 : decode cL_addTag 8 = .ok (.goto 6, 3) := by decide +kernel
theorem dL_addTag_11 : decode cL_addTag 11 = .ok (.astore_n 2, 1) := by decide +kernel
theorem dL_addTag_12 : decode cL_addTag 12 = .ok (.iconst 1, 1) := by decide +kernel
theorem dL_addTag_13 : decode cL_addTag 13 = .ok (.ireturn, 1) := by decide +kernel
theorem dL_addTag_14 : decode cL_addTag 14 = .ok (.iconst 0, 1) := by decide +kernel
theorem dL_addTag_15 : decode cL_addTag 15 = .ok (.ireturn, 1) := by decide +kernel
theorem dL_putUnder_0 : decode cL_putUnder 0 = .ok (.aload_n 3, 1) := by decide +kernel
theorem dL_putUnder_1 : decode cL_putUnder 1 = .ok (.iconst 0, 1) := by decide +kernel
theorem dL_putUnder_2 : decode cL_putUnder 2 = .ok (.aload_n 0, 1) := by decide +kernel
theorem dL_putUnder_3 : decode cL_putUnder 3 = .ok (.iload_n 1, 1) := by decide +kernel
theorem dL_putUnder_4 : decode cL_putUnder 4 = .ok (.iload_n 2, 1) := by decide +kernel
theorem dL_putUnder_5 : decode cL_putUnder 5 = .ok (.invokevirtual 15, 3) := by decide +kernel
theorem dL_putUnder_8 : decode cL_putUnder 8 = .ok (.i2l, 1) := by decide +kernel
theorem dL_putUnder_9 : decode cL_putUnder 9 = .ok (.lastore, 1) := by decide +kernel
theorem dL_putUnder_10 : decode cL_putUnder 10 = .ok (.goto 15, 3) := by decide +kernel
theorem dL_putUnder_13 : decode cL_putUnder 13 = .ok (.astore 4, 2) := by decide +kernel
theorem dL_putUnder_15 : decode cL_putUnder 15 = .ok (.iconst 1, 1) := by decide +kernel
theorem dL_putUnder_16 : decode cL_putUnder 16 = .ok (.ireturn, 1) := by decide +kernel
theorem dL_putUnder_17 : decode cL_putUnder 17 = .ok (.astore 4, 2) := by decide +kernel
theorem dL_putUnder_19 : decode cL_putUnder 19 = .ok (.iconst 2, 1) := by decide +kernel
theorem dL_putUnder_20 : decode cL_putUnder 20 = .ok (.ireturn, 1) := by decide +kernel
theorem dL_putUnder_21 : decode cL_putUnder 21 = .ok (.astore 4, 2) := by decide +kernel
theorem dL_putUnder_23 : decode cL_putUnder 23 = .ok (.iconst 3, 1) := by decide +kernel
theorem dL_putUnder_24 : decode cL_putUnder 24 = .ok (.ireturn, 1) := by decide +kernel
theorem dL_putUnder_25 : decode cL_putUnder 25 = .ok (.iconst 0, 1) := by decide +kernel
theorem dL_putUnder_26 : decode cL_putUnder 26 = .ok (.ireturn, 1) := by decide +kernel
theorem dL_freeTag_0 : decode cL_freeTag 0 = .ok (.aload_n 2, 1) := by decide +kernel
theorem dL_freeTag_1 : decode cL_freeTag 1 = .ok (.iconst 0, 1) := by decide +kernel
theorem dL_freeTag_2 : decode cL_freeTag 2 = .ok (.aload_n 0, 1) := by decide +kernel
theorem dL_freeTag_3 : decode cL_freeTag 3 = .ok (.iload_n 1, 1) := by decide +kernel
theorem dL_freeTag_4 : decode cL_freeTag 4 = .ok (.invokevirtual 23, 3) := by decide +kernel
theorem dL_freeTag_7 : decode cL_freeTag 7 = .ok (.i2l, 1) := by decide +kernel
theorem dL_freeTag_8 : decode cL_freeTag 8 = .ok (.lastore, 1) := by decide +kernel
theorem dL_freeTag_9 : decode cL_freeTag 9 = .ok (.goto 9, 3) := by decide +kernel
theorem dL_freeTag_12 : decode cL_freeTag 12 = .ok (.astore_n 3, 1) := by decide +kernel
theorem dL_freeTag_13 : decode cL_freeTag 13 = .ok (.iconst 1, 1) := by decide +kernel
theorem dL_freeTag_14 : decode cL_freeTag 14 = .ok (.ireturn, 1) := by decide +kernel
theorem dL_freeTag_15 : decode cL_freeTag 15 = .ok (.astore_n 3, 1) := by decide +kernel
theorem dL_freeTag_16 : decode cL_freeTag 16 = .ok (.iconst 2, 1) := by decide +kernel
theorem dL_freeTag_17 : decode cL_freeTag 17 = .ok (.ireturn, 1) := by decide +kernel
theorem dL_freeTag_18 : decode cL_freeTag 18 = .ok (.iconst 0, 1) := by decide +kernel
theorem dL_freeTag_19 : decode cL_freeTag 19 = .ok (.ireturn, 1) := by decide +kernel
theorem dL_addDream_0 : decode cL_addDream 0 = .ok (.aload_n 3, 1) := by decide +kernel
theorem dL_addDream_1 : decode cL_addDream 1 = .ok (.iconst 0, 1) := by decide +kernel
theorem dL_addDream_2 : decode cL_addDream 2 = .ok (.aload_n 0, 1) := by decide +kernel
theorem dL_addDream_3 : decode cL_addDream 3 = .ok (.iload_n 1, 1) := by decide +kernel
theorem dL_addDream_4 : decode cL_addDream 4 = .ok (.iload_n 2, 1) := by decide +kernel
theorem dL_addDream_5 : decode cL_addDream 5 = .ok (.invokevirtual 27, 3) := by decide +kernel
theorem dL_addDream_8 : decode cL_addDream 8 = .ok (.i2l, 1) := by decide +kernel
theorem dL_addDream_9 : decode cL_addDream 9 = .ok (.lastore, 1) := by decide +kernel
theorem dL_addDream_10 : decode cL_addDream 10 = .ok (.goto 15, 3) := by decide +kernel
theorem dL_addDream_13 : decode cL_addDream 13 = .ok (.astore 4, 2) := by decide +kernel
theorem dL_addDream_15 : decode cL_addDream 15 = .ok (.iconst 1, 1) := by decide +kernel
theorem dL_addDream_16 : decode cL_addDream 16 = .ok (.ireturn, 1) := by decide +kernel
theorem dL_addDream_17 : decode cL_addDream 17 = .ok (.astore 4, 2) := by decide +kernel
theorem dL_addDream_19 : decode cL_addDream 19 = .ok (.iconst 2, 1) := by decide +kernel
theorem dL_addDream_20 : decode cL_addDream 20 = .ok (.ireturn, 1) := by decide +kernel
theorem dL_addDream_21 : decode cL_addDream 21 = .ok (.astore 4, 2) := by decide +kernel
theorem dL_addDream_23 : decode cL_addDream 23 = .ok (.iconst 3, 1) := by decide +kernel
theorem dL_addDream_24 : decode cL_addDream 24 = .ok (.ireturn, 1) := by decide +kernel
theorem dL_addDream_25 : decode cL_addDream 25 = .ok (.iconst 0, 1) := by decide +kernel
theorem dL_addDream_26 : decode cL_addDream 26 = .ok (.ireturn, 1) := by decide +kernel
theorem dL_tagDream_0 : decode cL_tagDream 0 = .ok (.aload_n 3, 1) := by decide +kernel
theorem dL_tagDream_1 : decode cL_tagDream 1 = .ok (.iconst 0, 1) := by decide +kernel
theorem dL_tagDream_2 : decode cL_tagDream 2 = .ok (.aload_n 0, 1) := by decide +kernel
theorem dL_tagDream_3 : decode cL_tagDream 3 = .ok (.iload_n 1, 1) := by decide +kernel
theorem dL_tagDream_4 : decode cL_tagDream 4 = .ok (.iload_n 2, 1) := by decide +kernel
theorem dL_tagDream_5 : decode cL_tagDream 5 = .ok (.invokevirtual 30, 3) := by decide +kernel
theorem dL_tagDream_8 : decode cL_tagDream 8 = .ok (.i2l, 1) := by decide +kernel
theorem dL_tagDream_9 : decode cL_tagDream 9 = .ok (.lastore, 1) := by decide +kernel
theorem dL_tagDream_10 : decode cL_tagDream 10 = .ok (.goto 11, 3) := by decide +kernel
theorem dL_tagDream_13 : decode cL_tagDream 13 = .ok (.astore 4, 2) := by decide +kernel
theorem dL_tagDream_15 : decode cL_tagDream 15 = .ok (.iconst 1, 1) := by decide +kernel
theorem dL_tagDream_16 : decode cL_tagDream 16 = .ok (.ireturn, 1) := by decide +kernel
theorem dL_tagDream_17 : decode cL_tagDream 17 = .ok (.astore 4, 2) := by decide +kernel
theorem dL_tagDream_19 : decode cL_tagDream 19 = .ok (.iconst 2, 1) := by decide +kernel
theorem dL_tagDream_20 : decode cL_tagDream 20 = .ok (.ireturn, 1) := by decide +kernel
theorem dL_tagDream_21 : decode cL_tagDream 21 = .ok (.iconst 0, 1) := by decide +kernel
theorem dL_tagDream_22 : decode cL_tagDream 22 = .ok (.ireturn, 1) := by decide +kernel
theorem dL_untagDream_0 : decode cL_untagDream 0 = .ok (.aload_n 3, 1) := by decide +kernel
theorem dL_untagDream_1 : decode cL_untagDream 1 = .ok (.iconst 0, 1) := by decide +kernel
theorem dL_untagDream_2 : decode cL_untagDream 2 = .ok (.aload_n 0, 1) := by decide +kernel
theorem dL_untagDream_3 : decode cL_untagDream 3 = .ok (.iload_n 1, 1) := by decide +kernel
theorem dL_untagDream_4 : decode cL_untagDream 4 = .ok (.iload_n 2, 1) := by decide +kernel
theorem dL_untagDream_5 : decode cL_untagDream 5 = .ok (.invokevirtual 33, 3) := by decide +kernel
theorem dL_untagDream_8 : decode cL_untagDream 8 = .ok (.i2l, 1) := by decide +kernel
theorem dL_untagDream_9 : decode cL_untagDream 9 = .ok (.lastore, 1) := by decide +kernel
theorem dL_untagDream_10 : decode cL_untagDream 10 = .ok (.goto 11, 3) := by decide +kernel
theorem dL_untagDream_13 : decode cL_untagDream 13 = .ok (.astore 4, 2) := by decide +kernel
theorem dL_untagDream_15 : decode cL_untagDream 15 = .ok (.iconst 1, 1) := by decide +kernel
theorem dL_untagDream_16 : decode cL_untagDream 16 = .ok (.ireturn, 1) := by decide +kernel
theorem dL_untagDream_17 : decode cL_untagDream 17 = .ok (.astore 4, 2) := by decide +kernel
theorem dL_untagDream_19 : decode cL_untagDream 19 = .ok (.iconst 2, 1) := by decide +kernel
theorem dL_untagDream_20 : decode cL_untagDream 20 = .ok (.ireturn, 1) := by decide +kernel
theorem dL_untagDream_21 : decode cL_untagDream 21 = .ok (.iconst 0, 1) := by decide +kernel
theorem dL_untagDream_22 : decode cL_untagDream 22 = .ok (.ireturn, 1) := by decide +kernel
theorem dL_recall_0 : decode cL_recall 0 = .ok (.aload_n 3, 1) := by decide +kernel
theorem dL_recall_1 : decode cL_recall 1 = .ok (.iconst 0, 1) := by decide +kernel
theorem dL_recall_2 : decode cL_recall 2 = .ok (.aload_n 0, 1) := by decide +kernel
theorem dL_recall_3 : decode cL_recall 3 = .ok (.iload_n 1, 1) := by decide +kernel
theorem dL_recall_4 : decode cL_recall 4 = .ok (.iload_n 2, 1) := by decide +kernel
theorem dL_recall_5 : decode cL_recall 5 = .ok (.invokevirtual 36, 3) := by decide +kernel
theorem dL_recall_8 : decode cL_recall 8 = .ok (.i2l, 1) := by decide +kernel
theorem dL_recall_9 : decode cL_recall 9 = .ok (.lastore, 1) := by decide +kernel
theorem dL_recall_10 : decode cL_recall 10 = .ok (.goto 11, 3) := by decide +kernel
theorem dL_recall_13 : decode cL_recall 13 = .ok (.astore 4, 2) := by decide +kernel
theorem dL_recall_15 : decode cL_recall 15 = .ok (.iconst 1, 1) := by decide +kernel
theorem dL_recall_16 : decode cL_recall 16 = .ok (.ireturn, 1) := by decide +kernel
theorem dL_recall_17 : decode cL_recall 17 = .ok (.astore 4, 2) := by decide +kernel
theorem dL_recall_19 : decode cL_recall 19 = .ok (.iconst 2, 1) := by decide +kernel
theorem dL_recall_20 : decode cL_recall 20 = .ok (.ireturn, 1) := by decide +kernel
theorem dL_recall_21 : decode cL_recall 21 = .ok (.iconst 0, 1) := by decide +kernel
theorem dL_recall_22 : decode cL_recall 22 = .ok (.ireturn, 1) := by decide +kernel
theorem dL_passNights_0 : decode cL_passNights 0 = .ok (.aload_n 2, 1) := by decide +kernel
theorem dL_passNights_1 : decode cL_passNights 1 = .ok (.iconst 0, 1) := by decide +kernel
theorem dL_passNights_2 : decode cL_passNights 2 = .ok (.aload_n 0, 1) := by decide +kernel
theorem dL_passNights_3 : decode cL_passNights 3 = .ok (.iload_n 1, 1) := by decide +kernel
theorem dL_passNights_4 : decode cL_passNights 4 = .ok (.invokevirtual 39, 3) := by decide +kernel
theorem dL_passNights_7 : decode cL_passNights 7 = .ok (.i2l, 1) := by decide +kernel
theorem dL_passNights_8 : decode cL_passNights 8 = .ok (.lastore, 1) := by decide +kernel
theorem dL_passNights_9 : decode cL_passNights 9 = .ok (.goto 6, 3) := by decide +kernel
theorem dL_passNights_12 : decode cL_passNights 12 = .ok (.astore_n 3, 1) := by decide +kernel
theorem dL_passNights_13 : decode cL_passNights 13 = .ok (.iconst 1, 1) := by decide +kernel
theorem dL_passNights_14 : decode cL_passNights 14 = .ok (.ireturn, 1) := by decide +kernel
theorem dL_passNights_15 : decode cL_passNights 15 = .ok (.iconst 0, 1) := by decide +kernel
theorem dL_passNights_16 : decode cL_passNights 16 = .ok (.ireturn, 1) := by decide +kernel
theorem dL_addTagTerm_0 : decode cL_addTagTerm 0 = .ok (.aload_n 2, 1) := by decide +kernel
theorem dL_addTagTerm_1 : decode cL_addTagTerm 1 = .ok (.iconst 0, 1) := by decide +kernel
theorem dL_addTagTerm_2 : decode cL_addTagTerm 2 = .ok (.aload_n 0, 1) := by decide +kernel
theorem dL_addTagTerm_3 : decode cL_addTagTerm 3 = .ok (.iload_n 1, 1) := by decide +kernel
theorem dL_addTagTerm_4 : decode cL_addTagTerm 4 = .ok (.invokevirtual 42, 3) := by decide +kernel
theorem dL_addTagTerm_7 : decode cL_addTagTerm 7 = .ok (.i2l, 1) := by decide +kernel
theorem dL_addTagTerm_8 : decode cL_addTagTerm 8 = .ok (.lastore, 1) := by decide +kernel
theorem dL_addTagTerm_9 : decode cL_addTagTerm 9 = .ok (.goto 9, 3) := by decide +kernel
theorem dL_addTagTerm_12 : decode cL_addTagTerm 12 = .ok (.astore_n 3, 1) := by decide +kernel
theorem dL_addTagTerm_13 : decode cL_addTagTerm 13 = .ok (.iconst 1, 1) := by decide +kernel
theorem dL_addTagTerm_14 : decode cL_addTagTerm 14 = .ok (.ireturn, 1) := by decide +kernel
theorem dL_addTagTerm_15 : decode cL_addTagTerm 15 = .ok (.astore_n 3, 1) := by decide +kernel
theorem dL_addTagTerm_16 : decode cL_addTagTerm 16 = .ok (.iconst 2, 1) := by decide +kernel
theorem dL_addTagTerm_17 : decode cL_addTagTerm 17 = .ok (.ireturn, 1) := by decide +kernel
theorem dL_addTagTerm_18 : decode cL_addTagTerm 18 = .ok (.iconst 0, 1) := by decide +kernel
theorem dL_addTagTerm_19 : decode cL_addTagTerm 19 = .ok (.ireturn, 1) := by decide +kernel
theorem dL_addBothTerm_0 : decode cL_addBothTerm 0 = .ok (.aload_n 3, 1) := by decide +kernel
theorem dL_addBothTerm_1 : decode cL_addBothTerm 1 = .ok (.iconst 0, 1) := by decide +kernel
theorem dL_addBothTerm_2 : decode cL_addBothTerm 2 = .ok (.aload_n 0, 1) := by decide +kernel
theorem dL_addBothTerm_3 : decode cL_addBothTerm 3 = .ok (.iload_n 1, 1) := by decide +kernel
theorem dL_addBothTerm_4 : decode cL_addBothTerm 4 = .ok (.iload_n 2, 1) := by decide +kernel
theorem dL_addBothTerm_5 : decode cL_addBothTerm 5 = .ok (.invokevirtual 45, 3) := by decide +kernel
theorem dL_addBothTerm_8 : decode cL_addBothTerm 8 = .ok (.i2l, 1) := by decide +kernel
theorem dL_addBothTerm_9 : decode cL_addBothTerm 9 = .ok (.lastore, 1) := by decide +kernel
theorem dL_addBothTerm_10 : decode cL_addBothTerm 10 = .ok (.goto 11, 3) := by decide +kernel
theorem dL_addBothTerm_13 : decode cL_addBothTerm 13 = .ok (.astore 4, 2) := by decide +kernel
theorem dL_addBothTerm_15 : decode cL_addBothTerm 15 = .ok (.iconst 1, 1) := by decide +kernel
theorem dL_addBothTerm_16 : decode cL_addBothTerm 16 = .ok (.ireturn, 1) := by decide +kernel
theorem dL_addBothTerm_17 : decode cL_addBothTerm 17 = .ok (.astore 4, 2) := by decide +kernel
theorem dL_addBothTerm_19 : decode cL_addBothTerm 19 = .ok (.iconst 2, 1) := by decide +kernel
theorem dL_addBothTerm_20 : decode cL_addBothTerm 20 = .ok (.ireturn, 1) := by decide +kernel
theorem dL_addBothTerm_21 : decode cL_addBothTerm 21 = .ok (.iconst 0, 1) := by decide +kernel
theorem dL_addBothTerm_22 : decode cL_addBothTerm 22 = .ok (.ireturn, 1) := by decide +kernel
theorem dL_addEitherTerm_0 : decode cL_addEitherTerm 0 = .ok (.aload_n 3, 1) := by decide +kernel
theorem dL_addEitherTerm_1 : decode cL_addEitherTerm 1 = .ok (.iconst 0, 1) := by decide +kernel
theorem dL_addEitherTerm_2 : decode cL_addEitherTerm 2 = .ok (.aload_n 0, 1) := by decide +kernel
theorem dL_addEitherTerm_3 : decode cL_addEitherTerm 3 = .ok (.iload_n 1, 1) := by decide +kernel
theorem dL_addEitherTerm_4 : decode cL_addEitherTerm 4 = .ok (.iload_n 2, 1) := by decide +kernel
theorem dL_addEitherTerm_5 : decode cL_addEitherTerm 5 = .ok (.invokevirtual 48, 3) := by decide +kernel
theorem dL_addEitherTerm_8 : decode cL_addEitherTerm 8 = .ok (.i2l, 1) := by decide +kernel
theorem dL_addEitherTerm_9 : decode cL_addEitherTerm 9 = .ok (.lastore, 1) := by decide +kernel
theorem dL_addEitherTerm_10 : decode cL_addEitherTerm 10 = .ok (.goto 11, 3) := by decide +kernel
theorem dL_addEitherTerm_13 : decode cL_addEitherTerm 13 = .ok (.astore 4, 2) := by decide +kernel
theorem dL_addEitherTerm_15 : decode cL_addEitherTerm 15 = .ok (.iconst 1, 1) := by decide +kernel
theorem dL_addEitherTerm_16 : decode cL_addEitherTerm 16 = .ok (.ireturn, 1) := by decide +kernel
theorem dL_addEitherTerm_17 : decode cL_addEitherTerm 17 = .ok (.astore 4, 2) := by decide +kernel
theorem dL_addEitherTerm_19 : decode cL_addEitherTerm 19 = .ok (.iconst 2, 1) := by decide +kernel
theorem dL_addEitherTerm_20 : decode cL_addEitherTerm 20 = .ok (.ireturn, 1) := by decide +kernel
theorem dL_addEitherTerm_21 : decode cL_addEitherTerm 21 = .ok (.iconst 0, 1) := by decide +kernel
theorem dL_addEitherTerm_22 : decode cL_addEitherTerm 22 = .ok (.ireturn, 1) := by decide +kernel
theorem dL_addWithoutTerm_0 : decode cL_addWithoutTerm 0 = .ok (.aload_n 2, 1) := by decide +kernel
theorem dL_addWithoutTerm_1 : decode cL_addWithoutTerm 1 = .ok (.iconst 0, 1) := by decide +kernel
theorem dL_addWithoutTerm_2 : decode cL_addWithoutTerm 2 = .ok (.aload_n 0, 1) := by decide +kernel
theorem dL_addWithoutTerm_3 : decode cL_addWithoutTerm 3 = .ok (.iload_n 1, 1) := by decide +kernel
theorem dL_addWithoutTerm_4 : decode cL_addWithoutTerm 4 = .ok (.invokevirtual 51, 3) := by decide +kernel
theorem dL_addWithoutTerm_7 : decode cL_addWithoutTerm 7 = .ok (.i2l, 1) := by decide +kernel
theorem dL_addWithoutTerm_8 : decode cL_addWithoutTerm 8 = .ok (.lastore, 1) := by decide +kernel
theorem dL_addWithoutTerm_9 : decode cL_addWithoutTerm 9 = .ok (.goto 9, 3) := by decide +kernel
theorem dL_addWithoutTerm_12 : decode cL_addWithoutTerm 12 = .ok (.astore_n 3, 1) := by decide +kernel
theorem dL_addWithoutTerm_13 : decode cL_addWithoutTerm 13 = .ok (.iconst 1, 1) := by decide +kernel
theorem dL_addWithoutTerm_14 : decode cL_addWithoutTerm 14 = .ok (.ireturn, 1) := by decide +kernel
theorem dL_addWithoutTerm_15 : decode cL_addWithoutTerm 15 = .ok (.astore_n 3, 1) := by decide +kernel
theorem dL_addWithoutTerm_16 : decode cL_addWithoutTerm 16 = .ok (.iconst 2, 1) := by decide +kernel
theorem dL_addWithoutTerm_17 : decode cL_addWithoutTerm 17 = .ok (.ireturn, 1) := by decide +kernel
theorem dL_addWithoutTerm_18 : decode cL_addWithoutTerm 18 = .ok (.iconst 0, 1) := by decide +kernel
theorem dL_addWithoutTerm_19 : decode cL_addWithoutTerm 19 = .ok (.ireturn, 1) := by decide +kernel
theorem dL_hasParent_0 : decode cL_hasParent 0 = .ok (.aload_n 2, 1) := by decide +kernel
theorem dL_hasParent_1 : decode cL_hasParent 1 = .ok (.iconst 0, 1) := by decide +kernel
theorem dL_hasParent_2 : decode cL_hasParent 2 = .ok (.aload_n 0, 1) := by decide +kernel
theorem dL_hasParent_3 : decode cL_hasParent 3 = .ok (.iload_n 1, 1) := by decide +kernel
theorem dL_hasParent_4 : decode cL_hasParent 4 = .ok (.invokevirtual 54, 3) := by decide +kernel
theorem dL_hasParent_7 : decode cL_hasParent 7 = .ok (.ifCond .eq 7, 3) := by decide +kernel
theorem dL_hasParent_10 : decode cL_hasParent 10 = .ok (.lconst 1, 1) := by decide +kernel
theorem dL_hasParent_11 : decode cL_hasParent 11 = .ok (.goto 4, 3) := by decide +kernel
theorem dL_hasParent_14 : decode cL_hasParent 14 = .ok (.lconst 0, 1) := by decide +kernel
theorem dL_hasParent_15 : decode cL_hasParent 15 = .ok (.lastore, 1) := by decide +kernel
theorem dL_hasParent_16 : decode cL_hasParent 16 = .ok (.goto 6, 3) := by decide +kernel
theorem dL_hasParent_19 : decode cL_hasParent 19 = .ok (.astore_n 3, 1) := by decide +kernel
theorem dL_hasParent_20 : decode cL_hasParent 20 = .ok (.iconst 1, 1) := by decide +kernel
theorem dL_hasParent_21 : decode cL_hasParent 21 = .ok (.ireturn, 1) := by decide +kernel
theorem dL_hasParent_22 : decode cL_hasParent 22 = .ok (.iconst 0, 1) := by decide +kernel
theorem dL_hasParent_23 : decode cL_hasParent 23 = .ok (.ireturn, 1) := by decide +kernel
theorem dL_parentOf_0 : decode cL_parentOf 0 = .ok (.aload_n 2, 1) := by decide +kernel
theorem dL_parentOf_1 : decode cL_parentOf 1 = .ok (.iconst 0, 1) := by decide +kernel
theorem dL_parentOf_2 : decode cL_parentOf 2 = .ok (.aload_n 0, 1) := by decide +kernel
theorem dL_parentOf_3 : decode cL_parentOf 3 = .ok (.iload_n 1, 1) := by decide +kernel
theorem dL_parentOf_4 : decode cL_parentOf 4 = .ok (.invokevirtual 58, 3) := by decide +kernel
theorem dL_parentOf_7 : decode cL_parentOf 7 = .ok (.i2l, 1) := by decide +kernel
theorem dL_parentOf_8 : decode cL_parentOf 8 = .ok (.lastore, 1) := by decide +kernel
theorem dL_parentOf_9 : decode cL_parentOf 9 = .ok (.goto 9, 3) := by decide +kernel
theorem dL_parentOf_12 : decode cL_parentOf 12 = .ok (.astore_n 3, 1) := by decide +kernel
theorem dL_parentOf_13 : decode cL_parentOf 13 = .ok (.iconst 1, 1) := by decide +kernel
theorem dL_parentOf_14 : decode cL_parentOf 14 = .ok (.ireturn, 1) := by decide +kernel
theorem dL_parentOf_15 : decode cL_parentOf 15 = .ok (.astore_n 3, 1) := by decide +kernel
theorem dL_parentOf_16 : decode cL_parentOf 16 = .ok (.iconst 2, 1) := by decide +kernel
theorem dL_parentOf_17 : decode cL_parentOf 17 = .ok (.ireturn, 1) := by decide +kernel
theorem dL_parentOf_18 : decode cL_parentOf 18 = .ok (.iconst 0, 1) := by decide +kernel
theorem dL_parentOf_19 : decode cL_parentOf 19 = .ok (.ireturn, 1) := by decide +kernel
theorem dL_tagsAbove_0 : decode cL_tagsAbove 0 = .ok (.aload_n 2, 1) := by decide +kernel
theorem dL_tagsAbove_1 : decode cL_tagsAbove 1 = .ok (.iconst 0, 1) := by decide +kernel
theorem dL_tagsAbove_2 : decode cL_tagsAbove 2 = .ok (.aload_n 0, 1) := by decide +kernel
theorem dL_tagsAbove_3 : decode cL_tagsAbove 3 = .ok (.iload_n 1, 1) := by decide +kernel
theorem dL_tagsAbove_4 : decode cL_tagsAbove 4 = .ok (.invokevirtual 61, 3) := by decide +kernel
theorem dL_tagsAbove_7 : decode cL_tagsAbove 7 = .ok (.i2l, 1) := by decide +kernel
theorem dL_tagsAbove_8 : decode cL_tagsAbove 8 = .ok (.lastore, 1) := by decide +kernel
theorem dL_tagsAbove_9 : decode cL_tagsAbove 9 = .ok (.goto 6, 3) := by decide +kernel
theorem dL_tagsAbove_12 : decode cL_tagsAbove 12 = .ok (.astore_n 3, 1) := by decide +kernel
theorem dL_tagsAbove_13 : decode cL_tagsAbove 13 = .ok (.iconst 1, 1) := by decide +kernel
theorem dL_tagsAbove_14 : decode cL_tagsAbove 14 = .ok (.ireturn, 1) := by decide +kernel
theorem dL_tagsAbove_15 : decode cL_tagsAbove 15 = .ok (.iconst 0, 1) := by decide +kernel
theorem dL_tagsAbove_16 : decode cL_tagsAbove 16 = .ok (.ireturn, 1) := by decide +kernel
theorem dL_tagsBelow_0 : decode cL_tagsBelow 0 = .ok (.aload_n 2, 1) := by decide +kernel
theorem dL_tagsBelow_1 : decode cL_tagsBelow 1 = .ok (.iconst 0, 1) := by decide +kernel
theorem dL_tagsBelow_2 : decode cL_tagsBelow 2 = .ok (.aload_n 0, 1) := by decide +kernel
theorem dL_tagsBelow_3 : decode cL_tagsBelow 3 = .ok (.iload_n 1, 1) := by decide +kernel
theorem dL_tagsBelow_4 : decode cL_tagsBelow 4 = .ok (.invokevirtual 64, 3) := by decide +kernel
theorem dL_tagsBelow_7 : decode cL_tagsBelow 7 = .ok (.i2l, 1) := by decide +kernel
theorem dL_tagsBelow_8 : decode cL_tagsBelow 8 = .ok (.lastore, 1) := by decide +kernel
theorem dL_tagsBelow_9 : decode cL_tagsBelow 9 = .ok (.goto 6, 3) := by decide +kernel
theorem dL_tagsBelow_12 : decode cL_tagsBelow 12 = .ok (.astore_n 3, 1) := by decide +kernel
theorem dL_tagsBelow_13 : decode cL_tagsBelow 13 = .ok (.iconst 1, 1) := by decide +kernel
theorem dL_tagsBelow_14 : decode cL_tagsBelow 14 = .ok (.ireturn, 1) := by decide +kernel
theorem dL_tagsBelow_15 : decode cL_tagsBelow 15 = .ok (.iconst 0, 1) := by decide +kernel
theorem dL_tagsBelow_16 : decode cL_tagsBelow 16 = .ok (.ireturn, 1) := by decide +kernel
theorem dL_isBelow_0 : decode cL_isBelow 0 = .ok (.aload_n 3, 1) := by decide +kernel
theorem dL_isBelow_1 : decode cL_isBelow 1 = .ok (.iconst 0, 1) := by decide +kernel
theorem dL_isBelow_2 : decode cL_isBelow 2 = .ok (.aload_n 0, 1) := by decide +kernel
theorem dL_isBelow_3 : decode cL_isBelow 3 = .ok (.iload_n 1, 1) := by decide +kernel
theorem dL_isBelow_4 : decode cL_isBelow 4 = .ok (.iload_n 2, 1) := by decide +kernel
theorem dL_isBelow_5 : decode cL_isBelow 5 = .ok (.invokevirtual 67, 3) := by decide +kernel
theorem dL_isBelow_8 : decode cL_isBelow 8 = .ok (.ifCond .eq 7, 3) := by decide +kernel
theorem dL_isBelow_11 : decode cL_isBelow 11 = .ok (.lconst 1, 1) := by decide +kernel
theorem dL_isBelow_12 : decode cL_isBelow 12 = .ok (.goto 4, 3) := by decide +kernel
theorem dL_isBelow_15 : decode cL_isBelow 15 = .ok (.lconst 0, 1) := by decide +kernel
theorem dL_isBelow_16 : decode cL_isBelow 16 = .ok (.lastore, 1) := by decide +kernel
theorem dL_isBelow_17 : decode cL_isBelow 17 = .ok (.goto 7, 3) := by decide +kernel
theorem dL_isBelow_20 : decode cL_isBelow 20 = .ok (.astore 4, 2) := by decide +kernel
theorem dL_isBelow_22 : decode cL_isBelow 22 = .ok (.iconst 1, 1) := by decide +kernel
theorem dL_isBelow_23 : decode cL_isBelow 23 = .ok (.ireturn, 1) := by decide +kernel
theorem dL_isBelow_24 : decode cL_isBelow 24 = .ok (.iconst 0, 1) := by decide +kernel
theorem dL_isBelow_25 : decode cL_isBelow 25 = .ok (.ireturn, 1) := by decide +kernel
theorem dL_nearestAbove_0 : decode cL_nearestAbove 0 = .ok (.aload_n 3, 1) := by decide +kernel
theorem dL_nearestAbove_1 : decode cL_nearestAbove 1 = .ok (.iconst 0, 1) := by decide +kernel
