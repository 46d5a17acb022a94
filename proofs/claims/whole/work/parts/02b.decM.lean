theorem dX9_splits_196 : decode cX9_splits 196 = .ok (.getfield 134, 3) := by decide +kernel
theorem dX9_splits_199 : decode cX9_splits 199 = .ok (.iaload, 1) := by decide +kernel
theorem dX9_splits_200 : decode cX9_splits 200 = .ok (.ldc 146, 2) := by decide +kernel
theorem dX9_splits_202 : decode cX9_splits 202 = .ok (.if_icmp .le 15, 3) := by decide +kernel
theorem dX9_splits_205 : decode cX9_splits 205 = .ok (.aload_n 0, 1) := by decide +kernel
theorem dX9_splits_206 : decode cX9_splits 206 = .ok (.getfield 46, 3) := by decide +kernel
theorem dX9_splits_209 : decode cX9_splits 209 = .ok (.aload_n 0, 1) := by decide +kernel
theorem dX9_splits_210 : decode cX9_splits 210 = .ok (.getfield 134, 3) := by decide +kernel
theorem dX9_splits_213 : decode cX9_splits 213 = .ok (.iaload, 1) := by decide +kernel
theorem dX9_splits_214 : decode cX9_splits 214 = .ok (.goto 26, 3) := by decide +kernel
theorem dX9_splits_217 : decode cX9_splits 217 = .ok (.bipush 10, 2) := by decide +kernel
theorem dX9_splits_219 : decode cX9_splits 219 = .ok (.aload_n 0, 1) := by decide +kernel
theorem dX9_splits_220 : decode cX9_splits 220 = .ok (.getfield 46, 3) := by decide +kernel
theorem dX9_splits_223 : decode cX9_splits 223 = .ok (.aload_n 0, 1) := by decide +kernel
theorem dX9_splits_224 : decode cX9_splits 224 = .ok (.getfield 134, 3) := by decide +kernel
theorem dX9_splits_227 : decode cX9_splits 227 = .ok (.iaload, 1) := by decide +kernel
theorem dX9_splits_228 : decode cX9_splits 228 = .ok (.imul, 1) := by decide +kernel
theorem dX9_splits_229 : decode cX9_splits 229 = .ok (.aload_n 0, 1) := by decide +kernel
theorem dX9_splits_230 : decode cX9_splits 230 = .ok (.getfield 34, 3) := by decide +kernel
theorem dX9_splits_233 : decode cX9_splits 233 = .ok (.iload 5, 2) := by decide +kernel
theorem dX9_splits_235 : decode cX9_splits 235 = .ok (.baload, 1) := by decide +kernel
theorem dX9_splits_236 : decode cX9_splits 236 = .ok (.iadd, 1) := by decide +kernel
theorem dX9_splits_237 : decode cX9_splits 237 = .ok (.bipush 48, 2) := by decide +kernel
theorem dX9_splits_239 : decode cX9_splits 239 = .ok (.isub, 1) := by decide +kernel
theorem dX9_splits_240 : decode cX9_splits 240 = .ok (.iastore, 1) := by decide +kernel
theorem dX9_splits_241 : decode cX9_splits 241 = .ok (.iinc 5 1, 3) := by decide +kernel
theorem dX9_splits_244 : decode cX9_splits 244 = .ok (.goto (-75), 3) := by decide +kernel
theorem dX9_splits_247 : decode cX9_splits 247 = .ok (.aload_n 0, 1) := by decide +kernel
theorem dX9_splits_248 : decode cX9_splits 248 = .ok (.dup, 1) := by decide +kernel
theorem dX9_splits_249 : decode cX9_splits 249 = .ok (.getfield 134, 3) := by decide +kernel
theorem dX9_splits_252 : decode cX9_splits 252 = .ok (.iconst 1, 1) := by decide +kernel
theorem dX9_splits_253 : decode cX9_splits 253 = .ok (.iadd, 1) := by decide +kernel
theorem dX9_splits_254 : decode cX9_splits 254 = .ok (.putfield 134, 3) := by decide +kernel
theorem dX9_splits_257 : decode cX9_splits 257 = .ok (.iload 4, 2) := by decide +kernel
theorem dX9_splits_259 : decode cX9_splits 259 = .ok (.istore_n 2, 1) := by decide +kernel
theorem dX9_splits_260 : decode cX9_splits 260 = .ok (.goto (-253), 3) := by decide +kernel
theorem dX9_splits_263 : decode cX9_splits 263 = .ok (.aload_n 0, 1) := by decide +kernel
theorem dX9_splits_264 : decode cX9_splits 264 = .ok (.getfield 49, 3) := by decide +kernel
theorem dX9_splits_267 : decode cX9_splits 267 = .ok (.aload_n 0, 1) := by decide +kernel
theorem dX9_splits_268 : decode cX9_splits 268 = .ok (.getfield 134, 3) := by decide +kernel
theorem dX9_splits_271 : decode cX9_splits 271 = .ok (.iload_n 1, 1) := by decide +kernel
theorem dX9_splits_272 : decode cX9_splits 272 = .ok (.iastore, 1) := by decide +kernel
theorem dX9_splits_273 : decode cX9_splits 273 = .ok (.aload_n 0, 1) := by decide +kernel
theorem dX9_splits_274 : decode cX9_splits 274 = .ok (.getfield 43, 3) := by decide +kernel
theorem dX9_splits_277 : decode cX9_splits 277 = .ok (.aload_n 0, 1) := by decide +kernel
theorem dX9_splits_278 : decode cX9_splits 278 = .ok (.getfield 134, 3) := by decide +kernel
theorem dX9_splits_281 : decode cX9_splits 281 = .ok (.iconst 0, 1) := by decide +kernel
theorem dX9_splits_282 : decode cX9_splits 282 = .ok (.iastore, 1) := by decide +kernel
theorem dX9_splits_283 : decode cX9_splits 283 = .ok (.aload_n 0, 1) := by decide +kernel
theorem dX9_splits_284 : decode cX9_splits 284 = .ok (.getfield 46, 3) := by decide +kernel
theorem dX9_splits_287 : decode cX9_splits 287 = .ok (.aload_n 0, 1) := by decide +kernel
theorem dX9_splits_288 : decode cX9_splits 288 = .ok (.getfield 134, 3) := by decide +kernel
theorem dX9_splits_291 : decode cX9_splits 291 = .ok (.iconst 0, 1) := by decide +kernel
theorem dX9_splits_292 : decode cX9_splits 292 = .ok (.iastore, 1) := by decide +kernel
theorem dX9_splits_293 : decode cX9_splits 293 = .ok (.return_, 1) := by decide +kernel
theorem dX9_fine_0 : decode cX9_fine 0 = .ok (.aload_n 0, 1) := by decide +kernel
theorem dX9_fine_1 : decode cX9_fine 1 = .ok (.getfield 147, 3) := by decide +kernel
theorem dX9_fine_4 : decode cX9_fine 4 = .ok (.iconst (-1), 1) := by decide +kernel
theorem dX9_fine_5 : decode cX9_fine 5 = .ok (.if_icmp .ne 7, 3) := by decide +kernel
theorem dX9_fine_8 : decode cX9_fine 8 = .ok (.iconst 1, 1) := by decide +kernel
theorem dX9_fine_9 : decode cX9_fine 9 = .ok (.goto 4, 3) := by decide +kernel
theorem dX9_fine_12 : decode cX9_fine 12 = .ok (.iconst 0, 1) := by decide +kernel
theorem dX9_fine_13 : decode cX9_fine 13 = .ok (.ireturn, 1) := by decide +kernel
theorem dX9_faults_0 : decode cX9_faults 0 = .ok (.aload_n 0, 1) := by decide +kernel
theorem dX9_faults_1 : decode cX9_faults 1 = .ok (.invokevirtual 150, 3) := by decide +kernel
theorem dX9_faults_4 : decode cX9_faults 4 = .ok (.ifCond .eq 16, 3) := by decide +kernel
theorem dX9_faults_7 : decode cX9_faults 7 = .ok (.aload_n 0, 1) := by decide +kernel
theorem dX9_faults_8 : decode cX9_faults 8 = .ok (.aload_n 0, 1) := by decide +kernel
theorem dX9_faults_9 : decode cX9_faults 9 = .ok (.getfield 49, 3) := by decide +kernel
theorem dX9_faults_12 : decode cX9_faults 12 = .ok (.aload_n 0, 1) := by decide +kernel
theorem dX9_faults_13 : decode cX9_faults 13 = .ok (.getfield 154, 3) := by decide +kernel
theorem dX9_faults_16 : decode cX9_faults 16 = .ok (.iaload, 1) := by decide +kernel
theorem dX9_faults_17 : decode cX9_faults 17 = .ok (.putfield 147, 3) := by decide +kernel
theorem dX9_faults_20 : decode cX9_faults 20 = .ok (.return_, 1) := by decide +kernel
theorem dX9_takes0_0 : decode cX9_takes0 0 = .ok (.aload_n 0, 1) := by decide +kernel
theorem dX9_takes0_1 : decode cX9_takes0 1 = .ok (.invokevirtual 150, 3) := by decide +kernel
theorem dX9_takes0_4 : decode cX9_takes0 4 = .ok (.ifCond .eq 20, 3) := by decide +kernel
theorem dX9_takes0_7 : decode cX9_takes0 7 = .ok (.aload_n 0, 1) := by decide +kernel
theorem dX9_takes0_8 : decode cX9_takes0 8 = .ok (.getfield 43, 3) := by decide +kernel
theorem dX9_takes0_11 : decode cX9_takes0 11 = .ok (.aload_n 0, 1) := by decide +kernel
theorem dX9_takes0_12 : decode cX9_takes0 12 = .ok (.getfield 154, 3) := by decide +kernel
theorem dX9_takes0_15 : decode cX9_takes0 15 = .ok (.iaload, 1) := by decide +kernel
theorem dX9_takes0_16 : decode cX9_takes0 16 = .ok (.iload_n 1, 1) := by decide +kernel
theorem dX9_takes0_17 : decode cX9_takes0 17 = .ok (.if_icmp .ne 7, 3) := by decide +kernel
theorem dX9_takes0_20 : decode cX9_takes0 20 = .ok (.iconst 1, 1) := by decide +kernel
theorem dX9_takes0_21 : decode cX9_takes0 21 = .ok (.goto 4, 3) := by decide +kernel
theorem dX9_takes0_24 : decode cX9_takes0 24 = .ok (.iconst 0, 1) := by decide +kernel
theorem dX9_takes0_25 : decode cX9_takes0 25 = .ok (.istore_n 2, 1) := by decide +kernel
theorem dX9_takes0_26 : decode cX9_takes0 26 = .ok (.iload_n 2, 1) := by decide +kernel
theorem dX9_takes0_27 : decode cX9_takes0 27 = .ok (.ifCond .eq 13, 3) := by decide +kernel
theorem dX9_takes0_30 : decode cX9_takes0 30 = .ok (.aload_n 0, 1) := by decide +kernel
theorem dX9_takes0_31 : decode cX9_takes0 31 = .ok (.dup, 1) := by decide +kernel
theorem dX9_takes0_32 : decode cX9_takes0 32 = .ok (.getfield 154, 3) := by decide +kernel
theorem dX9_takes0_35 : decode cX9_takes0 35 = .ok (.iconst 1, 1) := by decide +kernel
theorem dX9_takes0_36 : decode cX9_takes0 36 = .ok (.iadd, 1) := by decide +kernel
theorem dX9_takes0_37 : decode cX9_takes0 37 = .ok (.putfield 154, 3) := by decide +kernel
theorem dX9_takes0_40 : decode cX9_takes0 40 = .ok (.iload_n 2, 1) := by decide +kernel
theorem dX9_takes0_41 : decode cX9_takes0 41 = .ok (.ireturn, 1) := by decide +kernel
theorem dX9_must_0 : decode cX9_must 0 = .ok (.aload_n 0, 1) := by decide +kernel
theorem dX9_must_1 : decode cX9_must 1 = .ok (.iload_n 1, 1) := by decide +kernel
theorem dX9_must_2 : decode cX9_must 2 = .ok (.invokevirtual 157, 3) := by decide +kernel
theorem dX9_must_5 : decode cX9_must 5 = .ok (.ifCond .ne 7, 3) := by decide +kernel
theorem dX9_must_8 : decode cX9_must 8 = .ok (.aload_n 0, 1) := by decide +kernel
theorem dX9_must_9 : decode cX9_must 9 = .ok (.invokevirtual 160, 3) := by decide +kernel
theorem dX9_must_12 : decode cX9_must 12 = .ok (.return_, 1) := by decide +kernel
theorem dX9_leaf_0 : decode cX9_leaf 0 = .ok (.aload_n 0, 1) := by decide +kernel
theorem dX9_leaf_1 : decode cX9_leaf 1 = .ok (.getfield 163, 3) := by decide +kernel
theorem dX9_leaf_4 : decode cX9_leaf 4 = .ok (.bipush 50, 2) := by decide +kernel
theorem dX9_leaf_6 : decode cX9_leaf 6 = .ok (.if_icmp .ne 7, 3) := by decide +kernel
theorem dX9_leaf_9 : decode cX9_leaf 9 = .ok (.aload_n 0, 1) := by decide +kernel
theorem dX9_leaf_10 : decode cX9_leaf 10 = .ok (.invokevirtual 160, 3) := by decide +kernel
theorem dX9_leaf_13 : decode cX9_leaf 13 = .ok (.aload_n 0, 1) := by decide +kernel
theorem dX9_leaf_14 : decode cX9_leaf 14 = .ok (.dup, 1) := by decide +kernel
theorem dX9_leaf_15 : decode cX9_leaf 15 = .ok (.getfield 163, 3) := by decide +kernel
theorem dX9_leaf_18 : decode cX9_leaf 18 = .ok (.iconst 1, 1) := by decide +kernel
theorem dX9_leaf_19 : decode cX9_leaf 19 = .ok (.iadd, 1) := by decide +kernel
theorem dX9_leaf_20 : decode cX9_leaf 20 = .ok (.putfield 163, 3) := by decide +kernel
theorem dX9_leaf_23 : decode cX9_leaf 23 = .ok (.aload_n 0, 1) := by decide +kernel
theorem dX9_leaf_24 : decode cX9_leaf 24 = .ok (.invokevirtual 150, 3) := by decide +kernel
theorem dX9_leaf_27 : decode cX9_leaf 27 = .ok (.ifCond .eq 13, 3) := by decide +kernel
theorem dX9_leaf_30 : decode cX9_leaf 30 = .ok (.aload_n 0, 1) := by decide +kernel
theorem dX9_leaf_31 : decode cX9_leaf 31 = .ok (.dup, 1) := by decide +kernel
theorem dX9_leaf_32 : decode cX9_leaf 32 = .ok (.getfield 154, 3) := by decide +kernel
theorem dX9_leaf_35 : decode cX9_leaf 35 = .ok (.iconst 1, 1) := by decide +kernel
theorem dX9_leaf_36 : decode cX9_leaf 36 = .ok (.iadd, 1) := by decide +kernel
theorem dX9_leaf_37 : decode cX9_leaf 37 = .ok (.putfield 154, 3) := by decide +kernel
theorem dX9_leaf_40 : decode cX9_leaf 40 = .ok (.return_, 1) := by decide +kernel
theorem dX9_sign_0 : decode cX9_sign 0 = .ok (.bipush 100, 2) := by decide +kernel
theorem dX9_sign_2 : decode cX9_sign 2 = .ok (.iload_n 0, 1) := by decide +kernel
theorem dX9_sign_3 : decode cX9_sign 3 = .ok (.iadd, 1) := by decide +kernel
theorem dX9_sign_4 : decode cX9_sign 4 = .ok (.ireturn, 1) := by decide +kernel
theorem dX9_readClause_0 : decode cX9_readClause 0 = .ok (.aload_n 0, 1) := by decide +kernel
theorem dX9_readClause_1 : decode cX9_readClause 1 = .ok (.iconst 1, 1) := by decide +kernel
theorem dX9_readClause_2 : decode cX9_readClause 2 = .ok (.invokevirtual 157, 3) := by decide +kernel
theorem dX9_readClause_5 : decode cX9_readClause 5 = .ok (.ifCond .ne 11, 3) := by decide +kernel
theorem dX9_readClause_8 : decode cX9_readClause 8 = .ok (.aload_n 0, 1) := by decide +kernel
theorem dX9_readClause_9 : decode cX9_readClause 9 = .ok (.iconst 2, 1) := by decide +kernel
theorem dX9_readClause_10 : decode cX9_readClause 10 = .ok (.invokevirtual 157, 3) := by decide +kernel
theorem dX9_readClause_13 : decode cX9_readClause 13 = .ok (.ifCond .eq 11, 3) := by decide +kernel
theorem dX9_readClause_16 : decode cX9_readClause 16 = .ok (.aload_n 0, 1) := by decide +kernel
theorem dX9_readClause_17 : decode cX9_readClause 17 = .ok (.iconst 0, 1) := by decide +kernel
theorem dX9_readClause_18 : decode cX9_readClause 18 = .ok (.invokevirtual 166, 3) := by decide +kernel
theorem dX9_readClause_21 : decode cX9_readClause 21 = .ok (.goto 8, 3) := by decide +kernel
theorem dX9_readClause_24 : decode cX9_readClause 24 = .ok (.aload_n 0, 1) := by decide +kernel
theorem dX9_readClause_25 : decode cX9_readClause 25 = .ok (.iconst 3, 1) := by decide +kernel
theorem dX9_readClause_26 : decode cX9_readClause 26 = .ok (.invokevirtual 170, 3) := by decide +kernel
theorem dX9_readClause_29 : decode cX9_readClause 29 = .ok (.aload_n 0, 1) := by decide +kernel
theorem dX9_readClause_30 : decode cX9_readClause 30 = .ok (.iconst 4, 1) := by decide +kernel
theorem dX9_readClause_31 : decode cX9_readClause 31 = .ok (.invokevirtual 157, 3) := by decide +kernel
theorem dX9_readClause_34 : decode cX9_readClause 34 = .ok (.ifCond .eq 8, 3) := by decide +kernel
theorem dX9_readClause_37 : decode cX9_readClause 37 = .ok (.aload_n 0, 1) := by decide +kernel
theorem dX9_readClause_38 : decode cX9_readClause 38 = .ok (.iconst 0, 1) := by decide +kernel
theorem dX9_readClause_39 : decode cX9_readClause 39 = .ok (.invokevirtual 173, 3) := by decide +kernel
theorem dX9_readClause_42 : decode cX9_readClause 42 = .ok (.return_, 1) := by decide +kernel
theorem dX9_readTest_0 : decode cX9_readTest 0 = .ok (.aload_n 0, 1) := by decide +kernel
theorem dX9_readTest_1 : decode cX9_readTest 1 = .ok (.iload_n 1, 1) := by decide +kernel
theorem dX9_readTest_2 : decode cX9_readTest 2 = .ok (.invokevirtual 176, 3) := by decide +kernel
theorem dX9_readTest_5 : decode cX9_readTest 5 = .ok (.aload_n 0, 1) := by decide +kernel
theorem dX9_readTest_6 : decode cX9_readTest 6 = .ok (.iconst 5, 1) := by decide +kernel
theorem dX9_readTest_7 : decode cX9_readTest 7 = .ok (.invokevirtual 157, 3) := by decide +kernel
theorem dX9_readTest_10 : decode cX9_readTest 10 = .ok (.ifCond .eq 11, 3) := by decide +kernel
theorem dX9_readTest_13 : decode cX9_readTest 13 = .ok (.aload_n 0, 1) := by decide +kernel
theorem dX9_readTest_14 : decode cX9_readTest 14 = .ok (.iload_n 1, 1) := by decide +kernel
theorem dX9_readTest_15 : decode cX9_readTest 15 = .ok (.invokevirtual 176, 3) := by decide +kernel
theorem dX9_readTest_18 : decode cX9_readTest 18 = .ok (.goto (-13), 3) := by decide +kernel
theorem dX9_readTest_21 : decode cX9_readTest 21 = .ok (.return_, 1) := by decide +kernel
theorem dX9_readBoth_0 : decode cX9_readBoth 0 = .ok (.aload_n 0, 1) := by decide +kernel
theorem dX9_readBoth_1 : decode cX9_readBoth 1 = .ok (.iload_n 1, 1) := by decide +kernel
theorem dX9_readBoth_2 : decode cX9_readBoth 2 = .ok (.invokevirtual 179, 3) := by decide +kernel
theorem dX9_readBoth_5 : decode cX9_readBoth 5 = .ok (.aload_n 0, 1) := by decide +kernel
theorem dX9_readBoth_6 : decode cX9_readBoth 6 = .ok (.bipush 6, 2) := by decide +kernel
theorem dX9_readBoth_8 : decode cX9_readBoth 8 = .ok (.invokevirtual 157, 3) := by decide +kernel
theorem dX9_readBoth_11 : decode cX9_readBoth 11 = .ok (.ifCond .eq 11, 3) := by decide +kernel
theorem dX9_readBoth_14 : decode cX9_readBoth 14 = .ok (.aload_n 0, 1) := by decide +kernel
theorem dX9_readBoth_15 : decode cX9_readBoth 15 = .ok (.iload_n 1, 1) := by decide +kernel
theorem dX9_readBoth_16 : decode cX9_readBoth 16 = .ok (.invokevirtual 179, 3) := by decide +kernel
theorem dX9_readBoth_19 : decode cX9_readBoth 19 = .ok (.goto (-14), 3) := by decide +kernel
theorem dX9_readBoth_22 : decode cX9_readBoth 22 = .ok (.return_, 1) := by decide +kernel
theorem dX9_readPlain_0 : decode cX9_readPlain 0 = .ok (.iconst 1, 1) := by decide +kernel
theorem dX9_readPlain_1 : decode cX9_readPlain 1 = .ok (.istore_n 2, 1) := by decide +kernel
theorem dX9_readPlain_2 : decode cX9_readPlain 2 = .ok (.iload_n 2, 1) := by decide +kernel
theorem dX9_readPlain_3 : decode cX9_readPlain 3 = .ok (.ifCond .eq 13, 3) := by decide +kernel
theorem dX9_readPlain_6 : decode cX9_readPlain 6 = .ok (.aload_n 0, 1) := by decide +kernel
theorem dX9_readPlain_7 : decode cX9_readPlain 7 = .ok (.bipush 7, 2) := by decide +kernel
theorem dX9_readPlain_9 : decode cX9_readPlain 9 = .ok (.invokevirtual 157, 3) := by decide +kernel
theorem dX9_readPlain_12 : decode cX9_readPlain 12 = .ok (.istore_n 2, 1) := by decide +kernel
theorem dX9_readPlain_13 : decode cX9_readPlain 13 = .ok (.goto (-11), 3) := by decide +kernel
theorem dX9_readPlain_16 : decode cX9_readPlain 16 = .ok (.aload_n 0, 1) := by decide +kernel
theorem dX9_readPlain_17 : decode cX9_readPlain 17 = .ok (.invokevirtual 150, 3) := by decide +kernel
theorem dX9_readPlain_20 : decode cX9_readPlain 20 = .ok (.ifCond .ne 4, 3) := by decide +kernel
theorem dX9_readPlain_23 : decode cX9_readPlain 23 = .ok (.return_, 1) := by decide +kernel
theorem dX9_readPlain_24 : decode cX9_readPlain 24 = .ok (.aload_n 0, 1) := by decide +kernel
theorem dX9_readPlain_25 : decode cX9_readPlain 25 = .ok (.getfield 43, 3) := by decide +kernel
theorem dX9_readPlain_28 : decode cX9_readPlain 28 = .ok (.aload_n 0, 1) := by decide +kernel
theorem dX9_readPlain_29 : decode cX9_readPlain 29 = .ok (.getfield 154, 3) := by decide +kernel
theorem dX9_readPlain_32 : decode cX9_readPlain 32 = .ok (.iaload, 1) := by decide +kernel
theorem dX9_readPlain_33 : decode cX9_readPlain 33 = .ok (.istore_n 3, 1) := by decide +kernel
theorem dX9_readPlain_34 : decode cX9_readPlain 34 = .ok (.iload_n 3, 1) := by decide +kernel
theorem dX9_readPlain_35 : decode cX9_readPlain 35 = .ok (.bipush 40, 2) := by decide +kernel
theorem dX9_readPlain_37 : decode cX9_readPlain 37 = .ok (.invokestatic 182, 3) := by decide +kernel
theorem dX9_readPlain_40 : decode cX9_readPlain 40 = .ok (.if_icmp .ne 50, 3) := by decide +kernel
theorem dX9_readPlain_43 : decode cX9_readPlain 43 = .ok (.iload_n 1, 1) := by decide +kernel
theorem dX9_readPlain_44 : decode cX9_readPlain 44 = .ok (.bipush 8, 2) := by decide +kernel
theorem dX9_readPlain_46 : decode cX9_readPlain 46 = .ok (.if_icmp .ne 7, 3) := by decide +kernel
theorem dX9_readPlain_49 : decode cX9_readPlain 49 = .ok (.aload_n 0, 1) := by decide +kernel
theorem dX9_readPlain_50 : decode cX9_readPlain 50 = .ok (.invokevirtual 160, 3) := by decide +kernel
theorem dX9_readPlain_53 : decode cX9_readPlain 53 = .ok (.aload_n 0, 1) := by decide +kernel
theorem dX9_readPlain_54 : decode cX9_readPlain 54 = .ok (.invokevirtual 150, 3) := by decide +kernel
theorem dX9_readPlain_57 : decode cX9_readPlain 57 = .ok (.ifCond .ne 4, 3) := by decide +kernel
theorem dX9_readPlain_60 : decode cX9_readPlain 60 = .ok (.return_, 1) := by decide +kernel
theorem dX9_readPlain_61 : decode cX9_readPlain 61 = .ok (.aload_n 0, 1) := by decide +kernel
theorem dX9_readPlain_62 : decode cX9_readPlain 62 = .ok (.dup, 1) := by decide +kernel
theorem dX9_readPlain_63 : decode cX9_readPlain 63 = .ok (.getfield 154, 3) := by decide +kernel
theorem dX9_readPlain_66 : decode cX9_readPlain 66 = .ok (.iconst 1, 1) := by decide +kernel
theorem dX9_readPlain_67 : decode cX9_readPlain 67 = .ok (.iadd, 1) := by decide +kernel
theorem dX9_readPlain_68 : decode cX9_readPlain 68 = .ok (.putfield 154, 3) := by decide +kernel
theorem dX9_readPlain_71 : decode cX9_readPlain 71 = .ok (.aload_n 0, 1) := by decide +kernel
theorem dX9_readPlain_72 : decode cX9_readPlain 72 = .ok (.iload_n 1, 1) := by decide +kernel
theorem dX9_readPlain_73 : decode cX9_readPlain 73 = .ok (.iconst 1, 1) := by decide +kernel
theorem dX9_readPlain_74 : decode cX9_readPlain 74 = .ok (.iadd, 1) := by decide +kernel
theorem dX9_readPlain_75 : decode cX9_readPlain 75 = .ok (.invokevirtual 173, 3) := by decide +kernel
theorem dX9_readPlain_78 : decode cX9_readPlain 78 = .ok (.aload_n 0, 1) := by decide +kernel
theorem dX9_readPlain_79 : decode cX9_readPlain 79 = .ok (.bipush 41, 2) := by decide +kernel
theorem dX9_readPlain_81 : decode cX9_readPlain 81 = .ok (.invokestatic 182, 3) := by decide +kernel
theorem dX9_readPlain_84 : decode cX9_readPlain 84 = .ok (.invokevirtual 170, 3) := by decide +kernel
theorem dX9_readPlain_87 : decode cX9_readPlain 87 = .ok (.goto 46, 3) := by decide +kernel
theorem dX9_readPlain_90 : decode cX9_readPlain 90 = .ok (.aload_n 0, 1) := by decide +kernel
theorem dX9_readPlain_91 : decode cX9_readPlain 91 = .ok (.iload_n 1, 1) := by decide +kernel
theorem dX9_readPlain_92 : decode cX9_readPlain 92 = .ok (.invokevirtual 166, 3) := by decide +kernel
theorem dX9_readPlain_95 : decode cX9_readPlain 95 = .ok (.aload_n 0, 1) := by decide +kernel
theorem dX9_readPlain_96 : decode cX9_readPlain 96 = .ok (.bipush 60, 2) := by decide +kernel
theorem dX9_readPlain_98 : decode cX9_readPlain 98 = .ok (.invokestatic 182, 3) := by decide +kernel
theorem dX9_readPlain_101 : decode cX9_readPlain 101 = .ok (.invokevirtual 157, 3) := by decide +kernel
theorem dX9_readPlain_104 : decode cX9_readPlain 104 = .ok (.ifCond .ne 24, 3) := by decide +kernel
theorem dX9_readPlain_107 : decode cX9_readPlain 107 = .ok (.aload_n 0, 1) := by decide +kernel
theorem dX9_readPlain_108 : decode cX9_readPlain 108 = .ok (.bipush 62, 2) := by decide +kernel
theorem dX9_readPlain_110 : decode cX9_readPlain 110 = .ok (.invokestatic 182, 3) := by decide +kernel
theorem dX9_readPlain_113 : decode cX9_readPlain 113 = .ok (.invokevirtual 157, 3) := by decide +kernel
theorem dX9_readPlain_116 : decode cX9_readPlain 116 = .ok (.ifCond .ne 12, 3) := by decide +kernel
theorem dX9_readPlain_119 : decode cX9_readPlain 119 = .ok (.aload_n 0, 1) := by decide +kernel
theorem dX9_readPlain_120 : decode cX9_readPlain 120 = .ok (.bipush 61, 2) := by decide +kernel
theorem dX9_readPlain_122 : decode cX9_readPlain 122 = .ok (.invokestatic 182, 3) := by decide +kernel
theorem dX9_readPlain_125 : decode cX9_readPlain 125 = .ok (.invokevirtual 170, 3) := by decide +kernel
theorem dX9_readPlain_128 : decode cX9_readPlain 128 = .ok (.aload_n 0, 1) := by decide +kernel
theorem dX9_readPlain_129 : decode cX9_readPlain 129 = .ok (.iload_n 1, 1) := by decide +kernel
theorem dX9_readPlain_130 : decode cX9_readPlain 130 = .ok (.invokevirtual 166, 3) := by decide +kernel
theorem dX9_readPlain_133 : decode cX9_readPlain 133 = .ok (.return_, 1) := by decide +kernel
theorem dX9_readSum_0 : decode cX9_readSum 0 = .ok (.aload_n 0, 1) := by decide +kernel
theorem dX9_readSum_1 : decode cX9_readSum 1 = .ok (.iload_n 1, 1) := by decide +kernel
theorem dX9_readSum_2 : decode cX9_readSum 2 = .ok (.invokevirtual 186, 3) := by decide +kernel
theorem dX9_readSum_5 : decode cX9_readSum 5 = .ok (.aload_n 0, 1) := by decide +kernel
theorem dX9_readSum_6 : decode cX9_readSum 6 = .ok (.bipush 43, 2) := by decide +kernel
theorem dX9_readSum_8 : decode cX9_readSum 8 = .ok (.invokestatic 182, 3) := by decide +kernel
theorem dX9_readSum_11 : decode cX9_readSum 11 = .ok (.invokevirtual 157, 3) := by decide +kernel
theorem dX9_readSum_14 : decode cX9_readSum 14 = .ok (.ifCond .ne 15, 3) := by decide +kernel
theorem dX9_readSum_17 : decode cX9_readSum 17 = .ok (.aload_n 0, 1) := by decide +kernel
theorem dX9_readSum_18 : decode cX9_readSum 18 = .ok (.bipush 45, 2) := by decide +kernel
theorem dX9_readSum_20 : decode cX9_readSum 20 = .ok (.invokestatic 182, 3) := by decide +kernel
theorem dX9_readSum_23 : decode cX9_readSum 23 = .ok (.invokevirtual 157, 3) := by decide +kernel
theorem dX9_readSum_26 : decode cX9_readSum 26 = .ok (.ifCond .eq 11, 3) := by decide +kernel
theorem dX9_readSum_29 : decode cX9_readSum 29 = .ok (.aload_n 0, 1) := by decide +kernel
theorem dX9_readSum_30 : decode cX9_readSum 30 = .ok (.iload_n 1, 1) := by decide +kernel
theorem dX9_readSum_31 : decode cX9_readSum 31 = .ok (.invokevirtual 186, 3) := by decide +kernel
theorem dX9_readSum_34 : decode cX9_readSum 34 = .ok (.goto (-29), 3) := by decide +kernel
theorem dX9_readSum_37 : decode cX9_readSum 37 = .ok (.return_, 1) := by decide +kernel
theorem dX9_readTerm_0 : decode cX9_readTerm 0 = .ok (.aload_n 0, 1) := by decide +kernel
theorem dX9_readTerm_1 : decode cX9_readTerm 1 = .ok (.iload_n 1, 1) := by decide +kernel
theorem dX9_readTerm_2 : decode cX9_readTerm 2 = .ok (.invokevirtual 189, 3) := by decide +kernel
theorem dX9_readTerm_5 : decode cX9_readTerm 5 = .ok (.aload_n 0, 1) := by decide +kernel
theorem dX9_readTerm_6 : decode cX9_readTerm 6 = .ok (.bipush 42, 2) := by decide +kernel
theorem dX9_readTerm_8 : decode cX9_readTerm 8 = .ok (.invokestatic 182, 3) := by decide +kernel
theorem dX9_readTerm_11 : decode cX9_readTerm 11 = .ok (.invokevirtual 157, 3) := by decide +kernel
theorem dX9_readTerm_14 : decode cX9_readTerm 14 = .ok (.ifCond .ne 15, 3) := by decide +kernel
theorem dX9_readTerm_17 : decode cX9_readTerm 17 = .ok (.aload_n 0, 1) := by decide +kernel
theorem dX9_readTerm_18 : decode cX9_readTerm 18 = .ok (.bipush 47, 2) := by decide +kernel
theorem dX9_readTerm_20 : decode cX9_readTerm 20 = .ok (.invokestatic 182, 3) := by decide +kernel
theorem dX9_readTerm_23 : decode cX9_readTerm 23 = .ok (.invokevirtual 157, 3) := by decide +kernel
theorem dX9_readTerm_26 : decode cX9_readTerm 26 = .ok (.ifCond .eq 11, 3) := by decide +kernel
theorem dX9_readTerm_29 : decode cX9_readTerm 29 = .ok (.aload_n 0, 1) := by decide +kernel
theorem dX9_readTerm_30 : decode cX9_readTerm 30 = .ok (.iload_n 1, 1) := by decide +kernel
theorem dX9_readTerm_31 : decode cX9_readTerm 31 = .ok (.invokevirtual 189, 3) := by decide +kernel
theorem dX9_readTerm_34 : decode cX9_readTerm 34 = .ok (.goto (-29), 3) := by decide +kernel
theorem dX9_readTerm_37 : decode cX9_readTerm 37 = .ok (.return_, 1) := by decide +kernel
theorem dX9_readPart_0 : decode cX9_readPart 0 = .ok (.aload_n 0, 1) := by decide +kernel
theorem dX9_readPart_1 : decode cX9_readPart 1 = .ok (.invokevirtual 150, 3) := by decide +kernel
theorem dX9_readPart_4 : decode cX9_readPart 4 = .ok (.ifCond .ne 4, 3) := by decide +kernel
theorem dX9_readPart_7 : decode cX9_readPart 7 = .ok (.return_, 1) := by decide +kernel
theorem dX9_readPart_8 : decode cX9_readPart 8 = .ok (.aload_n 0, 1) := by decide +kernel
theorem dX9_readPart_9 : decode cX9_readPart 9 = .ok (.getfield 43, 3) := by decide +kernel
theorem dX9_readPart_12 : decode cX9_readPart 12 = .ok (.aload_n 0, 1) := by decide +kernel
theorem dX9_readPart_13 : decode cX9_readPart 13 = .ok (.getfield 154, 3) := by decide +kernel
theorem dX9_readPart_16 : decode cX9_readPart 16 = .ok (.iaload, 1) := by decide +kernel
theorem dX9_readPart_17 : decode cX9_readPart 17 = .ok (.istore_n 2, 1) := by decide +kernel
theorem dX9_readPart_18 : decode cX9_readPart 18 = .ok (.iload_n 2, 1) := by decide +kernel
theorem dX9_readPart_19 : decode cX9_readPart 19 = .ok (.bipush 91, 2) := by decide +kernel
theorem dX9_readPart_21 : decode cX9_readPart 21 = .ok (.invokestatic 182, 3) := by decide +kernel
theorem dX9_readPart_24 : decode cX9_readPart 24 = .ok (.if_icmp .ne 50, 3) := by decide +kernel
theorem dX9_readPart_27 : decode cX9_readPart 27 = .ok (.iload_n 1, 1) := by decide +kernel
theorem dX9_readPart_28 : decode cX9_readPart 28 = .ok (.bipush 8, 2) := by decide +kernel
theorem dX9_readPart_30 : decode cX9_readPart 30 = .ok (.if_icmp .ne 7, 3) := by decide +kernel
theorem dX9_readPart_33 : decode cX9_readPart 33 = .ok (.aload_n 0, 1) := by decide +kernel
theorem dX9_readPart_34 : decode cX9_readPart 34 = .ok (.invokevirtual 160, 3) := by decide +kernel
theorem dX9_readPart_37 : decode cX9_readPart 37 = .ok (.aload_n 0, 1) := by decide +kernel
theorem dX9_readPart_38 : decode cX9_readPart 38 = .ok (.invokevirtual 150, 3) := by decide +kernel
theorem dX9_readPart_41 : decode cX9_readPart 41 = .ok (.ifCond .ne 4, 3) := by decide +kernel
theorem dX9_readPart_44 : decode cX9_readPart 44 = .ok (.return_, 1) := by decide +kernel
theorem dX9_readPart_45 : decode cX9_readPart 45 = .ok (.aload_n 0, 1) := by decide +kernel
theorem dX9_readPart_46 : decode cX9_readPart 46 = .ok (.dup, 1) := by decide +kernel
theorem dX9_readPart_47 : decode cX9_readPart 47 = .ok (.getfield 154, 3) := by decide +kernel
theorem dX9_readPart_50 : decode cX9_readPart 50 = .ok (.iconst 1, 1) := by decide +kernel
theorem dX9_readPart_51 : decode cX9_readPart 51 = .ok (.iadd, 1) := by decide +kernel
theorem dX9_readPart_52 : decode cX9_readPart 52 = .ok (.putfield 154, 3) := by decide +kernel
theorem dX9_readPart_55 : decode cX9_readPart 55 = .ok (.aload_n 0, 1) := by decide +kernel
theorem dX9_readPart_56 : decode cX9_readPart 56 = .ok (.iload_n 1, 1) := by decide +kernel
theorem dX9_readPart_57 : decode cX9_readPart 57 = .ok (.iconst 1, 1) := by decide +kernel
theorem dX9_readPart_58 : decode cX9_readPart 58 = .ok (.iadd, 1) := by decide +kernel
theorem dX9_readPart_59 : decode cX9_readPart 59 = .ok (.invokevirtual 166, 3) := by decide +kernel
theorem dX9_readPart_62 : decode cX9_readPart 62 = .ok (.aload_n 0, 1) := by decide +kernel
theorem dX9_readPart_63 : decode cX9_readPart 63 = .ok (.bipush 93, 2) := by decide +kernel
theorem dX9_readPart_65 : decode cX9_readPart 65 = .ok (.invokestatic 182, 3) := by decide +kernel
theorem dX9_readPart_68 : decode cX9_readPart 68 = .ok (.invokevirtual 170, 3) := by decide +kernel
theorem dX9_readPart_71 : decode cX9_readPart 71 = .ok (.goto 47, 3) := by decide +kernel
theorem dX9_readPart_74 : decode cX9_readPart 74 = .ok (.iload_n 2, 1) := by decide +kernel
theorem dX9_readPart_75 : decode cX9_readPart 75 = .ok (.bipush 50, 2) := by decide +kernel
theorem dX9_readPart_77 : decode cX9_readPart 77 = .ok (.if_icmp .ne 18, 3) := by decide +kernel
theorem dX9_readPart_80 : decode cX9_readPart 80 = .ok (.aload_n 0, 1) := by decide +kernel
theorem dX9_readPart_81 : decode cX9_readPart 81 = .ok (.getfield 46, 3) := by decide +kernel
theorem dX9_readPart_84 : decode cX9_readPart 84 = .ok (.aload_n 0, 1) := by decide +kernel
theorem dX9_readPart_85 : decode cX9_readPart 85 = .ok (.getfield 154, 3) := by decide +kernel
theorem dX9_readPart_88 : decode cX9_readPart 88 = .ok (.iaload, 1) := by decide +kernel
theorem dX9_readPart_89 : decode cX9_readPart 89 = .ok (.sipush 2000, 3) := by decide +kernel
theorem dX9_readPart_92 : decode cX9_readPart 92 = .ok (.if_icmp .le 15, 3) := by decide +kernel
theorem dX9_readPart_95 : decode cX9_readPart 95 = .ok (.iload_n 2, 1) := by decide +kernel
theorem dX9_readPart_96 : decode cX9_readPart 96 = .ok (.bipush 8, 2) := by decide +kernel
theorem dX9_readPart_98 : decode cX9_readPart 98 = .ok (.if_icmp .lt 16, 3) := by decide +kernel
theorem dX9_readPart_101 : decode cX9_readPart 101 = .ok (.iload_n 2, 1) := by decide +kernel
theorem dX9_readPart_102 : decode cX9_readPart 102 = .ok (.bipush 15, 2) := by decide +kernel
theorem dX9_readPart_104 : decode cX9_readPart 104 = .ok (.if_icmp .gt 10, 3) := by decide +kernel
theorem dX9_readPart_107 : decode cX9_readPart 107 = .ok (.aload_n 0, 1) := by decide +kernel
theorem dX9_readPart_108 : decode cX9_readPart 108 = .ok (.invokevirtual 192, 3) := by decide +kernel
theorem dX9_readPart_111 : decode cX9_readPart 111 = .ok (.goto 7, 3) := by decide +kernel
theorem dX9_readPart_114 : decode cX9_readPart 114 = .ok (.aload_n 0, 1) := by decide +kernel
theorem dX9_readPart_115 : decode cX9_readPart 115 = .ok (.invokevirtual 160, 3) := by decide +kernel
theorem dX9_readPart_118 : decode cX9_readPart 118 = .ok (.return_, 1) := by decide +kernel
theorem dX9_reads_0 : decode cX9_reads 0 = .ok (.aload_n 0, 1) := by decide +kernel
theorem dX9_reads_1 : decode cX9_reads 1 = .ok (.aload_n 0, 1) := by decide +kernel
theorem dX9_reads_2 : decode cX9_reads 2 = .ok (.getfield 125, 3) := by decide +kernel
theorem dX9_reads_5 : decode cX9_reads 5 = .ok (.invokevirtual 195, 3) := by decide +kernel
theorem dX9_reads_8 : decode cX9_reads 8 = .ok (.aload_n 0, 1) := by decide +kernel
theorem dX9_reads_9 : decode cX9_reads 9 = .ok (.iconst 0, 1) := by decide +kernel
theorem dX9_reads_10 : decode cX9_reads 10 = .ok (.putfield 125, 3) := by decide +kernel
theorem dX9_reads_13 : decode cX9_reads 13 = .ok (.aload_n 0, 1) := by decide +kernel
theorem dX9_reads_14 : decode cX9_reads 14 = .ok (.iconst 0, 1) := by decide +kernel
theorem dX9_reads_15 : decode cX9_reads 15 = .ok (.putfield 154, 3) := by decide +kernel
theorem dX9_reads_18 : decode cX9_reads 18 = .ok (.aload_n 0, 1) := by decide +kernel
theorem dX9_reads_19 : decode cX9_reads 19 = .ok (.iconst 0, 1) := by decide +kernel
theorem dX9_reads_20 : decode cX9_reads 20 = .ok (.putfield 163, 3) := by decide +kernel
theorem dX9_reads_23 : decode cX9_reads 23 = .ok (.aload_n 0, 1) := by decide +kernel
theorem dX9_reads_24 : decode cX9_reads 24 = .ok (.iconst (-1), 1) := by decide +kernel
theorem dX9_reads_25 : decode cX9_reads 25 = .ok (.putfield 147, 3) := by decide +kernel
theorem dX9_reads_28 : decode cX9_reads 28 = .ok (.aload_n 0, 1) := by decide +kernel
theorem dX9_reads_29 : decode cX9_reads 29 = .ok (.invokevirtual 198, 3) := by decide +kernel
theorem dX9_reads_32 : decode cX9_reads 32 = .ok (.iconst 1, 1) := by decide +kernel
theorem dX9_reads_33 : decode cX9_reads 33 = .ok (.istore_n 1, 1) := by decide +kernel
theorem dX9_reads_34 : decode cX9_reads 34 = .ok (.aload_n 0, 1) := by decide +kernel
theorem dX9_reads_35 : decode cX9_reads 35 = .ok (.bipush 59, 2) := by decide +kernel
theorem dX9_reads_37 : decode cX9_reads 37 = .ok (.invokestatic 182, 3) := by decide +kernel
theorem dX9_reads_40 : decode cX9_reads 40 = .ok (.invokevirtual 157, 3) := by decide +kernel
theorem dX9_reads_43 : decode cX9_reads 43 = .ok (.ifCond .eq 30, 3) := by decide +kernel
theorem dX9_reads_46 : decode cX9_reads 46 = .ok (.iload_n 1, 1) := by decide +kernel
theorem dX9_reads_47 : decode cX9_reads 47 = .ok (.bipush 12, 2) := by decide +kernel
theorem dX9_reads_49 : decode cX9_reads 49 = .ok (.if_icmp .ne 7, 3) := by decide +kernel
theorem dX9_reads_52 : decode cX9_reads 52 = .ok (.aload_n 0, 1) := by decide +kernel
theorem dX9_reads_53 : decode cX9_reads 53 = .ok (.invokevirtual 160, 3) := by decide +kernel
theorem dX9_reads_56 : decode cX9_reads 56 = .ok (.aload_n 0, 1) := by decide +kernel
theorem dX9_reads_57 : decode cX9_reads 57 = .ok (.invokevirtual 150, 3) := by decide +kernel
theorem dX9_reads_60 : decode cX9_reads 60 = .ok (.ifCond .eq 7, 3) := by decide +kernel
theorem dX9_reads_63 : decode cX9_reads 63 = .ok (.aload_n 0, 1) := by decide +kernel
theorem dX9_reads_64 : decode cX9_reads 64 = .ok (.invokevirtual 198, 3) := by decide +kernel
theorem dX9_reads_67 : decode cX9_reads 67 = .ok (.iinc 1 1, 3) := by decide +kernel
theorem dX9_reads_70 : decode cX9_reads 70 = .ok (.goto (-36), 3) := by decide +kernel
theorem dX9_reads_73 : decode cX9_reads 73 = .ok (.aload_n 0, 1) := by decide +kernel
theorem dX9_reads_74 : decode cX9_reads 74 = .ok (.invokevirtual 150, 3) := by decide +kernel
theorem dX9_reads_77 : decode cX9_reads 77 = .ok (.ifCond .eq 18, 3) := by decide +kernel
theorem dX9_reads_80 : decode cX9_reads 80 = .ok (.aload_n 0, 1) := by decide +kernel
theorem dX9_reads_81 : decode cX9_reads 81 = .ok (.getfield 154, 3) := by decide +kernel
theorem dX9_reads_84 : decode cX9_reads 84 = .ok (.aload_n 0, 1) := by decide +kernel
theorem dX9_reads_85 : decode cX9_reads 85 = .ok (.getfield 134, 3) := by decide +kernel
theorem dX9_reads_88 : decode cX9_reads 88 = .ok (.if_icmp .ge 7, 3) := by decide +kernel
theorem dX9_reads_91 : decode cX9_reads 91 = .ok (.aload_n 0, 1) := by decide +kernel
theorem dX9_reads_92 : decode cX9_reads 92 = .ok (.invokevirtual 160, 3) := by decide +kernel
theorem dX9_reads_95 : decode cX9_reads 95 = .ok (.aload_n 0, 1) := by decide +kernel
theorem dX9_reads_96 : decode cX9_reads 96 = .ok (.aload_n 0, 1) := by decide +kernel
theorem dX9_reads_97 : decode cX9_reads 97 = .ok (.getfield 147, 3) := by decide +kernel
theorem dX9_reads_100 : decode cX9_reads 100 = .ok (.putfield 40, 3) := by decide +kernel
theorem dX9_reads_103 : decode cX9_reads 103 = .ok (.aload_n 0, 1) := by decide +kernel
theorem dX9_reads_104 : decode cX9_reads 104 = .ok (.invokevirtual 150, 3) := by decide +kernel
theorem dX9_reads_107 : decode cX9_reads 107 = .ok (.ireturn, 1) := by decide +kernel
theorem dX9_law_0 : decode cX9_law 0 = .ok (.aload_n 0, 1) := by decide +kernel
theorem dX9_law_1 : decode cX9_law 1 = .ok (.getfield 20, 3) := by decide +kernel
theorem dX9_law_4 : decode cX9_law 4 = .ok (.sipush 137, 3) := by decide +kernel
theorem dX9_law_7 : decode cX9_law 7 = .ok (.iaload, 1) := by decide +kernel
theorem dX9_law_8 : decode cX9_law 8 = .ok (.bipush 6, 2) := by decide +kernel
theorem dX9_law_10 : decode cX9_law 10 = .ok (.if_icmp .ne 15, 3) := by decide +kernel
theorem dX9_law_13 : decode cX9_law 13 = .ok (.aload_n 0, 1) := by decide +kernel
theorem dX9_law_14 : decode cX9_law 14 = .ok (.iconst 0, 1) := by decide +kernel
theorem dX9_law_15 : decode cX9_law 15 = .ok (.putfield 125, 3) := by decide +kernel
theorem dX9_law_18 : decode cX9_law 18 = .ok (.aload_n 0, 1) := by decide +kernel
theorem dX9_law_19 : decode cX9_law 19 = .ok (.bipush (-5), 2) := by decide +kernel
theorem dX9_law_21 : decode cX9_law 21 = .ok (.invokevirtual 98, 3) := by decide +kernel
theorem dX9_law_24 : decode cX9_law 24 = .ok (.ireturn, 1) := by decide +kernel
theorem dX9_law_25 : decode cX9_law 25 = .ok (.aload_n 0, 1) := by decide +kernel
theorem dX9_law_26 : decode cX9_law 26 = .ok (.invokevirtual 201, 3) := by decide +kernel
theorem dX9_law_29 : decode cX9_law 29 = .ok (.ifCond .ne 10, 3) := by decide +kernel
theorem dX9_law_32 : decode cX9_law 32 = .ok (.aload_n 0, 1) := by decide +kernel
theorem dX9_law_33 : decode cX9_law 33 = .ok (.bipush (-6), 2) := by decide +kernel
theorem dX9_law_35 : decode cX9_law 35 = .ok (.invokevirtual 98, 3) := by decide +kernel
theorem dX9_law_38 : decode cX9_law 38 = .ok (.ireturn, 1) := by decide +kernel
theorem dX9_law_39 : decode cX9_law 39 = .ok (.aload_n 0, 1) := by decide +kernel
theorem dX9_law_40 : decode cX9_law 40 = .ok (.getfield 20, 3) := by decide +kernel
theorem dX9_law_43 : decode cX9_law 43 = .ok (.sipush 137, 3) := by decide +kernel
theorem dX9_law_46 : decode cX9_law 46 = .ok (.iaload, 1) := by decide +kernel
theorem dX9_law_47 : decode cX9_law 47 = .ok (.istore_n 1, 1) := by decide +kernel
theorem dX9_law_48 : decode cX9_law 48 = .ok (.aload_n 0, 1) := by decide +kernel
theorem dX9_law_49 : decode cX9_law 49 = .ok (.getfield 20, 3) := by decide +kernel
theorem dX9_law_52 : decode cX9_law 52 = .ok (.sipush 139, 3) := by decide +kernel
theorem dX9_law_55 : decode cX9_law 55 = .ok (.iload_n 1, 1) := by decide +kernel
theorem dX9_law_56 : decode cX9_law 56 = .ok (.iadd, 1) := by decide +kernel
theorem dX9_law_57 : decode cX9_law 57 = .ok (.aload_n 0, 1) := by decide +kernel
theorem dX9_law_58 : decode cX9_law 58 = .ok (.getfield 134, 3) := by decide +kernel
theorem dX9_law_61 : decode cX9_law 61 = .ok (.iastore, 1) := by decide +kernel
theorem dX9_law_62 : decode cX9_law 62 = .ok (.iconst 0, 1) := by decide +kernel
theorem dX9_law_63 : decode cX9_law 63 = .ok (.istore_n 2, 1) := by decide +kernel
theorem dX9_law_64 : decode cX9_law 64 = .ok (.iload_n 2, 1) := by decide +kernel
theorem dX9_law_65 : decode cX9_law 65 = .ok (.aload_n 0, 1) := by decide +kernel
theorem dX9_law_66 : decode cX9_law 66 = .ok (.getfield 134, 3) := by decide +kernel
theorem dX9_law_69 : decode cX9_law 69 = .ok (.if_icmp .ge 53, 3) := by decide +kernel
theorem dX9_law_72 : decode cX9_law 72 = .ok (.aload_n 0, 1) := by decide +kernel
theorem dX9_law_73 : decode cX9_law 73 = .ok (.getfield 20, 3) := by decide +kernel
theorem dX9_law_76 : decode cX9_law 76 = .ok (.sipush 145, 3) := by decide +kernel
theorem dX9_law_79 : decode cX9_law 79 = .ok (.sipush 400, 3) := by decide +kernel
theorem dX9_law_82 : decode cX9_law 82 = .ok (.iload_n 1, 1) := by decide +kernel
theorem dX9_law_83 : decode cX9_law 83 = .ok (.imul, 1) := by decide +kernel
theorem dX9_law_84 : decode cX9_law 84 = .ok (.iadd, 1) := by decide +kernel
theorem dX9_law_85 : decode cX9_law 85 = .ok (.iload_n 2, 1) := by decide +kernel
theorem dX9_law_86 : decode cX9_law 86 = .ok (.iadd, 1) := by decide +kernel
theorem dX9_law_87 : decode cX9_law 87 = .ok (.aload_n 0, 1) := by decide +kernel
theorem dX9_law_88 : decode cX9_law 88 = .ok (.getfield 43, 3) := by decide +kernel
theorem dX9_law_91 : decode cX9_law 91 = .ok (.iload_n 2, 1) := by decide +kernel
theorem dX9_law_92 : decode cX9_law 92 = .ok (.iaload, 1) := by decide +kernel
theorem dX9_law_93 : decode cX9_law 93 = .ok (.iastore, 1) := by decide +kernel
theorem dX9_law_94 : decode cX9_law 94 = .ok (.aload_n 0, 1) := by decide +kernel
theorem dX9_law_95 : decode cX9_law 95 = .ok (.getfield 20, 3) := by decide +kernel
theorem dX9_law_98 : decode cX9_law 98 = .ok (.sipush 2545, 3) := by decide +kernel
theorem dX9_law_101 : decode cX9_law 101 = .ok (.sipush 400, 3) := by decide +kernel
theorem dX9_law_104 : decode cX9_law 104 = .ok (.iload_n 1, 1) := by decide +kernel
theorem dX9_law_105 : decode cX9_law 105 = .ok (.imul, 1) := by decide +kernel
theorem dX9_law_106 : decode cX9_law 106 = .ok (.iadd, 1) := by decide +kernel
theorem dX9_law_107 : decode cX9_law 107 = .ok (.iload_n 2, 1) := by decide +kernel
theorem dX9_law_108 : decode cX9_law 108 = .ok (.iadd, 1) := by decide +kernel
theorem dX9_law_109 : decode cX9_law 109 = .ok (.aload_n 0, 1) := by decide +kernel
theorem dX9_law_110 : decode cX9_law 110 = .ok (.getfield 46, 3) := by decide +kernel
theorem dX9_law_113 : decode cX9_law 113 = .ok (.iload_n 2, 1) := by decide +kernel
theorem dX9_law_114 : decode cX9_law 114 = .ok (.iaload, 1) := by decide +kernel
theorem dX9_law_115 : decode cX9_law 115 = .ok (.iastore, 1) := by decide +kernel
theorem dX9_law_116 : decode cX9_law 116 = .ok (.iinc 2 1, 3) := by decide +kernel
theorem dX9_law_119 : decode cX9_law 119 = .ok (.goto (-55), 3) := by decide +kernel
theorem dX9_law_122 : decode cX9_law 122 = .ok (.aload_n 0, 1) := by decide +kernel
theorem dX9_law_123 : decode cX9_law 123 = .ok (.getfield 20, 3) := by decide +kernel
theorem dX9_law_126 : decode cX9_law 126 = .ok (.sipush 137, 3) := by decide +kernel
theorem dX9_law_129 : decode cX9_law 129 = .ok (.dup2, 1) := by decide +kernel
theorem dX9_law_130 : decode cX9_law 130 = .ok (.iaload, 1) := by decide +kernel
theorem dX9_law_131 : decode cX9_law 131 = .ok (.iconst 1, 1) := by decide +kernel
theorem dX9_law_132 : decode cX9_law 132 = .ok (.iadd, 1) := by decide +kernel
theorem dX9_law_133 : decode cX9_law 133 = .ok (.iastore, 1) := by decide +kernel
theorem dX9_law_134 : decode cX9_law 134 = .ok (.aload_n 0, 1) := by decide +kernel
theorem dX9_law_135 : decode cX9_law 135 = .ok (.iload_n 1, 1) := by decide +kernel
theorem dX9_law_136 : decode cX9_law 136 = .ok (.invokevirtual 102, 3) := by decide +kernel
theorem dX9_law_139 : decode cX9_law 139 = .ok (.ireturn, 1) := by decide +kernel
theorem dX9_fault_0 : decode cX9_fault 0 = .ok (.aload_n 0, 1) := by decide +kernel
theorem dX9_fault_1 : decode cX9_fault 1 = .ok (.getfield 40, 3) := by decide +kernel
theorem dX9_fault_4 : decode cX9_fault 4 = .ok (.ireturn, 1) := by decide +kernel
theorem dX9_force_0 : decode cX9_force 0 = .ok (.iload_n 1, 1) := by decide +kernel
theorem dX9_force_1 : decode cX9_force 1 = .ok (.iconst (-1), 1) := by decide +kernel
theorem dX9_force_2 : decode cX9_force 2 = .ok (.aload_n 0, 1) := by decide +kernel
theorem dX9_force_3 : decode cX9_force 3 = .ok (.getfield 20, 3) := by decide +kernel
theorem dX9_force_6 : decode cX9_force 6 = .ok (.sipush 137, 3) := by decide +kernel
theorem dX9_force_9 : decode cX9_force 9 = .ok (.iaload, 1) := by decide +kernel
theorem dX9_force_10 : decode cX9_force 10 = .ok (.iconst 1, 1) := by decide +kernel
theorem dX9_force_11 : decode cX9_force 11 = .ok (.isub, 1) := by decide +kernel
theorem dX9_force_12 : decode cX9_force 12 = .ok (.invokestatic 94, 3) := by decide +kernel
theorem dX9_force_15 : decode cX9_force 15 = .ok (.ifCond .ne 10, 3) := by decide +kernel
theorem dX9_force_18 : decode cX9_force 18 = .ok (.aload_n 0, 1) := by decide +kernel
theorem dX9_force_19 : decode cX9_force 19 = .ok (.bipush (-2), 2) := by decide +kernel
theorem dX9_force_21 : decode cX9_force 21 = .ok (.invokevirtual 98, 3) := by decide +kernel
theorem dX9_force_24 : decode cX9_force 24 = .ok (.ireturn, 1) := by decide +kernel
theorem dX9_force_25 : decode cX9_force 25 = .ok (.aload_n 0, 1) := by decide +kernel
theorem dX9_force_26 : decode cX9_force 26 = .ok (.getfield 20, 3) := by decide +kernel
theorem dX9_force_29 : decode cX9_force 29 = .ok (.sipush 138, 3) := by decide +kernel
theorem dX9_force_32 : decode cX9_force 32 = .ok (.iaload, 1) := by decide +kernel
theorem dX9_force_33 : decode cX9_force 33 = .ok (.istore_n 2, 1) := by decide +kernel
theorem dX9_force_34 : decode cX9_force 34 = .ok (.aload_n 0, 1) := by decide +kernel
theorem dX9_force_35 : decode cX9_force 35 = .ok (.getfield 20, 3) := by decide +kernel
theorem dX9_force_38 : decode cX9_force 38 = .ok (.sipush 138, 3) := by decide +kernel
theorem dX9_force_41 : decode cX9_force 41 = .ok (.iload_n 1, 1) := by decide +kernel
theorem dX9_force_42 : decode cX9_force 42 = .ok (.iastore, 1) := by decide +kernel
theorem dX9_force_43 : decode cX9_force 43 = .ok (.aload_n 0, 1) := by decide +kernel
theorem dX9_force_44 : decode cX9_force 44 = .ok (.iload_n 2, 1) := by decide +kernel
theorem dX9_force_45 : decode cX9_force 45 = .ok (.invokevirtual 102, 3) := by decide +kernel
theorem dX9_force_48 : decode cX9_force 48 = .ok (.ireturn, 1) := by decide +kernel
theorem dX9_codeAt_0 : decode cX9_codeAt 0 = .ok (.iload_n 1, 1) := by decide +kernel
theorem dX9_codeAt_1 : decode cX9_codeAt 1 = .ok (.aload_n 0, 1) := by decide +kernel
theorem dX9_codeAt_2 : decode cX9_codeAt 2 = .ok (.getfield 204, 3) := by decide +kernel
theorem dX9_codeAt_5 : decode cX9_codeAt 5 = .ok (.if_icmp .ge 16, 3) := by decide +kernel
theorem dX9_codeAt_8 : decode cX9_codeAt 8 = .ok (.aload_n 0, 1) := by decide +kernel
theorem dX9_codeAt_9 : decode cX9_codeAt 9 = .ok (.getfield 20, 3) := by decide +kernel
theorem dX9_codeAt_12 : decode cX9_codeAt 12 = .ok (.sipush 145, 3) := by decide +kernel
theorem dX9_codeAt_15 : decode cX9_codeAt 15 = .ok (.iload_n 1, 1) := by decide +kernel
theorem dX9_codeAt_16 : decode cX9_codeAt 16 = .ok (.iadd, 1) := by decide +kernel
theorem dX9_codeAt_17 : decode cX9_codeAt 17 = .ok (.iaload, 1) := by decide +kernel
theorem dX9_codeAt_18 : decode cX9_codeAt 18 = .ok (.goto 4, 3) := by decide +kernel
theorem dX9_codeAt_21 : decode cX9_codeAt 21 = .ok (.iconst 0, 1) := by decide +kernel
theorem dX9_codeAt_22 : decode cX9_codeAt 22 = .ok (.ireturn, 1) := by decide +kernel
theorem dX9_passes0_0 : decode cX9_passes0 0 = .ok (.aload_n 0, 1) := by decide +kernel
theorem dX9_passes0_1 : decode cX9_passes0 1 = .ok (.aload_n 0, 1) := by decide +kernel
theorem dX9_passes0_2 : decode cX9_passes0 2 = .ok (.getfield 207, 3) := by decide +kernel
theorem dX9_passes0_5 : decode cX9_passes0 5 = .ok (.invokevirtual 210, 3) := by decide +kernel
theorem dX9_passes0_8 : decode cX9_passes0 8 = .ok (.iload_n 1, 1) := by decide +kernel
theorem dX9_passes0_9 : decode cX9_passes0 9 = .ok (.if_icmp .ne 7, 3) := by decide +kernel
theorem dX9_passes0_12 : decode cX9_passes0 12 = .ok (.iconst 1, 1) := by decide +kernel
theorem dX9_passes0_13 : decode cX9_passes0 13 = .ok (.goto 4, 3) := by decide +kernel
theorem dX9_passes0_16 : decode cX9_passes0 16 = .ok (.iconst 0, 1) := by decide +kernel
theorem dX9_passes0_17 : decode cX9_passes0 17 = .ok (.istore_n 2, 1) := by decide +kernel
theorem dX9_passes0_18 : decode cX9_passes0 18 = .ok (.iload_n 2, 1) := by decide +kernel
theorem dX9_passes0_19 : decode cX9_passes0 19 = .ok (.ifCond .eq 13, 3) := by decide +kernel
theorem dX9_passes0_22 : decode cX9_passes0 22 = .ok (.aload_n 0, 1) := by decide +kernel
theorem dX9_passes0_23 : decode cX9_passes0 23 = .ok (.dup, 1) := by decide +kernel
theorem dX9_passes0_24 : decode cX9_passes0 24 = .ok (.getfield 207, 3) := by decide +kernel
theorem dX9_passes0_27 : decode cX9_passes0 27 = .ok (.iconst 1, 1) := by decide +kernel
theorem dX9_passes0_28 : decode cX9_passes0 28 = .ok (.iadd, 1) := by decide +kernel
theorem dX9_passes0_29 : decode cX9_passes0 29 = .ok (.putfield 207, 3) := by decide +kernel
theorem dX9_passes0_32 : decode cX9_passes0 32 = .ok (.iload_n 2, 1) := by decide +kernel
theorem dX9_passes0_33 : decode cX9_passes0 33 = .ok (.ireturn, 1) := by decide +kernel
theorem dX9_bounded_0 : decode cX9_bounded 0 = .ok (.iload_n 3, 1) := by decide +kernel
theorem dX9_bounded_1 : decode cX9_bounded 1 = .ok (.ifCond .eq 24, 3) := by decide +kernel
theorem dX9_bounded_4 : decode cX9_bounded 4 = .ok (.lload_n 1, 1) := by decide +kernel
theorem dX9_bounded_5 : decode cX9_bounded 5 = .ok (.ldc2_w 213, 3) := by decide +kernel
theorem dX9_bounded_8 : decode cX9_bounded 8 = .ok (.lcmp, 1) := by decide +kernel
theorem dX9_bounded_9 : decode cX9_bounded 9 = .ok (.ifCond .gt 11, 3) := by decide +kernel
theorem dX9_bounded_12 : decode cX9_bounded 12 = .ok (.lload_n 1, 1) := by decide +kernel
theorem dX9_bounded_13 : decode cX9_bounded 13 = .ok (.ldc2_w 215, 3) := by decide +kernel
theorem dX9_bounded_16 : decode cX9_bounded 16 = .ok (.lcmp, 1) := by decide +kernel
theorem dX9_bounded_17 : decode cX9_bounded 17 = .ok (.ifCond .ge 8, 3) := by decide +kernel
theorem dX9_bounded_20 : decode cX9_bounded 20 = .ok (.aload_n 0, 1) := by decide +kernel
theorem dX9_bounded_21 : decode cX9_bounded 21 = .ok (.iconst 1, 1) := by decide +kernel
theorem dX9_bounded_22 : decode cX9_bounded 22 = .ok (.putfield 217, 3) := by decide +kernel
theorem dX9_bounded_25 : decode cX9_bounded 25 = .ok (.aload_n 0, 1) := by decide +kernel
theorem dX9_bounded_26 : decode cX9_bounded 26 = .ok (.getfield 217, 3) := by decide +kernel
theorem dX9_bounded_29 : decode cX9_bounded 29 = .ok (.ifCond .eq 7, 3) := by decide +kernel
theorem dX9_bounded_32 : decode cX9_bounded 32 = .ok (.lconst 0, 1) := by decide +kernel
theorem dX9_bounded_33 : decode cX9_bounded 33 = .ok (.goto 4, 3) := by decide +kernel
theorem dX9_bounded_36 : decode cX9_bounded 36 = .ok (.lload_n 1, 1) := by decide +kernel
theorem dX9_bounded_37 : decode cX9_bounded 37 = .ok (.lreturn, 1) := by decide +kernel
theorem dX9_sumOf_0 : decode cX9_sumOf 0 = .ok (.aload_n 0, 1) := by decide +kernel
theorem dX9_sumOf_1 : decode cX9_sumOf 1 = .ok (.iload_n 1, 1) := by decide +kernel
theorem dX9_sumOf_2 : decode cX9_sumOf 2 = .ok (.invokevirtual 221, 3) := by decide +kernel
theorem dX9_sumOf_5 : decode cX9_sumOf 5 = .ok (.lstore_n 2, 1) := by decide +kernel
theorem dX9_sumOf_6 : decode cX9_sumOf 6 = .ok (.aload_n 0, 1) := by decide +kernel
theorem dX9_sumOf_7 : decode cX9_sumOf 7 = .ok (.aload_n 0, 1) := by decide +kernel
theorem dX9_sumOf_8 : decode cX9_sumOf 8 = .ok (.getfield 207, 3) := by decide +kernel
theorem dX9_sumOf_11 : decode cX9_sumOf 11 = .ok (.invokevirtual 210, 3) := by decide +kernel
theorem dX9_sumOf_14 : decode cX9_sumOf 14 = .ok (.bipush 43, 2) := by decide +kernel
theorem dX9_sumOf_16 : decode cX9_sumOf 16 = .ok (.invokestatic 182, 3) := by decide +kernel
theorem dX9_sumOf_19 : decode cX9_sumOf 19 = .ok (.if_icmp .eq 19, 3) := by decide +kernel
theorem dX9_sumOf_22 : decode cX9_sumOf 22 = .ok (.aload_n 0, 1) := by decide +kernel
theorem dX9_sumOf_23 : decode cX9_sumOf 23 = .ok (.aload_n 0, 1) := by decide +kernel
theorem dX9_sumOf_24 : decode cX9_sumOf 24 = .ok (.getfield 207, 3) := by decide +kernel
theorem dX9_sumOf_27 : decode cX9_sumOf 27 = .ok (.invokevirtual 210, 3) := by decide +kernel
theorem dX9_sumOf_30 : decode cX9_sumOf 30 = .ok (.bipush 45, 2) := by decide +kernel
theorem dX9_sumOf_32 : decode cX9_sumOf 32 = .ok (.invokestatic 182, 3) := by decide +kernel
theorem dX9_sumOf_35 : decode cX9_sumOf 35 = .ok (.if_icmp .ne 68, 3) := by decide +kernel
theorem dX9_sumOf_38 : decode cX9_sumOf 38 = .ok (.aload_n 0, 1) := by decide +kernel
theorem dX9_sumOf_39 : decode cX9_sumOf 39 = .ok (.aload_n 0, 1) := by decide +kernel
theorem dX9_sumOf_40 : decode cX9_sumOf 40 = .ok (.getfield 207, 3) := by decide +kernel
theorem dX9_sumOf_43 : decode cX9_sumOf 43 = .ok (.invokevirtual 210, 3) := by decide +kernel
theorem dX9_sumOf_46 : decode cX9_sumOf 46 = .ok (.bipush 43, 2) := by decide +kernel
theorem dX9_sumOf_48 : decode cX9_sumOf 48 = .ok (.invokestatic 182, 3) := by decide +kernel
theorem dX9_sumOf_51 : decode cX9_sumOf 51 = .ok (.if_icmp .ne 7, 3) := by decide +kernel
theorem dX9_sumOf_54 : decode cX9_sumOf 54 = .ok (.iconst 1, 1) := by decide +kernel
theorem dX9_sumOf_55 : decode cX9_sumOf 55 = .ok (.goto 4, 3) := by decide +kernel
theorem dX9_sumOf_58 : decode cX9_sumOf 58 = .ok (.iconst 0, 1) := by decide +kernel
theorem dX9_sumOf_59 : decode cX9_sumOf 59 = .ok (.istore 4, 2) := by decide +kernel
theorem dX9_sumOf_61 : decode cX9_sumOf 61 = .ok (.aload_n 0, 1) := by decide +kernel
theorem dX9_sumOf_62 : decode cX9_sumOf 62 = .ok (.dup, 1) := by decide +kernel
theorem dX9_sumOf_63 : decode cX9_sumOf 63 = .ok (.getfield 207, 3) := by decide +kernel
theorem dX9_sumOf_66 : decode cX9_sumOf 66 = .ok (.iconst 1, 1) := by decide +kernel
theorem dX9_sumOf_67 : decode cX9_sumOf 67 = .ok (.iadd, 1) := by decide +kernel
theorem dX9_sumOf_68 : decode cX9_sumOf 68 = .ok (.putfield 207, 3) := by decide +kernel
theorem dX9_sumOf_71 : decode cX9_sumOf 71 = .ok (.aload_n 0, 1) := by decide +kernel
theorem dX9_sumOf_72 : decode cX9_sumOf 72 = .ok (.iload_n 1, 1) := by decide +kernel
theorem dX9_sumOf_73 : decode cX9_sumOf 73 = .ok (.invokevirtual 221, 3) := by decide +kernel
theorem dX9_sumOf_76 : decode cX9_sumOf 76 = .ok (.lstore 5, 2) := by decide +kernel
theorem dX9_sumOf_78 : decode cX9_sumOf 78 = .ok (.aload_n 0, 1) := by decide +kernel
theorem dX9_sumOf_79 : decode cX9_sumOf 79 = .ok (.iload 4, 2) := by decide +kernel
theorem dX9_sumOf_81 : decode cX9_sumOf 81 = .ok (.ifCond .eq 10, 3) := by decide +kernel
theorem dX9_sumOf_84 : decode cX9_sumOf 84 = .ok (.lload_n 2, 1) := by decide +kernel
theorem dX9_sumOf_85 : decode cX9_sumOf 85 = .ok (.lload 5, 2) := by decide +kernel
theorem dX9_sumOf_87 : decode cX9_sumOf 87 = .ok (.ladd, 1) := by decide +kernel
theorem dX9_sumOf_88 : decode cX9_sumOf 88 = .ok (.goto 7, 3) := by decide +kernel
theorem dX9_sumOf_91 : decode cX9_sumOf 91 = .ok (.lload_n 2, 1) := by decide +kernel
theorem dX9_sumOf_92 : decode cX9_sumOf 92 = .ok (.lload 5, 2) := by decide +kernel
theorem dX9_sumOf_94 : decode cX9_sumOf 94 = .ok (.lsub, 1) := by decide +kernel
theorem dX9_sumOf_95 : decode cX9_sumOf 95 = .ok (.iload_n 1, 1) := by decide +kernel
theorem dX9_sumOf_96 : decode cX9_sumOf 96 = .ok (.invokevirtual 225, 3) := by decide +kernel
theorem dX9_sumOf_99 : decode cX9_sumOf 99 = .ok (.lstore_n 2, 1) := by decide +kernel
theorem dX9_sumOf_100 : decode cX9_sumOf 100 = .ok (.goto (-94), 3) := by decide +kernel
theorem dX9_sumOf_103 : decode cX9_sumOf 103 = .ok (.lload_n 2, 1) := by decide +kernel
theorem dX9_sumOf_104 : decode cX9_sumOf 104 = .ok (.lreturn, 1) := by decide +kernel
theorem dX9_termOf_0 : decode cX9_termOf 0 = .ok (.aload_n 0, 1) := by decide +kernel
theorem dX9_termOf_1 : decode cX9_termOf 1 = .ok (.iload_n 1, 1) := by decide +kernel
theorem dX9_termOf_2 : decode cX9_termOf 2 = .ok (.invokevirtual 229, 3) := by decide +kernel
theorem dX9_termOf_5 : decode cX9_termOf 5 = .ok (.lstore_n 2, 1) := by decide +kernel
theorem dX9_termOf_6 : decode cX9_termOf 6 = .ok (.aload_n 0, 1) := by decide +kernel
theorem dX9_termOf_7 : decode cX9_termOf 7 = .ok (.aload_n 0, 1) := by decide +kernel
theorem dX9_termOf_8 : decode cX9_termOf 8 = .ok (.getfield 207, 3) := by decide +kernel
theorem dX9_termOf_11 : decode cX9_termOf 11 = .ok (.invokevirtual 210, 3) := by decide +kernel
theorem dX9_termOf_14 : decode cX9_termOf 14 = .ok (.bipush 42, 2) := by decide +kernel
theorem dX9_termOf_16 : decode cX9_termOf 16 = .ok (.invokestatic 182, 3) := by decide +kernel
theorem dX9_termOf_19 : decode cX9_termOf 19 = .ok (.if_icmp .eq 19, 3) := by decide +kernel
theorem dX9_termOf_22 : decode cX9_termOf 22 = .ok (.aload_n 0, 1) := by decide +kernel
theorem dX9_termOf_23 : decode cX9_termOf 23 = .ok (.aload_n 0, 1) := by decide +kernel
theorem dX9_termOf_24 : decode cX9_termOf 24 = .ok (.getfield 207, 3) := by decide +kernel
theorem dX9_termOf_27 : decode cX9_termOf 27 = .ok (.invokevirtual 210, 3) := by decide +kernel
theorem dX9_termOf_30 : decode cX9_termOf 30 = .ok (.bipush 47, 2) := by decide +kernel
theorem dX9_termOf_32 : decode cX9_termOf 32 = .ok (.invokestatic 182, 3) := by decide +kernel
theorem dX9_termOf_35 : decode cX9_termOf 35 = .ok (.if_icmp .ne 103, 3) := by decide +kernel
theorem dX9_termOf_38 : decode cX9_termOf 38 = .ok (.aload_n 0, 1) := by decide +kernel
theorem dX9_termOf_39 : decode cX9_termOf 39 = .ok (.aload_n 0, 1) := by decide +kernel
theorem dX9_termOf_40 : decode cX9_termOf 40 = .ok (.getfield 207, 3) := by decide +kernel
theorem dX9_termOf_43 : decode cX9_termOf 43 = .ok (.invokevirtual 210, 3) := by decide +kernel
theorem dX9_termOf_46 : decode cX9_termOf 46 = .ok (.bipush 42, 2) := by decide +kernel
theorem dX9_termOf_48 : decode cX9_termOf 48 = .ok (.invokestatic 182, 3) := by decide +kernel
theorem dX9_termOf_51 : decode cX9_termOf 51 = .ok (.if_icmp .ne 7, 3) := by decide +kernel
theorem dX9_termOf_54 : decode cX9_termOf 54 = .ok (.iconst 1, 1) := by decide +kernel
theorem dX9_termOf_55 : decode cX9_termOf 55 = .ok (.goto 4, 3) := by decide +kernel
theorem dX9_termOf_58 : decode cX9_termOf 58 = .ok (.iconst 0, 1) := by decide +kernel
theorem dX9_termOf_59 : decode cX9_termOf 59 = .ok (.istore 4, 2) := by decide +kernel
theorem dX9_termOf_61 : decode cX9_termOf 61 = .ok (.aload_n 0, 1) := by decide +kernel
theorem dX9_termOf_62 : decode cX9_termOf 62 = .ok (.dup, 1) := by decide +kernel
theorem dX9_termOf_63 : decode cX9_termOf 63 = .ok (.getfield 207, 3) := by decide +kernel
theorem dX9_termOf_66 : decode cX9_termOf 66 = .ok (.iconst 1, 1) := by decide +kernel
theorem dX9_termOf_67 : decode cX9_termOf 67 = .ok (.iadd, 1) := by decide +kernel
theorem dX9_termOf_68 : decode cX9_termOf 68 = .ok (.putfield 207, 3) := by decide +kernel
theorem dX9_termOf_71 : decode cX9_termOf 71 = .ok (.aload_n 0, 1) := by decide +kernel
theorem dX9_termOf_72 : decode cX9_termOf 72 = .ok (.iload_n 1, 1) := by decide +kernel
theorem dX9_termOf_73 : decode cX9_termOf 73 = .ok (.invokevirtual 229, 3) := by decide +kernel
theorem dX9_termOf_76 : decode cX9_termOf 76 = .ok (.lstore 5, 2) := by decide +kernel
theorem dX9_termOf_78 : decode cX9_termOf 78 = .ok (.iload 4, 2) := by decide +kernel
theorem dX9_termOf_80 : decode cX9_termOf 80 = .ok (.ifCond .ne 33, 3) := by decide +kernel
theorem dX9_termOf_83 : decode cX9_termOf 83 = .ok (.lload 5, 2) := by decide +kernel
theorem dX9_termOf_85 : decode cX9_termOf 85 = .ok (.lconst 0, 1) := by decide +kernel
theorem dX9_termOf_86 : decode cX9_termOf 86 = .ok (.lcmp, 1) := by decide +kernel
theorem dX9_termOf_87 : decode cX9_termOf 87 = .ok (.ifCond .ne 26, 3) := by decide +kernel
theorem dX9_termOf_90 : decode cX9_termOf 90 = .ok (.aload_n 0, 1) := by decide +kernel
theorem dX9_termOf_91 : decode cX9_termOf 91 = .ok (.aload_n 0, 1) := by decide +kernel
theorem dX9_termOf_92 : decode cX9_termOf 92 = .ok (.getfield 217, 3) := by decide +kernel
theorem dX9_termOf_95 : decode cX9_termOf 95 = .ok (.ifCond .ne 7, 3) := by decide +kernel
theorem dX9_termOf_98 : decode cX9_termOf 98 = .ok (.iload_n 1, 1) := by decide +kernel
theorem dX9_termOf_99 : decode cX9_termOf 99 = .ok (.ifCond .eq 7, 3) := by decide +kernel
theorem dX9_termOf_102 : decode cX9_termOf 102 = .ok (.iconst 1, 1) := by decide +kernel
theorem dX9_termOf_103 : decode cX9_termOf 103 = .ok (.goto 4, 3) := by decide +kernel
theorem dX9_termOf_106 : decode cX9_termOf 106 = .ok (.iconst 0, 1) := by decide +kernel
theorem dX9_termOf_107 : decode cX9_termOf 107 = .ok (.putfield 217, 3) := by decide +kernel
theorem dX9_termOf_110 : decode cX9_termOf 110 = .ok (.lconst 1, 1) := by decide +kernel
theorem dX9_termOf_111 : decode cX9_termOf 111 = .ok (.lstore 5, 2) := by decide +kernel
theorem dX9_termOf_113 : decode cX9_termOf 113 = .ok (.aload_n 0, 1) := by decide +kernel
theorem dX9_termOf_114 : decode cX9_termOf 114 = .ok (.iload 4, 2) := by decide +kernel
theorem dX9_termOf_116 : decode cX9_termOf 116 = .ok (.ifCond .eq 10, 3) := by decide +kernel
theorem dX9_termOf_119 : decode cX9_termOf 119 = .ok (.lload_n 2, 1) := by decide +kernel
theorem dX9_termOf_120 : decode cX9_termOf 120 = .ok (.lload 5, 2) := by decide +kernel
theorem dX9_termOf_122 : decode cX9_termOf 122 = .ok (.lmul, 1) := by decide +kernel
theorem dX9_termOf_123 : decode cX9_termOf 123 = .ok (.goto 7, 3) := by decide +kernel
theorem dX9_termOf_126 : decode cX9_termOf 126 = .ok (.lload_n 2, 1) := by decide +kernel
theorem dX9_termOf_127 : decode cX9_termOf 127 = .ok (.lload 5, 2) := by decide +kernel
theorem dX9_termOf_129 : decode cX9_termOf 129 = .ok (.ldiv, 1) := by decide +kernel
theorem dX9_termOf_130 : decode cX9_termOf 130 = .ok (.iload_n 1, 1) := by decide +kernel
theorem dX9_termOf_131 : decode cX9_termOf 131 = .ok (.invokevirtual 225, 3) := by decide +kernel
theorem dX9_termOf_134 : decode cX9_termOf 134 = .ok (.lstore_n 2, 1) := by decide +kernel
theorem dX9_termOf_135 : decode cX9_termOf 135 = .ok (.goto (-129), 3) := by decide +kernel
theorem dX9_termOf_138 : decode cX9_termOf 138 = .ok (.lload_n 2, 1) := by decide +kernel
theorem dX9_termOf_139 : decode cX9_termOf 139 = .ok (.lreturn, 1) := by decide +kernel
theorem dX9_partOf_0 : decode cX9_partOf 0 = .ok (.aload_n 0, 1) := by decide +kernel
theorem dX9_partOf_1 : decode cX9_partOf 1 = .ok (.bipush 91, 2) := by decide +kernel
theorem dX9_partOf_3 : decode cX9_partOf 3 = .ok (.invokestatic 182, 3) := by decide +kernel
theorem dX9_partOf_6 : decode cX9_partOf 6 = .ok (.invokevirtual 232, 3) := by decide +kernel
theorem dX9_partOf_9 : decode cX9_partOf 9 = .ok (.ifCond .eq 21, 3) := by decide +kernel
theorem dX9_partOf_12 : decode cX9_partOf 12 = .ok (.aload_n 0, 1) := by decide +kernel
theorem dX9_partOf_13 : decode cX9_partOf 13 = .ok (.iload_n 1, 1) := by decide +kernel
theorem dX9_partOf_14 : decode cX9_partOf 14 = .ok (.invokevirtual 235, 3) := by decide +kernel
theorem dX9_partOf_17 : decode cX9_partOf 17 = .ok (.lstore_n 2, 1) := by decide +kernel
theorem dX9_partOf_18 : decode cX9_partOf 18 = .ok (.aload_n 0, 1) := by decide +kernel
theorem dX9_partOf_19 : decode cX9_partOf 19 = .ok (.dup, 1) := by decide +kernel
theorem dX9_partOf_20 : decode cX9_partOf 20 = .ok (.getfield 207, 3) := by decide +kernel
theorem dX9_partOf_23 : decode cX9_partOf 23 = .ok (.iconst 1, 1) := by decide +kernel
theorem dX9_partOf_24 : decode cX9_partOf 24 = .ok (.iadd, 1) := by decide +kernel
theorem dX9_partOf_25 : decode cX9_partOf 25 = .ok (.putfield 207, 3) := by decide +kernel
theorem dX9_partOf_28 : decode cX9_partOf 28 = .ok (.lload_n 2, 1) := by decide +kernel
theorem dX9_partOf_29 : decode cX9_partOf 29 = .ok (.lreturn, 1) := by decide +kernel
theorem dX9_partOf_30 : decode cX9_partOf 30 = .ok (.aload_n 0, 1) := by decide +kernel
theorem dX9_partOf_31 : decode cX9_partOf 31 = .ok (.aload_n 0, 1) := by decide +kernel
theorem dX9_partOf_32 : decode cX9_partOf 32 = .ok (.getfield 207, 3) := by decide +kernel
theorem dX9_partOf_35 : decode cX9_partOf 35 = .ok (.invokevirtual 210, 3) := by decide +kernel
theorem dX9_partOf_38 : decode cX9_partOf 38 = .ok (.istore_n 2, 1) := by decide +kernel
theorem dX9_partOf_39 : decode cX9_partOf 39 = .ok (.aload_n 0, 1) := by decide +kernel
theorem dX9_partOf_40 : decode cX9_partOf 40 = .ok (.dup, 1) := by decide +kernel
theorem dX9_partOf_41 : decode cX9_partOf 41 = .ok (.getfield 207, 3) := by decide +kernel
theorem dX9_partOf_44 : decode cX9_partOf 44 = .ok (.iconst 1, 1) := by decide +kernel
theorem dX9_partOf_45 : decode cX9_partOf 45 = .ok (.iadd, 1) := by decide +kernel
theorem dX9_partOf_46 : decode cX9_partOf 46 = .ok (.putfield 207, 3) := by decide +kernel
theorem dX9_partOf_49 : decode cX9_partOf 49 = .ok (.iload_n 1, 1) := by decide +kernel
theorem dX9_partOf_50 : decode cX9_partOf 50 = .ok (.ifCond .eq 10, 3) := by decide +kernel
theorem dX9_partOf_53 : decode cX9_partOf 53 = .ok (.aload_n 0, 1) := by decide +kernel
theorem dX9_partOf_54 : decode cX9_partOf 54 = .ok (.getfield 217, 3) := by decide +kernel
theorem dX9_partOf_57 : decode cX9_partOf 57 = .ok (.ifCond .eq 5, 3) := by decide +kernel
theorem dX9_partOf_60 : decode cX9_partOf 60 = .ok (.lconst 0, 1) := by decide +kernel
theorem dX9_partOf_61 : decode cX9_partOf 61 = .ok (.lreturn, 1) := by decide +kernel
theorem dX9_partOf_62 : decode cX9_partOf 62 = .ok (.iload_n 2, 1) := by decide +kernel
theorem dX9_partOf_63 : decode cX9_partOf 63 = .ok (.bipush 50, 2) := by decide +kernel
theorem dX9_partOf_65 : decode cX9_partOf 65 = .ok (.if_icmp .ne 22, 3) := by decide +kernel
theorem dX9_partOf_68 : decode cX9_partOf 68 = .ok (.aload_n 0, 1) := by decide +kernel
theorem dX9_partOf_69 : decode cX9_partOf 69 = .ok (.getfield 20, 3) := by decide +kernel
theorem dX9_partOf_72 : decode cX9_partOf 72 = .ok (.sipush 2545, 3) := by decide +kernel
theorem dX9_partOf_75 : decode cX9_partOf 75 = .ok (.aload_n 0, 1) := by decide +kernel
theorem dX9_partOf_76 : decode cX9_partOf 76 = .ok (.getfield 207, 3) := by decide +kernel
theorem dX9_partOf_79 : decode cX9_partOf 79 = .ok (.iadd, 1) := by decide +kernel
theorem dX9_partOf_80 : decode cX9_partOf 80 = .ok (.iconst 1, 1) := by decide +kernel
theorem dX9_partOf_81 : decode cX9_partOf 81 = .ok (.isub, 1) := by decide +kernel
theorem dX9_partOf_82 : decode cX9_partOf 82 = .ok (.iaload, 1) := by decide +kernel
theorem dX9_partOf_83 : decode cX9_partOf 83 = .ok (.i2l, 1) := by decide +kernel
theorem dX9_partOf_84 : decode cX9_partOf 84 = .ok (.goto 13, 3) := by decide +kernel
theorem dX9_partOf_87 : decode cX9_partOf 87 = .ok (.aload_n 0, 1) := by decide +kernel
theorem dX9_partOf_88 : decode cX9_partOf 88 = .ok (.getfield 52, 3) := by decide +kernel
theorem dX9_partOf_91 : decode cX9_partOf 91 = .ok (.iload_n 2, 1) := by decide +kernel
theorem dX9_partOf_92 : decode cX9_partOf 92 = .ok (.bipush 8, 2) := by decide +kernel
theorem dX9_partOf_94 : decode cX9_partOf 94 = .ok (.isub, 1) := by decide +kernel
theorem dX9_partOf_95 : decode cX9_partOf 95 = .ok (.iaload, 1) := by decide +kernel
theorem dX9_partOf_96 : decode cX9_partOf 96 = .ok (.i2l, 1) := by decide +kernel
theorem dX9_partOf_97 : decode cX9_partOf 97 = .ok (.lreturn, 1) := by decide +kernel
theorem dX9_testOf_0 : decode cX9_testOf 0 = .ok (.aload_n 0, 1) := by decide +kernel
theorem dX9_testOf_1 : decode cX9_testOf 1 = .ok (.iload_n 1, 1) := by decide +kernel
theorem dX9_testOf_2 : decode cX9_testOf 2 = .ok (.invokevirtual 238, 3) := by decide +kernel
theorem dX9_testOf_5 : decode cX9_testOf 5 = .ok (.istore_n 2, 1) := by decide +kernel
theorem dX9_testOf_6 : decode cX9_testOf 6 = .ok (.aload_n 0, 1) := by decide +kernel
theorem dX9_testOf_7 : decode cX9_testOf 7 = .ok (.iconst 5, 1) := by decide +kernel
theorem dX9_testOf_8 : decode cX9_testOf 8 = .ok (.invokevirtual 232, 3) := by decide +kernel
theorem dX9_testOf_11 : decode cX9_testOf 11 = .ok (.ifCond .eq 38, 3) := by decide +kernel
theorem dX9_testOf_14 : decode cX9_testOf 14 = .ok (.aload_n 0, 1) := by decide +kernel
theorem dX9_testOf_15 : decode cX9_testOf 15 = .ok (.iload_n 1, 1) := by decide +kernel
theorem dX9_testOf_16 : decode cX9_testOf 16 = .ok (.ifCond .eq 11, 3) := by decide +kernel
theorem dX9_testOf_19 : decode cX9_testOf 19 = .ok (.iload_n 2, 1) := by decide +kernel
theorem dX9_testOf_20 : decode cX9_testOf 20 = .ok (.ifCond .ne 7, 3) := by decide +kernel
theorem dX9_testOf_23 : decode cX9_testOf 23 = .ok (.iconst 1, 1) := by decide +kernel
theorem dX9_testOf_24 : decode cX9_testOf 24 = .ok (.goto 4, 3) := by decide +kernel
theorem dX9_testOf_27 : decode cX9_testOf 27 = .ok (.iconst 0, 1) := by decide +kernel
theorem dX9_testOf_28 : decode cX9_testOf 28 = .ok (.invokevirtual 238, 3) := by decide +kernel
theorem dX9_testOf_31 : decode cX9_testOf 31 = .ok (.istore_n 3, 1) := by decide +kernel
theorem dX9_testOf_32 : decode cX9_testOf 32 = .ok (.iload_n 2, 1) := by decide +kernel
theorem dX9_testOf_33 : decode cX9_testOf 33 = .ok (.ifCond .ne 7, 3) := by decide +kernel
theorem dX9_testOf_36 : decode cX9_testOf 36 = .ok (.iload_n 3, 1) := by decide +kernel
theorem dX9_testOf_37 : decode cX9_testOf 37 = .ok (.ifCond .eq 7, 3) := by decide +kernel
theorem dX9_testOf_40 : decode cX9_testOf 40 = .ok (.iconst 1, 1) := by decide +kernel
theorem dX9_testOf_41 : decode cX9_testOf 41 = .ok (.goto 4, 3) := by decide +kernel
theorem dX9_testOf_44 : decode cX9_testOf 44 = .ok (.iconst 0, 1) := by decide +kernel
theorem dX9_testOf_45 : decode cX9_testOf 45 = .ok (.istore_n 2, 1) := by decide +kernel
theorem dX9_testOf_46 : decode cX9_testOf 46 = .ok (.goto (-40), 3) := by decide +kernel
theorem dX9_testOf_49 : decode cX9_testOf 49 = .ok (.iload_n 2, 1) := by decide +kernel
theorem dX9_testOf_50 : decode cX9_testOf 50 = .ok (.ireturn, 1) := by decide +kernel
theorem dX9_bothOf_0 : decode cX9_bothOf 0 = .ok (.aload_n 0, 1) := by decide +kernel
theorem dX9_bothOf_1 : decode cX9_bothOf 1 = .ok (.iload_n 1, 1) := by decide +kernel
theorem dX9_bothOf_2 : decode cX9_bothOf 2 = .ok (.invokevirtual 242, 3) := by decide +kernel
theorem dX9_bothOf_5 : decode cX9_bothOf 5 = .ok (.istore_n 2, 1) := by decide +kernel
theorem dX9_bothOf_6 : decode cX9_bothOf 6 = .ok (.aload_n 0, 1) := by decide +kernel
theorem dX9_bothOf_7 : decode cX9_bothOf 7 = .ok (.bipush 6, 2) := by decide +kernel
theorem dX9_bothOf_9 : decode cX9_bothOf 9 = .ok (.invokevirtual 232, 3) := by decide +kernel
theorem dX9_bothOf_12 : decode cX9_bothOf 12 = .ok (.ifCond .eq 38, 3) := by decide +kernel
theorem dX9_bothOf_15 : decode cX9_bothOf 15 = .ok (.aload_n 0, 1) := by decide +kernel
theorem dX9_bothOf_16 : decode cX9_bothOf 16 = .ok (.iload_n 1, 1) := by decide +kernel
theorem dX9_bothOf_17 : decode cX9_bothOf 17 = .ok (.ifCond .eq 11, 3) := by decide +kernel
theorem dX9_bothOf_20 : decode cX9_bothOf 20 = .ok (.iload_n 2, 1) := by decide +kernel
theorem dX9_bothOf_21 : decode cX9_bothOf 21 = .ok (.ifCond .eq 7, 3) := by decide +kernel
theorem dX9_bothOf_24 : decode cX9_bothOf 24 = .ok (.iconst 1, 1) := by decide +kernel
theorem dX9_bothOf_25 : decode cX9_bothOf 25 = .ok (.goto 4, 3) := by decide +kernel
theorem dX9_bothOf_28 : decode cX9_bothOf 28 = .ok (.iconst 0, 1) := by decide +kernel
theorem dX9_bothOf_29 : decode cX9_bothOf 29 = .ok (.invokevirtual 242, 3) := by decide +kernel
theorem dX9_bothOf_32 : decode cX9_bothOf 32 = .ok (.istore_n 3, 1) := by decide +kernel
theorem dX9_bothOf_33 : decode cX9_bothOf 33 = .ok (.iload_n 2, 1) := by decide +kernel
theorem dX9_bothOf_34 : decode cX9_bothOf 34 = .ok (.ifCond .eq 11, 3) := by decide +kernel
theorem dX9_bothOf_37 : decode cX9_bothOf 37 = .ok (.iload_n 3, 1) := by decide +kernel
theorem dX9_bothOf_38 : decode cX9_bothOf 38 = .ok (.ifCond .eq 7, 3) := by decide +kernel
theorem dX9_bothOf_41 : decode cX9_bothOf 41 = .ok (.iconst 1, 1) := by decide +kernel
theorem dX9_bothOf_42 : decode cX9_bothOf 42 = .ok (.goto 4, 3) := by decide +kernel
theorem dX9_bothOf_45 : decode cX9_bothOf 45 = .ok (.iconst 0, 1) := by decide +kernel
theorem dX9_bothOf_46 : decode cX9_bothOf 46 = .ok (.istore_n 2, 1) := by decide +kernel
theorem dX9_bothOf_47 : decode cX9_bothOf 47 = .ok (.goto (-41), 3) := by decide +kernel
theorem dX9_bothOf_50 : decode cX9_bothOf 50 = .ok (.iload_n 2, 1) := by decide +kernel
theorem dX9_bothOf_51 : decode cX9_bothOf 51 = .ok (.ireturn, 1) := by decide +kernel
theorem dX9_plainOf_0 : decode cX9_plainOf 0 = .ok (.iconst 0, 1) := by decide +kernel
theorem dX9_plainOf_1 : decode cX9_plainOf 1 = .ok (.istore_n 2, 1) := by decide +kernel
theorem dX9_plainOf_2 : decode cX9_plainOf 2 = .ok (.aload_n 0, 1) := by decide +kernel
theorem dX9_plainOf_3 : decode cX9_plainOf 3 = .ok (.bipush 7, 2) := by decide +kernel
theorem dX9_plainOf_5 : decode cX9_plainOf 5 = .ok (.invokevirtual 232, 3) := by decide +kernel
theorem dX9_plainOf_8 : decode cX9_plainOf 8 = .ok (.ifCond .eq 16, 3) := by decide +kernel
theorem dX9_plainOf_11 : decode cX9_plainOf 11 = .ok (.iload_n 2, 1) := by decide +kernel
theorem dX9_plainOf_12 : decode cX9_plainOf 12 = .ok (.ifCond .ne 7, 3) := by decide +kernel
theorem dX9_plainOf_15 : decode cX9_plainOf 15 = .ok (.iconst 1, 1) := by decide +kernel
theorem dX9_plainOf_16 : decode cX9_plainOf 16 = .ok (.goto 4, 3) := by decide +kernel
theorem dX9_plainOf_19 : decode cX9_plainOf 19 = .ok (.iconst 0, 1) := by decide +kernel
theorem dX9_plainOf_20 : decode cX9_plainOf 20 = .ok (.istore_n 2, 1) := by decide +kernel
theorem dX9_plainOf_21 : decode cX9_plainOf 21 = .ok (.goto (-19), 3) := by decide +kernel
theorem dX9_plainOf_24 : decode cX9_plainOf 24 = .ok (.aload_n 0, 1) := by decide +kernel
theorem dX9_plainOf_25 : decode cX9_plainOf 25 = .ok (.iload_n 1, 1) := by decide +kernel
theorem dX9_plainOf_26 : decode cX9_plainOf 26 = .ok (.invokevirtual 245, 3) := by decide +kernel
theorem dX9_plainOf_29 : decode cX9_plainOf 29 = .ok (.iload_n 2, 1) := by decide +kernel
theorem dX9_plainOf_30 : decode cX9_plainOf 30 = .ok (.if_icmp .eq 7, 3) := by decide +kernel
theorem dX9_plainOf_33 : decode cX9_plainOf 33 = .ok (.iconst 1, 1) := by decide +kernel
theorem dX9_plainOf_34 : decode cX9_plainOf 34 = .ok (.goto 4, 3) := by decide +kernel
theorem dX9_plainOf_37 : decode cX9_plainOf 37 = .ok (.iconst 0, 1) := by decide +kernel
theorem dX9_plainOf_38 : decode cX9_plainOf 38 = .ok (.ireturn, 1) := by decide +kernel
theorem dX9_positiveOf_0 : decode cX9_positiveOf 0 = .ok (.aload_n 0, 1) := by decide +kernel
theorem dX9_positiveOf_1 : decode cX9_positiveOf 1 = .ok (.bipush 40, 2) := by decide +kernel
theorem dX9_positiveOf_3 : decode cX9_positiveOf 3 = .ok (.invokestatic 182, 3) := by decide +kernel
theorem dX9_positiveOf_6 : decode cX9_positiveOf 6 = .ok (.invokevirtual 232, 3) := by decide +kernel
theorem dX9_positiveOf_9 : decode cX9_positiveOf 9 = .ok (.ifCond .eq 21, 3) := by decide +kernel
theorem dX9_positiveOf_12 : decode cX9_positiveOf 12 = .ok (.aload_n 0, 1) := by decide +kernel
theorem dX9_positiveOf_13 : decode cX9_positiveOf 13 = .ok (.iload_n 1, 1) := by decide +kernel
theorem dX9_positiveOf_14 : decode cX9_positiveOf 14 = .ok (.invokevirtual 248, 3) := by decide +kernel
theorem dX9_positiveOf_17 : decode cX9_positiveOf 17 = .ok (.istore_n 2, 1) := by decide +kernel
theorem dX9_positiveOf_18 : decode cX9_positiveOf 18 = .ok (.aload_n 0, 1) := by decide +kernel
theorem dX9_positiveOf_19 : decode cX9_positiveOf 19 = .ok (.dup, 1) := by decide +kernel
theorem dX9_positiveOf_20 : decode cX9_positiveOf 20 = .ok (.getfield 207, 3) := by decide +kernel
theorem dX9_positiveOf_23 : decode cX9_positiveOf 23 = .ok (.iconst 1, 1) := by decide +kernel
theorem dX9_positiveOf_24 : decode cX9_positiveOf 24 = .ok (.iadd, 1) := by decide +kernel
theorem dX9_positiveOf_25 : decode cX9_positiveOf 25 = .ok (.putfield 207, 3) := by decide +kernel
theorem dX9_positiveOf_28 : decode cX9_positiveOf 28 = .ok (.iload_n 2, 1) := by decide +kernel
theorem dX9_positiveOf_29 : decode cX9_positiveOf 29 = .ok (.ireturn, 1) := by decide +kernel
theorem dX9_positiveOf_30 : decode cX9_positiveOf 30 = .ok (.aload_n 0, 1) := by decide +kernel
theorem dX9_positiveOf_31 : decode cX9_positiveOf 31 = .ok (.iload_n 1, 1) := by decide +kernel
theorem dX9_positiveOf_32 : decode cX9_positiveOf 32 = .ok (.invokevirtual 235, 3) := by decide +kernel
theorem dX9_positiveOf_35 : decode cX9_positiveOf 35 = .ok (.lstore_n 2, 1) := by decide +kernel
theorem dX9_positiveOf_36 : decode cX9_positiveOf 36 = .ok (.aload_n 0, 1) := by decide +kernel
theorem dX9_positiveOf_37 : decode cX9_positiveOf 37 = .ok (.aload_n 0, 1) := by decide +kernel
theorem dX9_positiveOf_38 : decode cX9_positiveOf 38 = .ok (.getfield 207, 3) := by decide +kernel
theorem dX9_positiveOf_41 : decode cX9_positiveOf 41 = .ok (.invokevirtual 210, 3) := by decide +kernel
theorem dX9_positiveOf_44 : decode cX9_positiveOf 44 = .ok (.istore 4, 2) := by decide +kernel
theorem dX9_positiveOf_46 : decode cX9_positiveOf 46 = .ok (.aload_n 0, 1) := by decide +kernel
theorem dX9_positiveOf_47 : decode cX9_positiveOf 47 = .ok (.dup, 1) := by decide +kernel
theorem dX9_positiveOf_48 : decode cX9_positiveOf 48 = .ok (.getfield 207, 3) := by decide +kernel
theorem dX9_positiveOf_51 : decode cX9_positiveOf 51 = .ok (.iconst 1, 1) := by decide +kernel
theorem dX9_positiveOf_52 : decode cX9_positiveOf 52 = .ok (.iadd, 1) := by decide +kernel
theorem dX9_positiveOf_53 : decode cX9_positiveOf 53 = .ok (.putfield 207, 3) := by decide +kernel
theorem dX9_positiveOf_56 : decode cX9_positiveOf 56 = .ok (.aload_n 0, 1) := by decide +kernel
theorem dX9_positiveOf_57 : decode cX9_positiveOf 57 = .ok (.iload_n 1, 1) := by decide +kernel
theorem dX9_positiveOf_58 : decode cX9_positiveOf 58 = .ok (.invokevirtual 235, 3) := by decide +kernel
theorem dX9_positiveOf_61 : decode cX9_positiveOf 61 = .ok (.lstore 5, 2) := by decide +kernel
theorem dX9_positiveOf_63 : decode cX9_positiveOf 63 = .ok (.iload_n 1, 1) := by decide +kernel
theorem dX9_positiveOf_64 : decode cX9_positiveOf 64 = .ok (.ifCond .eq 61, 3) := by decide +kernel
theorem dX9_positiveOf_67 : decode cX9_positiveOf 67 = .ok (.aload_n 0, 1) := by decide +kernel
theorem dX9_positiveOf_68 : decode cX9_positiveOf 68 = .ok (.getfield 217, 3) := by decide +kernel
theorem dX9_positiveOf_71 : decode cX9_positiveOf 71 = .ok (.ifCond .ne 54, 3) := by decide +kernel
theorem dX9_positiveOf_74 : decode cX9_positiveOf 74 = .ok (.iload 4, 2) := by decide +kernel
theorem dX9_positiveOf_76 : decode cX9_positiveOf 76 = .ok (.bipush 60, 2) := by decide +kernel
theorem dX9_positiveOf_78 : decode cX9_positiveOf 78 = .ok (.invokestatic 182, 3) := by decide +kernel
theorem dX9_positiveOf_81 : decode cX9_positiveOf 81 = .ok (.if_icmp .ne 13, 3) := by decide +kernel
theorem dX9_positiveOf_84 : decode cX9_positiveOf 84 = .ok (.lload_n 2, 1) := by decide +kernel
theorem dX9_positiveOf_85 : decode cX9_positiveOf 85 = .ok (.lload 5, 2) := by decide +kernel
theorem dX9_positiveOf_87 : decode cX9_positiveOf 87 = .ok (.lcmp, 1) := by decide +kernel
theorem dX9_positiveOf_88 : decode cX9_positiveOf 88 = .ok (.ifCond .ge 37, 3) := by decide +kernel
theorem dX9_positiveOf_91 : decode cX9_positiveOf 91 = .ok (.goto 30, 3) := by decide +kernel
theorem dX9_positiveOf_94 : decode cX9_positiveOf 94 = .ok (.iload 4, 2) := by decide +kernel
theorem dX9_positiveOf_96 : decode cX9_positiveOf 96 = .ok (.bipush 62, 2) := by decide +kernel
theorem dX9_positiveOf_98 : decode cX9_positiveOf 98 = .ok (.invokestatic 182, 3) := by decide +kernel
theorem dX9_positiveOf_101 : decode cX9_positiveOf 101 = .ok (.if_icmp .ne 13, 3) := by decide +kernel
theorem dX9_positiveOf_104 : decode cX9_positiveOf 104 = .ok (.lload_n 2, 1) := by decide +kernel
theorem dX9_positiveOf_105 : decode cX9_positiveOf 105 = .ok (.lload 5, 2) := by decide +kernel
theorem dX9_positiveOf_107 : decode cX9_positiveOf 107 = .ok (.lcmp, 1) := by decide +kernel
theorem dX9_positiveOf_108 : decode cX9_positiveOf 108 = .ok (.ifCond .le 17, 3) := by decide +kernel
theorem dX9_positiveOf_111 : decode cX9_positiveOf 111 = .ok (.goto 10, 3) := by decide +kernel
theorem dX9_positiveOf_114 : decode cX9_positiveOf 114 = .ok (.lload_n 2, 1) := by decide +kernel
theorem dX9_positiveOf_115 : decode cX9_positiveOf 115 = .ok (.lload 5, 2) := by decide +kernel
theorem dX9_positiveOf_117 : decode cX9_positiveOf 117 = .ok (.lcmp, 1) := by decide +kernel
theorem dX9_positiveOf_118 : decode cX9_positiveOf 118 = .ok (.ifCond .ne 7, 3) := by decide +kernel
theorem dX9_positiveOf_121 : decode cX9_positiveOf 121 = .ok (.iconst 1, 1) := by decide +kernel
theorem dX9_positiveOf_122 : decode cX9_positiveOf 122 = .ok (.goto 4, 3) := by decide +kernel
theorem dX9_positiveOf_125 : decode cX9_positiveOf 125 = .ok (.iconst 0, 1) := by decide +kernel
theorem dX9_positiveOf_126 : decode cX9_positiveOf 126 = .ok (.ireturn, 1) := by decide +kernel
theorem dX9_asksOf_0 : decode cX9_asksOf 0 = .ok (.aload_n 0, 1) := by decide +kernel
theorem dX9_asksOf_1 : decode cX9_asksOf 1 = .ok (.aload_n 0, 1) := by decide +kernel
theorem dX9_asksOf_2 : decode cX9_asksOf 2 = .ok (.iload_n 1, 1) := by decide +kernel
theorem dX9_asksOf_3 : decode cX9_asksOf 3 = .ok (.iconst 2, 1) := by decide +kernel
theorem dX9_asksOf_4 : decode cX9_asksOf 4 = .ok (.invokevirtual 121, 3) := by decide +kernel
theorem dX9_asksOf_7 : decode cX9_asksOf 7 = .ok (.putfield 251, 3) := by decide +kernel
theorem dX9_asksOf_10 : decode cX9_asksOf 10 = .ok (.aload_n 0, 1) := by decide +kernel
theorem dX9_asksOf_11 : decode cX9_asksOf 11 = .ok (.iconst 1, 1) := by decide +kernel
theorem dX9_asksOf_12 : decode cX9_asksOf 12 = .ok (.putfield 254, 3) := by decide +kernel
theorem dX9_asksOf_15 : decode cX9_asksOf 15 = .ok (.aload_n 0, 1) := by decide +kernel
theorem dX9_asksOf_16 : decode cX9_asksOf 16 = .ok (.iconst 0, 1) := by decide +kernel
theorem dX9_asksOf_17 : decode cX9_asksOf 17 = .ok (.putfield 257, 3) := by decide +kernel
theorem dX9_asksOf_20 : decode cX9_asksOf 20 = .ok (.aload_n 0, 1) := by decide +kernel
theorem dX9_asksOf_21 : decode cX9_asksOf 21 = .ok (.getfield 20, 3) := by decide +kernel
theorem dX9_asksOf_24 : decode cX9_asksOf 24 = .ok (.sipush 138, 3) := by decide +kernel
theorem dX9_asksOf_27 : decode cX9_asksOf 27 = .ok (.iaload, 1) := by decide +kernel
theorem dX9_asksOf_28 : decode cX9_asksOf 28 = .ok (.iconst (-1), 1) := by decide +kernel
theorem dX9_asksOf_29 : decode cX9_asksOf 29 = .ok (.if_icmp .ne 4, 3) := by decide +kernel
theorem dX9_asksOf_32 : decode cX9_asksOf 32 = .ok (.return_, 1) := by decide +kernel
theorem dX9_asksOf_33 : decode cX9_asksOf 33 = .ok (.aload_n 0, 1) := by decide +kernel
theorem dX9_asksOf_34 : decode cX9_asksOf 34 = .ok (.getfield 52, 3) := by decide +kernel
theorem dX9_asksOf_37 : decode cX9_asksOf 37 = .ok (.iconst 0, 1) := by decide +kernel
theorem dX9_asksOf_38 : decode cX9_asksOf 38 = .ok (.iload_n 1, 1) := by decide +kernel
theorem dX9_asksOf_39 : decode cX9_asksOf 39 = .ok (.iastore, 1) := by decide +kernel
theorem dX9_asksOf_40 : decode cX9_asksOf 40 = .ok (.aload_n 0, 1) := by decide +kernel
theorem dX9_asksOf_41 : decode cX9_asksOf 41 = .ok (.getfield 52, 3) := by decide +kernel
theorem dX9_asksOf_44 : decode cX9_asksOf 44 = .ok (.iconst 1, 1) := by decide +kernel
theorem dX9_asksOf_45 : decode cX9_asksOf 45 = .ok (.aload_n 0, 1) := by decide +kernel
theorem dX9_asksOf_46 : decode cX9_asksOf 46 = .ok (.iload_n 1, 1) := by decide +kernel
theorem dX9_asksOf_47 : decode cX9_asksOf 47 = .ok (.iconst 0, 1) := by decide +kernel
theorem dX9_asksOf_48 : decode cX9_asksOf 48 = .ok (.invokevirtual 121, 3) := by decide +kernel
theorem dX9_asksOf_51 : decode cX9_asksOf 51 = .ok (.iastore, 1) := by decide +kernel
theorem dX9_asksOf_52 : decode cX9_asksOf 52 = .ok (.aload_n 0, 1) := by decide +kernel
theorem dX9_asksOf_53 : decode cX9_asksOf 53 = .ok (.getfield 52, 3) := by decide +kernel
theorem dX9_asksOf_56 : decode cX9_asksOf 56 = .ok (.iconst 2, 1) := by decide +kernel
theorem dX9_asksOf_57 : decode cX9_asksOf 57 = .ok (.aload_n 0, 1) := by decide +kernel
theorem dX9_asksOf_58 : decode cX9_asksOf 58 = .ok (.iload_n 1, 1) := by decide +kernel
theorem dX9_asksOf_59 : decode cX9_asksOf 59 = .ok (.iconst 1, 1) := by decide +kernel
theorem dX9_asksOf_60 : decode cX9_asksOf 60 = .ok (.invokevirtual 121, 3) := by decide +kernel
theorem dX9_asksOf_63 : decode cX9_asksOf 63 = .ok (.iastore, 1) := by decide +kernel
theorem dX9_asksOf_64 : decode cX9_asksOf 64 = .ok (.aload_n 0, 1) := by decide +kernel
theorem dX9_asksOf_65 : decode cX9_asksOf 65 = .ok (.getfield 52, 3) := by decide +kernel
theorem dX9_asksOf_68 : decode cX9_asksOf 68 = .ok (.iconst 3, 1) := by decide +kernel
theorem dX9_asksOf_69 : decode cX9_asksOf 69 = .ok (.aload_n 0, 1) := by decide +kernel
theorem dX9_asksOf_70 : decode cX9_asksOf 70 = .ok (.iload_n 1, 1) := by decide +kernel
theorem dX9_asksOf_71 : decode cX9_asksOf 71 = .ok (.iconst 1, 1) := by decide +kernel
theorem dX9_asksOf_72 : decode cX9_asksOf 72 = .ok (.invokevirtual 121, 3) := by decide +kernel
theorem dX9_asksOf_75 : decode cX9_asksOf 75 = .ok (.aload_n 0, 1) := by decide +kernel
theorem dX9_asksOf_76 : decode cX9_asksOf 76 = .ok (.iload_n 1, 1) := by decide +kernel
theorem dX9_asksOf_77 : decode cX9_asksOf 77 = .ok (.iconst 0, 1) := by decide +kernel
theorem dX9_asksOf_78 : decode cX9_asksOf 78 = .ok (.invokevirtual 121, 3) := by decide +kernel
theorem dX9_asksOf_81 : decode cX9_asksOf 81 = .ok (.isub, 1) := by decide +kernel
theorem dX9_asksOf_82 : decode cX9_asksOf 82 = .ok (.iastore, 1) := by decide +kernel
theorem dX9_asksOf_83 : decode cX9_asksOf 83 = .ok (.aload_n 0, 1) := by decide +kernel
theorem dX9_asksOf_84 : decode cX9_asksOf 84 = .ok (.getfield 52, 3) := by decide +kernel
theorem dX9_asksOf_87 : decode cX9_asksOf 87 = .ok (.iconst 4, 1) := by decide +kernel
theorem dX9_asksOf_88 : decode cX9_asksOf 88 = .ok (.aload_n 0, 1) := by decide +kernel
theorem dX9_asksOf_89 : decode cX9_asksOf 89 = .ok (.iload_n 1, 1) := by decide +kernel
theorem dX9_asksOf_90 : decode cX9_asksOf 90 = .ok (.iconst 2, 1) := by decide +kernel
theorem dX9_asksOf_91 : decode cX9_asksOf 91 = .ok (.invokevirtual 121, 3) := by decide +kernel
theorem dX9_asksOf_94 : decode cX9_asksOf 94 = .ok (.iastore, 1) := by decide +kernel
theorem dX9_asksOf_95 : decode cX9_asksOf 95 = .ok (.aload_n 0, 1) := by decide +kernel
theorem dX9_asksOf_96 : decode cX9_asksOf 96 = .ok (.getfield 52, 3) := by decide +kernel
theorem dX9_asksOf_99 : decode cX9_asksOf 99 = .ok (.iconst 5, 1) := by decide +kernel
theorem dX9_asksOf_100 : decode cX9_asksOf 100 = .ok (.aload_n 0, 1) := by decide +kernel
theorem dX9_asksOf_101 : decode cX9_asksOf 101 = .ok (.iload_n 1, 1) := by decide +kernel
theorem dX9_asksOf_102 : decode cX9_asksOf 102 = .ok (.iconst 3, 1) := by decide +kernel
theorem dX9_asksOf_103 : decode cX9_asksOf 103 = .ok (.invokevirtual 121, 3) := by decide +kernel
theorem dX9_asksOf_106 : decode cX9_asksOf 106 = .ok (.iconst 1, 1) := by decide +kernel
theorem dX9_asksOf_107 : decode cX9_asksOf 107 = .ok (.aload_n 0, 1) := by decide +kernel
theorem dX9_asksOf_108 : decode cX9_asksOf 108 = .ok (.getfield 20, 3) := by decide +kernel
theorem dX9_asksOf_111 : decode cX9_asksOf 111 = .ok (.bipush 40, 2) := by decide +kernel
theorem dX9_asksOf_113 : decode cX9_asksOf 113 = .ok (.iaload, 1) := by decide +kernel
theorem dX9_asksOf_114 : decode cX9_asksOf 114 = .ok (.ishl, 1) := by decide +kernel
theorem dX9_asksOf_115 : decode cX9_asksOf 115 = .ok (.iconst 1, 1) := by decide +kernel
theorem dX9_asksOf_116 : decode cX9_asksOf 116 = .ok (.isub, 1) := by decide +kernel
theorem dX9_asksOf_117 : decode cX9_asksOf 117 = .ok (.iand, 1) := by decide +kernel
theorem dX9_asksOf_118 : decode cX9_asksOf 118 = .ok (.invokestatic 260, 3) := by decide +kernel
theorem dX9_asksOf_121 : decode cX9_asksOf 121 = .ok (.iastore, 1) := by decide +kernel
theorem dX9_asksOf_122 : decode cX9_asksOf 122 = .ok (.aload_n 0, 1) := by decide +kernel
theorem dX9_asksOf_123 : decode cX9_asksOf 123 = .ok (.getfield 52, 3) := by decide +kernel
theorem dX9_asksOf_126 : decode cX9_asksOf 126 = .ok (.bipush 6, 2) := by decide +kernel
theorem dX9_asksOf_128 : decode cX9_asksOf 128 = .ok (.aload_n 0, 1) := by decide +kernel
theorem dX9_asksOf_129 : decode cX9_asksOf 129 = .ok (.getfield 20, 3) := by decide +kernel
theorem dX9_asksOf_132 : decode cX9_asksOf 132 = .ok (.bipush 42, 2) := by decide +kernel
theorem dX9_asksOf_134 : decode cX9_asksOf 134 = .ok (.iaload, 1) := by decide +kernel
theorem dX9_asksOf_135 : decode cX9_asksOf 135 = .ok (.iastore, 1) := by decide +kernel
theorem dX9_asksOf_136 : decode cX9_asksOf 136 = .ok (.aload_n 0, 1) := by decide +kernel
theorem dX9_asksOf_137 : decode cX9_asksOf 137 = .ok (.getfield 52, 3) := by decide +kernel
theorem dX9_asksOf_140 : decode cX9_asksOf 140 = .ok (.bipush 7, 2) := by decide +kernel
theorem dX9_asksOf_142 : decode cX9_asksOf 142 = .ok (.iload_n 2, 1) := by decide +kernel
theorem dX9_asksOf_143 : decode cX9_asksOf 143 = .ok (.iastore, 1) := by decide +kernel
theorem dX9_asksOf_144 : decode cX9_asksOf 144 = .ok (.aload_n 0, 1) := by decide +kernel
theorem dX9_asksOf_145 : decode cX9_asksOf 145 = .ok (.sipush 400, 3) := by decide +kernel
theorem dX9_asksOf_148 : decode cX9_asksOf 148 = .ok (.aload_n 0, 1) := by decide +kernel
theorem dX9_asksOf_149 : decode cX9_asksOf 149 = .ok (.getfield 20, 3) := by decide +kernel
theorem dX9_asksOf_152 : decode cX9_asksOf 152 = .ok (.sipush 138, 3) := by decide +kernel
theorem dX9_asksOf_155 : decode cX9_asksOf 155 = .ok (.iaload, 1) := by decide +kernel
theorem dX9_asksOf_156 : decode cX9_asksOf 156 = .ok (.imul, 1) := by decide +kernel
theorem dX9_asksOf_157 : decode cX9_asksOf 157 = .ok (.putfield 207, 3) := by decide +kernel
theorem dX9_asksOf_160 : decode cX9_asksOf 160 = .ok (.aload_n 0, 1) := by decide +kernel
theorem dX9_asksOf_161 : decode cX9_asksOf 161 = .ok (.aload_n 0, 1) := by decide +kernel
theorem dX9_asksOf_162 : decode cX9_asksOf 162 = .ok (.getfield 207, 3) := by decide +kernel
theorem dX9_asksOf_165 : decode cX9_asksOf 165 = .ok (.aload_n 0, 1) := by decide +kernel
theorem dX9_asksOf_166 : decode cX9_asksOf 166 = .ok (.getfield 20, 3) := by decide +kernel
theorem dX9_asksOf_169 : decode cX9_asksOf 169 = .ok (.sipush 139, 3) := by decide +kernel
theorem dX9_asksOf_172 : decode cX9_asksOf 172 = .ok (.aload_n 0, 1) := by decide +kernel
theorem dX9_asksOf_173 : decode cX9_asksOf 173 = .ok (.getfield 20, 3) := by decide +kernel
theorem dX9_asksOf_176 : decode cX9_asksOf 176 = .ok (.sipush 138, 3) := by decide +kernel
theorem dX9_asksOf_179 : decode cX9_asksOf 179 = .ok (.iaload, 1) := by decide +kernel
theorem dX9_asksOf_180 : decode cX9_asksOf 180 = .ok (.iadd, 1) := by decide +kernel
theorem dX9_asksOf_181 : decode cX9_asksOf 181 = .ok (.iaload, 1) := by decide +kernel
theorem dX9_asksOf_182 : decode cX9_asksOf 182 = .ok (.iadd, 1) := by decide +kernel
theorem dX9_asksOf_183 : decode cX9_asksOf 183 = .ok (.putfield 204, 3) := by decide +kernel
theorem dX9_asksOf_186 : decode cX9_asksOf 186 = .ok (.aload_n 0, 1) := by decide +kernel
theorem dX9_asksOf_187 : decode cX9_asksOf 187 = .ok (.getfield 207, 3) := by decide +kernel
theorem dX9_asksOf_190 : decode cX9_asksOf 190 = .ok (.aload_n 0, 1) := by decide +kernel
theorem dX9_asksOf_191 : decode cX9_asksOf 191 = .ok (.getfield 204, 3) := by decide +kernel
theorem dX9_asksOf_194 : decode cX9_asksOf 194 = .ok (.if_icmp .ge 204, 3) := by decide +kernel
theorem dX9_asksOf_197 : decode cX9_asksOf 197 = .ok (.aload_n 0, 1) := by decide +kernel
theorem dX9_asksOf_198 : decode cX9_asksOf 198 = .ok (.aload_n 0, 1) := by decide +kernel
theorem dX9_asksOf_199 : decode cX9_asksOf 199 = .ok (.getfield 207, 3) := by decide +kernel
theorem dX9_asksOf_202 : decode cX9_asksOf 202 = .ok (.invokevirtual 210, 3) := by decide +kernel
theorem dX9_asksOf_205 : decode cX9_asksOf 205 = .ok (.istore_n 3, 1) := by decide +kernel
theorem dX9_asksOf_206 : decode cX9_asksOf 206 = .ok (.aload_n 0, 1) := by decide +kernel
theorem dX9_asksOf_207 : decode cX9_asksOf 207 = .ok (.iconst 0, 1) := by decide +kernel
theorem dX9_asksOf_208 : decode cX9_asksOf 208 = .ok (.putfield 217, 3) := by decide +kernel
theorem dX9_asksOf_211 : decode cX9_asksOf 211 = .ok (.aload_n 0, 1) := by decide +kernel
theorem dX9_asksOf_212 : decode cX9_asksOf 212 = .ok (.dup, 1) := by decide +kernel
theorem dX9_asksOf_213 : decode cX9_asksOf 213 = .ok (.getfield 207, 3) := by decide +kernel
theorem dX9_asksOf_216 : decode cX9_asksOf 216 = .ok (.iconst 1, 1) := by decide +kernel
theorem dX9_asksOf_217 : decode cX9_asksOf 217 = .ok (.iadd, 1) := by decide +kernel
theorem dX9_asksOf_218 : decode cX9_asksOf 218 = .ok (.putfield 207, 3) := by decide +kernel
theorem dX9_asksOf_221 : decode cX9_asksOf 221 = .ok (.iload_n 3, 1) := by decide +kernel
theorem dX9_asksOf_222 : decode cX9_asksOf 222 = .ok (.iconst 3, 1) := by decide +kernel
theorem dX9_asksOf_223 : decode cX9_asksOf 223 = .ok (.if_icmp .ne 7, 3) := by decide +kernel
theorem dX9_asksOf_226 : decode cX9_asksOf 226 = .ok (.lconst 0, 1) := by decide +kernel
theorem dX9_asksOf_227 : decode cX9_asksOf 227 = .ok (.goto 8, 3) := by decide +kernel
theorem dX9_asksOf_230 : decode cX9_asksOf 230 = .ok (.aload_n 0, 1) := by decide +kernel
theorem dX9_asksOf_231 : decode cX9_asksOf 231 = .ok (.iconst 1, 1) := by decide +kernel
theorem dX9_asksOf_232 : decode cX9_asksOf 232 = .ok (.invokevirtual 235, 3) := by decide +kernel
theorem dX9_asksOf_235 : decode cX9_asksOf 235 = .ok (.lstore 4, 2) := by decide +kernel
theorem dX9_asksOf_237 : decode cX9_asksOf 237 = .ok (.aload_n 0, 1) := by decide +kernel
theorem dX9_asksOf_238 : decode cX9_asksOf 238 = .ok (.getfield 217, 3) := by decide +kernel
theorem dX9_asksOf_241 : decode cX9_asksOf 241 = .ok (.istore 6, 2) := by decide +kernel
theorem dX9_asksOf_243 : decode cX9_asksOf 243 = .ok (.aload_n 0, 1) := by decide +kernel
theorem dX9_asksOf_244 : decode cX9_asksOf 244 = .ok (.iconst 0, 1) := by decide +kernel
theorem dX9_asksOf_245 : decode cX9_asksOf 245 = .ok (.putfield 217, 3) := by decide +kernel
theorem dX9_asksOf_248 : decode cX9_asksOf 248 = .ok (.aload_n 0, 1) := by decide +kernel
theorem dX9_asksOf_249 : decode cX9_asksOf 249 = .ok (.iconst 4, 1) := by decide +kernel
theorem dX9_asksOf_250 : decode cX9_asksOf 250 = .ok (.invokevirtual 232, 3) := by decide +kernel
theorem dX9_asksOf_253 : decode cX9_asksOf 253 = .ok (.ifCond .eq 11, 3) := by decide +kernel
theorem dX9_asksOf_256 : decode cX9_asksOf 256 = .ok (.aload_n 0, 1) := by decide +kernel
theorem dX9_asksOf_257 : decode cX9_asksOf 257 = .ok (.iconst 1, 1) := by decide +kernel
theorem dX9_asksOf_258 : decode cX9_asksOf 258 = .ok (.invokevirtual 248, 3) := by decide +kernel
theorem dX9_asksOf_261 : decode cX9_asksOf 261 = .ok (.ifCond .eq 7, 3) := by decide +kernel
theorem dX9_asksOf_264 : decode cX9_asksOf 264 = .ok (.iconst 1, 1) := by decide +kernel
theorem dX9_asksOf_265 : decode cX9_asksOf 265 = .ok (.goto 4, 3) := by decide +kernel
theorem dX9_asksOf_268 : decode cX9_asksOf 268 = .ok (.iconst 0, 1) := by decide +kernel
theorem dX9_asksOf_269 : decode cX9_asksOf 269 = .ok (.istore 7, 2) := by decide +kernel
theorem dX9_asksOf_271 : decode cX9_asksOf 271 = .ok (.iload 7, 2) := by decide +kernel
theorem dX9_asksOf_273 : decode cX9_asksOf 273 = .ok (.ifCond .eq 112, 3) := by decide +kernel
theorem dX9_asksOf_276 : decode cX9_asksOf 276 = .ok (.aload_n 0, 1) := by decide +kernel
theorem dX9_asksOf_277 : decode cX9_asksOf 277 = .ok (.getfield 217, 3) := by decide +kernel
theorem dX9_asksOf_280 : decode cX9_asksOf 280 = .ok (.ifCond .ne 105, 3) := by decide +kernel
theorem dX9_asksOf_283 : decode cX9_asksOf 283 = .ok (.iload 6, 2) := by decide +kernel
theorem dX9_asksOf_285 : decode cX9_asksOf 285 = .ok (.ifCond .ne 100, 3) := by decide +kernel
theorem dX9_asksOf_288 : decode cX9_asksOf 288 = .ok (.iload_n 3, 1) := by decide +kernel
theorem dX9_asksOf_289 : decode cX9_asksOf 289 = .ok (.iconst 1, 1) := by decide +kernel
theorem dX9_asksOf_290 : decode cX9_asksOf 290 = .ok (.if_icmp .ne 36, 3) := by decide +kernel
theorem dX9_asksOf_293 : decode cX9_asksOf 293 = .ok (.aload_n 0, 1) := by decide +kernel
theorem dX9_asksOf_294 : decode cX9_asksOf 294 = .ok (.lload 4, 2) := by decide +kernel
theorem dX9_asksOf_296 : decode cX9_asksOf 296 = .ok (.lconst 0, 1) := by decide +kernel
theorem dX9_asksOf_297 : decode cX9_asksOf 297 = .ok (.lcmp, 1) := by decide +kernel
theorem dX9_asksOf_298 : decode cX9_asksOf 298 = .ok (.ifCond .ge 7, 3) := by decide +kernel
theorem dX9_asksOf_301 : decode cX9_asksOf 301 = .ok (.iconst 0, 1) := by decide +kernel
theorem dX9_asksOf_302 : decode cX9_asksOf 302 = .ok (.goto 21, 3) := by decide +kernel
theorem dX9_asksOf_305 : decode cX9_asksOf 305 = .ok (.lload 4, 2) := by decide +kernel
theorem dX9_asksOf_307 : decode cX9_asksOf 307 = .ok (.ldc2_w 263, 3) := by decide +kernel
theorem dX9_asksOf_310 : decode cX9_asksOf 310 = .ok (.lcmp, 1) := by decide +kernel
theorem dX9_asksOf_311 : decode cX9_asksOf 311 = .ok (.ifCond .le 9, 3) := by decide +kernel
theorem dX9_asksOf_314 : decode cX9_asksOf 314 = .ok (.sipush 999, 3) := by decide +kernel
theorem dX9_asksOf_317 : decode cX9_asksOf 317 = .ok (.goto 6, 3) := by decide +kernel
theorem dX9_asksOf_320 : decode cX9_asksOf 320 = .ok (.lload 4, 2) := by decide +kernel
theorem dX9_asksOf_322 : decode cX9_asksOf 322 = .ok (.l2i, 1) := by decide +kernel
theorem dX9_asksOf_323 : decode cX9_asksOf 323 = .ok (.putfield 251, 3) := by decide +kernel
theorem dX9_asksOf_326 : decode cX9_asksOf 326 = .ok (.iload_n 3, 1) := by decide +kernel
theorem dX9_asksOf_327 : decode cX9_asksOf 327 = .ok (.iconst 2, 1) := by decide +kernel
theorem dX9_asksOf_328 : decode cX9_asksOf 328 = .ok (.if_icmp .ne 36, 3) := by decide +kernel
theorem dX9_asksOf_331 : decode cX9_asksOf 331 = .ok (.aload_n 0, 1) := by decide +kernel
theorem dX9_asksOf_332 : decode cX9_asksOf 332 = .ok (.lload 4, 2) := by decide +kernel
theorem dX9_asksOf_334 : decode cX9_asksOf 334 = .ok (.lconst 1, 1) := by decide +kernel
theorem dX9_asksOf_335 : decode cX9_asksOf 335 = .ok (.lcmp, 1) := by decide +kernel
theorem dX9_asksOf_336 : decode cX9_asksOf 336 = .ok (.ifCond .ge 7, 3) := by decide +kernel
theorem dX9_asksOf_339 : decode cX9_asksOf 339 = .ok (.iconst 1, 1) := by decide +kernel
theorem dX9_asksOf_340 : decode cX9_asksOf 340 = .ok (.goto 21, 3) := by decide +kernel
theorem dX9_asksOf_343 : decode cX9_asksOf 343 = .ok (.lload 4, 2) := by decide +kernel
theorem dX9_asksOf_345 : decode cX9_asksOf 345 = .ok (.ldc2_w 263, 3) := by decide +kernel
theorem dX9_asksOf_348 : decode cX9_asksOf 348 = .ok (.lcmp, 1) := by decide +kernel
theorem dX9_asksOf_349 : decode cX9_asksOf 349 = .ok (.ifCond .le 9, 3) := by decide +kernel
theorem dX9_asksOf_352 : decode cX9_asksOf 352 = .ok (.sipush 999, 3) := by decide +kernel
theorem dX9_asksOf_355 : decode cX9_asksOf 355 = .ok (.goto 6, 3) := by decide +kernel
theorem dX9_asksOf_358 : decode cX9_asksOf 358 = .ok (.lload 4, 2) := by decide +kernel
theorem dX9_asksOf_360 : decode cX9_asksOf 360 = .ok (.l2i, 1) := by decide +kernel
theorem dX9_asksOf_361 : decode cX9_asksOf 361 = .ok (.putfield 254, 3) := by decide +kernel
theorem dX9_asksOf_364 : decode cX9_asksOf 364 = .ok (.aload_n 0, 1) := by decide +kernel
theorem dX9_asksOf_365 : decode cX9_asksOf 365 = .ok (.aload_n 0, 1) := by decide +kernel
theorem dX9_asksOf_366 : decode cX9_asksOf 366 = .ok (.getfield 257, 3) := by decide +kernel
theorem dX9_asksOf_369 : decode cX9_asksOf 369 = .ok (.ifCond .ne 8, 3) := by decide +kernel
theorem dX9_asksOf_372 : decode cX9_asksOf 372 = .ok (.iload_n 3, 1) := by decide +kernel
theorem dX9_asksOf_373 : decode cX9_asksOf 373 = .ok (.iconst 3, 1) := by decide +kernel
theorem dX9_asksOf_374 : decode cX9_asksOf 374 = .ok (.if_icmp .ne 7, 3) := by decide +kernel
theorem dX9_asksOf_377 : decode cX9_asksOf 377 = .ok (.iconst 1, 1) := by decide +kernel
theorem dX9_asksOf_378 : decode cX9_asksOf 378 = .ok (.goto 4, 3) := by decide +kernel
theorem dX9_asksOf_381 : decode cX9_asksOf 381 = .ok (.iconst 0, 1) := by decide +kernel
theorem dX9_asksOf_382 : decode cX9_asksOf 382 = .ok (.putfield 257, 3) := by decide +kernel
theorem dX9_asksOf_385 : decode cX9_asksOf 385 = .ok (.aload_n 0, 1) := by decide +kernel
theorem dX9_asksOf_386 : decode cX9_asksOf 386 = .ok (.dup, 1) := by decide +kernel
theorem dX9_asksOf_387 : decode cX9_asksOf 387 = .ok (.getfield 207, 3) := by decide +kernel
theorem dX9_asksOf_390 : decode cX9_asksOf 390 = .ok (.iconst 1, 1) := by decide +kernel
theorem dX9_asksOf_391 : decode cX9_asksOf 391 = .ok (.iadd, 1) := by decide +kernel
theorem dX9_asksOf_392 : decode cX9_asksOf 392 = .ok (.putfield 207, 3) := by decide +kernel
theorem dX9_asksOf_395 : decode cX9_asksOf 395 = .ok (.goto (-209), 3) := by decide +kernel
theorem dX9_asksOf_398 : decode cX9_asksOf 398 = .ok (.return_, 1) := by decide +kernel
theorem dX9_lays_0 : decode cX9_lays 0 = .ok (.iconst 0, 1) := by decide +kernel
theorem dX9_lays_1 : decode cX9_lays 1 = .ok (.istore_n 1, 1) := by decide +kernel
theorem dX9_lays_2 : decode cX9_lays 2 = .ok (.iload_n 1, 1) := by decide +kernel
theorem dX9_lays_3 : decode cX9_lays 3 = .ok (.aload_n 0, 1) := by decide +kernel
theorem dX9_lays_4 : decode cX9_lays 4 = .ok (.invokevirtual 105, 3) := by decide +kernel
theorem dX9_lays_7 : decode cX9_lays 7 = .ok (.if_icmp .ge 103, 3) := by decide +kernel
theorem dX9_lays_10 : decode cX9_lays 10 = .ok (.aload_n 0, 1) := by decide +kernel
theorem dX9_lays_11 : decode cX9_lays 11 = .ok (.iload_n 1, 1) := by decide +kernel
theorem dX9_lays_12 : decode cX9_lays 12 = .ok (.iconst (-1), 1) := by decide +kernel
theorem dX9_lays_13 : decode cX9_lays 13 = .ok (.invokevirtual 265, 3) := by decide +kernel
theorem dX9_lays_16 : decode cX9_lays 16 = .ok (.aload_n 0, 1) := by decide +kernel
theorem dX9_lays_17 : decode cX9_lays 17 = .ok (.getfield 55, 3) := by decide +kernel
theorem dX9_lays_20 : decode cX9_lays 20 = .ok (.iload_n 1, 1) := by decide +kernel
theorem dX9_lays_21 : decode cX9_lays 21 = .ok (.aload_n 0, 1) := by decide +kernel
theorem dX9_lays_22 : decode cX9_lays 22 = .ok (.getfield 251, 3) := by decide +kernel
theorem dX9_lays_25 : decode cX9_lays 25 = .ok (.iastore, 1) := by decide +kernel
theorem dX9_lays_26 : decode cX9_lays 26 = .ok (.aload_n 0, 1) := by decide +kernel
theorem dX9_lays_27 : decode cX9_lays 27 = .ok (.getfield 58, 3) := by decide +kernel
theorem dX9_lays_30 : decode cX9_lays 30 = .ok (.iload_n 1, 1) := by decide +kernel
theorem dX9_lays_31 : decode cX9_lays 31 = .ok (.aload_n 0, 1) := by decide +kernel
theorem dX9_lays_32 : decode cX9_lays 32 = .ok (.getfield 254, 3) := by decide +kernel
theorem dX9_lays_35 : decode cX9_lays 35 = .ok (.iastore, 1) := by decide +kernel
theorem dX9_lays_36 : decode cX9_lays 36 = .ok (.aload_n 0, 1) := by decide +kernel
theorem dX9_lays_37 : decode cX9_lays 37 = .ok (.getfield 61, 3) := by decide +kernel
theorem dX9_lays_40 : decode cX9_lays 40 = .ok (.iload_n 1, 1) := by decide +kernel
theorem dX9_lays_41 : decode cX9_lays 41 = .ok (.iconst 0, 1) := by decide +kernel
theorem dX9_lays_42 : decode cX9_lays 42 = .ok (.iastore, 1) := by decide +kernel
theorem dX9_lays_43 : decode cX9_lays 43 = .ok (.iconst 0, 1) := by decide +kernel
theorem dX9_lays_44 : decode cX9_lays 44 = .ok (.istore_n 2, 1) := by decide +kernel
theorem dX9_lays_45 : decode cX9_lays 45 = .ok (.iload_n 2, 1) := by decide +kernel
theorem dX9_lays_46 : decode cX9_lays 46 = .ok (.aload_n 0, 1) := by decide +kernel
theorem dX9_lays_47 : decode cX9_lays 47 = .ok (.getfield 20, 3) := by decide +kernel
theorem dX9_lays_50 : decode cX9_lays 50 = .ok (.bipush 40, 2) := by decide +kernel
theorem dX9_lays_52 : decode cX9_lays 52 = .ok (.iaload, 1) := by decide +kernel
theorem dX9_lays_53 : decode cX9_lays 53 = .ok (.if_icmp .ge 51, 3) := by decide +kernel
theorem dX9_lays_56 : decode cX9_lays 56 = .ok (.aload_n 0, 1) := by decide +kernel
theorem dX9_lays_57 : decode cX9_lays 57 = .ok (.iload_n 1, 1) := by decide +kernel
theorem dX9_lays_58 : decode cX9_lays 58 = .ok (.iload_n 2, 1) := by decide +kernel
theorem dX9_lays_59 : decode cX9_lays 59 = .ok (.invokevirtual 265, 3) := by decide +kernel
theorem dX9_lays_62 : decode cX9_lays 62 = .ok (.aload_n 0, 1) := by decide +kernel
theorem dX9_lays_63 : decode cX9_lays 63 = .ok (.getfield 61, 3) := by decide +kernel
theorem dX9_lays_66 : decode cX9_lays 66 = .ok (.iload_n 1, 1) := by decide +kernel
theorem dX9_lays_67 : decode cX9_lays 67 = .ok (.dup2, 1) := by decide +kernel
theorem dX9_lays_68 : decode cX9_lays 68 = .ok (.iaload, 1) := by decide +kernel
theorem dX9_lays_69 : decode cX9_lays 69 = .ok (.aload_n 0, 1) := by decide +kernel
theorem dX9_lays_70 : decode cX9_lays 70 = .ok (.iload_n 1, 1) := by decide +kernel
theorem dX9_lays_71 : decode cX9_lays 71 = .ok (.iconst 3, 1) := by decide +kernel
theorem dX9_lays_72 : decode cX9_lays 72 = .ok (.invokevirtual 121, 3) := by decide +kernel
theorem dX9_lays_75 : decode cX9_lays 75 = .ok (.iload_n 2, 1) := by decide +kernel
theorem dX9_lays_76 : decode cX9_lays 76 = .ok (.invokestatic 269, 3) := by decide +kernel
theorem dX9_lays_79 : decode cX9_lays 79 = .ok (.ifCond .eq 16, 3) := by decide +kernel
theorem dX9_lays_82 : decode cX9_lays 82 = .ok (.aload_n 0, 1) := by decide +kernel
theorem dX9_lays_83 : decode cX9_lays 83 = .ok (.getfield 257, 3) := by decide +kernel
theorem dX9_lays_86 : decode cX9_lays 86 = .ok (.ifCond .ne 9, 3) := by decide +kernel
theorem dX9_lays_89 : decode cX9_lays 89 = .ok (.iconst 1, 1) := by decide +kernel
theorem dX9_lays_90 : decode cX9_lays 90 = .ok (.iload_n 2, 1) := by decide +kernel
theorem dX9_lays_91 : decode cX9_lays 91 = .ok (.ishl, 1) := by decide +kernel
theorem dX9_lays_92 : decode cX9_lays 92 = .ok (.goto 4, 3) := by decide +kernel
theorem dX9_lays_95 : decode cX9_lays 95 = .ok (.iconst 0, 1) := by decide +kernel
theorem dX9_lays_96 : decode cX9_lays 96 = .ok (.ior, 1) := by decide +kernel
theorem dX9_lays_97 : decode cX9_lays 97 = .ok (.iastore, 1) := by decide +kernel
theorem dX9_lays_98 : decode cX9_lays 98 = .ok (.iinc 2 1, 3) := by decide +kernel
theorem dX9_lays_101 : decode cX9_lays 101 = .ok (.goto (-56), 3) := by decide +kernel
theorem dX9_lays_104 : decode cX9_lays 104 = .ok (.iinc 1 1, 3) := by decide +kernel
theorem dX9_lays_107 : decode cX9_lays 107 = .ok (.goto (-105), 3) := by decide +kernel
theorem dX9_lays_110 : decode cX9_lays 110 = .ok (.return_, 1) := by decide +kernel
theorem dX9_looks_0 : decode cX9_looks 0 = .ok (.aload_n 0, 1) := by decide +kernel
theorem dX9_looks_1 : decode cX9_looks 1 = .ok (.getfield 64, 3) := by decide +kernel
theorem dX9_looks_4 : decode cX9_looks 4 = .ok (.aload_n 0, 1) := by decide +kernel
theorem dX9_looks_5 : decode cX9_looks 5 = .ok (.getfield 11, 3) := by decide +kernel
theorem dX9_looks_8 : decode cX9_looks 8 = .ok (.if_icmp .ne 4, 3) := by decide +kernel
theorem dX9_looks_11 : decode cX9_looks 11 = .ok (.return_, 1) := by decide +kernel
theorem dX9_looks_12 : decode cX9_looks 12 = .ok (.aload_n 0, 1) := by decide +kernel
theorem dX9_looks_13 : decode cX9_looks 13 = .ok (.aload_n 0, 1) := by decide +kernel
theorem dX9_looks_14 : decode cX9_looks 14 = .ok (.getfield 11, 3) := by decide +kernel
theorem dX9_looks_17 : decode cX9_looks 17 = .ok (.putfield 64, 3) := by decide +kernel
theorem dX9_looks_20 : decode cX9_looks 20 = .ok (.aload_n 0, 1) := by decide +kernel
theorem dX9_looks_21 : decode cX9_looks 21 = .ok (.invokevirtual 273, 3) := by decide +kernel
theorem dX9_looks_24 : decode cX9_looks 24 = .ok (.aload_n 0, 1) := by decide +kernel
theorem dX9_looks_25 : decode cX9_looks 25 = .ok (.invokevirtual 276, 3) := by decide +kernel
theorem dX9_looks_28 : decode cX9_looks 28 = .ok (.return_, 1) := by decide +kernel
