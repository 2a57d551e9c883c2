theorem dX9_digest_185 : decode cX9_digest 185 = .ok (.imul, 1) := by decide +kernel
theorem dX9_digest_186 : decode cX9_digest 186 = .ok (.if_icmp .gt 26, 3) := by decide +kernel
theorem dX9_digest_189 : decode cX9_digest 189 = .ok (.ldc2_w 243, 3) := by decide +kernel
theorem dX9_digest_192 : decode cX9_digest 192 = .ok (.lload_n 1, 1) := by decide +kernel
theorem dX9_digest_193 : decode cX9_digest 193 = .ok (.lmul, 1) := by decide +kernel
theorem dX9_digest_194 : decode cX9_digest 194 = .ok (.aload_n 0, 1) := by decide +kernel
theorem dX9_digest_195 : decode cX9_digest 195 = .ok (.getfield 7, 3) := by decide +kernel
theorem dX9_digest_198 : decode cX9_digest 198 = .ok (.bipush 18, 2) := by decide +kernel
theorem dX9_digest_200 : decode cX9_digest 200 = .ok (.iload_n 3, 1) := by decide +kernel
theorem dX9_digest_201 : decode cX9_digest 201 = .ok (.iadd, 1) := by decide +kernel
theorem dX9_digest_202 : decode cX9_digest 202 = .ok (.iaload, 1) := by decide +kernel
theorem dX9_digest_203 : decode cX9_digest 203 = .ok (.i2l, 1) := by decide +kernel
theorem dX9_digest_204 : decode cX9_digest 204 = .ok (.ladd, 1) := by decide +kernel
theorem dX9_digest_205 : decode cX9_digest 205 = .ok (.lstore_n 1, 1) := by decide +kernel
theorem dX9_digest_206 : decode cX9_digest 206 = .ok (.iinc 3 1, 3) := by decide +kernel
theorem dX9_digest_209 : decode cX9_digest 209 = .ok (.goto (-33), 3) := by decide +kernel
theorem dX9_digest_212 : decode cX9_digest 212 = .ok (.iconst 0, 1) := by decide +kernel
theorem dX9_digest_213 : decode cX9_digest 213 = .ok (.istore_n 3, 1) := by decide +kernel
theorem dX9_digest_214 : decode cX9_digest 214 = .ok (.iload_n 3, 1) := by decide +kernel
theorem dX9_digest_215 : decode cX9_digest 215 = .ok (.iconst 3, 1) := by decide +kernel
theorem dX9_digest_216 : decode cX9_digest 216 = .ok (.aload_n 0, 1) := by decide +kernel
theorem dX9_digest_217 : decode cX9_digest 217 = .ok (.getfield 7, 3) := by decide +kernel
theorem dX9_digest_220 : decode cX9_digest 220 = .ok (.sipush 143, 3) := by decide +kernel
theorem dX9_digest_223 : decode cX9_digest 223 = .ok (.iaload, 1) := by decide +kernel
theorem dX9_digest_224 : decode cX9_digest 224 = .ok (.imul, 1) := by decide +kernel
theorem dX9_digest_225 : decode cX9_digest 225 = .ok (.if_icmp .gt 27, 3) := by decide +kernel
theorem dX9_digest_228 : decode cX9_digest 228 = .ok (.ldc2_w 243, 3) := by decide +kernel
theorem dX9_digest_231 : decode cX9_digest 231 = .ok (.lload_n 1, 1) := by decide +kernel
theorem dX9_digest_232 : decode cX9_digest 232 = .ok (.lmul, 1) := by decide +kernel
theorem dX9_digest_233 : decode cX9_digest 233 = .ok (.aload_n 0, 1) := by decide +kernel
theorem dX9_digest_234 : decode cX9_digest 234 = .ok (.getfield 7, 3) := by decide +kernel
theorem dX9_digest_237 : decode cX9_digest 237 = .ok (.sipush 143, 3) := by decide +kernel
theorem dX9_digest_240 : decode cX9_digest 240 = .ok (.iload_n 3, 1) := by decide +kernel
theorem dX9_digest_241 : decode cX9_digest 241 = .ok (.iadd, 1) := by decide +kernel
theorem dX9_digest_242 : decode cX9_digest 242 = .ok (.iaload, 1) := by decide +kernel
theorem dX9_digest_243 : decode cX9_digest 243 = .ok (.i2l, 1) := by decide +kernel
theorem dX9_digest_244 : decode cX9_digest 244 = .ok (.ladd, 1) := by decide +kernel
theorem dX9_digest_245 : decode cX9_digest 245 = .ok (.lstore_n 1, 1) := by decide +kernel
theorem dX9_digest_246 : decode cX9_digest 246 = .ok (.iinc 3 1, 3) := by decide +kernel
theorem dX9_digest_249 : decode cX9_digest 249 = .ok (.goto (-35), 3) := by decide +kernel
theorem dX9_digest_252 : decode cX9_digest 252 = .ok (.iconst 0, 1) := by decide +kernel
theorem dX9_digest_253 : decode cX9_digest 253 = .ok (.istore_n 3, 1) := by decide +kernel
theorem dX9_digest_254 : decode cX9_digest 254 = .ok (.iload_n 3, 1) := by decide +kernel
theorem dX9_digest_255 : decode cX9_digest 255 = .ok (.bipush 12, 2) := by decide +kernel
theorem dX9_digest_257 : decode cX9_digest 257 = .ok (.if_icmp .ge 27, 3) := by decide +kernel
theorem dX9_digest_260 : decode cX9_digest 260 = .ok (.ldc2_w 243, 3) := by decide +kernel
theorem dX9_digest_263 : decode cX9_digest 263 = .ok (.lload_n 1, 1) := by decide +kernel
theorem dX9_digest_264 : decode cX9_digest 264 = .ok (.lmul, 1) := by decide +kernel
theorem dX9_digest_265 : decode cX9_digest 265 = .ok (.aload_n 0, 1) := by decide +kernel
theorem dX9_digest_266 : decode cX9_digest 266 = .ok (.getfield 7, 3) := by decide +kernel
theorem dX9_digest_269 : decode cX9_digest 269 = .ok (.sipush 234, 3) := by decide +kernel
theorem dX9_digest_272 : decode cX9_digest 272 = .ok (.iload_n 3, 1) := by decide +kernel
theorem dX9_digest_273 : decode cX9_digest 273 = .ok (.iadd, 1) := by decide +kernel
theorem dX9_digest_274 : decode cX9_digest 274 = .ok (.iaload, 1) := by decide +kernel
theorem dX9_digest_275 : decode cX9_digest 275 = .ok (.i2l, 1) := by decide +kernel
theorem dX9_digest_276 : decode cX9_digest 276 = .ok (.ladd, 1) := by decide +kernel
theorem dX9_digest_277 : decode cX9_digest 277 = .ok (.lstore_n 1, 1) := by decide +kernel
theorem dX9_digest_278 : decode cX9_digest 278 = .ok (.iinc 3 1, 3) := by decide +kernel
theorem dX9_digest_281 : decode cX9_digest 281 = .ok (.goto (-27), 3) := by decide +kernel
theorem dX9_digest_284 : decode cX9_digest 284 = .ok (.lload_n 1, 1) := by decide +kernel
theorem dX9_digest_285 : decode cX9_digest 285 = .ok (.lreturn, 1) := by decide +kernel
theorem dJ9_floorMod_7cf53_0 : decode cJ9_floorMod_7cf53 0 = .ok (.iload_n 0, 1) := by decide +kernel
theorem dJ9_floorMod_7cf53_1 : decode cJ9_floorMod_7cf53 1 = .ok (.iload_n 1, 1) := by decide +kernel
theorem dJ9_floorMod_7cf53_2 : decode cJ9_floorMod_7cf53 2 = .ok (.irem, 1) := by decide +kernel
theorem dJ9_floorMod_7cf53_3 : decode cJ9_floorMod_7cf53 3 = .ok (.istore_n 2, 1) := by decide +kernel
theorem dJ9_floorMod_7cf53_4 : decode cJ9_floorMod_7cf53 4 = .ok (.iload_n 0, 1) := by decide +kernel
theorem dJ9_floorMod_7cf53_5 : decode cJ9_floorMod_7cf53 5 = .ok (.iload_n 1, 1) := by decide +kernel
theorem dJ9_floorMod_7cf53_6 : decode cJ9_floorMod_7cf53 6 = .ok (.ixor, 1) := by decide +kernel
theorem dJ9_floorMod_7cf53_7 : decode cJ9_floorMod_7cf53 7 = .ok (.ifCond .ge 11, 3) := by decide +kernel
theorem dJ9_floorMod_7cf53_10 : decode cJ9_floorMod_7cf53 10 = .ok (.iload_n 2, 1) := by decide +kernel
theorem dJ9_floorMod_7cf53_11 : decode cJ9_floorMod_7cf53 11 = .ok (.ifCond .eq 7, 3) := by decide +kernel
theorem dJ9_floorMod_7cf53_14 : decode cJ9_floorMod_7cf53 14 = .ok (.iload_n 2, 1) := by decide +kernel
theorem dJ9_floorMod_7cf53_15 : decode cJ9_floorMod_7cf53 15 = .ok (.iload_n 1, 1) := by decide +kernel
theorem dJ9_floorMod_7cf53_16 : decode cJ9_floorMod_7cf53 16 = .ok (.iadd, 1) := by decide +kernel
theorem dJ9_floorMod_7cf53_17 : decode cJ9_floorMod_7cf53 17 = .ok (.ireturn, 1) := by decide +kernel
theorem dJ9_floorMod_7cf53_18 : decode cJ9_floorMod_7cf53 18 = .ok (.iload_n 2, 1) := by decide +kernel
theorem dJ9_floorMod_7cf53_19 : decode cJ9_floorMod_7cf53 19 = .ok (.ireturn, 1) := by decide +kernel
theorem dJ9_max_7cf53_0 : decode cJ9_max_7cf53 0 = .ok (.iload_n 0, 1) := by decide +kernel
theorem dJ9_max_7cf53_1 : decode cJ9_max_7cf53 1 = .ok (.iload_n 1, 1) := by decide +kernel
theorem dJ9_max_7cf53_2 : decode cJ9_max_7cf53 2 = .ok (.if_icmp .lt 7, 3) := by decide +kernel
theorem dJ9_max_7cf53_5 : decode cJ9_max_7cf53 5 = .ok (.iload_n 0, 1) := by decide +kernel
theorem dJ9_max_7cf53_6 : decode cJ9_max_7cf53 6 = .ok (.goto 4, 3) := by decide +kernel
theorem dJ9_max_7cf53_9 : decode cJ9_max_7cf53 9 = .ok (.iload_n 1, 1) := by decide +kernel
theorem dJ9_max_7cf53_10 : decode cJ9_max_7cf53 10 = .ok (.ireturn, 1) := by decide +kernel
theorem dJ9_min_7cf53_0 : decode cJ9_min_7cf53 0 = .ok (.iload_n 0, 1) := by decide +kernel
theorem dJ9_min_7cf53_1 : decode cJ9_min_7cf53 1 = .ok (.iload_n 1, 1) := by decide +kernel
theorem dJ9_min_7cf53_2 : decode cJ9_min_7cf53 2 = .ok (.if_icmp .gt 7, 3) := by decide +kernel
theorem dJ9_min_7cf53_5 : decode cJ9_min_7cf53 5 = .ok (.iload_n 0, 1) := by decide +kernel
theorem dJ9_min_7cf53_6 : decode cJ9_min_7cf53 6 = .ok (.goto 4, 3) := by decide +kernel
theorem dJ9_min_7cf53_9 : decode cJ9_min_7cf53 9 = .ok (.iload_n 1, 1) := by decide +kernel
theorem dJ9_min_7cf53_10 : decode cJ9_min_7cf53 10 = .ok (.ireturn, 1) := by decide +kernel
theorem dJ9_min_f86c9_0 : decode cJ9_min_f86c9 0 = .ok (.lload_n 0, 1) := by decide +kernel
theorem dJ9_min_f86c9_1 : decode cJ9_min_f86c9 1 = .ok (.lload_n 2, 1) := by decide +kernel
theorem dJ9_min_f86c9_2 : decode cJ9_min_f86c9 2 = .ok (.lcmp, 1) := by decide +kernel
theorem dJ9_min_f86c9_3 : decode cJ9_min_f86c9 3 = .ok (.ifCond .gt 7, 3) := by decide +kernel
theorem dJ9_min_f86c9_6 : decode cJ9_min_f86c9 6 = .ok (.lload_n 0, 1) := by decide +kernel
theorem dJ9_min_f86c9_7 : decode cJ9_min_f86c9 7 = .ok (.goto 4, 3) := by decide +kernel
theorem dJ9_min_f86c9_10 : decode cJ9_min_f86c9 10 = .ok (.lload_n 2, 1) := by decide +kernel
theorem dJ9_min_f86c9_11 : decode cJ9_min_f86c9 11 = .ok (.lreturn, 1) := by decide +kernel
set_option maxRecDepth 20000 in
theorem ggL_setOutrigger_X8_setOutrigger : GoodIn wsL_setOutrigger wsX8_setOutrigger := goodIn_ca (goodIn_ca (goodIn_r _ [7, 8, 9, 10, 11, 6, 12, 13, 14, 15, 16, 17, 18, 19, 20, 21, 22, 23, 24, 25, 26, 27, 28, 29, 30, 31, 32, 33, 34, 35, 36, 37, 38, 39, 40, 41, 42, 43, 44, 45, 46, 47, 48, 49, 50, 51, 52, 53, 54, 55, 56, 57, 58, 59, 60, 61, 62, 63, 64, 65, 66, 67, 68, 69, 70, 71, 72, 73, 74, 75, 76, 77, 78, 79, 80, 81, 82, 83, 84, 85, 86, 87, 88, 89, 90, 91, 92, 93, 94, 95, 96, 97, 98, 99, 100, 101, 102, 103, 104, 105, 106, 107, 108, 109, 110, 111, 112, 113, 114, 115, 116, 117, 118, 119, 120, 121, 122, 123, 124, 125, 126, 127, 128, 129, 130, 131, 132, 133, 134, 135, 136, 137, 138, 139, 140, 141, 142, 143, 144, 145, 146, 147, 148, 149, 150, 151, 152, 153, 154, 155, 156, 157, 158, 159, 160, 161, 162, 163, 164, 165, 166, 167, 168, 169, 170, 171, 172, 173] (by decide +kernel) (by decide +kernel)) (goodIn_sub (fun _ h => List.mem_cons_of_mem _ (List.mem_append_left _ (List.mem_append_right _ h))) (by decide +kernel))) (goodIn_sub (fun _ h => List.mem_cons_of_mem _ (List.mem_append_right _ h)) (by decide +kernel))
set_option maxRecDepth 20000 in
theorem gL_setOutrigger_X8_setOutrigger : GoodIn wsL_setOutrigger (wsV RL 7 RX8 yX8_setOutrigger wsX8_setOutrigger) := goodIn_app (goodIn_of _ (by decide +kernel)) ggL_setOutrigger_X8_setOutrigger
theorem dL_setOutrigger_0 : decode cL_setOutrigger 0 = .ok (.aload_n 3, 1) := by decide +kernel
theorem dL_setOutrigger_1 : decode cL_setOutrigger 1 = .ok (.iconst 0, 1) := by decide +kernel
theorem dL_setOutrigger_2 : decode cL_setOutrigger 2 = .ok (.aload_n 0, 1) := by decide +kernel
theorem dL_setOutrigger_3 : decode cL_setOutrigger 3 = .ok (.iload_n 1, 1) := by decide +kernel
theorem dL_setOutrigger_4 : decode cL_setOutrigger 4 = .ok (.iload_n 2, 1) := by decide +kernel
theorem dL_setOutrigger_5 : decode cL_setOutrigger 5 = .ok (.invokevirtual 7, 3) := by decide +kernel
theorem dL_setOutrigger_8 : decode cL_setOutrigger 8 = .ok (.i2l, 1) := by decide +kernel
theorem dL_setOutrigger_9 : decode cL_setOutrigger 9 = .ok (.lastore, 1) := by decide +kernel
theorem dL_setOutrigger_10 : decode cL_setOutrigger 10 = .ok (.goto 11, 3) := by decide +kernel
theorem dL_setOutrigger_13 : decode cL_setOutrigger 13 = .ok (.astore 4, 2) := by decide +kernel
theorem dL_setOutrigger_15 : decode cL_setOutrigger 15 = .ok (.iconst 1, 1) := by decide +kernel
theorem dL_setOutrigger_16 : decode cL_setOutrigger 16 = .ok (.ireturn, 1) := by decide +kernel
theorem dL_setOutrigger_17 : decode cL_setOutrigger 17 = .ok (.astore 4, 2) := by decide +kernel
theorem dL_setOutrigger_19 : decode cL_setOutrigger 19 = .ok (.iconst 2, 1) := by decide +kernel
theorem dL_setOutrigger_20 : decode cL_setOutrigger 20 = .ok (.ireturn, 1) := by decide +kernel
theorem dL_setOutrigger_21 : decode cL_setOutrigger 21 = .ok (.iconst 0, 1) := by decide +kernel
theorem dL_setOutrigger_22 : decode cL_setOutrigger 22 = .ok (.ireturn, 1) := by decide +kernel
set_option maxRecDepth 20000 in
theorem ggL_setCapacity_X8_setCapacity : GoodIn wsL_setCapacity wsX8_setCapacity := goodIn_ca (goodIn_ca (goodIn_r _ [7, 8, 9, 10, 11, 12, 6, 13, 14, 15, 16, 17, 18, 19, 20, 21, 22, 23, 24, 25, 26, 27, 28, 29, 30, 31, 32, 33, 34, 35, 36, 37, 38, 39, 40, 41, 42, 43, 44, 45, 46, 47, 48, 49, 50, 51, 52, 53, 54, 55, 56, 57, 58, 59, 60, 61, 62, 63, 64, 65, 66, 67, 68, 69, 70, 71, 72, 73, 74, 75, 76, 77, 78, 79, 80, 81, 82, 83, 84, 85, 86, 87, 88, 89, 90, 91, 92, 93, 94, 95, 96, 97, 98, 99, 100, 101, 102, 103, 104, 105, 106, 107, 108, 109, 110, 111, 112, 113, 114, 115, 116, 117, 118, 119, 120, 121, 122, 123, 124, 125, 126, 127, 128, 129, 130, 131, 132, 133, 134, 135, 136, 137, 138, 139, 140, 141, 142, 143, 144, 145, 146, 147, 148, 149, 150, 151, 152, 153, 154, 155, 156, 157, 158, 159, 160, 161, 162, 163, 164, 165, 166, 167, 168, 169, 170, 171, 172, 173, 174, 175, 176, 177, 178, 179, 180, 181] (by decide +kernel) (by decide +kernel)) (goodIn_sub (fun _ h => List.mem_cons_of_mem _ (List.mem_append_left _ (List.mem_append_right _ h))) (by decide +kernel))) (goodIn_sub (fun _ h => List.mem_cons_of_mem _ (List.mem_append_right _ h)) (by decide +kernel))
set_option maxRecDepth 20000 in
theorem gL_setCapacity_X8_setCapacity : GoodIn wsL_setCapacity (wsV RL 17 RX8 yX8_setCapacity wsX8_setCapacity) := goodIn_app (goodIn_of _ (by decide +kernel)) ggL_setCapacity_X8_setCapacity
theorem dL_setCapacity_0 : decode cL_setCapacity 0 = .ok (.aload 5, 2) := by decide +kernel
theorem dL_setCapacity_2 : decode cL_setCapacity 2 = .ok (.iconst 0, 1) := by decide +kernel
theorem dL_setCapacity_3 : decode cL_setCapacity 3 = .ok (.aload_n 0, 1) := by decide +kernel
theorem dL_setCapacity_4 : decode cL_setCapacity 4 = .ok (.iload_n 1, 1) := by decide +kernel
theorem dL_setCapacity_5 : decode cL_setCapacity 5 = .ok (.iload_n 2, 1) := by decide +kernel
theorem dL_setCapacity_6 : decode cL_setCapacity 6 = .ok (.iload_n 3, 1) := by decide +kernel
theorem dL_setCapacity_7 : decode cL_setCapacity 7 = .ok (.iload 4, 2) := by decide +kernel
theorem dL_setCapacity_9 : decode cL_setCapacity 9 = .ok (.invokevirtual 17, 3) := by decide +kernel
theorem dL_setCapacity_12 : decode cL_setCapacity 12 = .ok (.i2l, 1) := by decide +kernel
theorem dL_setCapacity_13 : decode cL_setCapacity 13 = .ok (.lastore, 1) := by decide +kernel
theorem dL_setCapacity_14 : decode cL_setCapacity 14 = .ok (.goto 11, 3) := by decide +kernel
theorem dL_setCapacity_17 : decode cL_setCapacity 17 = .ok (.astore 6, 2) := by decide +kernel
theorem dL_setCapacity_19 : decode cL_setCapacity 19 = .ok (.iconst 1, 1) := by decide +kernel
theorem dL_setCapacity_20 : decode cL_setCapacity 20 = .ok (.ireturn, 1) := by decide +kernel
theorem dL_setCapacity_21 : decode cL_setCapacity 21 = .ok (.astore 6, 2) := by decide +kernel
theorem dL_setCapacity_23 : decode cL_setCapacity 23 = .ok (.iconst 2, 1) := by decide +kernel
theorem dL_setCapacity_24 : decode cL_setCapacity 24 = .ok (.ireturn, 1) := by decide +kernel
theorem dL_setCapacity_25 : decode cL_setCapacity 25 = .ok (.iconst 0, 1) := by decide +kernel
theorem dL_setCapacity_26 : decode cL_setCapacity 26 = .ok (.ireturn, 1) := by decide +kernel
set_option maxRecDepth 20000 in
theorem ggL_fillTable_X8_fillTable : GoodIn wsL_fillTable wsX8_fillTable := goodIn_ca (goodIn_ca (goodIn_r _ [7, 8, 9, 10, 11, 12, 6, 13, 14, 15, 16, 17, 18, 19, 20, 21, 22, 23, 24, 25, 26, 27, 28, 29, 30, 31, 32, 33, 34, 35, 36, 37, 38, 39, 40, 41, 42, 43, 44, 45, 46, 47, 48, 49, 50, 51, 52, 53, 54, 55, 56, 57, 58, 59, 60, 61, 62, 63, 64, 65, 66, 67, 68, 69, 70, 71, 72, 73, 74, 75, 76, 77, 78, 79, 80, 81, 82, 83, 84, 85, 86, 87, 88, 89, 90, 91, 92, 93, 94, 95, 96, 97, 98, 99, 100, 101, 102, 103, 104, 105, 106, 107, 108, 109, 110, 111, 112, 113, 114, 115, 116, 117, 118, 119, 120, 121, 122, 123, 124, 125, 126, 127, 128, 129, 130, 131, 132, 133, 134, 135, 136, 137, 138, 139, 140, 141, 142, 143, 144, 145, 146, 147, 148, 149, 150, 151, 152, 153, 154, 155, 156, 157, 158, 159, 160, 161, 162, 163, 164, 165, 166, 167, 168, 169, 170, 171, 172, 173, 174, 175, 176, 177, 178, 179, 180, 181, 182, 183, 184, 185, 186, 187, 188, 189] (by decide +kernel) (by decide +kernel)) (goodIn_sub (fun _ h => List.mem_cons_of_mem _ (List.mem_append_left _ (List.mem_append_right _ h))) (by decide +kernel))) (goodIn_sub (fun _ h => List.mem_cons_of_mem _ (List.mem_append_right _ h)) (by decide +kernel))
set_option maxRecDepth 20000 in
theorem gL_fillTable_X8_fillTable : GoodIn wsL_fillTable (wsV RL 21 RX8 yX8_fillTable wsX8_fillTable) := goodIn_app (goodIn_of _ (by decide +kernel)) ggL_fillTable_X8_fillTable
theorem dL_fillTable_0 : decode cL_fillTable 0 = .ok (.aload_n 3, 1) := by decide +kernel
theorem dL_fillTable_1 : decode cL_fillTable 1 = .ok (.iconst 0, 1) := by decide +kernel
theorem dL_fillTable_2 : decode cL_fillTable 2 = .ok (.aload_n 0, 1) := by decide +kernel
theorem dL_fillTable_3 : decode cL_fillTable 3 = .ok (.iload_n 1, 1) := by decide +kernel
theorem dL_fillTable_4 : decode cL_fillTable 4 = .ok (.iload_n 2, 1) := by decide +kernel
theorem dL_fillTable_5 : decode cL_fillTable 5 = .ok (.invokevirtual 21, 3) := by decide +kernel
theorem dL_fillTable_8 : decode cL_fillTable 8 = .ok (.i2l, 1) := by decide +kernel
theorem dL_fillTable_9 : decode cL_fillTable 9 = .ok (.lastore, 1) := by decide +kernel
theorem dL_fillTable_10 : decode cL_fillTable 10 = .ok (.goto 11, 3) := by decide +kernel
theorem dL_fillTable_13 : decode cL_fillTable 13 = .ok (.astore 4, 2) := by decide +kernel
theorem dL_fillTable_15 : decode cL_fillTable 15 = .ok (.iconst 1, 1) := by decide +kernel
theorem dL_fillTable_16 : decode cL_fillTable 16 = .ok (.ireturn, 1) := by decide +kernel
theorem dL_fillTable_17 : decode cL_fillTable 17 = .ok (.astore 4, 2) := by decide +kernel
theorem dL_fillTable_19 : decode cL_fillTable 19 = .ok (.iconst 2, 1) := by decide +kernel
theorem dL_fillTable_20 : decode cL_fillTable 20 = .ok (.ireturn, 1) := by decide +kernel
theorem dL_fillTable_21 : decode cL_fillTable 21 = .ok (.iconst 0, 1) := by decide +kernel
theorem dL_fillTable_22 : decode cL_fillTable 22 = .ok (.ireturn, 1) := by decide +kernel
set_option maxRecDepth 20000 in
theorem ggL_capacity_X8_capacity : GoodIn wsL_capacity wsX8_capacity := goodIn_ca (goodIn_r _ [6, 7, 8, 9, 10, 5, 11, 12, 13, 14, 15, 16, 17, 18, 19, 20, 21, 22, 23, 24, 25, 26, 27, 28, 29, 30, 31, 32, 33, 34, 35, 36, 37, 38, 39, 40, 41, 42, 43, 44] (by decide +kernel) (by decide +kernel)) (goodIn_sub (fun _ h => List.mem_cons_of_mem _ (List.mem_append_right _ h)) (by decide +kernel))
set_option maxRecDepth 20000 in
theorem gL_capacity_X8_capacity : GoodIn wsL_capacity (wsV RL 24 RX8 yX8_capacity wsX8_capacity) := goodIn_app (goodIn_of _ (by decide +kernel)) ggL_capacity_X8_capacity
theorem dL_capacity_0 : decode cL_capacity 0 = .ok (.aload 4, 2) := by decide +kernel
theorem dL_capacity_2 : decode cL_capacity 2 = .ok (.iconst 0, 1) := by decide +kernel
theorem dL_capacity_3 : decode cL_capacity 3 = .ok (.aload_n 0, 1) := by decide +kernel
theorem dL_capacity_4 : decode cL_capacity 4 = .ok (.iload_n 1, 1) := by decide +kernel
theorem dL_capacity_5 : decode cL_capacity 5 = .ok (.iload_n 2, 1) := by decide +kernel
theorem dL_capacity_6 : decode cL_capacity 6 = .ok (.iload_n 3, 1) := by decide +kernel
theorem dL_capacity_7 : decode cL_capacity 7 = .ok (.invokevirtual 24, 3) := by decide +kernel
theorem dL_capacity_10 : decode cL_capacity 10 = .ok (.i2l, 1) := by decide +kernel
theorem dL_capacity_11 : decode cL_capacity 11 = .ok (.lastore, 1) := by decide +kernel
theorem dL_capacity_12 : decode cL_capacity 12 = .ok (.goto 7, 3) := by decide +kernel
theorem dL_capacity_15 : decode cL_capacity 15 = .ok (.astore 5, 2) := by decide +kernel
theorem dL_capacity_17 : decode cL_capacity 17 = .ok (.iconst 1, 1) := by decide +kernel
theorem dL_capacity_18 : decode cL_capacity 18 = .ok (.ireturn, 1) := by decide +kernel
theorem dL_capacity_19 : decode cL_capacity 19 = .ok (.iconst 0, 1) := by decide +kernel
theorem dL_capacity_20 : decode cL_capacity 20 = .ok (.ireturn, 1) := by decide +kernel
set_option maxRecDepth 20000 in
theorem ggL_addZone_X8_addZone : GoodIn wsL_addZone wsX8_addZone := goodIn_ca (goodIn_ca (goodIn_r _ [7, 8, 9, 10, 11, 12, 6, 13, 14, 15, 16, 17, 18, 19, 20, 21, 22, 23, 24, 25, 26, 27, 28, 29, 30, 31, 32, 33, 34, 35, 36, 37, 38, 39, 40, 41, 42, 43, 44, 45, 46, 47, 48, 49, 50, 51, 52, 53, 54, 55, 56, 57, 58, 59, 60, 61, 62, 63, 64, 65, 66, 67, 68, 69, 70, 71, 72, 73, 74, 75, 76, 77, 78, 79, 80, 81, 82, 83, 84, 85, 86, 87, 88, 89, 90, 91, 92, 93, 94, 95, 96, 97, 98, 99, 100, 101, 102, 103, 104, 105, 106, 107, 108, 109, 110, 111, 112, 113, 114, 115, 116, 117, 118, 119, 120, 121, 122, 123, 124, 125, 126, 127, 128, 129, 130, 131, 132, 133, 134, 135, 136, 137, 138, 139, 140, 141, 142, 143, 144, 145, 146, 147, 148, 149, 150, 151, 152, 153, 154, 155, 156, 157, 158, 159, 160, 161, 162, 163, 164, 165, 166, 167, 168, 169, 170, 171, 172, 173, 174, 175, 176, 177] (by decide +kernel) (by decide +kernel)) (goodIn_sub (fun _ h => List.mem_cons_of_mem _ (List.mem_append_left _ (List.mem_append_right _ h))) (by decide +kernel))) (goodIn_sub (fun _ h => List.mem_cons_of_mem _ (List.mem_append_right _ h)) (by decide +kernel))
set_option maxRecDepth 20000 in
theorem gL_addZone_X8_addZone : GoodIn wsL_addZone (wsV RL 28 RX8 yX8_addZone wsX8_addZone) := goodIn_app (goodIn_of _ (by decide +kernel)) ggL_addZone_X8_addZone
theorem dL_addZone_0 : decode cL_addZone 0 = .ok (.aload 5, 2) := by decide +kernel
theorem dL_addZone_2 : decode cL_addZone 2 = .ok (.iconst 0, 1) := by decide +kernel
theorem dL_addZone_3 : decode cL_addZone 3 = .ok (.aload_n 0, 1) := by decide +kernel
theorem dL_addZone_4 : decode cL_addZone 4 = .ok (.iload_n 1, 1) := by decide +kernel
theorem dL_addZone_5 : decode cL_addZone 5 = .ok (.iload_n 2, 1) := by decide +kernel
theorem dL_addZone_6 : decode cL_addZone 6 = .ok (.iload_n 3, 1) := by decide +kernel
theorem dL_addZone_7 : decode cL_addZone 7 = .ok (.iload 4, 2) := by decide +kernel
theorem dL_addZone_9 : decode cL_addZone 9 = .ok (.invokevirtual 28, 3) := by decide +kernel
theorem dL_addZone_12 : decode cL_addZone 12 = .ok (.i2l, 1) := by decide +kernel
theorem dL_addZone_13 : decode cL_addZone 13 = .ok (.lastore, 1) := by decide +kernel
theorem dL_addZone_14 : decode cL_addZone 14 = .ok (.goto 11, 3) := by decide +kernel
theorem dL_addZone_17 : decode cL_addZone 17 = .ok (.astore 6, 2) := by decide +kernel
theorem dL_addZone_19 : decode cL_addZone 19 = .ok (.iconst 1, 1) := by decide +kernel
theorem dL_addZone_20 : decode cL_addZone 20 = .ok (.ireturn, 1) := by decide +kernel
theorem dL_addZone_21 : decode cL_addZone 21 = .ok (.astore 6, 2) := by decide +kernel
theorem dL_addZone_23 : decode cL_addZone 23 = .ok (.iconst 2, 1) := by decide +kernel
theorem dL_addZone_24 : decode cL_addZone 24 = .ok (.ireturn, 1) := by decide +kernel
theorem dL_addZone_25 : decode cL_addZone 25 = .ok (.iconst 0, 1) := by decide +kernel
theorem dL_addZone_26 : decode cL_addZone 26 = .ok (.ireturn, 1) := by decide +kernel
set_option maxRecDepth 20000 in
theorem ggL_removeZone_X8_removeZone : GoodIn wsL_removeZone wsX8_removeZone := goodIn_ca (goodIn_r _ [6, 7, 8, 9, 10, 11, 5, 12, 13, 14, 15, 16, 17, 18, 19, 20, 21, 22, 23, 24, 25, 26, 27, 28, 29, 30, 31, 32, 33, 34, 35, 36, 37, 38, 39, 40, 41, 42, 43, 44, 45, 46, 47, 48, 49, 50, 51, 52, 53, 54, 55, 56, 57, 58, 59, 60, 61, 62, 63, 64, 65, 66, 67, 68, 69, 70, 71, 72, 73, 74, 75, 76, 77, 78, 79, 80, 81, 82, 83, 84, 85, 86, 87, 88, 89, 90, 91, 92, 93, 94, 95, 96, 97, 98, 99, 100, 101, 102, 103, 104, 105, 106, 107, 108, 109, 110, 111, 112, 113, 114, 115, 116, 117, 118, 119, 120, 121, 122, 123, 124, 125, 126, 127, 128, 129, 130, 131, 132, 133, 134, 135, 136, 137, 138, 139, 140, 141, 142, 143, 144, 145, 146, 147, 148, 149, 150, 151, 152, 153, 154, 155, 156, 157, 158, 159, 160, 161, 162, 163, 164, 165, 166, 167, 168] (by decide +kernel) (by decide +kernel)) (goodIn_sub (fun _ h => List.mem_cons_of_mem _ (List.mem_append_right _ h)) (by decide +kernel))
set_option maxRecDepth 20000 in
theorem gL_removeZone_X8_removeZone : GoodIn wsL_removeZone (wsV RL 33 RX8 yX8_removeZone wsX8_removeZone) := goodIn_app (goodIn_of _ (by decide +kernel)) ggL_removeZone_X8_removeZone
theorem dL_removeZone_0 : decode cL_removeZone 0 = .ok (.aload_n 2, 1) := by decide +kernel
theorem dL_removeZone_1 : decode cL_removeZone 1 = .ok (.iconst 0, 1) := by decide +kernel
theorem dL_removeZone_2 : decode cL_removeZone 2 = .ok (.aload_n 0, 1) := by decide +kernel
theorem dL_removeZone_3 : decode cL_removeZone 3 = .ok (.iload_n 1, 1) := by decide +kernel
theorem dL_removeZone_4 : decode cL_removeZone 4 = .ok (.invokevirtual 33, 3) := by decide +kernel
theorem dL_removeZone_7 : decode cL_removeZone 7 = .ok (.i2l, 1) := by decide +kernel
theorem dL_removeZone_8 : decode cL_removeZone 8 = .ok (.lastore, 1) := by decide +kernel
theorem dL_removeZone_9 : decode cL_removeZone 9 = .ok (.goto 6, 3) := by decide +kernel
theorem dL_removeZone_12 : decode cL_removeZone 12 = .ok (.astore_n 3, 1) := by decide +kernel
theorem dL_removeZone_13 : decode cL_removeZone 13 = .ok (.iconst 1, 1) := by decide +kernel
theorem dL_removeZone_14 : decode cL_removeZone 14 = .ok (.ireturn, 1) := by decide +kernel
theorem dL_removeZone_15 : decode cL_removeZone 15 = .ok (.iconst 0, 1) := by decide +kernel
theorem dL_removeZone_16 : decode cL_removeZone 16 = .ok (.ireturn, 1) := by decide +kernel
set_option maxRecDepth 20000 in
theorem ggL_setBoom_X8_setBoom : GoodIn wsL_setBoom wsX8_setBoom := goodIn_ca (goodIn_ca (goodIn_r _ [7, 8, 9, 10, 11, 12, 13, 6, 14, 15, 16, 17, 18, 19, 20, 21, 22, 23, 24, 25, 26, 27, 28, 29, 30, 31, 32, 33, 34, 35, 36, 37, 38, 39, 40, 41, 42, 43, 44, 45, 46, 47, 48, 49, 50, 51, 52, 53, 54, 55, 56, 57, 58, 59, 60, 61, 62, 63, 64, 65, 66, 67, 68, 69, 70, 71, 72, 73, 74, 75, 76, 77, 78, 79, 80, 81, 82, 83, 84, 85, 86, 87, 88, 89, 90, 91, 92, 93, 94, 95, 96, 97, 98, 99, 100, 101, 102, 103, 104, 105, 106, 107, 108, 109, 110, 111, 112, 113, 114, 115, 116, 117, 118, 119, 120, 121, 122, 123, 124, 125, 126, 127, 128, 129, 130, 131, 132, 133, 134, 135, 136, 137, 138, 139, 140, 141, 142, 143, 144, 145, 146, 147, 148, 149, 150, 151, 152, 153, 154, 155, 156, 157, 158, 159, 160, 161, 162, 163, 164, 165, 166, 167, 168, 169, 170, 171, 172, 173, 174, 175, 176, 177, 178, 179, 180, 181, 182, 183, 184, 185, 186, 187, 188, 189, 190, 191, 192, 193, 194, 195, 196, 197, 198, 199, 200, 201, 202, 203, 204] (by decide +kernel) (by decide +kernel)) (goodIn_sub (fun _ h => List.mem_cons_of_mem _ (List.mem_append_left _ (List.mem_append_right _ h))) (by decide +kernel))) (goodIn_sub (fun _ h => List.mem_cons_of_mem _ (List.mem_append_right _ h)) (by decide +kernel))
set_option maxRecDepth 20000 in
theorem gL_setBoom_X8_setBoom : GoodIn wsL_setBoom (wsV RL 37 RX8 yX8_setBoom wsX8_setBoom) := goodIn_app (goodIn_of _ (by decide +kernel)) ggL_setBoom_X8_setBoom
theorem dL_setBoom_0 : decode cL_setBoom 0 = .ok (.aload 4, 2) := by decide +kernel
theorem dL_setBoom_2 : decode cL_setBoom 2 = .ok (.iconst 0, 1) := by decide +kernel
theorem dL_setBoom_3 : decode cL_setBoom 3 = .ok (.aload_n 0, 1) := by decide +kernel
theorem dL_setBoom_4 : decode cL_setBoom 4 = .ok (.iload_n 1, 1) := by decide +kernel
theorem dL_setBoom_5 : decode cL_setBoom 5 = .ok (.iload_n 2, 1) := by decide +kernel
theorem dL_setBoom_6 : decode cL_setBoom 6 = .ok (.iload_n 3, 1) := by decide +kernel
theorem dL_setBoom_7 : decode cL_setBoom 7 = .ok (.invokevirtual 37, 3) := by decide +kernel
theorem dL_setBoom_10 : decode cL_setBoom 10 = .ok (.i2l, 1) := by decide +kernel
theorem dL_setBoom_11 : decode cL_setBoom 11 = .ok (.lastore, 1) := by decide +kernel
theorem dL_setBoom_12 : decode cL_setBoom 12 = .ok (.goto 11, 3) := by decide +kernel
theorem dL_setBoom_15 : decode cL_setBoom 15 = .ok (.astore 5, 2) := by decide +kernel
theorem dL_setBoom_17 : decode cL_setBoom 17 = .ok (.iconst 1, 1) := by decide +kernel
theorem dL_setBoom_18 : decode cL_setBoom 18 = .ok (.ireturn, 1) := by decide +kernel
theorem dL_setBoom_19 : decode cL_setBoom 19 = .ok (.astore 5, 2) := by decide +kernel
theorem dL_setBoom_21 : decode cL_setBoom 21 = .ok (.iconst 2, 1) := by decide +kernel
theorem dL_setBoom_22 : decode cL_setBoom 22 = .ok (.ireturn, 1) := by decide +kernel
theorem dL_setBoom_23 : decode cL_setBoom 23 = .ok (.iconst 0, 1) := by decide +kernel
theorem dL_setBoom_24 : decode cL_setBoom 24 = .ok (.ireturn, 1) := by decide +kernel
set_option maxRecDepth 20000 in
theorem ggL_wind_X8_wind : GoodIn wsL_wind wsX8_wind := goodIn_ca (goodIn_r _ [6, 7, 8, 9, 10, 5, 11, 12, 13, 14, 15, 16, 17, 18, 19, 20, 21, 22, 23, 24, 25, 26, 27, 28, 29, 30, 31, 32, 33, 34, 35, 36, 37, 38, 39, 40, 41, 42, 43, 44, 45, 46, 47, 48, 49, 50, 51, 52, 53, 54, 55, 56, 57, 58, 59, 60, 61, 62, 63, 64, 65, 66, 67, 68, 69, 70, 71, 72, 73, 74, 75, 76, 77, 78, 79, 80, 81, 82, 83, 84, 85, 86, 87, 88, 89, 90, 91, 92, 93, 94, 95, 96, 97, 98, 99, 100, 101, 102, 103, 104, 105, 106, 107, 108, 109, 110, 111, 112, 113, 114, 115, 116, 117, 118, 119, 120, 121, 122, 123, 124, 125, 126, 127, 128, 129, 130, 131, 132, 133, 134, 135, 136, 137, 138, 139, 140, 141, 142, 143, 144, 145, 146, 147, 148, 149, 150, 151, 152, 153, 154, 155, 156, 157, 158, 159, 160, 161, 162, 163, 164, 165, 166, 167, 168, 169, 170, 171] (by decide +kernel) (by decide +kernel)) (goodIn_sub (fun _ h => List.mem_cons_of_mem _ (List.mem_append_right _ h)) (by decide +kernel))
set_option maxRecDepth 20000 in
theorem gL_wind_X8_wind : GoodIn wsL_wind (wsV RL 40 RX8 yX8_wind wsX8_wind) := goodIn_app (goodIn_of _ (by decide +kernel)) ggL_wind_X8_wind
theorem dL_wind_0 : decode cL_wind 0 = .ok (.aload_n 2, 1) := by decide +kernel
theorem dL_wind_1 : decode cL_wind 1 = .ok (.iconst 0, 1) := by decide +kernel
theorem dL_wind_2 : decode cL_wind 2 = .ok (.aload_n 0, 1) := by decide +kernel
theorem dL_wind_3 : decode cL_wind 3 = .ok (.iload_n 1, 1) := by decide +kernel
theorem dL_wind_4 : decode cL_wind 4 = .ok (.invokevirtual 40, 3) := by decide +kernel
theorem dL_wind_7 : decode cL_wind 7 = .ok (.i2l, 1) := by decide +kernel
theorem dL_wind_8 : decode cL_wind 8 = .ok (.lastore, 1) := by decide +kernel
theorem dL_wind_9 : decode cL_wind 9 = .ok (.goto 6, 3) := by decide +kernel
theorem dL_wind_12 : decode cL_wind 12 = .ok (.astore_n 3, 1) := by decide +kernel
theorem dL_wind_13 : decode cL_wind 13 = .ok (.iconst 1, 1) := by decide +kernel
theorem dL_wind_14 : decode cL_wind 14 = .ok (.ireturn, 1) := by decide +kernel
theorem dL_wind_15 : decode cL_wind 15 = .ok (.iconst 0, 1) := by decide +kernel
theorem dL_wind_16 : decode cL_wind 16 = .ok (.ireturn, 1) := by decide +kernel
set_option maxRecDepth 20000 in
theorem ggL_attach_X8_attach : GoodIn wsL_attach wsX8_attach := goodIn_ca (goodIn_ca (goodIn_r _ [7, 8, 9, 10, 11, 12, 13, 14, 15, 6, 16, 17, 18, 19, 20, 21, 22, 23, 24, 25, 26, 27, 28, 29, 30, 31, 32, 33, 34, 35, 36, 37, 38, 39, 40, 41, 42, 43, 44, 45, 46, 47, 48, 49, 50, 51, 52, 53, 54, 55, 56, 57, 58, 59, 60, 61, 62, 63, 64, 65, 66, 67, 68, 69, 70, 71, 72, 73, 74, 75, 76, 77, 78, 79, 80, 81, 82, 83, 84, 85, 86, 87, 88, 89, 90, 91, 92, 93, 94, 95, 96, 97, 98, 99, 100, 101, 102, 103, 104, 105, 106, 107, 108, 109, 110, 111, 112, 113, 114, 115, 116, 117, 118, 119, 120, 121, 122, 123, 124, 125, 126, 127, 128, 129, 130, 131, 132, 133, 134, 135, 136, 137, 138, 139, 140, 141, 142, 143, 144, 145, 146, 147, 148, 149, 150, 151, 152, 153, 154, 155, 156, 157, 158, 159, 160, 161, 162, 163, 164, 165, 166, 167, 168, 169, 170, 171, 172, 173] (by decide +kernel) (by decide +kernel)) (goodIn_sub (fun _ h => List.mem_cons_of_mem _ (List.mem_append_left _ (List.mem_append_right _ h))) (by decide +kernel))) (goodIn_sub (fun _ h => List.mem_cons_of_mem _ (List.mem_append_right _ h)) (by decide +kernel))
set_option maxRecDepth 20000 in
theorem gL_attach_X8_attach : GoodIn wsL_attach (wsV RL 43 RX8 yX8_attach wsX8_attach) := goodIn_app (goodIn_of _ (by decide +kernel)) ggL_attach_X8_attach
theorem dL_attach_0 : decode cL_attach 0 = .ok (.aload_n 2, 1) := by decide +kernel
theorem dL_attach_1 : decode cL_attach 1 = .ok (.iconst 0, 1) := by decide +kernel
theorem dL_attach_2 : decode cL_attach 2 = .ok (.aload_n 0, 1) := by decide +kernel
theorem dL_attach_3 : decode cL_attach 3 = .ok (.iload_n 1, 1) := by decide +kernel
theorem dL_attach_4 : decode cL_attach 4 = .ok (.invokevirtual 43, 3) := by decide +kernel
theorem dL_attach_7 : decode cL_attach 7 = .ok (.i2l, 1) := by decide +kernel
theorem dL_attach_8 : decode cL_attach 8 = .ok (.lastore, 1) := by decide +kernel
theorem dL_attach_9 : decode cL_attach 9 = .ok (.goto 9, 3) := by decide +kernel
theorem dL_attach_12 : decode cL_attach 12 = .ok (.astore_n 3, 1) := by decide +kernel
theorem dL_attach_13 : decode cL_attach 13 = .ok (.iconst 1, 1) := by decide +kernel
theorem dL_attach_14 : decode cL_attach 14 = .ok (.ireturn, 1) := by decide +kernel
theorem dL_attach_15 : decode cL_attach 15 = .ok (.astore_n 3, 1) := by decide +kernel
theorem dL_attach_16 : decode cL_attach 16 = .ok (.iconst 2, 1) := by decide +kernel
theorem dL_attach_17 : decode cL_attach 17 = .ok (.ireturn, 1) := by decide +kernel
theorem dL_attach_18 : decode cL_attach 18 = .ok (.iconst 0, 1) := by decide +kernel
theorem dL_attach_19 : decode cL_attach 19 = .ok (.ireturn, 1) := by decide +kernel
set_option maxRecDepth 20000 in
theorem ggL_setTare_X8_setTare : GoodIn wsL_setTare wsX8_setTare := goodIn_ca (goodIn_r _ [6, 7, 8, 9, 10, 11, 5, 12, 13, 14, 15, 16, 17, 18, 19, 20, 21, 22, 23, 24, 25, 26, 27, 28, 29, 30, 31, 32, 33, 34, 35, 36, 37, 38, 39, 40, 41, 42, 43, 44, 45, 46, 47, 48, 49, 50, 51, 52, 53, 54, 55, 56, 57, 58, 59, 60, 61, 62, 63, 64, 65, 66, 67, 68, 69, 70, 71, 72, 73, 74, 75, 76, 77, 78, 79, 80, 81, 82, 83, 84, 85, 86, 87, 88, 89, 90, 91, 92, 93, 94, 95, 96, 97, 98, 99, 100, 101, 102, 103, 104, 105, 106, 107, 108, 109, 110, 111, 112, 113, 114, 115, 116, 117, 118, 119, 120, 121, 122, 123, 124, 125, 126, 127, 128, 129, 130, 131, 132, 133, 134, 135, 136, 137, 138, 139, 140, 141, 142, 143, 144, 145, 146, 147, 148, 149, 150, 151, 152, 153, 154, 155, 156, 157, 158, 159, 160, 161, 162, 163, 164] (by decide +kernel) (by decide +kernel)) (goodIn_sub (fun _ h => List.mem_cons_of_mem _ (List.mem_append_right _ h)) (by decide +kernel))
set_option maxRecDepth 20000 in
theorem gL_setTare_X8_setTare : GoodIn wsL_setTare (wsV RL 46 RX8 yX8_setTare wsX8_setTare) := goodIn_app (goodIn_of _ (by decide +kernel)) ggL_setTare_X8_setTare
theorem dL_setTare_0 : decode cL_setTare 0 = .ok (.aload_n 2, 1) := by decide +kernel
theorem dL_setTare_1 : decode cL_setTare 1 = .ok (.iconst 0, 1) := by decide +kernel
theorem dL_setTare_2 : decode cL_setTare 2 = .ok (.aload_n 0, 1) := by decide +kernel
theorem dL_setTare_3 : decode cL_setTare 3 = .ok (.iload_n 1, 1) := by decide +kernel
theorem dL_setTare_4 : decode cL_setTare 4 = .ok (.invokevirtual 46, 3) := by decide +kernel
theorem dL_setTare_7 : decode cL_setTare 7 = .ok (.i2l, 1) := by decide +kernel
theorem dL_setTare_8 : decode cL_setTare 8 = .ok (.lastore, 1) := by decide +kernel
theorem dL_setTare_9 : decode cL_setTare 9 = .ok (.goto 6, 3) := by decide +kernel
theorem dL_setTare_12 : decode cL_setTare 12 = .ok (.astore_n 3, 1) := by decide +kernel
theorem dL_setTare_13 : decode cL_setTare 13 = .ok (.iconst 1, 1) := by decide +kernel
theorem dL_setTare_14 : decode cL_setTare 14 = .ok (.ireturn, 1) := by decide +kernel
theorem dL_setTare_15 : decode cL_setTare 15 = .ok (.iconst 0, 1) := by decide +kernel
theorem dL_setTare_16 : decode cL_setTare 16 = .ok (.ireturn, 1) := by decide +kernel
set_option maxRecDepth 20000 in
theorem ggL_bypass_X8_bypass : GoodIn wsL_bypass wsX8_bypass := goodIn_ca (goodIn_r _ [6, 7, 8, 9, 10, 5, 11, 12, 13, 14, 15, 16, 17, 18, 19, 20, 21, 22, 23, 24, 25, 26, 27, 28, 29, 30, 31, 32, 33, 34, 35, 36, 37, 38, 39, 40, 41, 42, 43, 44, 45, 46, 47, 48, 49, 50, 51, 52, 53, 54, 55, 56, 57, 58, 59, 60, 61, 62, 63, 64, 65, 66, 67, 68, 69, 70, 71, 72, 73, 74, 75, 76, 77, 78, 79, 80, 81, 82, 83, 84, 85, 86, 87, 88, 89, 90, 91, 92, 93, 94, 95, 96, 97, 98, 99, 100, 101, 102, 103, 104, 105, 106, 107, 108, 109, 110, 111, 112, 113, 114, 115, 116, 117, 118, 119, 120, 121, 122, 123, 124, 125, 126, 127, 128, 129, 130, 131, 132, 133, 134, 135, 136, 137, 138, 139, 140, 141, 142, 143, 144, 145, 146, 147, 148, 149, 150, 151, 152, 153, 154, 155, 156, 157, 158, 159, 160, 161, 162, 163] (by decide +kernel) (by decide +kernel)) (goodIn_sub (fun _ h => List.mem_cons_of_mem _ (List.mem_append_right _ h)) (by decide +kernel))
set_option maxRecDepth 20000 in
theorem gL_bypass_X8_bypass : GoodIn wsL_bypass (wsV RL 49 RX8 yX8_bypass wsX8_bypass) := goodIn_app (goodIn_of _ (by decide +kernel)) ggL_bypass_X8_bypass
theorem dL_bypass_0 : decode cL_bypass 0 = .ok (.aload_n 2, 1) := by decide +kernel
theorem dL_bypass_1 : decode cL_bypass 1 = .ok (.iconst 0, 1) := by decide +kernel
theorem dL_bypass_2 : decode cL_bypass 2 = .ok (.aload_n 0, 1) := by decide +kernel
theorem dL_bypass_3 : decode cL_bypass 3 = .ok (.iload_n 1, 1) := by decide +kernel
theorem dL_bypass_4 : decode cL_bypass 4 = .ok (.invokevirtual 49, 3) := by decide +kernel
theorem dL_bypass_7 : decode cL_bypass 7 = .ok (.i2l, 1) := by decide +kernel
theorem dL_bypass_8 : decode cL_bypass 8 = .ok (.lastore, 1) := by decide +kernel
theorem dL_bypass_9 : decode cL_bypass 9 = .ok (.goto 6, 3) := by decide +kernel
theorem dL_bypass_12 : decode cL_bypass 12 = .ok (.astore_n 3, 1) := by decide +kernel
theorem dL_bypass_13 : decode cL_bypass 13 = .ok (.iconst 1, 1) := by decide +kernel
theorem dL_bypass_14 : decode cL_bypass 14 = .ok (.ireturn, 1) := by decide +kernel
theorem dL_bypass_15 : decode cL_bypass 15 = .ok (.iconst 0, 1) := by decide +kernel
theorem dL_bypass_16 : decode cL_bypass 16 = .ok (.ireturn, 1) := by decide +kernel
set_option maxRecDepth 20000 in
theorem ggL_run_X8_run : GoodIn wsL_run wsX8_run := goodIn_ca (goodIn_r _ [6, 7, 8, 5, 9, 10, 11, 12, 13, 14, 15, 16, 17, 18, 19, 20, 21, 22, 23, 24, 25, 26, 27, 28, 29, 30, 31, 32, 33, 34, 35, 36, 37, 38, 39, 40, 41, 42, 43, 44, 45, 46, 47, 48, 49, 50, 51, 52, 53, 54, 55, 56, 57, 58, 59, 60, 61, 62, 63, 64, 65, 66, 67, 68, 69, 70, 71, 72, 73, 74, 75, 76, 77, 78, 79, 80, 81, 82, 83, 84, 85, 86, 87, 88, 89, 90, 91, 92, 93, 94, 95, 96, 97, 98, 99, 100, 101, 102, 103, 104, 105, 106, 107, 108, 109, 110, 111, 112, 113, 114, 115, 116, 117, 118, 119, 120, 121, 122, 123, 124, 125, 126, 127, 128, 129, 130, 131, 132, 133, 134, 135, 136, 137, 138, 139, 140, 141, 142, 143, 144, 145, 146, 147, 148, 149, 150, 151, 152, 153, 154, 155, 156, 157, 158, 159, 160, 161, 162, 163, 164, 165, 166, 167, 168, 169, 170, 171, 172, 173, 174, 175, 176, 177, 178, 179, 180, 181, 182, 183, 184, 185, 186, 187, 188, 189, 190, 191, 192, 193, 194, 195, 196, 197, 198, 199, 200, 201, 202, 203, 204, 205, 206, 207, 208, 209, 210, 211, 212, 213, 214, 215, 216, 217, 218, 219, 220, 221, 222, 223, 224, 225, 226, 227, 228, 229, 230, 231, 232, 233, 234, 235, 236, 237, 238, 239, 240, 241, 242, 243, 244, 245, 246, 247, 248, 249, 250, 251, 252, 253, 254, 255, 256, 257, 258, 259, 260, 261, 262, 263, 264, 265, 266, 267, 268, 269, 270, 271, 272, 273, 274, 275, 276, 277, 278, 279, 280, 281, 282, 283, 284, 285, 286, 287, 288, 289, 290, 291, 292, 293, 294, 295, 296, 297, 298, 299, 300, 301, 302, 303, 304, 305, 306, 307, 308, 309, 310, 311, 312, 313, 314, 315, 316, 317, 318, 319, 320, 321, 322, 323, 324, 325, 326, 327, 328, 329, 330, 331, 332, 333, 334, 335, 336, 337, 338, 339, 340, 341, 342, 343, 344, 345, 346, 347, 348, 349, 350, 351, 352, 353, 354, 355, 356, 357, 358, 359, 360, 361] (by decide +kernel) (by decide +kernel)) (goodIn_sub (fun _ h => List.mem_cons_of_mem _ (List.mem_append_right _ h)) (by decide +kernel))
set_option maxRecDepth 20000 in
theorem gL_run_X8_run : GoodIn wsL_run (wsV RL 52 RX8 yX8_run wsX8_run) := goodIn_app (goodIn_of _ (by decide +kernel)) ggL_run_X8_run
theorem dL_run_0 : decode cL_run 0 = .ok (.aload_n 3, 1) := by decide +kernel
theorem dL_run_1 : decode cL_run 1 = .ok (.iconst 0, 1) := by decide +kernel
theorem dL_run_2 : decode cL_run 2 = .ok (.aload_n 0, 1) := by decide +kernel
theorem dL_run_3 : decode cL_run 3 = .ok (.iload_n 1, 1) := by decide +kernel
theorem dL_run_4 : decode cL_run 4 = .ok (.iload_n 2, 1) := by decide +kernel
theorem dL_run_5 : decode cL_run 5 = .ok (.invokevirtual 52, 3) := by decide +kernel
theorem dL_run_8 : decode cL_run 8 = .ok (.i2l, 1) := by decide +kernel
theorem dL_run_9 : decode cL_run 9 = .ok (.lastore, 1) := by decide +kernel
theorem dL_run_10 : decode cL_run 10 = .ok (.goto 7, 3) := by decide +kernel
theorem dL_run_13 : decode cL_run 13 = .ok (.astore 4, 2) := by decide +kernel
theorem dL_run_15 : decode cL_run 15 = .ok (.iconst 1, 1) := by decide +kernel
theorem dL_run_16 : decode cL_run 16 = .ok (.ireturn, 1) := by decide +kernel
theorem dL_run_17 : decode cL_run 17 = .ok (.iconst 0, 1) := by decide +kernel
theorem dL_run_18 : decode cL_run 18 = .ok (.ireturn, 1) := by decide +kernel
set_option maxRecDepth 20000 in
theorem ggL_predicted_X8_predicted : GoodIn wsL_predicted wsX8_predicted := goodIn_ca (goodIn_r _ [6, 7, 8, 9, 10, 5, 11, 12, 13, 14, 15, 16, 17, 18, 19, 20, 21, 22, 23, 24, 25, 26, 27, 28, 29, 30, 31, 32, 33, 34, 35, 36, 37, 38, 39, 40, 41, 42, 43, 44, 45, 46, 47, 48, 49, 50, 51, 52, 53, 54, 55, 56, 57, 58, 59, 60, 61, 62, 63, 64, 65, 66, 67, 68, 69, 70, 71, 72, 73, 74, 75, 76, 77, 78, 79, 80, 81, 82, 83, 84, 85, 86, 87, 88, 89, 90, 91, 92, 93, 94, 95, 96, 97, 98, 99, 100, 101, 102, 103, 104, 105, 106, 107, 108, 109, 110, 111, 112, 113, 114, 115, 116, 117, 118, 119, 120, 121, 122, 123, 124, 125, 126, 127, 128, 129, 130, 131, 132, 133, 134, 135, 136, 137, 138, 139, 140, 141, 142, 143, 144, 145, 146, 147, 148, 149, 150, 151, 152, 153, 154, 155, 156, 157, 158, 159, 160, 161, 162, 163, 164, 165, 166, 167, 168, 169, 170, 171, 172, 173, 174, 175, 176, 177, 178, 179, 180, 181, 182, 183, 184, 185, 186, 187] (by decide +kernel) (by decide +kernel)) (goodIn_sub (fun _ h => List.mem_cons_of_mem _ (List.mem_append_right _ h)) (by decide +kernel))
set_option maxRecDepth 20000 in
theorem gL_predicted_X8_predicted : GoodIn wsL_predicted (wsV RL 55 RX8 yX8_predicted wsX8_predicted) := goodIn_app (goodIn_of _ (by decide +kernel)) ggL_predicted_X8_predicted
theorem dL_predicted_0 : decode cL_predicted 0 = .ok (.aload_n 2, 1) := by decide +kernel
theorem dL_predicted_1 : decode cL_predicted 1 = .ok (.iconst 0, 1) := by decide +kernel
theorem dL_predicted_2 : decode cL_predicted 2 = .ok (.aload_n 0, 1) := by decide +kernel
theorem dL_predicted_3 : decode cL_predicted 3 = .ok (.iload_n 1, 1) := by decide +kernel
theorem dL_predicted_4 : decode cL_predicted 4 = .ok (.invokevirtual 55, 3) := by decide +kernel
theorem dL_predicted_7 : decode cL_predicted 7 = .ok (.i2l, 1) := by decide +kernel
theorem dL_predicted_8 : decode cL_predicted 8 = .ok (.lastore, 1) := by decide +kernel
theorem dL_predicted_9 : decode cL_predicted 9 = .ok (.goto 6, 3) := by decide +kernel
theorem dL_predicted_12 : decode cL_predicted 12 = .ok (.astore_n 3, 1) := by decide +kernel
theorem dL_predicted_13 : decode cL_predicted 13 = .ok (.iconst 1, 1) := by decide +kernel
theorem dL_predicted_14 : decode cL_predicted 14 = .ok (.ireturn, 1) := by decide +kernel
theorem dL_predicted_15 : decode cL_predicted 15 = .ok (.iconst 0, 1) := by decide +kernel
theorem dL_predicted_16 : decode cL_predicted 16 = .ok (.ireturn, 1) := by decide +kernel
set_option maxRecDepth 20000 in
theorem ggL_boom_X8_boom : GoodIn wsL_boom wsX8_boom := goodIn_ca (goodIn_r _ [6, 7, 8, 5, 9, 10, 11, 12, 13, 14, 15, 16, 17, 18, 19, 20, 21, 22, 23, 24, 25, 26, 27, 28, 29, 30, 31, 32, 33, 34, 35, 36, 37, 38, 39, 40, 41, 42, 43, 44, 45, 46, 47, 48, 49, 50, 51, 52, 53, 54, 55, 56, 57, 58, 59, 60, 61, 62, 63, 64, 65, 66, 67, 68, 69, 70, 71, 72, 73, 74, 75, 76, 77, 78, 79, 80, 81, 82, 83, 84, 85, 86, 87, 88, 89, 90, 91, 92, 93, 94, 95, 96, 97, 98, 99, 100, 101, 102, 103, 104, 105, 106, 107, 108, 109, 110, 111, 112, 113, 114, 115, 116, 117, 118, 119, 120, 121, 122, 123, 124] (by decide +kernel) (by decide +kernel)) (goodIn_sub (fun _ h => List.mem_cons_of_mem _ (List.mem_append_right _ h)) (by decide +kernel))
set_option maxRecDepth 20000 in
theorem gL_boom_X8_boom : GoodIn wsL_boom (wsV RL 58 RX8 yX8_boom wsX8_boom) := goodIn_app (goodIn_of _ (by decide +kernel)) ggL_boom_X8_boom
theorem dL_boom_0 : decode cL_boom 0 = .ok (.aload_n 2, 1) := by decide +kernel
theorem dL_boom_1 : decode cL_boom 1 = .ok (.iconst 0, 1) := by decide +kernel
theorem dL_boom_2 : decode cL_boom 2 = .ok (.aload_n 0, 1) := by decide +kernel
theorem dL_boom_3 : decode cL_boom 3 = .ok (.iload_n 1, 1) := by decide +kernel
theorem dL_boom_4 : decode cL_boom 4 = .ok (.invokevirtual 58, 3) := by decide +kernel
theorem dL_boom_7 : decode cL_boom 7 = .ok (.i2l, 1) := by decide +kernel
theorem dL_boom_8 : decode cL_boom 8 = .ok (.lastore, 1) := by decide +kernel
theorem dL_boom_9 : decode cL_boom 9 = .ok (.goto 6, 3) := by decide +kernel
theorem dL_boom_12 : decode cL_boom 12 = .ok (.astore_n 3, 1) := by decide +kernel
theorem dL_boom_13 : decode cL_boom 13 = .ok (.iconst 1, 1) := by decide +kernel
theorem dL_boom_14 : decode cL_boom 14 = .ok (.ireturn, 1) := by decide +kernel
theorem dL_boom_15 : decode cL_boom 15 = .ok (.iconst 0, 1) := by decide +kernel
theorem dL_boom_16 : decode cL_boom 16 = .ok (.ireturn, 1) := by decide +kernel
set_option maxRecDepth 20000 in
theorem ggL_limiter_X8_limiter : GoodIn wsL_limiter wsX8_limiter := goodIn_ca (goodIn_r _ [6, 7, 8, 5, 9, 10, 11, 12, 13, 14, 15, 16, 17, 18, 19, 20, 21, 22, 23, 24, 25, 26, 27, 28, 29, 30, 31, 32, 33, 34, 35, 36, 37, 38, 39, 40, 41, 42, 43, 44, 45, 46, 47, 48, 49, 50, 51, 52, 53, 54, 55, 56, 57, 58, 59, 60, 61, 62, 63, 64, 65, 66, 67, 68, 69, 70, 71, 72, 73, 74, 75, 76, 77, 78, 79, 80, 81, 82, 83, 84, 85, 86, 87, 88, 89, 90, 91, 92, 93, 94, 95, 96, 97, 98, 99, 100, 101, 102, 103, 104, 105, 106, 107, 108, 109, 110, 111, 112, 113, 114, 115, 116, 117, 118, 119, 120, 121, 122, 123, 124, 125, 126, 127, 128, 129, 130, 131, 132, 133, 134, 135, 136, 137, 138, 139, 140, 141, 142, 143, 144, 145, 146, 147, 148, 149, 150, 151, 152, 153, 154, 155, 156] (by decide +kernel) (by decide +kernel)) (goodIn_sub (fun _ h => List.mem_cons_of_mem _ (List.mem_append_right _ h)) (by decide +kernel))
set_option maxRecDepth 20000 in
theorem gL_limiter_X8_limiter : GoodIn wsL_limiter (wsV RL 61 RX8 yX8_limiter wsX8_limiter) := goodIn_app (goodIn_of _ (by decide +kernel)) ggL_limiter_X8_limiter
theorem dL_limiter_0 : decode cL_limiter 0 = .ok (.aload_n 2, 1) := by decide +kernel
theorem dL_limiter_1 : decode cL_limiter 1 = .ok (.iconst 0, 1) := by decide +kernel
theorem dL_limiter_2 : decode cL_limiter 2 = .ok (.aload_n 0, 1) := by decide +kernel
theorem dL_limiter_3 : decode cL_limiter 3 = .ok (.iload_n 1, 1) := by decide +kernel
theorem dL_limiter_4 : decode cL_limiter 4 = .ok (.invokevirtual 61, 3) := by decide +kernel
theorem dL_limiter_7 : decode cL_limiter 7 = .ok (.i2l, 1) := by decide +kernel
theorem dL_limiter_8 : decode cL_limiter 8 = .ok (.lastore, 1) := by decide +kernel
theorem dL_limiter_9 : decode cL_limiter 9 = .ok (.goto 6, 3) := by decide +kernel
theorem dL_limiter_12 : decode cL_limiter 12 = .ok (.astore_n 3, 1) := by decide +kernel
theorem dL_limiter_13 : decode cL_limiter 13 = .ok (.iconst 1, 1) := by decide +kernel
theorem dL_limiter_14 : decode cL_limiter 14 = .ok (.ireturn, 1) := by decide +kernel
theorem dL_limiter_15 : decode cL_limiter 15 = .ok (.iconst 0, 1) := by decide +kernel
theorem dL_limiter_16 : decode cL_limiter 16 = .ok (.ireturn, 1) := by decide +kernel
set_option maxRecDepth 20000 in
theorem ggL_rated_X8_rated : GoodIn wsL_rated wsX8_rated := goodIn_ca (goodIn_r _ [6, 7, 8, 9, 10, 11, 5, 12, 13, 14, 15, 16, 17, 18, 19, 20, 21, 22, 23, 24, 25, 26, 27, 28, 29, 30, 31, 32, 33, 34, 35, 36, 37, 38, 39, 40, 41, 42, 43, 44, 45, 46, 47, 48, 49, 50, 51, 52, 53, 54, 55, 56, 57, 58, 59, 60, 61, 62, 63, 64, 65, 66, 67, 68, 69, 70, 71, 72, 73, 74, 75, 76, 77, 78, 79, 80, 81, 82, 83, 84, 85, 86, 87, 88, 89, 90, 91, 92, 93, 94, 95, 96, 97, 98, 99, 100, 101, 102, 103, 104, 105, 106, 107] (by decide +kernel) (by decide +kernel)) (goodIn_sub (fun _ h => List.mem_cons_of_mem _ (List.mem_append_right _ h)) (by decide +kernel))
set_option maxRecDepth 20000 in
theorem gL_rated_X8_rated : GoodIn wsL_rated (wsV RL 64 RX8 yX8_rated wsX8_rated) := goodIn_app (goodIn_of _ (by decide +kernel)) ggL_rated_X8_rated
theorem dL_rated_0 : decode cL_rated 0 = .ok (.aload 4, 2) := by decide +kernel
theorem dL_rated_2 : decode cL_rated 2 = .ok (.iconst 0, 1) := by decide +kernel
theorem dL_rated_3 : decode cL_rated 3 = .ok (.aload_n 0, 1) := by decide +kernel
theorem dL_rated_4 : decode cL_rated 4 = .ok (.iload_n 1, 1) := by decide +kernel
theorem dL_rated_5 : decode cL_rated 5 = .ok (.iload_n 2, 1) := by decide +kernel
theorem dL_rated_6 : decode cL_rated 6 = .ok (.iload_n 3, 1) := by decide +kernel
theorem dL_rated_7 : decode cL_rated 7 = .ok (.invokevirtual 64, 3) := by decide +kernel
theorem dL_rated_10 : decode cL_rated 10 = .ok (.i2l, 1) := by decide +kernel
theorem dL_rated_11 : decode cL_rated 11 = .ok (.lastore, 1) := by decide +kernel
theorem dL_rated_12 : decode cL_rated 12 = .ok (.goto 7, 3) := by decide +kernel
theorem dL_rated_15 : decode cL_rated 15 = .ok (.astore 5, 2) := by decide +kernel
theorem dL_rated_17 : decode cL_rated 17 = .ok (.iconst 1, 1) := by decide +kernel
theorem dL_rated_18 : decode cL_rated 18 = .ok (.ireturn, 1) := by decide +kernel
theorem dL_rated_19 : decode cL_rated 19 = .ok (.iconst 0, 1) := by decide +kernel
theorem dL_rated_20 : decode cL_rated 20 = .ok (.ireturn, 1) := by decide +kernel
set_option maxRecDepth 20000 in
theorem ggL_maxRadius_X8_maxRadius : GoodIn wsL_maxRadius wsX8_maxRadius := goodIn_ca (goodIn_r _ [6, 7, 8, 9, 10, 11, 12, 13, 14, 5, 15, 16, 17, 18, 19, 20, 21, 22, 23, 24, 25, 26, 27, 28, 29, 30, 31, 32, 33, 34, 35, 36, 37, 38, 39, 40, 41, 42, 43, 44, 45, 46, 47, 48, 49, 50, 51, 52, 53, 54, 55, 56, 57, 58, 59, 60, 61, 62, 63, 64, 65, 66, 67, 68, 69, 70, 71, 72, 73, 74, 75, 76, 77, 78, 79, 80, 81, 82, 83, 84, 85, 86] (by decide +kernel) (by decide +kernel)) (goodIn_sub (fun _ h => List.mem_cons_of_mem _ (List.mem_append_right _ h)) (by decide +kernel))
set_option maxRecDepth 20000 in
theorem gL_maxRadius_X8_maxRadius : GoodIn wsL_maxRadius (wsV RL 67 RX8 yX8_maxRadius wsX8_maxRadius) := goodIn_app (goodIn_of _ (by decide +kernel)) ggL_maxRadius_X8_maxRadius
theorem dL_maxRadius_0 : decode cL_maxRadius 0 = .ok (.aload_n 2, 1) := by decide +kernel
theorem dL_maxRadius_1 : decode cL_maxRadius 1 = .ok (.iconst 0, 1) := by decide +kernel
theorem dL_maxRadius_2 : decode cL_maxRadius 2 = .ok (.aload_n 0, 1) := by decide +kernel
theorem dL_maxRadius_3 : decode cL_maxRadius 3 = .ok (.iload_n 1, 1) := by decide +kernel
theorem dL_maxRadius_4 : decode cL_maxRadius 4 = .ok (.invokevirtual 67, 3) := by decide +kernel
theorem dL_maxRadius_7 : decode cL_maxRadius 7 = .ok (.i2l, 1) := by decide +kernel
theorem dL_maxRadius_8 : decode cL_maxRadius 8 = .ok (.lastore, 1) := by decide +kernel
theorem dL_maxRadius_9 : decode cL_maxRadius 9 = .ok (.goto 6, 3) := by decide +kernel
theorem dL_maxRadius_12 : decode cL_maxRadius 12 = .ok (.astore_n 3, 1) := by decide +kernel
theorem dL_maxRadius_13 : decode cL_maxRadius 13 = .ok (.iconst 1, 1) := by decide +kernel
theorem dL_maxRadius_14 : decode cL_maxRadius 14 = .ok (.ireturn, 1) := by decide +kernel
theorem dL_maxRadius_15 : decode cL_maxRadius 15 = .ok (.iconst 0, 1) := by decide +kernel
theorem dL_maxRadius_16 : decode cL_maxRadius 16 = .ok (.ireturn, 1) := by decide +kernel
set_option maxRecDepth 20000 in
theorem ggL_worstSlew_X8_worstSlew : GoodIn wsL_worstSlew wsX8_worstSlew := goodIn_ca (goodIn_r _ [6, 7, 8, 9, 10, 11, 12, 13, 14, 15, 5, 16, 17, 18, 19, 20, 21, 22, 23, 24, 25, 26, 27, 28, 29, 30, 31, 32, 33, 34, 35, 36, 37, 38, 39, 40, 41, 42, 43, 44, 45, 46, 47, 48, 49, 50, 51, 52, 53, 54, 55, 56, 57, 58, 59, 60, 61, 62, 63, 64, 65, 66, 67, 68, 69, 70, 71, 72, 73, 74, 75, 76, 77, 78, 79, 80, 81, 82, 83, 84, 85, 86, 87, 88, 89, 90, 91, 92, 93, 94, 95, 96, 97, 98, 99, 100, 101, 102, 103, 104, 105, 106, 107, 108, 109, 110, 111, 112, 113, 114, 115, 116, 117, 118, 119, 120, 121, 122, 123, 124, 125, 126, 127, 128, 129, 130, 131, 132, 133, 134, 135, 136, 137, 138, 139, 140, 141, 142, 143, 144, 145, 146, 147] (by decide +kernel) (by decide +kernel)) (goodIn_sub (fun _ h => List.mem_cons_of_mem _ (List.mem_append_right _ h)) (by decide +kernel))
set_option maxRecDepth 20000 in
theorem gL_worstSlew_X8_worstSlew : GoodIn wsL_worstSlew (wsV RL 70 RX8 yX8_worstSlew wsX8_worstSlew) := goodIn_app (goodIn_of _ (by decide +kernel)) ggL_worstSlew_X8_worstSlew
theorem dL_worstSlew_0 : decode cL_worstSlew 0 = .ok (.aload 4, 2) := by decide +kernel
theorem dL_worstSlew_2 : decode cL_worstSlew 2 = .ok (.iconst 0, 1) := by decide +kernel
theorem dL_worstSlew_3 : decode cL_worstSlew 3 = .ok (.aload_n 0, 1) := by decide +kernel
theorem dL_worstSlew_4 : decode cL_worstSlew 4 = .ok (.iload_n 1, 1) := by decide +kernel
theorem dL_worstSlew_5 : decode cL_worstSlew 5 = .ok (.iload_n 2, 1) := by decide +kernel
theorem dL_worstSlew_6 : decode cL_worstSlew 6 = .ok (.iload_n 3, 1) := by decide +kernel
theorem dL_worstSlew_7 : decode cL_worstSlew 7 = .ok (.invokevirtual 70, 3) := by decide +kernel
theorem dL_worstSlew_10 : decode cL_worstSlew 10 = .ok (.i2l, 1) := by decide +kernel
theorem dL_worstSlew_11 : decode cL_worstSlew 11 = .ok (.lastore, 1) := by decide +kernel
theorem dL_worstSlew_12 : decode cL_worstSlew 12 = .ok (.goto 7, 3) := by decide +kernel
theorem dL_worstSlew_15 : decode cL_worstSlew 15 = .ok (.astore 5, 2) := by decide +kernel
theorem dL_worstSlew_17 : decode cL_worstSlew 17 = .ok (.iconst 1, 1) := by decide +kernel
theorem dL_worstSlew_18 : decode cL_worstSlew 18 = .ok (.ireturn, 1) := by decide +kernel
theorem dL_worstSlew_19 : decode cL_worstSlew 19 = .ok (.iconst 0, 1) := by decide +kernel
theorem dL_worstSlew_20 : decode cL_worstSlew 20 = .ok (.ireturn, 1) := by decide +kernel
set_option maxRecDepth 20000 in
theorem ggL_event_X8_event : GoodIn wsL_event wsX8_event := goodIn_ca (goodIn_ca (goodIn_r _ [7, 8, 9, 10, 11, 12, 6, 13, 14, 15, 16, 17, 18, 19, 20, 21, 22, 23, 24, 25, 26, 27, 28, 29, 30, 31, 32, 33, 34, 35, 36, 37, 38, 39, 40, 41, 42, 43, 44, 45, 46, 47, 48, 49, 50, 51, 52, 53, 54, 55, 56, 57, 58, 59, 60] (by decide +kernel) (by decide +kernel)) (goodIn_sub (fun _ h => List.mem_cons_of_mem _ (List.mem_append_left _ (List.mem_append_right _ h))) (by decide +kernel))) (goodIn_sub (fun _ h => List.mem_cons_of_mem _ (List.mem_append_right _ h)) (by decide +kernel))
set_option maxRecDepth 20000 in
theorem gL_event_X8_event : GoodIn wsL_event (wsV RL 73 RX8 yX8_event wsX8_event) := goodIn_app (goodIn_of _ (by decide +kernel)) ggL_event_X8_event
theorem dL_event_0 : decode cL_event 0 = .ok (.aload_n 3, 1) := by decide +kernel
theorem dL_event_1 : decode cL_event 1 = .ok (.iconst 0, 1) := by decide +kernel
theorem dL_event_2 : decode cL_event 2 = .ok (.aload_n 0, 1) := by decide +kernel
theorem dL_event_3 : decode cL_event 3 = .ok (.iload_n 1, 1) := by decide +kernel
theorem dL_event_4 : decode cL_event 4 = .ok (.iload_n 2, 1) := by decide +kernel
theorem dL_event_5 : decode cL_event 5 = .ok (.invokevirtual 73, 3) := by decide +kernel
theorem dL_event_8 : decode cL_event 8 = .ok (.i2l, 1) := by decide +kernel
theorem dL_event_9 : decode cL_event 9 = .ok (.lastore, 1) := by decide +kernel
theorem dL_event_10 : decode cL_event 10 = .ok (.goto 11, 3) := by decide +kernel
theorem dL_event_13 : decode cL_event 13 = .ok (.astore 4, 2) := by decide +kernel
theorem dL_event_15 : decode cL_event 15 = .ok (.iconst 1, 1) := by decide +kernel
theorem dL_event_16 : decode cL_event 16 = .ok (.ireturn, 1) := by decide +kernel
theorem dL_event_17 : decode cL_event 17 = .ok (.astore 4, 2) := by decide +kernel
theorem dL_event_19 : decode cL_event 19 = .ok (.iconst 2, 1) := by decide +kernel
theorem dL_event_20 : decode cL_event 20 = .ok (.ireturn, 1) := by decide +kernel
theorem dL_event_21 : decode cL_event 21 = .ok (.iconst 0, 1) := by decide +kernel
theorem dL_event_22 : decode cL_event 22 = .ok (.ireturn, 1) := by decide +kernel
set_option maxRecDepth 20000 in
theorem ggL_stateTime_X8_stateTime : GoodIn wsL_stateTime wsX8_stateTime := goodIn_ca (goodIn_r _ [6, 7, 8, 9, 10, 11, 5, 12, 13, 14, 15, 16, 17, 18, 19, 20, 21, 22, 23, 24, 25, 26, 27, 28, 29, 30, 31, 32, 33, 34, 35] (by decide +kernel) (by decide +kernel)) (goodIn_sub (fun _ h => List.mem_cons_of_mem _ (List.mem_append_right _ h)) (by decide +kernel))
set_option maxRecDepth 20000 in
theorem gL_stateTime_X8_stateTime : GoodIn wsL_stateTime (wsV RL 76 RX8 yX8_stateTime wsX8_stateTime) := goodIn_app (goodIn_of _ (by decide +kernel)) ggL_stateTime_X8_stateTime
theorem dL_stateTime_0 : decode cL_stateTime 0 = .ok (.aload_n 2, 1) := by decide +kernel
theorem dL_stateTime_1 : decode cL_stateTime 1 = .ok (.iconst 0, 1) := by decide +kernel
theorem dL_stateTime_2 : decode cL_stateTime 2 = .ok (.aload_n 0, 1) := by decide +kernel
theorem dL_stateTime_3 : decode cL_stateTime 3 = .ok (.iload_n 1, 1) := by decide +kernel
theorem dL_stateTime_4 : decode cL_stateTime 4 = .ok (.invokevirtual 76, 3) := by decide +kernel
theorem dL_stateTime_7 : decode cL_stateTime 7 = .ok (.i2l, 1) := by decide +kernel
theorem dL_stateTime_8 : decode cL_stateTime 8 = .ok (.lastore, 1) := by decide +kernel
theorem dL_stateTime_9 : decode cL_stateTime 9 = .ok (.goto 6, 3) := by decide +kernel
theorem dL_stateTime_12 : decode cL_stateTime 12 = .ok (.astore_n 3, 1) := by decide +kernel
theorem dL_stateTime_13 : decode cL_stateTime 13 = .ok (.iconst 1, 1) := by decide +kernel
theorem dL_stateTime_14 : decode cL_stateTime 14 = .ok (.ireturn, 1) := by decide +kernel
theorem dL_stateTime_15 : decode cL_stateTime 15 = .ok (.iconst 0, 1) := by decide +kernel
theorem dL_stateTime_16 : decode cL_stateTime 16 = .ok (.ireturn, 1) := by decide +kernel
set_option maxRecDepth 20000 in
theorem ggL_lifts_X8_lifts : GoodIn wsL_lifts wsX8_lifts := goodIn_ca (goodIn_r _ [6, 7, 8, 9, 10, 11, 5, 12, 13, 14, 15, 16, 17, 18, 19, 20, 21, 22, 23, 24, 25, 26, 27, 28, 29, 30, 31, 32, 33, 34, 35] (by decide +kernel) (by decide +kernel)) (goodIn_sub (fun _ h => List.mem_cons_of_mem _ (List.mem_append_right _ h)) (by decide +kernel))
set_option maxRecDepth 20000 in
theorem gL_lifts_X8_lifts : GoodIn wsL_lifts (wsV RL 79 RX8 yX8_lifts wsX8_lifts) := goodIn_app (goodIn_of _ (by decide +kernel)) ggL_lifts_X8_lifts
theorem dL_lifts_0 : decode cL_lifts 0 = .ok (.aload_n 2, 1) := by decide +kernel
theorem dL_lifts_1 : decode cL_lifts 1 = .ok (.iconst 0, 1) := by decide +kernel
theorem dL_lifts_2 : decode cL_lifts 2 = .ok (.aload_n 0, 1) := by decide +kernel
theorem dL_lifts_3 : decode cL_lifts 3 = .ok (.iload_n 1, 1) := by decide +kernel
theorem dL_lifts_4 : decode cL_lifts 4 = .ok (.invokevirtual 79, 3) := by decide +kernel
theorem dL_lifts_7 : decode cL_lifts 7 = .ok (.i2l, 1) := by decide +kernel
theorem dL_lifts_8 : decode cL_lifts 8 = .ok (.lastore, 1) := by decide +kernel
theorem dL_lifts_9 : decode cL_lifts 9 = .ok (.goto 6, 3) := by decide +kernel
theorem dL_lifts_12 : decode cL_lifts 12 = .ok (.astore_n 3, 1) := by decide +kernel
theorem dL_lifts_13 : decode cL_lifts 13 = .ok (.iconst 1, 1) := by decide +kernel
theorem dL_lifts_14 : decode cL_lifts 14 = .ok (.ireturn, 1) := by decide +kernel
theorem dL_lifts_15 : decode cL_lifts 15 = .ok (.iconst 0, 1) := by decide +kernel
theorem dL_lifts_16 : decode cL_lifts 16 = .ok (.ireturn, 1) := by decide +kernel
set_option maxRecDepth 20000 in
theorem ggL_type_X8_type : GoodIn wsL_type wsX8_type := goodIn_ca (goodIn_ca (goodIn_r _ [7, 8, 9, 10, 11, 6, 12, 13, 14, 15, 16, 17, 18, 19, 20, 21, 22, 23, 24, 25, 26, 27, 28] (by decide +kernel) (by decide +kernel)) (goodIn_sub (fun _ h => List.mem_cons_of_mem _ (List.mem_append_left _ (List.mem_append_right _ h))) (by decide +kernel))) (goodIn_sub (fun _ h => List.mem_cons_of_mem _ (List.mem_append_right _ h)) (by decide +kernel))
set_option maxRecDepth 20000 in
theorem gL_type_X8_type : GoodIn wsL_type (wsV RL 82 RX8 yX8_type wsX8_type) := goodIn_app (goodIn_of _ (by decide +kernel)) ggL_type_X8_type
theorem dL_type_0 : decode cL_type 0 = .ok (.aload_n 2, 1) := by decide +kernel
theorem dL_type_1 : decode cL_type 1 = .ok (.iconst 0, 1) := by decide +kernel
theorem dL_type_2 : decode cL_type 2 = .ok (.aload_n 0, 1) := by decide +kernel
theorem dL_type_3 : decode cL_type 3 = .ok (.iload_n 1, 1) := by decide +kernel
theorem dL_type_4 : decode cL_type 4 = .ok (.invokevirtual 82, 3) := by decide +kernel
theorem dL_type_7 : decode cL_type 7 = .ok (.i2l, 1) := by decide +kernel
theorem dL_type_8 : decode cL_type 8 = .ok (.lastore, 1) := by decide +kernel
theorem dL_type_9 : decode cL_type 9 = .ok (.goto 9, 3) := by decide +kernel
theorem dL_type_12 : decode cL_type 12 = .ok (.astore_n 3, 1) := by decide +kernel
theorem dL_type_13 : decode cL_type 13 = .ok (.iconst 1, 1) := by decide +kernel
theorem dL_type_14 : decode cL_type 14 = .ok (.ireturn, 1) := by decide +kernel
theorem dL_type_15 : decode cL_type 15 = .ok (.astore_n 3, 1) := by decide +kernel
theorem dL_type_16 : decode cL_type 16 = .ok (.iconst 2, 1) := by decide +kernel
theorem dL_type_17 : decode cL_type 17 = .ok (.ireturn, 1) := by decide +kernel
theorem dL_type_18 : decode cL_type 18 = .ok (.iconst 0, 1) := by decide +kernel
theorem dL_type_19 : decode cL_type 19 = .ok (.ireturn, 1) := by decide +kernel
set_option maxRecDepth 20000 in
theorem ggL_undo_X8_undo : GoodIn wsL_undo wsX8_undo := goodIn_ca (goodIn_r _ [6, 7, 8, 9, 10, 11, 12, 5, 13, 14, 15, 16, 17, 18, 19, 20, 21, 22, 23, 24, 25, 26, 27, 28, 29, 30, 31, 32, 33, 34, 35, 36, 37, 38, 39, 40, 41, 42, 43, 44, 45, 46, 47, 48, 49, 50, 51, 52, 53, 54, 55, 56, 57, 58, 59, 60, 61, 62, 63, 64, 65, 66, 67, 68, 69, 70, 71, 72, 73, 74, 75, 76, 77, 78, 79, 80, 81, 82, 83, 84, 85, 86, 87, 88, 89, 90, 91, 92, 93, 94, 95, 96, 97, 98, 99, 100, 101, 102, 103, 104, 105, 106, 107, 108, 109, 110, 111, 112, 113, 114, 115, 116, 117, 118, 119, 120, 121, 122, 123, 124, 125] (by decide +kernel) (by decide +kernel)) (goodIn_sub (fun _ h => List.mem_cons_of_mem _ (List.mem_append_right _ h)) (by decide +kernel))
set_option maxRecDepth 20000 in
theorem gL_undo_X8_undo : GoodIn wsL_undo (wsV RL 85 RX8 yX8_undo wsX8_undo) := goodIn_app (goodIn_of _ (by decide +kernel)) ggL_undo_X8_undo
theorem dL_undo_0 : decode cL_undo 0 = .ok (.aload_n 1, 1) := by decide +kernel
theorem dL_undo_1 : decode cL_undo 1 = .ok (.iconst 0, 1) := by decide +kernel
theorem dL_undo_2 : decode cL_undo 2 = .ok (.aload_n 0, 1) := by decide +kernel
theorem dL_undo_3 : decode cL_undo 3 = .ok (.invokevirtual 85, 3) := by decide +kernel
theorem dL_undo_6 : decode cL_undo 6 = .ok (.i2l, 1) := by decide +kernel
theorem dL_undo_7 : decode cL_undo 7 = .ok (.lastore, 1) := by decide +kernel
theorem dL_undo_8 : decode cL_undo 8 = .ok (.goto 6, 3) := by decide +kernel
theorem dL_undo_11 : decode cL_undo 11 = .ok (.astore_n 2, 1) := by decide +kernel
theorem dL_undo_12 : decode cL_undo 12 = .ok (.iconst 1, 1) := by decide +kernel
theorem dL_undo_13 : decode cL_undo 13 = .ok (.ireturn, 1) := by decide +kernel
theorem dL_undo_14 : decode cL_undo 14 = .ok (.iconst 0, 1) := by decide +kernel
theorem dL_undo_15 : decode cL_undo 15 = .ok (.ireturn, 1) := by decide +kernel
set_option maxRecDepth 20000 in
theorem ggL_law_X8_init : GoodIn wsL_law wsX8_init := goodIn_r _ [9, 10, 11, 12, 13, 14, 15, 16, 17, 18, 19, 20, 21, 22, 23, 24, 25, 26, 27, 28, 29, 30, 31, 32, 33, 34, 35, 36, 37, 38, 39, 40, 41, 42, 43, 44, 45, 46, 47, 48, 49, 50, 51, 52, 53, 54, 55, 56, 57, 58, 59, 60, 61, 62, 63, 64, 65, 66, 67, 68, 69, 70, 71, 72, 73, 74, 75, 76, 77, 78, 79, 80, 81, 82, 83, 84, 85, 86, 87, 88, 1073, 1074, 1075, 1076, 1077, 1078, 1079, 1080, 1081, 1051, 1052, 1053, 1054, 1055, 1056, 1057, 1058, 1059, 1082, 1083, 1084, 1085, 1086, 1087, 1088, 1089, 1090, 1091, 1092, 1093, 1094, 1095, 1096, 1097, 1098, 1099, 1100, 1101, 1102, 1103, 1104, 1105, 1106, 1107, 1108, 1109, 1110, 1111, 1112] (by decide +kernel) (by decide +kernel)
set_option maxRecDepth 20000 in
theorem gL_law_X8_init : GoodIn wsL_law (wsX8_init) := ggL_law_X8_init
set_option maxRecDepth 20000 in
theorem ggL_law_X9_init : GoodIn wsL_law wsX9_init := goodIn_r _ [91, 92, 11, 12, 18, 93, 94, 95, 96, 97, 98, 1060, 1061, 1062, 1063, 1064, 1065, 1066, 1067, 1068, 1069, 1070, 1071, 1072] (by decide +kernel) (by decide +kernel)
set_option maxRecDepth 20000 in
theorem gL_law_X9_init : GoodIn wsL_law (wsX9_init) := ggL_law_X9_init
set_option maxRecDepth 20000 in
theorem ggL_law_L_setOutrigger : GoodIn wsL_law wsL_setOutrigger := goodIn_ca (goodIn_ca (goodIn_r _ [102, 103, 104, 105, 106, 107, 2, 108, 16, 109, 110, 111, 112, 113, 114, 115, 116, 117, 118, 119, 120, 121, 122, 123, 17, 124, 13, 14, 15, 125, 126, 127, 128, 129, 32, 33, 34, 11, 12, 35, 29, 30, 36, 37, 38, 39, 40, 41, 42, 43, 44, 45, 46, 47, 48, 49, 50, 51, 52, 53, 54, 55, 56, 57, 58, 59, 60, 61, 18, 62, 63, 64, 65, 66, 67, 68, 69, 70, 71, 72, 73, 74, 75, 76, 77, 78, 79, 80, 130, 131, 132, 133, 134, 135, 136, 137, 138, 139, 140, 141, 142, 143, 144, 145, 146, 147, 148, 149, 150, 151, 152, 153, 154, 155, 156, 157, 158, 159, 160, 161, 162, 163, 164, 165, 166, 167, 168, 169, 170, 171, 172, 173, 174, 175, 176, 1051, 1052, 1053, 1054, 1055, 1056, 1057, 1058, 1059, 1073, 1074, 1075, 1076, 1077, 1078, 1079, 1080, 1081, 1092, 1093, 1094, 1095, 1096, 1097, 1098, 1099, 1100, 1101, 1102, 1103, 1104, 1105, 1106, 1107, 1108, 1109, 1110, 1111, 1112] (by decide +kernel) (by decide +kernel)) (goodIn_sub (fun _ h => List.mem_append_left _ (List.mem_append_left _ (List.mem_append_right _ h))) (by decide +kernel))) (goodIn_sub (fun _ h => List.mem_append_left _ (List.mem_append_right _ h)) (by decide +kernel))
set_option maxRecDepth 20000 in
theorem gL_law_L_setOutrigger : GoodIn wsL_law (va_wsS RL 93 yL_setOutrigger wsL_setOutrigger) := goodIn_app (goodIn_of _ (by decide +kernel)) ggL_law_L_setOutrigger
set_option maxRecDepth 20000 in
theorem ggL_law_X9_setOutrigger : GoodIn wsL_law wsX9_setOutrigger := goodIn_r _ [180, 181, 182, 183, 5, 184, 185, 186, 187, 188, 189, 190, 191, 192, 93, 193, 194, 195, 196, 197, 94, 1060, 1061, 1062, 1063, 1064, 1065, 1066, 1067, 1068, 1069, 1070, 1071, 1072] (by decide +kernel) (by decide +kernel)
set_option maxRecDepth 20000 in
theorem gL_law_X9_setOutrigger : GoodIn wsL_law (wsV RL 98 RX9 yX9_setOutrigger wsX9_setOutrigger) := goodIn_app (goodIn_of _ (by decide +kernel)) ggL_law_X9_setOutrigger
set_option maxRecDepth 20000 in
theorem ggL_law_X9_thrown : GoodIn wsL_law wsX9_thrown := goodIn_r _ [201, 181, 1060, 1061, 1062, 1063, 1064, 1065, 1066, 1067, 1068, 1069, 1070, 1071, 1072] (by decide +kernel) (by decide +kernel)
set_option maxRecDepth 20000 in
theorem gL_law_X9_thrown : GoodIn wsL_law (wsV RL 99 RX9 yX9_thrown wsX9_thrown) := goodIn_app (goodIn_of _ (by decide +kernel)) ggL_law_X9_thrown
set_option maxRecDepth 20000 in
theorem ggL_law_X8_setOnWheels : GoodIn wsL_law wsX8_setOnWheels := goodIn_r _ [205, 16, 109, 206, 120, 121, 122, 2, 123, 17, 124, 13, 14, 15, 125, 126, 127, 128, 129, 32, 33, 34, 11, 12, 35, 29, 30, 36, 37, 38, 39, 40, 41, 42, 43, 44, 45, 46, 47, 48, 49, 50, 51, 52, 53, 54, 55, 56, 57, 58, 59, 60, 61, 18, 62, 63, 64, 65, 66, 67, 68, 69, 70, 71, 72, 73, 74, 75, 76, 77, 78, 79, 80, 130, 131, 132, 133, 134, 135, 136, 137, 138, 139, 140, 141, 142, 143, 144, 145, 146, 147, 148, 149, 150, 151, 152, 153, 154, 155, 156, 157, 158, 159, 160, 161, 162, 163, 164, 165, 166, 167, 168, 169, 170, 171, 172, 1051, 1052, 1053, 1054, 1055, 1056, 1057, 1058, 1059, 1073, 1074, 1075, 1076, 1077, 1078, 1079, 1080, 1081, 1099, 1100, 1101, 1102, 1092, 1093, 1094, 1095, 1096, 1097, 1098, 1103, 1104, 1105, 1106, 1107, 1108, 1109, 1110, 1111, 1112] (by decide +kernel) (by decide +kernel)
set_option maxRecDepth 20000 in
theorem gL_law_X8_setOnWheels : GoodIn wsL_law (wsV RL 102 RX8 yX8_setOnWheels wsX8_setOnWheels) := goodIn_app (goodIn_of _ (by decide +kernel)) ggL_law_X8_setOnWheels
set_option maxRecDepth 20000 in
theorem ggL_law_X9_setOnWheels : GoodIn wsL_law wsX9_setOnWheels := goodIn_r _ [210, 181, 189, 190, 191, 5, 192, 93, 193, 194, 195, 196, 197, 94, 1060, 1061, 1062, 1063, 1064, 1065, 1066, 1067, 1068, 1069, 1070, 1071, 1072] (by decide +kernel) (by decide +kernel)
set_option maxRecDepth 20000 in
theorem gL_law_X9_setOnWheels : GoodIn wsL_law (wsV RL 106 RX9 yX9_setOnWheels wsX9_setOnWheels) := goodIn_app (goodIn_of _ (by decide +kernel)) ggL_law_X9_setOnWheels
set_option maxRecDepth 20000 in
theorem ggL_law_L_setCapacity : GoodIn wsL_law wsL_setCapacity := goodIn_ca (goodIn_ca (goodIn_r _ [213, 103, 104, 214, 215, 216, 2, 217, 218, 16, 109, 219, 220, 221, 110, 111, 112, 113, 114, 115, 116, 117, 118, 119, 120, 121, 122, 123, 17, 124, 13, 14, 15, 125, 126, 127, 128, 129, 32, 33, 34, 11, 12, 35, 29, 30, 36, 37, 38, 39, 40, 41, 42, 43, 44, 45, 46, 47, 48, 49, 50, 51, 52, 53, 54, 55, 56, 57, 58, 59, 60, 61, 18, 62, 63, 64, 65, 66, 67, 68, 69, 70, 71, 72, 73, 74, 75, 76, 77, 78, 79, 80, 130, 131, 132, 133, 134, 135, 136, 137, 138, 139, 140, 141, 142, 143, 144, 145, 146, 147, 148, 149, 150, 151, 152, 153, 154, 155, 156, 157, 158, 159, 160, 161, 162, 163, 164, 165, 166, 167, 168, 169, 170, 171, 172, 222, 223, 224, 225, 226, 227, 228, 229, 1051, 1052, 1053, 1054, 1055, 1056, 1057, 1058, 1059, 1073, 1074, 1075, 1076, 1077, 1078, 1079, 1080, 1081, 1092, 1093, 1094, 1095, 1096, 1097, 1098, 1099, 1100, 1101, 1102, 1103, 1104, 1105, 1106, 1107, 1108, 1109, 1110, 1111, 1112] (by decide +kernel) (by decide +kernel)) (goodIn_sub (fun _ h => List.mem_append_left _ (List.mem_append_left _ (List.mem_append_right _ h))) (by decide +kernel))) (goodIn_sub (fun _ h => List.mem_append_left _ (List.mem_append_right _ h)) (by decide +kernel))
set_option maxRecDepth 20000 in
theorem gL_law_L_setCapacity : GoodIn wsL_law (va_wsS RL 107 yL_setCapacity wsL_setCapacity) := goodIn_app (goodIn_of _ (by decide +kernel)) ggL_law_L_setCapacity
set_option maxRecDepth 20000 in
theorem ggL_law_X9_setCapacity : GoodIn wsL_law wsX9_setCapacity := goodIn_r _ [233, 181, 234, 235, 236, 5, 237, 182, 183, 184, 185, 186, 187, 188, 189, 190, 191, 192, 93, 193, 194, 195, 196, 197, 94, 1060, 1061, 1062, 1063, 1064, 1065, 1066, 1067, 1068, 1069, 1070, 1071, 1072] (by decide +kernel) (by decide +kernel)
set_option maxRecDepth 20000 in
theorem gL_law_X9_setCapacity : GoodIn wsL_law (wsV RL 110 RX9 yX9_setCapacity wsX9_setCapacity) := goodIn_app (goodIn_of _ (by decide +kernel)) ggL_law_X9_setCapacity
set_option maxRecDepth 20000 in
theorem ggL_law_L_fillTable : GoodIn wsL_law wsL_fillTable := goodIn_ca (goodIn_ca (goodIn_r _ [240, 103, 104, 241, 242, 243, 2, 244, 245, 16, 109, 110, 111, 112, 113, 114, 115, 116, 117, 118, 119, 120, 121, 122, 123, 17, 124, 13, 14, 15, 125, 126, 127, 128, 129, 32, 33, 34, 11, 12, 35, 29, 30, 36, 37, 38, 39, 40, 41, 42, 43, 44, 45, 46, 47, 48, 49, 50, 51, 52, 53, 54, 55, 56, 57, 58, 59, 60, 61, 18, 62, 63, 64, 65, 66, 67, 68, 69, 70, 71, 72, 73, 74, 75, 76, 77, 78, 79, 80, 130, 131, 132, 133, 134, 135, 136, 137, 138, 139, 140, 141, 142, 143, 144, 145, 146, 147, 148, 149, 150, 151, 152, 153, 154, 155, 156, 157, 158, 159, 160, 161, 162, 163, 164, 165, 166, 167, 168, 169, 170, 171, 172, 246, 247, 248, 249, 250, 251, 252, 253, 227, 228, 229, 254, 255, 256, 257, 258, 223, 224, 225, 1051, 1052, 1053, 1054, 1055, 1056, 1057, 1058, 1059, 1073, 1074, 1075, 1076, 1077, 1078, 1079, 1080, 1081, 1092, 1093, 1094, 1095, 1096, 1097, 1098, 1099, 1100, 1101, 1102, 1103, 1104, 1105, 1106, 1107, 1108, 1109, 1110, 1111, 1112] (by decide +kernel) (by decide +kernel)) (goodIn_sub (fun _ h => List.mem_append_left _ (List.mem_append_left _ (List.mem_append_right _ h))) (by decide +kernel))) (goodIn_sub (fun _ h => List.mem_append_left _ (List.mem_append_right _ h)) (by decide +kernel))
set_option maxRecDepth 20000 in
theorem gL_law_L_fillTable : GoodIn wsL_law (va_wsS RL 111 yL_fillTable wsL_fillTable) := goodIn_app (goodIn_of _ (by decide +kernel)) ggL_law_L_fillTable
set_option maxRecDepth 20000 in
theorem ggL_law_X9_fillTable : GoodIn wsL_law wsX9_fillTable := goodIn_r _ [262, 181, 263, 234, 93, 182, 183, 5, 184, 185, 186, 187, 188, 193, 194, 195, 196, 197, 94, 264, 265, 266, 267, 268, 269, 270, 271, 272, 273, 1060, 1061, 1062, 1063, 1064, 1065, 1066, 1067, 1068, 1069, 1070, 1071, 1072] (by decide +kernel) (by decide +kernel)
set_option maxRecDepth 20000 in
theorem gL_law_X9_fillTable : GoodIn wsL_law (wsV RL 113 RX9 yX9_fillTable wsX9_fillTable) := goodIn_app (goodIn_of _ (by decide +kernel)) ggL_law_X9_fillTable
set_option maxRecDepth 20000 in
theorem ggL_law_L_capacity : GoodIn wsL_law wsL_capacity := goodIn_ca (goodIn_r _ [276, 103, 277, 278, 279, 2, 280, 16, 109, 219, 220, 221, 110, 111, 112, 113, 114, 222, 223, 224, 39, 225, 62, 1051, 1052, 1053, 1054, 1055, 1056, 1057, 1058, 1059, 1073, 1074, 1075, 1076, 1077, 1078, 1079, 1080, 1081, 1099, 1100, 1101, 1102] (by decide +kernel) (by decide +kernel)) (goodIn_sub (fun _ h => List.mem_append_left _ (List.mem_append_left _ (List.mem_append_right _ h))) (by decide +kernel))
set_option maxRecDepth 20000 in
theorem gL_law_L_capacity : GoodIn wsL_law (va_wsS RL 114 yL_capacity wsL_capacity) := goodIn_app (goodIn_of _ (by decide +kernel)) ggL_law_L_capacity
set_option maxRecDepth 20000 in
theorem ggL_law_X9_capacity : GoodIn wsL_law wsX9_capacity := goodIn_r _ [284, 181, 235, 236, 5, 237, 182, 183, 184, 285, 286, 287, 288, 93, 185, 186, 187, 188, 1060, 1061, 1062, 1063, 1064, 1065, 1066, 1067, 1068, 1069, 1070, 1071, 1072] (by decide +kernel) (by decide +kernel)
set_option maxRecDepth 20000 in
theorem gL_law_X9_capacity : GoodIn wsL_law (wsV RL 117 RX9 yX9_capacity wsX9_capacity) := goodIn_app (goodIn_of _ (by decide +kernel)) ggL_law_X9_capacity
set_option maxRecDepth 20000 in
theorem ggL_law_L_addZone : GoodIn wsL_law wsL_addZone := goodIn_ca (goodIn_ca (goodIn_r _ [291, 104, 292, 293, 294, 295, 2, 296, 16, 297, 298, 299, 300, 301, 115, 116, 117, 118, 119, 302, 303, 304, 305, 306, 120, 121, 122, 123, 17, 124, 13, 14, 15, 125, 126, 127, 128, 129, 32, 33, 34, 11, 12, 35, 29, 30, 36, 37, 38, 39, 40, 41, 42, 43, 44, 45, 46, 47, 48, 49, 50, 51, 52, 53, 54, 55, 56, 57, 58, 59, 60, 61, 18, 62, 63, 64, 65, 66, 67, 68, 69, 70, 71, 72, 73, 74, 75, 76, 77, 78, 79, 80, 130, 131, 132, 133, 134, 135, 136, 137, 138, 139, 140, 141, 142, 143, 144, 145, 146, 147, 148, 149, 150, 151, 152, 153, 154, 155, 156, 157, 158, 159, 160, 161, 162, 163, 164, 165, 166, 167, 168, 169, 170, 171, 172, 307, 308, 309, 310, 1051, 1052, 1053, 1054, 1055, 1056, 1057, 1058, 1059, 1073, 1074, 1075, 1076, 1077, 1078, 1079, 1080, 1081, 1103, 1104, 1092, 1093, 1094, 1095, 1096, 1097, 1098, 1099, 1100, 1101, 1102, 1105, 1106, 1107, 1108, 1109, 1110, 1111, 1112] (by decide +kernel) (by decide +kernel)) (goodIn_sub (fun _ h => List.mem_append_left _ (List.mem_append_right _ h)) (by decide +kernel))) (goodIn_sub (fun _ h => List.mem_append_right _ h) (by decide +kernel))
set_option maxRecDepth 20000 in
theorem gL_law_L_addZone : GoodIn wsL_law (va_wsS RL 118 yL_addZone wsL_addZone) := goodIn_app (goodIn_of _ (by decide +kernel)) ggL_law_L_addZone
set_option maxRecDepth 20000 in
theorem ggL_law_X9_addZone : GoodIn wsL_law wsX9_addZone := goodIn_r _ [314, 181, 93, 182, 183, 5, 184, 185, 186, 187, 188, 193, 194, 195, 196, 197, 94, 1060, 1061, 1062, 1063, 1064, 1065, 1066, 1067, 1068, 1069, 1070, 1071, 1072] (by decide +kernel) (by decide +kernel)
set_option maxRecDepth 20000 in
theorem gL_law_X9_addZone : GoodIn wsL_law (wsV RL 120 RX9 yX9_addZone wsX9_addZone) := goodIn_app (goodIn_of _ (by decide +kernel)) ggL_law_X9_addZone
set_option maxRecDepth 20000 in
theorem ggL_law_L_removeZone : GoodIn wsL_law wsL_removeZone := goodIn_ca (goodIn_r _ [317, 103, 318, 319, 320, 2, 321, 16, 297, 298, 110, 111, 112, 113, 114, 120, 121, 122, 123, 17, 124, 13, 14, 15, 125, 126, 127, 128, 129, 32, 33, 34, 11, 12, 35, 29, 30, 36, 37, 38, 39, 40, 41, 42, 43, 44, 45, 46, 47, 48, 49, 50, 51, 52, 53, 54, 55, 56, 57, 58, 59, 60, 61, 18, 62, 63, 64, 65, 66, 67, 68, 69, 70, 71, 72, 73, 74, 75, 76, 77, 78, 79, 80, 130, 131, 132, 133, 134, 135, 136, 137, 138, 139, 140, 141, 142, 143, 144, 145, 146, 147, 148, 149, 150, 151, 152, 153, 154, 155, 156, 157, 158, 159, 160, 161, 162, 163, 164, 165, 166, 167, 168, 169, 170, 171, 172, 322, 323, 324, 325, 1051, 1052, 1053, 1054, 1055, 1056, 1057, 1058, 1059, 1073, 1074, 1075, 1076, 1077, 1078, 1079, 1080, 1081, 1103, 1104, 1092, 1093, 1094, 1095, 1096, 1097, 1098, 1099, 1100, 1101, 1102, 1105, 1106, 1107, 1108, 1109, 1110, 1111, 1112] (by decide +kernel) (by decide +kernel)) (goodIn_sub (fun _ h => List.mem_append_left _ (List.mem_append_left _ (List.mem_append_right _ h))) (by decide +kernel))
set_option maxRecDepth 20000 in
theorem gL_law_L_removeZone : GoodIn wsL_law (va_wsS RL 121 yL_removeZone wsL_removeZone) := goodIn_app (goodIn_of _ (by decide +kernel)) ggL_law_L_removeZone
set_option maxRecDepth 20000 in
theorem ggL_law_X9_removeZone : GoodIn wsL_law wsX9_removeZone := goodIn_r _ [329, 181, 93, 182, 183, 5, 184, 185, 186, 187, 188, 193, 194, 195, 196, 197, 94, 1060, 1061, 1062, 1063, 1064, 1065, 1066, 1067, 1068, 1069, 1070, 1071, 1072] (by decide +kernel) (by decide +kernel)
set_option maxRecDepth 20000 in
theorem gL_law_X9_removeZone : GoodIn wsL_law (wsV RL 124 RX9 yX9_removeZone wsX9_removeZone) := goodIn_app (goodIn_of _ (by decide +kernel)) ggL_law_X9_removeZone
set_option maxRecDepth 20000 in
theorem ggL_law_L_setBoom : GoodIn wsL_law wsL_setBoom := goodIn_ca (goodIn_ca (goodIn_r _ [332, 104, 292, 333, 334, 335, 2, 336, 16, 337, 338, 297, 339, 340, 341, 115, 116, 117, 118, 119, 299, 300, 301, 302, 303, 304, 305, 306, 120, 121, 122, 123, 17, 124, 13, 14, 15, 125, 126, 127, 128, 129, 32, 33, 34, 11, 12, 35, 29, 30, 36, 37, 38, 39, 40, 41, 42, 43, 44, 45, 46, 47, 48, 49, 50, 51, 52, 53, 54, 55, 56, 57, 58, 59, 60, 61, 18, 62, 63, 64, 65, 66, 67, 68, 69, 70, 71, 72, 73, 74, 75, 76, 77, 78, 79, 80, 130, 131, 132, 133, 134, 135, 136, 137, 138, 139, 140, 141, 142, 143, 144, 145, 146, 147, 148, 149, 150, 151, 152, 153, 154, 155, 156, 157, 158, 159, 160, 161, 162, 163, 164, 165, 166, 167, 168, 169, 170, 171, 172, 342, 343, 344, 345, 346, 347, 348, 349, 350, 351, 352, 353, 354, 355, 356, 357, 358, 359, 360, 361, 362, 363, 364, 365, 366, 367, 368, 1051, 1052, 1053, 1054, 1055, 1056, 1057, 1058, 1059, 1073, 1074, 1075, 1076, 1077, 1078, 1079, 1080, 1081, 1092, 1093, 1094, 1095, 1096, 1097, 1098, 1099, 1100, 1101, 1102, 1103, 1104, 1105, 1106, 1107, 1108, 1109, 1110, 1111, 1112] (by decide +kernel) (by decide +kernel)) (goodIn_sub (fun _ h => List.mem_append_left _ (List.mem_append_right _ h)) (by decide +kernel))) (goodIn_sub (fun _ h => List.mem_append_right _ h) (by decide +kernel))
set_option maxRecDepth 20000 in
theorem gL_law_L_setBoom : GoodIn wsL_law (va_wsS RL 125 yL_setBoom wsL_setBoom) := goodIn_app (goodIn_of _ (by decide +kernel)) ggL_law_L_setBoom
set_option maxRecDepth 20000 in
theorem ggL_law_X9_setBoom : GoodIn wsL_law wsX9_setBoom := goodIn_r _ [372, 181, 93, 373, 374, 5, 375, 182, 183, 184, 185, 186, 187, 188, 193, 194, 195, 196, 197, 94, 376, 377, 378, 379, 380, 381, 382, 383, 384, 385, 386, 387, 388, 389, 390, 391, 392, 393, 394, 395, 396, 397, 398, 399, 400, 401, 402, 1060, 1061, 1062, 1063, 1064, 1065, 1066, 1067, 1068, 1069, 1070, 1071, 1072] (by decide +kernel) (by decide +kernel)
set_option maxRecDepth 20000 in
theorem gL_law_X9_setBoom : GoodIn wsL_law (wsV RL 127 RX9 yX9_setBoom wsX9_setBoom) := goodIn_app (goodIn_of _ (by decide +kernel)) ggL_law_X9_setBoom
set_option maxRecDepth 20000 in
theorem ggL_law_L_wind : GoodIn wsL_law wsL_wind := goodIn_ca (goodIn_r _ [405, 104, 406, 407, 408, 2, 409, 16, 109, 115, 116, 117, 118, 119, 120, 121, 122, 123, 17, 124, 13, 14, 15, 125, 126, 127, 128, 129, 32, 33, 34, 11, 12, 35, 29, 30, 36, 37, 38, 39, 40, 41, 42, 43, 44, 45, 46, 47, 48, 49, 50, 51, 52, 53, 54, 55, 56, 57, 58, 59, 60, 61, 18, 62, 63, 64, 65, 66, 67, 68, 69, 70, 71, 72, 73, 74, 75, 76, 77, 78, 79, 80, 130, 131, 132, 133, 134, 135, 136, 137, 138, 139, 140, 141, 142, 143, 144, 145, 146, 147, 148, 149, 150, 151, 152, 153, 154, 155, 156, 157, 158, 159, 160, 161, 162, 163, 164, 165, 166, 167, 168, 169, 170, 171, 172, 410, 411, 412, 413, 414, 415, 416, 417, 1051, 1052, 1053, 1054, 1055, 1056, 1057, 1058, 1059, 1073, 1074, 1075, 1076, 1077, 1078, 1079, 1080, 1081, 1092, 1093, 1094, 1095, 1096, 1097, 1098, 1099, 1100, 1101, 1102, 1103, 1104, 1105, 1106, 1107, 1108, 1109, 1110, 1111, 1112] (by decide +kernel) (by decide +kernel)) (goodIn_sub (fun _ h => List.mem_append_left _ (List.mem_append_right _ h)) (by decide +kernel))
set_option maxRecDepth 20000 in
theorem gL_law_L_wind : GoodIn wsL_law (va_wsS RL 128 yL_wind wsL_wind) := goodIn_app (goodIn_of _ (by decide +kernel)) ggL_law_L_wind
set_option maxRecDepth 20000 in
theorem ggL_law_X9_wind : GoodIn wsL_law wsX9_wind := goodIn_r _ [421, 181, 93, 182, 183, 5, 184, 185, 186, 187, 188, 193, 194, 195, 196, 197, 94, 422, 423, 424, 425, 393, 394, 395, 1060, 1061, 1062, 1063, 1064, 1065, 1066, 1067, 1068, 1069, 1070, 1071, 1072] (by decide +kernel) (by decide +kernel)
set_option maxRecDepth 20000 in
theorem gL_law_X9_wind : GoodIn wsL_law (wsV RL 130 RX9 yX9_wind wsX9_wind) := goodIn_app (goodIn_of _ (by decide +kernel)) ggL_law_X9_wind
set_option maxRecDepth 20000 in
theorem ggL_law_L_attach : GoodIn wsL_law wsL_attach := goodIn_ca (goodIn_ca (goodIn_r _ [428, 104, 292, 429, 430, 431, 2, 432, 218, 16, 337, 338, 433, 434, 115, 116, 117, 118, 119, 302, 303, 304, 305, 306, 120, 121, 122, 123, 17, 124, 13, 14, 15, 125, 126, 127, 128, 129, 32, 33, 34, 11, 12, 35, 29, 30, 36, 37, 38, 39, 40, 41, 42, 43, 44, 45, 46, 47, 48, 49, 50, 51, 52, 53, 54, 55, 56, 57, 58, 59, 60, 61, 18, 62, 63, 64, 65, 66, 67, 68, 69, 70, 71, 72, 73, 74, 75, 76, 77, 78, 79, 80, 130, 131, 132, 133, 134, 135, 136, 137, 138, 139, 140, 141, 142, 143, 144, 145, 146, 147, 148, 149, 150, 151, 152, 153, 154, 155, 156, 157, 158, 159, 160, 161, 162, 163, 164, 165, 166, 167, 168, 169, 170, 171, 172, 1051, 1052, 1053, 1054, 1055, 1056, 1057, 1058, 1059, 1073, 1074, 1075, 1076, 1077, 1078, 1079, 1080, 1081, 1092, 1093, 1094, 1095, 1096, 1097, 1098, 1099, 1100, 1101, 1102, 1103, 1104, 1105, 1106, 1107, 1108, 1109, 1110, 1111, 1112] (by decide +kernel) (by decide +kernel)) (goodIn_sub (fun _ h => List.mem_append_left _ (List.mem_append_right _ h)) (by decide +kernel))) (goodIn_sub (fun _ h => List.mem_append_right _ h) (by decide +kernel))
set_option maxRecDepth 20000 in
theorem gL_law_L_attach : GoodIn wsL_law (va_wsS RL 131 yL_attach wsL_attach) := goodIn_app (goodIn_of _ (by decide +kernel)) ggL_law_L_attach
set_option maxRecDepth 20000 in
theorem ggL_law_X9_attach : GoodIn wsL_law wsX9_attach := goodIn_r _ [438, 181, 234, 93, 182, 183, 5, 184, 185, 186, 187, 188, 189, 190, 191, 192, 193, 194, 195, 196, 197, 94, 1060, 1061, 1062, 1063, 1064, 1065, 1066, 1067, 1068, 1069, 1070, 1071, 1072] (by decide +kernel) (by decide +kernel)
set_option maxRecDepth 20000 in
theorem gL_law_X9_attach : GoodIn wsL_law (wsV RL 133 RX9 yX9_attach wsX9_attach) := goodIn_app (goodIn_of _ (by decide +kernel)) ggL_law_X9_attach
set_option maxRecDepth 20000 in
theorem ggL_law_L_setTare : GoodIn wsL_law wsL_setTare := goodIn_ca (goodIn_r _ [441, 104, 442, 443, 444, 2, 445, 16, 337, 446, 115, 116, 117, 118, 119, 120, 121, 122, 123, 17, 124, 13, 14, 15, 125, 126, 127, 128, 129, 32, 33, 34, 11, 12, 35, 29, 30, 36, 37, 38, 39, 40, 41, 42, 43, 44, 45, 46, 47, 48, 49, 50, 51, 52, 53, 54, 55, 56, 57, 58, 59, 60, 61, 18, 62, 63, 64, 65, 66, 67, 68, 69, 70, 71, 72, 73, 74, 75, 76, 77, 78, 79, 80, 130, 131, 132, 133, 134, 135, 136, 137, 138, 139, 140, 141, 142, 143, 144, 145, 146, 147, 148, 149, 150, 151, 152, 153, 154, 155, 156, 157, 158, 159, 160, 161, 162, 163, 164, 165, 166, 167, 168, 169, 170, 171, 172, 1051, 1052, 1053, 1054, 1055, 1056, 1057, 1058, 1059, 1073, 1074, 1075, 1076, 1077, 1078, 1079, 1080, 1081, 1092, 1093, 1094, 1095, 1096, 1097, 1098, 1099, 1100, 1101, 1102, 1103, 1104, 1105, 1106, 1107, 1108, 1109, 1110, 1111, 1112] (by decide +kernel) (by decide +kernel)) (goodIn_sub (fun _ h => List.mem_append_left _ (List.mem_append_right _ h)) (by decide +kernel))
set_option maxRecDepth 20000 in
theorem gL_law_L_setTare : GoodIn wsL_law (va_wsS RL 134 yL_setTare wsL_setTare) := goodIn_app (goodIn_of _ (by decide +kernel)) ggL_law_L_setTare
set_option maxRecDepth 20000 in
theorem ggL_law_X9_setTare : GoodIn wsL_law wsX9_setTare := goodIn_r _ [450, 181, 182, 183, 5, 184, 189, 190, 191, 192, 93, 193, 194, 195, 196, 197, 94, 185, 186, 187, 188, 1060, 1061, 1062, 1063, 1064, 1065, 1066, 1067, 1068, 1069, 1070, 1071, 1072] (by decide +kernel) (by decide +kernel)
set_option maxRecDepth 20000 in
theorem gL_law_X9_setTare : GoodIn wsL_law (wsV RL 136 RX9 yX9_setTare wsX9_setTare) := goodIn_app (goodIn_of _ (by decide +kernel)) ggL_law_X9_setTare
set_option maxRecDepth 20000 in
theorem ggL_law_L_bypass : GoodIn wsL_law wsL_bypass := goodIn_ca (goodIn_r _ [453, 104, 454, 455, 456, 2, 457, 16, 458, 115, 116, 117, 118, 119, 120, 121, 122, 123, 17, 124, 13, 14, 15, 125, 126, 127, 128, 129, 32, 33, 34, 11, 12, 35, 29, 30, 36, 37, 38, 39, 40, 41, 42, 43, 44, 45, 46, 47, 48, 49, 50, 51, 52, 53, 54, 55, 56, 57, 58, 59, 60, 61, 18, 62, 63, 64, 65, 66, 67, 68, 69, 70, 71, 72, 73, 74, 75, 76, 77, 78, 79, 80, 130, 131, 132, 133, 134, 135, 136, 137, 138, 139, 140, 141, 142, 143, 144, 145, 146, 147, 148, 149, 150, 151, 152, 153, 154, 155, 156, 157, 158, 159, 160, 161, 162, 163, 164, 165, 166, 167, 168, 169, 170, 171, 172, 1051, 1052, 1053, 1054, 1055, 1056, 1057, 1058, 1059, 1073, 1074, 1075, 1076, 1077, 1078, 1079, 1080, 1081, 1092, 1093, 1094, 1095, 1096, 1097, 1098, 1099, 1100, 1101, 1102, 1103, 1104, 1105, 1106, 1107, 1108, 1109, 1110, 1111, 1112] (by decide +kernel) (by decide +kernel)) (goodIn_sub (fun _ h => List.mem_append_left _ (List.mem_append_right _ h)) (by decide +kernel))
set_option maxRecDepth 20000 in
theorem gL_law_L_bypass : GoodIn wsL_law (va_wsS RL 137 yL_bypass wsL_bypass) := goodIn_app (goodIn_of _ (by decide +kernel)) ggL_law_L_bypass
set_option maxRecDepth 20000 in
theorem ggL_law_X9_bypass : GoodIn wsL_law wsX9_bypass := goodIn_r _ [462, 181, 182, 183, 5, 184, 189, 190, 191, 192, 93, 193, 194, 195, 196, 197, 94, 185, 186, 187, 188, 1060, 1061, 1062, 1063, 1064, 1065, 1066, 1067, 1068, 1069, 1070, 1071, 1072] (by decide +kernel) (by decide +kernel)
set_option maxRecDepth 20000 in
theorem gL_law_X9_bypass : GoodIn wsL_law (wsV RL 139 RX9 yX9_bypass wsX9_bypass) := goodIn_app (goodIn_of _ (by decide +kernel)) ggL_law_X9_bypass
set_option maxRecDepth 20000 in
theorem ggL_law_L_run : GoodIn wsL_law wsL_run := goodIn_ca (goodIn_r _ [465, 104, 466, 467, 468, 2, 469, 115, 116, 117, 118, 119, 470, 471, 472, 120, 121, 122, 123, 17, 124, 13, 14, 15, 16, 125, 126, 127, 128, 129, 32, 33, 34, 11, 12, 35, 29, 30, 36, 37, 38, 39, 40, 41, 42, 43, 44, 45, 46, 47, 48, 49, 50, 51, 52, 53, 54, 55, 56, 57, 58, 59, 60, 61, 18, 62, 63, 64, 65, 66, 67, 68, 69, 70, 71, 72, 73, 74, 75, 76, 77, 78, 79, 80, 130, 131, 132, 133, 134, 135, 136, 137, 138, 139, 140, 141, 142, 143, 144, 145, 146, 147, 148, 149, 150, 151, 152, 153, 154, 155, 156, 157, 158, 159, 160, 161, 162, 163, 164, 165, 166, 167, 168, 169, 170, 171, 172, 473, 474, 475, 476, 337, 338, 477, 458, 478, 479, 480, 481, 482, 483, 484, 485, 297, 31, 486, 487, 488, 489, 490, 491, 492, 493, 494, 364, 365, 366, 359, 360, 361, 362, 495, 496, 497, 498, 499, 500, 501, 502, 503, 504, 505, 506, 507, 508, 509, 510, 511, 358, 352, 353, 512, 513, 514, 515, 516, 517, 518, 519, 346, 347, 348, 349, 350, 351, 354, 355, 356, 357, 363, 367, 368, 520, 521, 522, 523, 27, 524, 109, 525, 526, 527, 528, 529, 26, 530, 531, 532, 533, 534, 535, 536, 537, 538, 539, 540, 541, 542, 543, 544, 545, 546, 547, 548, 549, 550, 551, 552, 553, 554, 555, 556, 557, 558, 559, 560, 561, 562, 563, 564, 565, 566, 567, 568, 250, 569, 570, 571, 572, 258, 223, 224, 225, 573, 574, 575, 576, 577, 415, 416, 417, 578, 579, 580, 581, 582, 583, 584, 585, 586, 587, 588, 589, 590, 591, 592, 593, 594, 595, 596, 597, 598, 599, 600, 601, 602, 603, 604, 605, 606, 607, 608, 609, 610, 611, 612, 613, 614, 615, 616, 617, 618, 619, 620, 621, 622, 623, 624, 625, 1051, 1052, 1053, 1054, 1055, 1056, 1057, 1058, 1059, 1073, 1074, 1075, 1076, 1077, 1078, 1079, 1080, 1081, 1092, 1093, 1094, 1095, 1096, 1097, 1098, 1099, 1100, 1101, 1102, 1103, 1104, 1105, 1106, 1107, 1108, 1109, 1110, 1111, 1112, 1088, 1089, 1090, 1091] (by decide +kernel) (by decide +kernel)) (goodIn_sub (fun _ h => List.mem_append_left _ (List.mem_append_right _ h)) (by decide +kernel))
set_option maxRecDepth 20000 in
theorem gL_law_L_run : GoodIn wsL_law (va_wsS RL 140 yL_run wsL_run) := goodIn_app (goodIn_of _ (by decide +kernel)) ggL_law_L_run
set_option maxRecDepth 20000 in
theorem ggL_law_X9_run : GoodIn wsL_law wsX9_run := goodIn_r _ [629, 181, 630, 631, 5, 632, 182, 183, 184, 185, 186, 187, 188, 193, 194, 195, 196, 197, 94, 93, 633, 634, 635, 636, 393, 394, 395, 637, 638, 639, 640, 641, 642, 643, 644, 645, 646, 647, 648, 396, 397, 398, 399, 400, 401, 402, 387, 388, 389, 390, 391, 392, 649, 650, 651, 652, 376, 377, 378, 379, 380, 381, 382, 383, 384, 385, 386, 653, 654, 655, 656, 96, 657, 658, 659, 660, 661, 662, 663, 664, 267, 268, 269, 665, 666, 667, 668, 669, 670, 671, 672, 673, 674, 675, 676, 677, 678, 679, 680, 681, 682, 683, 684, 685, 686, 687, 688, 689, 690, 691, 692, 693, 694, 695, 696, 697, 698, 699, 700, 701, 702, 703, 704, 705, 706, 707, 708, 709, 710, 711, 712, 713, 422, 423, 424, 425, 714, 715, 716, 717, 718, 719, 720, 721, 722, 723, 724, 725, 726, 727, 264, 265, 266, 285, 286, 287, 288, 728, 729, 730, 731, 732, 733, 734, 735, 736, 737, 738, 739, 740, 741, 742, 743, 1060, 1061, 1062, 1063, 1064, 1065, 1066, 1067, 1068, 1069, 1070, 1071, 1072] (by decide +kernel) (by decide +kernel)
set_option maxRecDepth 20000 in
theorem gL_law_X9_run : GoodIn wsL_law (wsV RL 142 RX9 yX9_run wsX9_run) := goodIn_app (goodIn_of _ (by decide +kernel)) ggL_law_X9_run
set_option maxRecDepth 20000 in
theorem ggL_law_X8_permitted : GoodIn wsL_law wsX8_permitted := goodIn_r _ [747, 481, 482, 483, 2, 484, 16, 337, 485, 297, 31, 480, 486, 487, 488, 30, 489, 143, 144, 57, 56, 490, 491, 492, 493, 145, 494, 364, 365, 366, 359, 360, 361, 362, 495, 496, 497, 498, 499, 500, 501, 502, 139, 140, 141, 142, 58, 503, 504, 505, 506, 507, 508, 509, 510, 511, 127, 128, 129, 358, 352, 353, 512, 513, 514, 515, 516, 517, 518, 519, 346, 347, 348, 43, 349, 160, 68, 350, 351, 354, 355, 356, 357, 363, 367, 368, 520, 521, 522, 523, 27, 524, 109, 525, 526, 527, 528, 529, 26, 530, 531, 532, 533, 534, 535, 536, 537, 538, 539, 540, 541, 542, 543, 544, 545, 546, 547, 548, 549, 550, 551, 552, 553, 554, 555, 556, 557, 558, 39, 559, 560, 561, 562, 563, 154, 63, 564, 565, 566, 567, 568, 250, 569, 570, 571, 572, 258, 223, 224, 225, 62, 573, 574, 575, 576, 577, 415, 416, 417, 64, 578, 579, 580, 581, 582, 583, 584, 585, 1051, 1052, 1053, 1054, 1055, 1056, 1057, 1058, 1059, 1073, 1074, 1075, 1076, 1077, 1078, 1079, 1080, 1081, 1092, 1093, 1094, 1095, 1096, 1097, 1098, 1103, 1104, 1088, 1089, 1090, 1091, 1099, 1100, 1101, 1102] (by decide +kernel) (by decide +kernel)
set_option maxRecDepth 20000 in
theorem gL_law_X8_permitted : GoodIn wsL_law (wsV RL 143 RX8 yX8_permitted wsX8_permitted) := goodIn_app (goodIn_of _ (by decide +kernel)) ggL_law_X8_permitted
set_option maxRecDepth 20000 in
theorem ggL_law_X9_permitted : GoodIn wsL_law wsX9_permitted := goodIn_r _ [751, 181, 752, 753, 754, 5, 755, 641, 642, 643, 644, 93, 645, 646, 647, 648, 396, 397, 398, 399, 400, 401, 402, 387, 388, 389, 390, 391, 392, 649, 650, 651, 652, 376, 377, 378, 379, 380, 381, 382, 383, 384, 385, 386, 393, 394, 395, 653, 654, 655, 656, 96, 657, 658, 659, 660, 661, 662, 663, 664, 267, 268, 269, 665, 666, 667, 668, 669, 670, 671, 672, 673, 674, 675, 676, 677, 678, 679, 680, 681, 682, 683, 684, 685, 686, 687, 688, 689, 690, 691, 692, 693, 694, 695, 696, 697, 698, 699, 700, 701, 702, 703, 704, 705, 706, 707, 708, 709, 710, 711, 712, 713, 422, 423, 424, 425, 714, 715, 716, 717, 718, 719, 720, 721, 722, 723, 724, 725, 726, 727, 264, 265, 266, 285, 286, 287, 288, 728, 729, 730, 731, 1060, 1061, 1062, 1063, 1064, 1065, 1066, 1067, 1068, 1069, 1070, 1071, 1072] (by decide +kernel) (by decide +kernel)
set_option maxRecDepth 20000 in
theorem gL_law_X9_permitted : GoodIn wsL_law (wsV RL 146 RX9 yX9_permitted wsX9_permitted) := goodIn_app (goodIn_of _ (by decide +kernel)) ggL_law_X9_permitted
set_option maxRecDepth 20000 in
theorem ggL_law_L_predicted : GoodIn wsL_law wsL_predicted := goodIn_ca (goodIn_r _ [758, 104, 759, 760, 761, 2, 762, 31, 480, 115, 116, 117, 118, 119, 498, 499, 500, 501, 16, 337, 502, 139, 140, 30, 141, 56, 57, 142, 143, 144, 145, 58, 503, 504, 505, 506, 485, 507, 508, 509, 510, 511, 127, 128, 129, 358, 352, 353, 512, 513, 514, 515, 490, 491, 492, 493, 516, 517, 518, 519, 494, 364, 365, 366, 359, 360, 361, 362, 520, 521, 522, 523, 27, 524, 109, 525, 526, 527, 528, 529, 26, 530, 531, 532, 533, 534, 535, 536, 537, 538, 539, 355, 356, 357, 540, 541, 542, 543, 544, 545, 546, 547, 548, 549, 550, 551, 552, 553, 554, 555, 556, 557, 558, 39, 559, 560, 561, 562, 563, 154, 63, 367, 368, 564, 565, 566, 567, 568, 250, 569, 570, 571, 572, 258, 223, 224, 225, 62, 573, 574, 575, 576, 577, 415, 416, 417, 64, 578, 579, 580, 581, 582, 583, 584, 585, 1051, 1052, 1053, 1054, 1055, 1056, 1057, 1058, 1059, 1092, 1093, 1094, 1095, 1096, 1097, 1098, 1073, 1074, 1075, 1076, 1077, 1078, 1079, 1080, 1081, 1088, 1089, 1090, 1091, 1099, 1100, 1101, 1102] (by decide +kernel) (by decide +kernel)) (goodIn_sub (fun _ h => List.mem_append_left _ (List.mem_append_right _ h)) (by decide +kernel))
set_option maxRecDepth 20000 in
theorem gL_law_L_predicted : GoodIn wsL_law (va_wsS RL 147 yL_predicted wsL_predicted) := goodIn_app (goodIn_of _ (by decide +kernel)) ggL_law_L_predicted
set_option maxRecDepth 20000 in
theorem ggL_law_X9_predicted : GoodIn wsL_law wsX9_predicted := goodIn_r _ [766, 181, 182, 183, 5, 184, 185, 186, 187, 188, 653, 654, 655, 656, 96, 93, 657, 658, 659, 660, 661, 662, 663, 664, 393, 394, 395, 267, 268, 269, 396, 397, 398, 399, 400, 401, 402, 387, 388, 389, 390, 391, 392, 673, 674, 675, 676, 677, 678, 679, 680, 681, 682, 683, 684, 685, 686, 687, 380, 381, 382, 383, 384, 385, 386, 688, 689, 690, 691, 692, 693, 694, 695, 696, 697, 698, 699, 700, 701, 702, 703, 704, 705, 706, 707, 708, 709, 710, 711, 712, 713, 422, 423, 424, 425, 714, 715, 716, 717, 718, 719, 720, 721, 722, 723, 724, 725, 726, 727, 264, 265, 266, 285, 286, 287, 288, 728, 729, 730, 731, 665, 666, 667, 668, 1060, 1061, 1062, 1063, 1064, 1065, 1066, 1067, 1068, 1069, 1070, 1071, 1072] (by decide +kernel) (by decide +kernel)
set_option maxRecDepth 20000 in
theorem gL_law_X9_predicted : GoodIn wsL_law (wsV RL 149 RX9 yX9_predicted wsX9_predicted) := goodIn_app (goodIn_of _ (by decide +kernel)) ggL_law_X9_predicted
set_option maxRecDepth 20000 in
theorem ggL_law_L_boom : GoodIn wsL_law wsL_boom := goodIn_ca (goodIn_r _ [769, 104, 770, 771, 772, 2, 773, 115, 116, 117, 118, 119, 774, 775, 776, 777, 16, 337, 525, 778, 480, 433, 338, 434, 27, 779, 297, 477, 458, 780, 355, 356, 30, 357, 56, 57, 358, 352, 128, 353, 359, 360, 361, 362, 781, 364, 365, 366, 527, 528, 529, 26, 530, 531, 532, 533, 534, 535, 536, 537, 538, 539, 540, 541, 542, 543, 544, 545, 546, 547, 145, 144, 58, 548, 549, 550, 551, 552, 553, 554, 555, 346, 347, 348, 43, 349, 160, 68, 350, 351, 354, 363, 367, 368, 1051, 1052, 1053, 1054, 1055, 1056, 1057, 1058, 1059, 1073, 1074, 1075, 1076, 1077, 1078, 1079, 1080, 1081, 1092, 1093, 1094, 1095, 1096, 1097, 1098, 1088, 1089, 1090, 1091, 1103, 1104] (by decide +kernel) (by decide +kernel)) (goodIn_sub (fun _ h => List.mem_append_left _ (List.mem_append_right _ h)) (by decide +kernel))
set_option maxRecDepth 20000 in
theorem gL_law_L_boom : GoodIn wsL_law (va_wsS RL 150 yL_boom wsL_boom) := goodIn_app (goodIn_of _ (by decide +kernel)) ggL_law_L_boom
set_option maxRecDepth 20000 in
theorem ggL_law_X9_boom : GoodIn wsL_law wsX9_boom := goodIn_r _ [785, 181, 182, 183, 5, 184, 786, 787, 788, 789, 93, 380, 381, 382, 383, 384, 385, 386, 387, 388, 389, 390, 391, 392, 393, 394, 395, 396, 397, 398, 399, 400, 401, 402, 684, 685, 686, 687, 681, 688, 689, 690, 691, 692, 693, 694, 695, 696, 376, 377, 378, 379, 185, 186, 187, 188, 1060, 1061, 1062, 1063, 1064, 1065, 1066, 1067, 1068, 1069, 1070, 1071, 1072] (by decide +kernel) (by decide +kernel)
set_option maxRecDepth 20000 in
theorem gL_law_X9_boom : GoodIn wsL_law (wsV RL 152 RX9 yX9_boom wsX9_boom) := goodIn_app (goodIn_of _ (by decide +kernel)) ggL_law_X9_boom
set_option maxRecDepth 20000 in
theorem ggL_law_L_limiter : GoodIn wsL_law wsL_limiter := goodIn_ca (goodIn_r _ [792, 104, 793, 794, 795, 2, 796, 115, 116, 117, 118, 119, 797, 798, 799, 800, 16, 337, 27, 801, 526, 524, 109, 480, 525, 485, 527, 528, 529, 26, 530, 531, 532, 533, 534, 535, 536, 537, 352, 128, 353, 538, 539, 355, 356, 30, 357, 56, 57, 358, 359, 360, 361, 362, 540, 541, 542, 543, 544, 545, 546, 547, 145, 144, 58, 548, 549, 550, 551, 552, 553, 554, 555, 802, 561, 562, 39, 563, 154, 63, 367, 368, 414, 415, 416, 417, 64, 556, 557, 558, 559, 560, 564, 565, 566, 567, 568, 250, 569, 570, 571, 572, 258, 223, 224, 225, 62, 573, 574, 575, 576, 577, 520, 521, 522, 523, 578, 579, 580, 581, 582, 583, 584, 585, 1051, 1052, 1053, 1054, 1055, 1056, 1057, 1058, 1059, 1073, 1074, 1075, 1076, 1077, 1078, 1079, 1080, 1081, 1088, 1089, 1090, 1091, 1092, 1093, 1094, 1095, 1096, 1097, 1098, 1099, 1100, 1101, 1102] (by decide +kernel) (by decide +kernel)) (goodIn_sub (fun _ h => List.mem_append_left _ (List.mem_append_right _ h)) (by decide +kernel))
set_option maxRecDepth 20000 in
theorem gL_law_L_limiter : GoodIn wsL_law (va_wsS RL 153 yL_limiter wsL_limiter) := goodIn_app (goodIn_of _ (by decide +kernel)) ggL_law_L_limiter
set_option maxRecDepth 20000 in
theorem ggL_law_X9_limiter : GoodIn wsL_law wsX9_limiter := goodIn_r _ [806, 181, 182, 183, 5, 184, 807, 808, 809, 810, 682, 683, 93, 677, 678, 679, 680, 681, 684, 685, 686, 687, 380, 381, 382, 383, 384, 385, 386, 387, 388, 389, 390, 391, 392, 393, 394, 395, 688, 689, 690, 691, 692, 693, 694, 695, 696, 697, 698, 699, 700, 705, 706, 707, 708, 714, 715, 716, 717, 718, 719, 720, 267, 268, 269, 422, 423, 424, 425, 709, 710, 711, 712, 713, 721, 722, 723, 724, 725, 726, 727, 264, 265, 266, 285, 286, 287, 288, 701, 702, 703, 704, 728, 729, 730, 731, 185, 186, 187, 188, 1060, 1061, 1062, 1063, 1064, 1065, 1066, 1067, 1068, 1069, 1070, 1071, 1072] (by decide +kernel) (by decide +kernel)
set_option maxRecDepth 20000 in
theorem gL_law_X9_limiter : GoodIn wsL_law (wsV RL 155 RX9 yX9_limiter wsX9_limiter) := goodIn_app (goodIn_of _ (by decide +kernel)) ggL_law_X9_limiter
set_option maxRecDepth 20000 in
theorem ggL_law_L_rated : GoodIn wsL_law wsL_rated := goodIn_ca (goodIn_r _ [813, 104, 814, 815, 816, 2, 817, 31, 16, 109, 339, 340, 341, 115, 116, 117, 118, 119, 299, 300, 301, 342, 343, 344, 30, 345, 56, 57, 142, 143, 780, 355, 356, 357, 358, 352, 128, 353, 359, 360, 361, 362, 556, 557, 558, 39, 559, 560, 561, 562, 563, 154, 63, 367, 368, 564, 565, 566, 567, 568, 250, 569, 570, 571, 572, 258, 223, 224, 225, 62, 573, 574, 575, 576, 577, 415, 416, 417, 64, 1051, 1052, 1053, 1054, 1055, 1056, 1057, 1058, 1059, 1073, 1074, 1075, 1076, 1077, 1078, 1079, 1080, 1081, 1092, 1093, 1094, 1095, 1096, 1097, 1098, 1099, 1100, 1101, 1102] (by decide +kernel) (by decide +kernel)) (goodIn_sub (fun _ h => List.mem_append_left _ (List.mem_append_right _ h)) (by decide +kernel))
set_option maxRecDepth 20000 in
theorem gL_law_L_rated : GoodIn wsL_law (va_wsS RL 156 yL_rated wsL_rated) := goodIn_app (goodIn_of _ (by decide +kernel)) ggL_law_L_rated
set_option maxRecDepth 20000 in
theorem ggL_law_X9_rated : GoodIn wsL_law wsX9_rated := goodIn_r _ [821, 181, 373, 374, 5, 375, 182, 183, 184, 384, 385, 386, 387, 388, 389, 390, 391, 392, 393, 394, 395, 709, 710, 711, 712, 713, 422, 423, 424, 425, 93, 714, 715, 716, 717, 718, 719, 720, 267, 268, 269, 721, 722, 723, 724, 725, 726, 727, 264, 265, 266, 285, 286, 287, 288, 185, 186, 187, 188, 1060, 1061, 1062, 1063, 1064, 1065, 1066, 1067, 1068, 1069, 1070, 1071, 1072] (by decide +kernel) (by decide +kernel)
set_option maxRecDepth 20000 in
theorem gL_law_X9_rated : GoodIn wsL_law (wsV RL 158 RX9 yX9_rated wsX9_rated) := goodIn_app (goodIn_of _ (by decide +kernel)) ggL_law_X9_rated
set_option maxRecDepth 20000 in
theorem ggL_law_L_maxRadius : GoodIn wsL_law wsL_maxRadius := goodIn_ca (goodIn_r _ [824, 104, 825, 826, 827, 2, 828, 218, 16, 109, 337, 525, 480, 115, 116, 117, 118, 119, 556, 557, 558, 39, 559, 560, 561, 562, 563, 154, 63, 367, 368, 564, 565, 566, 567, 568, 250, 569, 352, 128, 353, 570, 571, 572, 258, 223, 224, 225, 62, 573, 574, 575, 576, 577, 415, 416, 417, 64, 1051, 1052, 1053, 1054, 1055, 1056, 1057, 1058, 1059, 1073, 1074, 1075, 1076, 1077, 1078, 1079, 1080, 1081, 1092, 1093, 1094, 1095, 1096, 1097, 1098, 1099, 1100, 1101, 1102] (by decide +kernel) (by decide +kernel)) (goodIn_sub (fun _ h => List.mem_append_left _ (List.mem_append_right _ h)) (by decide +kernel))
set_option maxRecDepth 20000 in
theorem gL_law_L_maxRadius : GoodIn wsL_law (va_wsS RL 159 yL_maxRadius wsL_maxRadius) := goodIn_app (goodIn_of _ (by decide +kernel)) ggL_law_L_maxRadius
set_option maxRecDepth 20000 in
theorem ggL_law_X9_maxRadius : GoodIn wsL_law wsX9_maxRadius := goodIn_r _ [832, 181, 234, 93, 182, 183, 5, 184, 185, 186, 187, 188, 709, 710, 711, 712, 713, 422, 423, 424, 425, 393, 394, 395, 714, 715, 716, 717, 718, 719, 720, 267, 268, 269, 721, 722, 723, 724, 725, 726, 727, 264, 265, 266, 285, 286, 287, 288, 1060, 1061, 1062, 1063, 1064, 1065, 1066, 1067, 1068, 1069, 1070, 1071, 1072] (by decide +kernel) (by decide +kernel)
set_option maxRecDepth 20000 in
theorem gL_law_X9_maxRadius : GoodIn wsL_law (wsV RL 161 RX9 yX9_maxRadius wsX9_maxRadius) := goodIn_app (goodIn_of _ (by decide +kernel)) ggL_law_X9_maxRadius
set_option maxRecDepth 20000 in
theorem ggL_law_L_worstSlew : GoodIn wsL_law wsL_worstSlew := goodIn_ca (goodIn_r _ [835, 104, 836, 837, 838, 2, 839, 27, 16, 337, 109, 525, 526, 524, 299, 300, 301, 115, 116, 117, 118, 119, 527, 528, 529, 26, 530, 531, 532, 533, 534, 535, 536, 537, 352, 128, 353, 538, 539, 355, 356, 30, 357, 56, 57, 358, 359, 360, 361, 362, 540, 541, 542, 543, 544, 545, 546, 547, 145, 144, 58, 548, 549, 550, 551, 552, 553, 554, 555, 840, 367, 368, 556, 557, 558, 39, 559, 560, 561, 562, 563, 154, 63, 564, 565, 566, 567, 568, 250, 569, 570, 571, 572, 258, 223, 224, 225, 62, 573, 574, 575, 576, 577, 415, 416, 417, 64, 578, 579, 580, 581, 582, 583, 584, 585, 1051, 1052, 1053, 1054, 1055, 1056, 1057, 1058, 1059, 1073, 1074, 1075, 1076, 1077, 1078, 1079, 1080, 1081, 1092, 1093, 1094, 1095, 1096, 1097, 1098, 1088, 1089, 1090, 1091, 1099, 1100, 1101, 1102] (by decide +kernel) (by decide +kernel)) (goodIn_sub (fun _ h => List.mem_append_left _ (List.mem_append_right _ h)) (by decide +kernel))
set_option maxRecDepth 20000 in
theorem gL_law_L_worstSlew : GoodIn wsL_law (va_wsS RL 162 yL_worstSlew wsL_worstSlew) := goodIn_app (goodIn_of _ (by decide +kernel)) ggL_law_L_worstSlew
set_option maxRecDepth 20000 in
theorem ggL_law_X9_worstSlew : GoodIn wsL_law wsX9_worstSlew := goodIn_r _ [844, 181, 182, 183, 5, 184, 185, 186, 187, 188, 677, 678, 679, 680, 681, 682, 683, 684, 685, 686, 687, 93, 380, 381, 382, 383, 384, 385, 386, 387, 388, 389, 390, 391, 392, 393, 394, 395, 688, 689, 690, 691, 692, 693, 694, 695, 696, 697, 698, 699, 700, 701, 702, 703, 704, 705, 706, 707, 708, 709, 710, 711, 712, 713, 422, 423, 424, 425, 714, 715, 716, 717, 718, 719, 720, 267, 268, 269, 721, 722, 723, 724, 725, 726, 727, 264, 265, 266, 285, 286, 287, 288, 728, 729, 730, 731, 1060, 1061, 1062, 1063, 1064, 1065, 1066, 1067, 1068, 1069, 1070, 1071, 1072] (by decide +kernel) (by decide +kernel)
set_option maxRecDepth 20000 in
theorem gL_law_X9_worstSlew : GoodIn wsL_law (wsV RL 164 RX9 yX9_worstSlew wsX9_worstSlew) := goodIn_app (goodIn_of _ (by decide +kernel)) ggL_law_X9_worstSlew
set_option maxRecDepth 20000 in
theorem ggL_law_X8_events : GoodIn wsL_law wsX8_events := goodIn_r _ [848, 16, 479, 849, 1051, 1052, 1053, 1054, 1055, 1056, 1057, 1058, 1059, 1073, 1074, 1075, 1076, 1077, 1078, 1079, 1080, 1081, 1105, 1106, 1107, 1108, 1109] (by decide +kernel) (by decide +kernel)
set_option maxRecDepth 20000 in
theorem gL_law_X8_events : GoodIn wsL_law (wsV RL 165 RX8 yX8_events wsX8_events) := goodIn_app (goodIn_of _ (by decide +kernel)) ggL_law_X8_events
set_option maxRecDepth 20000 in
theorem ggL_law_X9_events : GoodIn wsL_law wsX9_events := goodIn_r _ [853, 181, 93, 1060, 1061, 1062, 1063, 1064, 1065, 1066, 1067, 1068, 1069, 1070, 1071, 1072] (by decide +kernel) (by decide +kernel)
set_option maxRecDepth 20000 in
theorem gL_law_X9_events : GoodIn wsL_law (wsV RL 168 RX9 yX9_events wsX9_events) := goodIn_app (goodIn_of _ (by decide +kernel)) ggL_law_X9_events
set_option maxRecDepth 20000 in
theorem ggL_law_L_event : GoodIn wsL_law wsL_event := goodIn_ca (goodIn_ca (goodIn_r _ [856, 103, 104, 857, 858, 859, 2, 860, 16, 479, 849, 110, 111, 112, 113, 114, 115, 116, 117, 118, 119, 861, 862, 863, 47, 864, 72, 73, 74, 590, 591, 592, 593, 166, 594, 595, 596, 597, 1051, 1052, 1053, 1054, 1055, 1056, 1057, 1058, 1059, 1073, 1074, 1075, 1076, 1077, 1078, 1079, 1080, 1081, 1105, 1106, 1107, 1108, 1109] (by decide +kernel) (by decide +kernel)) (goodIn_sub (fun _ h => List.mem_append_left _ (List.mem_append_left _ (List.mem_append_right _ h))) (by decide +kernel))) (goodIn_sub (fun _ h => List.mem_append_left _ (List.mem_append_right _ h)) (by decide +kernel))
set_option maxRecDepth 20000 in
theorem gL_law_L_event : GoodIn wsL_law (va_wsS RL 169 yL_event wsL_event) := goodIn_app (goodIn_of _ (by decide +kernel)) ggL_law_L_event
set_option maxRecDepth 20000 in
theorem ggL_law_X9_event : GoodIn wsL_law wsX9_event := goodIn_r _ [868, 181, 93, 182, 183, 5, 184, 185, 186, 187, 188, 1060, 1061, 1062, 1063, 1064, 1065, 1066, 1067, 1068, 1069, 1070, 1071, 1072] (by decide +kernel) (by decide +kernel)
set_option maxRecDepth 20000 in
theorem gL_law_X9_event : GoodIn wsL_law (wsV RL 171 RX9 yX9_event wsX9_event) := goodIn_app (goodIn_of _ (by decide +kernel)) ggL_law_X9_event
set_option maxRecDepth 20000 in
theorem ggL_law_L_stateTime : GoodIn wsL_law wsL_stateTime := goodIn_ca (goodIn_r _ [871, 104, 872, 873, 874, 2, 875, 16, 876, 877, 115, 116, 117, 118, 119, 1051, 1052, 1053, 1054, 1055, 1056, 1057, 1058, 1059, 1073, 1074, 1075, 1076, 1077, 1078, 1079, 1080, 1081, 1110, 1111, 1112] (by decide +kernel) (by decide +kernel)) (goodIn_sub (fun _ h => List.mem_append_left _ (List.mem_append_right _ h)) (by decide +kernel))
set_option maxRecDepth 20000 in
theorem gL_law_L_stateTime : GoodIn wsL_law (va_wsS RL 172 yL_stateTime wsL_stateTime) := goodIn_app (goodIn_of _ (by decide +kernel)) ggL_law_L_stateTime
set_option maxRecDepth 20000 in
theorem ggL_law_X9_stateTime : GoodIn wsL_law wsX9_stateTime := goodIn_r _ [881, 181, 93, 182, 183, 5, 184, 185, 186, 187, 188, 1060, 1061, 1062, 1063, 1064, 1065, 1066, 1067, 1068, 1069, 1070, 1071, 1072] (by decide +kernel) (by decide +kernel)
set_option maxRecDepth 20000 in
theorem gL_law_X9_stateTime : GoodIn wsL_law (wsV RL 174 RX9 yX9_stateTime wsX9_stateTime) := goodIn_app (goodIn_of _ (by decide +kernel)) ggL_law_X9_stateTime
set_option maxRecDepth 20000 in
theorem ggL_law_L_lifts : GoodIn wsL_law wsL_lifts := goodIn_ca (goodIn_r _ [884, 104, 885, 886, 887, 2, 888, 16, 876, 889, 115, 116, 117, 118, 119, 1051, 1052, 1053, 1054, 1055, 1056, 1057, 1058, 1059, 1073, 1074, 1075, 1076, 1077, 1078, 1079, 1080, 1081, 1110, 1111, 1112] (by decide +kernel) (by decide +kernel)) (goodIn_sub (fun _ h => List.mem_append_left _ (List.mem_append_right _ h)) (by decide +kernel))
set_option maxRecDepth 20000 in
theorem gL_law_L_lifts : GoodIn wsL_law (va_wsS RL 175 yL_lifts wsL_lifts) := goodIn_app (goodIn_of _ (by decide +kernel)) ggL_law_L_lifts
set_option maxRecDepth 20000 in
theorem ggL_law_X9_lifts : GoodIn wsL_law wsX9_lifts := goodIn_r _ [893, 181, 93, 182, 183, 5, 184, 185, 186, 187, 188, 1060, 1061, 1062, 1063, 1064, 1065, 1066, 1067, 1068, 1069, 1070, 1071, 1072] (by decide +kernel) (by decide +kernel)
set_option maxRecDepth 20000 in
theorem gL_law_X9_lifts : GoodIn wsL_law (wsV RL 177 RX9 yX9_lifts wsX9_lifts) := goodIn_app (goodIn_of _ (by decide +kernel)) ggL_law_X9_lifts
set_option maxRecDepth 20000 in
theorem ggL_law_X8_spectrum : GoodIn wsL_law wsX8_spectrum := goodIn_r _ [897, 16, 876, 898, 899, 900, 51, 901, 79, 902, 903, 1051, 1052, 1053, 1054, 1055, 1056, 1057, 1058, 1059, 1073, 1074, 1075, 1076, 1077, 1078, 1079, 1080, 1081, 1110, 1111, 1112] (by decide +kernel) (by decide +kernel)
set_option maxRecDepth 20000 in
theorem gL_law_X8_spectrum : GoodIn wsL_law (wsV RL 178 RX8 yX8_spectrum wsX8_spectrum) := goodIn_app (goodIn_of _ (by decide +kernel)) ggL_law_X8_spectrum
set_option maxRecDepth 20000 in
theorem ggL_law_X9_spectrum : GoodIn wsL_law wsX9_spectrum := goodIn_r _ [907, 181, 93, 713, 908, 1060, 1061, 1062, 1063, 1064, 1065, 1066, 1067, 1068, 1069, 1070, 1071, 1072] (by decide +kernel) (by decide +kernel)
set_option maxRecDepth 20000 in
theorem gL_law_X9_spectrum : GoodIn wsL_law (wsV RL 181 RX9 yX9_spectrum wsX9_spectrum) := goodIn_app (goodIn_of _ (by decide +kernel)) ggL_law_X9_spectrum
set_option maxRecDepth 20000 in
theorem ggL_law_L_type : GoodIn wsL_law wsL_type := goodIn_ca (goodIn_ca (goodIn_r _ [911, 104, 292, 912, 913, 914, 2, 915, 916, 19, 115, 116, 117, 118, 119, 302, 303, 304, 305, 306, 1051, 1052, 1053, 1054, 1055, 1056, 1057, 1058, 1059] (by decide +kernel) (by decide +kernel)) (goodIn_sub (fun _ h => List.mem_append_left _ (List.mem_append_right _ h)) (by decide +kernel))) (goodIn_sub (fun _ h => List.mem_append_right _ h) (by decide +kernel))
set_option maxRecDepth 20000 in
theorem gL_law_L_type : GoodIn wsL_law (va_wsS RL 182 yL_type wsL_type) := goodIn_app (goodIn_of _ (by decide +kernel)) ggL_law_L_type
set_option maxRecDepth 20000 in
theorem ggL_law_X9_type : GoodIn wsL_law wsX9_type := goodIn_r _ [920, 181, 921, 95, 182, 183, 5, 184, 185, 186, 187, 188, 1060, 1061, 1062, 1063, 1064, 1065, 1066, 1067, 1068, 1069, 1070, 1071, 1072] (by decide +kernel) (by decide +kernel)
set_option maxRecDepth 20000 in
theorem gL_law_X9_type : GoodIn wsL_law (wsV RL 184 RX9 yX9_type wsX9_type) := goodIn_app (goodIn_of _ (by decide +kernel)) ggL_law_X9_type
set_option maxRecDepth 20000 in
theorem ggL_law_X8_clearText : GoodIn wsL_law wsX8_clearText := goodIn_r _ [925, 916, 1051, 1052, 1053, 1054, 1055, 1056, 1057, 1058, 1059] (by decide +kernel) (by decide +kernel)
set_option maxRecDepth 20000 in
theorem gL_law_X8_clearText : GoodIn wsL_law (wsV RL 185 RX8 yX8_clearText wsX8_clearText) := goodIn_app (goodIn_of _ (by decide +kernel)) ggL_law_X8_clearText
set_option maxRecDepth 20000 in
theorem ggL_law_X9_clearText : GoodIn wsL_law wsX9_clearText := goodIn_r _ [929, 181, 921, 1060, 1061, 1062, 1063, 1064, 1065, 1066, 1067, 1068, 1069, 1070, 1071, 1072] (by decide +kernel) (by decide +kernel)
set_option maxRecDepth 20000 in
theorem gL_law_X9_clearText : GoodIn wsL_law (wsV RL 188 RX9 yX9_clearText wsX9_clearText) := goodIn_app (goodIn_of _ (by decide +kernel)) ggL_law_X9_clearText
set_option maxRecDepth 20000 in
theorem ggL_law_X8_runScript : GoodIn wsL_law wsX8_runScript := goodIn_r _ [933, 23, 19, 916, 934, 935, 936, 937, 22, 938, 939, 940, 941, 942, 943, 944, 945, 946, 947, 948, 949, 950, 951, 952, 953, 954, 955, 956, 957, 958, 959, 960, 961, 962, 963, 964, 965, 966, 84, 85, 120, 121, 122, 2, 123, 17, 124, 13, 14, 15, 16, 125, 126, 127, 128, 129, 32, 33, 34, 11, 12, 35, 29, 30, 36, 37, 38, 39, 40, 41, 42, 43, 44, 45, 46, 47, 48, 49, 50, 51, 52, 53, 54, 55, 56, 57, 58, 59, 60, 61, 18, 62, 63, 64, 65, 66, 67, 68, 69, 70, 71, 72, 73, 74, 75, 76, 77, 78, 79, 80, 130, 131, 132, 133, 134, 135, 136, 137, 138, 139, 140, 141, 142, 143, 144, 145, 146, 147, 148, 149, 150, 151, 152, 153, 154, 155, 156, 157, 158, 159, 160, 161, 162, 163, 164, 165, 166, 167, 168, 169, 170, 171, 172, 967, 968, 969, 970, 971, 972, 973, 974, 473, 474, 475, 476, 337, 338, 477, 458, 478, 479, 480, 481, 482, 483, 484, 485, 297, 31, 486, 487, 488, 489, 490, 491, 492, 493, 494, 364, 365, 366, 359, 360, 361, 362, 495, 496, 497, 498, 499, 500, 501, 502, 503, 504, 505, 506, 507, 508, 509, 510, 511, 358, 352, 353, 512, 513, 514, 515, 516, 517, 518, 519, 346, 347, 348, 349, 350, 351, 354, 355, 356, 357, 363, 367, 368, 520, 521, 522, 523, 27, 524, 109, 525, 526, 527, 528, 529, 26, 530, 531, 532, 533, 534, 535, 536, 537, 538, 539, 540, 541, 542, 543, 544, 545, 546, 547, 548, 549, 550, 551, 552, 553, 554, 555, 556, 557, 558, 559, 560, 561, 562, 563, 564, 565, 566, 567, 568, 250, 569, 570, 571, 572, 258, 223, 224, 225, 573, 574, 575, 576, 577, 415, 416, 417, 578, 579, 580, 581, 582, 583, 584, 585, 586, 587, 588, 589, 590, 591, 592, 593, 594, 595, 596, 597, 598, 599, 600, 601, 602, 603, 604, 605, 606, 607, 608, 609, 610, 611, 612, 613, 614, 615, 616, 617, 618, 619, 620, 621, 622, 623, 624, 625, 1051, 1052, 1053, 1054, 1055, 1056, 1057, 1058, 1059, 1082, 1083, 1084, 1085, 1086, 1087, 1073, 1074, 1075, 1076, 1077, 1078, 1079, 1080, 1081, 1092, 1093, 1094, 1095, 1096, 1097, 1098, 1099, 1100, 1101, 1102, 1103, 1104, 1105, 1106, 1107, 1108, 1109, 1110, 1111, 1112, 1088, 1089, 1090, 1091] (by decide +kernel) (by decide +kernel)
set_option maxRecDepth 20000 in
theorem gL_law_X8_runScript : GoodIn wsL_law (wsV RL 189 RX8 yX8_runScript wsX8_runScript) := goodIn_app (goodIn_of _ (by decide +kernel)) ggL_law_X8_runScript
set_option maxRecDepth 20000 in
theorem ggL_law_X9_runScript : GoodIn wsL_law wsX9_runScript := goodIn_r _ [978, 181, 979, 980, 98, 97, 981, 982, 983, 5, 984, 985, 986, 987, 988, 989, 990, 991, 992, 921, 95, 993, 994, 995, 996, 997, 998, 999, 1000, 1001, 1002, 1003, 182, 183, 184, 193, 194, 195, 196, 197, 94, 93, 633, 634, 635, 636, 393, 394, 395, 637, 638, 639, 640, 641, 642, 643, 644, 645, 646, 647, 648, 396, 397, 398, 399, 400, 401, 402, 387, 388, 389, 390, 391, 392, 649, 650, 651, 652, 376, 377, 378, 379, 380, 381, 382, 383, 384, 385, 386, 653, 654, 655, 656, 96, 657, 658, 659, 660, 661, 662, 663, 664, 267, 268, 269, 665, 666, 667, 668, 669, 670, 671, 672, 673, 674, 675, 676, 677, 678, 679, 680, 681, 682, 683, 684, 685, 686, 687, 688, 689, 690, 691, 692, 693, 694, 695, 696, 697, 698, 699, 700, 701, 702, 703, 704, 705, 706, 707, 708, 709, 710, 711, 712, 713, 422, 423, 424, 425, 714, 715, 716, 717, 718, 719, 720, 721, 722, 723, 724, 725, 726, 727, 264, 265, 266, 285, 286, 287, 288, 728, 729, 730, 731, 732, 733, 734, 735, 736, 737, 738, 739, 740, 741, 742, 743, 1060, 1061, 1062, 1063, 1064, 1065, 1066, 1067, 1068, 1069, 1070, 1071, 1072] (by decide +kernel) (by decide +kernel)
set_option maxRecDepth 20000 in
theorem gL_law_X9_runScript : GoodIn wsL_law (wsV RL 192 RX9 yX9_runScript wsX9_runScript) := goodIn_app (goodIn_of _ (by decide +kernel)) ggL_law_X9_runScript
set_option maxRecDepth 20000 in
theorem ggL_law_L_undo : GoodIn wsL_law wsL_undo := goodIn_ca (goodIn_r _ [1006, 292, 1007, 1008, 1009, 2, 1010, 125, 124, 17, 16, 302, 303, 304, 305, 306, 1011, 595, 596, 597, 130, 131, 132, 15, 133, 36, 40, 44, 48, 52, 134, 135, 136, 137, 138, 139, 140, 30, 141, 56, 57, 142, 143, 144, 145, 58, 146, 147, 148, 39, 149, 62, 150, 151, 152, 153, 63, 64, 154, 155, 156, 157, 43, 158, 68, 159, 160, 161, 162, 163, 47, 164, 72, 165, 73, 74, 166, 167, 168, 169, 170, 51, 171, 78, 172, 79, 80, 1051, 1052, 1053, 1054, 1055, 1056, 1057, 1058, 1059, 1073, 1074, 1075, 1076, 1077, 1078, 1079, 1080, 1081, 1092, 1093, 1094, 1095, 1096, 1097, 1098, 1099, 1100, 1101, 1102, 1103, 1104, 1105, 1106, 1107, 1108, 1109, 1110, 1111, 1112] (by decide +kernel) (by decide +kernel)) (goodIn_sub (fun _ h => List.mem_append_right _ h) (by decide +kernel))
set_option maxRecDepth 20000 in
theorem gL_law_L_undo : GoodIn wsL_law (va_wsS RL 193 yL_undo wsL_undo) := goodIn_app (goodIn_of _ (by decide +kernel)) ggL_law_L_undo
set_option maxRecDepth 20000 in
theorem ggL_law_X9_undo : GoodIn wsL_law wsX9_undo := goodIn_r _ [1015, 181, 197, 93, 94, 185, 186, 187, 5, 188, 1060, 1061, 1062, 1063, 1064, 1065, 1066, 1067, 1068, 1069, 1070, 1071, 1072] (by decide +kernel) (by decide +kernel)
set_option maxRecDepth 20000 in
theorem gL_law_X9_undo : GoodIn wsL_law (wsV RL 196 RX9 yX9_undo wsX9_undo) := goodIn_app (goodIn_of _ (by decide +kernel)) ggL_law_X9_undo
set_option maxRecDepth 20000 in
theorem ggL_law_X8_digest : GoodIn wsL_law wsX8_digest := goodIn_r _ [1019, 1020, 1021, 125, 916, 16, 337, 446, 109, 297, 479, 876, 774, 775, 776, 2, 777, 525, 778, 480, 433, 338, 434, 27, 779, 477, 458, 780, 355, 356, 30, 357, 56, 57, 358, 352, 128, 353, 359, 360, 361, 362, 781, 364, 365, 366, 527, 528, 529, 26, 530, 531, 532, 533, 534, 535, 536, 537, 538, 539, 540, 541, 542, 543, 544, 545, 546, 547, 145, 144, 58, 548, 549, 550, 551, 552, 553, 554, 555, 346, 347, 348, 43, 349, 160, 68, 350, 351, 354, 363, 367, 368, 797, 798, 799, 800, 801, 526, 524, 485, 802, 561, 562, 39, 563, 154, 63, 414, 415, 416, 417, 64, 556, 557, 558, 559, 560, 564, 565, 566, 567, 568, 250, 569, 570, 571, 572, 258, 223, 224, 225, 62, 573, 574, 575, 576, 577, 520, 521, 522, 523, 578, 579, 580, 581, 582, 583, 584, 585, 1022, 745, 746, 747, 481, 482, 483, 484, 31, 486, 487, 488, 489, 143, 490, 491, 492, 493, 494, 495, 496, 497, 498, 499, 500, 501, 502, 139, 140, 141, 142, 503, 504, 505, 506, 507, 508, 509, 510, 511, 127, 129, 512, 513, 514, 515, 516, 517, 518, 519, 1023, 1024, 1025, 1026, 1027, 1028, 255, 256, 257, 1029, 1030, 1031, 1032, 1033, 1034, 1035, 1036, 47, 1037, 1038, 167, 1039, 862, 863, 864, 72, 73, 74, 590, 591, 592, 593, 166, 594, 595, 596, 597, 1040, 1041, 1042, 51, 1043, 78, 1044, 79, 1051, 1052, 1053, 1054, 1055, 1056, 1057, 1058, 1059, 1073, 1074, 1075, 1076, 1077, 1078, 1079, 1080, 1081, 1092, 1093, 1094, 1095, 1096, 1097, 1098, 1088, 1089, 1090, 1091, 1103, 1104, 1099, 1100, 1101, 1102, 1105, 1106, 1107, 1108, 1109, 1110, 1111, 1112] (by decide +kernel) (by decide +kernel)
set_option maxRecDepth 20000 in
theorem gL_law_X8_digest : GoodIn wsL_law (wsV RL 197 RX8 yX8_digest wsX8_digest) := goodIn_app (goodIn_of _ (by decide +kernel)) ggL_law_X8_digest
set_option maxRecDepth 20000 in
theorem ggL_law_X9_digest : GoodIn wsL_law wsX9_digest := goodIn_r _ [1048, 181, 1049, 1050, 197, 921, 93, 786, 787, 788, 5, 789, 380, 381, 382, 383, 384, 385, 386, 387, 388, 389, 390, 391, 392, 393, 394, 395, 396, 397, 398, 399, 400, 401, 402, 684, 685, 686, 687, 681, 688, 689, 690, 691, 692, 693, 694, 695, 696, 376, 377, 378, 379, 807, 808, 809, 810, 682, 683, 677, 678, 679, 680, 697, 698, 699, 700, 705, 706, 707, 708, 714, 715, 716, 717, 718, 719, 720, 267, 268, 269, 422, 423, 424, 425, 709, 710, 711, 712, 713, 721, 722, 723, 724, 725, 726, 727, 264, 265, 266, 285, 286, 287, 288, 701, 702, 703, 704, 728, 729, 730, 731, 752, 753, 754, 755, 641, 642, 643, 644, 645, 646, 647, 648, 649, 650, 651, 652, 653, 654, 655, 656, 96, 657, 658, 659, 660, 661, 662, 663, 664, 665, 666, 667, 668, 669, 670, 671, 672, 673, 674, 675, 676, 270, 271, 272, 273, 1060, 1061, 1062, 1063, 1064, 1065, 1066, 1067, 1068, 1069, 1070, 1071, 1072] (by decide +kernel) (by decide +kernel)
set_option maxRecDepth 20000 in
theorem gL_law_X9_digest : GoodIn wsL_law (wsV RL 201 RX9 yX9_digest wsX9_digest) := goodIn_app (goodIn_of _ (by decide +kernel)) ggL_law_X9_digest
theorem dL_law_0 : decode cL_law 0 = .ok (.new 8, 3) := by decide +kernel
theorem dL_law_3 : decode cL_law 3 = .ok (.dup, 1) := by decide +kernel
theorem dL_law_4 : decode cL_law 4 = .ok (.invokespecial 89, 3) := by decide +kernel
theorem dL_law_7 : decode cL_law 7 = .ok (.astore_n 1, 1) := by decide +kernel
theorem dL_law_8 : decode cL_law 8 = .ok (.new 90, 3) := by decide +kernel
theorem dL_law_11 : decode cL_law 11 = .ok (.dup, 1) := by decide +kernel
theorem dL_law_12 : decode cL_law 12 = .ok (.invokespecial 92, 3) := by decide +kernel
theorem dL_law_15 : decode cL_law 15 = .ok (.astore_n 2, 1) := by decide +kernel
theorem dL_law_16 : decode cL_law 16 = .ok (.iconst 1, 1) := by decide +kernel
theorem dL_law_17 : decode cL_law 17 = .ok (.newarray .long, 2) := by decide +kernel
theorem dL_law_19 : decode cL_law 19 = .ok (.astore_n 3, 1) := by decide +kernel
theorem dL_law_20 : decode cL_law 20 = .ok (.iconst 0, 1) := by decide +kernel
theorem dL_law_21 : decode cL_law 21 = .ok (.istore 4, 2) := by decide +kernel
theorem dL_law_23 : decode cL_law 23 = .ok (.iload 4, 2) := by decide +kernel
theorem dL_law_25 : decode cL_law 25 = .ok (.aload_n 0, 1) := by decide +kernel
theorem dL_law_26 : decode cL_law 26 = .ok (.arraylength, 1) := by decide +kernel
theorem dL_law_27 : decode cL_law 27 = .ok (.iconst 5, 1) := by decide +kernel
theorem dL_law_28 : decode cL_law 28 = .ok (.isub, 1) := by decide +kernel
theorem dL_law_29 : decode cL_law 29 = .ok (.if_icmp .gt 1761, 3) := by decide +kernel
theorem dL_law_32 : decode cL_law 32 = .ok (.aload_n 0, 1) := by decide +kernel
theorem dL_law_33 : decode cL_law 33 = .ok (.iload 4, 2) := by decide +kernel
theorem dL_law_35 : decode cL_law 35 = .ok (.iaload, 1) := by decide +kernel
theorem dL_law_36 : decode cL_law 36 = .ok (.bipush 31, 2) := by decide +kernel
theorem dL_law_38 : decode cL_law 38 = .ok (.iand, 1) := by decide +kernel
theorem dL_law_39 : decode cL_law 39 = .ok (.tableswitch 1745 0 29 #[133, 201, 242, 334, 402, 482, 574, 630, 710, 766, 822, 878, 934, 1002, 1015, 1071, 1127, 1183, 1263, 1319, 1399, 1412, 1480, 1536, 1592, 1605, 1661, 1674, 1687, 1731], 133) := by decide +kernel
theorem dL_law_172 : decode cL_law 172 = .ok (.aload_n 1, 1) := by decide +kernel
theorem dL_law_173 : decode cL_law 173 = .ok (.aload_n 0, 1) := by decide +kernel
theorem dL_law_174 : decode cL_law 174 = .ok (.iload 4, 2) := by decide +kernel
theorem dL_law_176 : decode cL_law 176 = .ok (.iconst 1, 1) := by decide +kernel
theorem dL_law_177 : decode cL_law 177 = .ok (.iadd, 1) := by decide +kernel
theorem dL_law_178 : decode cL_law 178 = .ok (.iaload, 1) := by decide +kernel
theorem dL_law_179 : decode cL_law 179 = .ok (.aload_n 0, 1) := by decide +kernel
theorem dL_law_180 : decode cL_law 180 = .ok (.iload 4, 2) := by decide +kernel
theorem dL_law_182 : decode cL_law 182 = .ok (.iconst 2, 1) := by decide +kernel
theorem dL_law_183 : decode cL_law 183 = .ok (.iadd, 1) := by decide +kernel
theorem dL_law_184 : decode cL_law 184 = .ok (.iaload, 1) := by decide +kernel
theorem dL_law_185 : decode cL_law 185 = .ok (.aload_n 3, 1) := by decide +kernel
theorem dL_law_186 : decode cL_law 186 = .ok (.invokestatic 93, 3) := by decide +kernel
theorem dL_law_189 : decode cL_law 189 = .ok (.istore 5, 2) := by decide +kernel
theorem dL_law_191 : decode cL_law 191 = .ok (.aload_n 2, 1) := by decide +kernel
theorem dL_law_192 : decode cL_law 192 = .ok (.aload_n 0, 1) := by decide +kernel
theorem dL_law_193 : decode cL_law 193 = .ok (.iload 4, 2) := by decide +kernel
theorem dL_law_195 : decode cL_law 195 = .ok (.iconst 1, 1) := by decide +kernel
theorem dL_law_196 : decode cL_law 196 = .ok (.iadd, 1) := by decide +kernel
theorem dL_law_197 : decode cL_law 197 = .ok (.iaload, 1) := by decide +kernel
theorem dL_law_198 : decode cL_law 198 = .ok (.aload_n 0, 1) := by decide +kernel
theorem dL_law_199 : decode cL_law 199 = .ok (.iload 4, 2) := by decide +kernel
theorem dL_law_201 : decode cL_law 201 = .ok (.iconst 2, 1) := by decide +kernel
theorem dL_law_202 : decode cL_law 202 = .ok (.iadd, 1) := by decide +kernel
theorem dL_law_203 : decode cL_law 203 = .ok (.iaload, 1) := by decide +kernel
theorem dL_law_204 : decode cL_law 204 = .ok (.invokevirtual 98, 3) := by decide +kernel
theorem dL_law_207 : decode cL_law 207 = .ok (.istore 6, 2) := by decide +kernel
theorem dL_law_209 : decode cL_law 209 = .ok (.aload_n 2, 1) := by decide +kernel
theorem dL_law_210 : decode cL_law 210 = .ok (.invokevirtual 99, 3) := by decide +kernel
theorem dL_law_213 : decode cL_law 213 = .ok (.iload 5, 2) := by decide +kernel
theorem dL_law_215 : decode cL_law 215 = .ok (.if_icmp .eq 5, 3) := by decide +kernel
theorem dL_law_218 : decode cL_law 218 = .ok (.iconst 0, 1) := by decide +kernel
theorem dL_law_219 : decode cL_law 219 = .ok (.ireturn, 1) := by decide +kernel
theorem dL_law_220 : decode cL_law 220 = .ok (.iload 5, 2) := by decide +kernel
theorem dL_law_222 : decode cL_law 222 = .ok (.ifCond .ne 15, 3) := by decide +kernel
theorem dL_law_225 : decode cL_law 225 = .ok (.aload_n 3, 1) := by decide +kernel
theorem dL_law_226 : decode cL_law 226 = .ok (.iconst 0, 1) := by decide +kernel
theorem dL_law_227 : decode cL_law 227 = .ok (.laload, 1) := by decide +kernel
theorem dL_law_228 : decode cL_law 228 = .ok (.iload 6, 2) := by decide +kernel
theorem dL_law_230 : decode cL_law 230 = .ok (.i2l, 1) := by decide +kernel
theorem dL_law_231 : decode cL_law 231 = .ok (.lcmp, 1) := by decide +kernel
theorem dL_law_232 : decode cL_law 232 = .ok (.ifCond .eq 5, 3) := by decide +kernel
theorem dL_law_235 : decode cL_law 235 = .ok (.iconst 0, 1) := by decide +kernel
theorem dL_law_236 : decode cL_law 236 = .ok (.ireturn, 1) := by decide +kernel
theorem dL_law_237 : decode cL_law 237 = .ok (.goto 1547, 3) := by decide +kernel
theorem dL_law_240 : decode cL_law 240 = .ok (.aload_n 1, 1) := by decide +kernel
theorem dL_law_241 : decode cL_law 241 = .ok (.aload_n 0, 1) := by decide +kernel
theorem dL_law_242 : decode cL_law 242 = .ok (.iload 4, 2) := by decide +kernel
theorem dL_law_244 : decode cL_law 244 = .ok (.iconst 1, 1) := by decide +kernel
theorem dL_law_245 : decode cL_law 245 = .ok (.iadd, 1) := by decide +kernel
theorem dL_law_246 : decode cL_law 246 = .ok (.iaload, 1) := by decide +kernel
theorem dL_law_247 : decode cL_law 247 = .ok (.ifCond .eq 7, 3) := by decide +kernel
theorem dL_law_250 : decode cL_law 250 = .ok (.iconst 1, 1) := by decide +kernel
theorem dL_law_251 : decode cL_law 251 = .ok (.goto 4, 3) := by decide +kernel
theorem dL_law_254 : decode cL_law 254 = .ok (.iconst 0, 1) := by decide +kernel
theorem dL_law_255 : decode cL_law 255 = .ok (.invokevirtual 102, 3) := by decide +kernel
theorem dL_law_258 : decode cL_law 258 = .ok (.aload_n 2, 1) := by decide +kernel
theorem dL_law_259 : decode cL_law 259 = .ok (.aload_n 0, 1) := by decide +kernel
theorem dL_law_260 : decode cL_law 260 = .ok (.iload 4, 2) := by decide +kernel
theorem dL_law_262 : decode cL_law 262 = .ok (.iconst 1, 1) := by decide +kernel
theorem dL_law_263 : decode cL_law 263 = .ok (.iadd, 1) := by decide +kernel
theorem dL_law_264 : decode cL_law 264 = .ok (.iaload, 1) := by decide +kernel
theorem dL_law_265 : decode cL_law 265 = .ok (.ifCond .eq 7, 3) := by decide +kernel
theorem dL_law_268 : decode cL_law 268 = .ok (.iconst 1, 1) := by decide +kernel
theorem dL_law_269 : decode cL_law 269 = .ok (.goto 4, 3) := by decide +kernel
theorem dL_law_272 : decode cL_law 272 = .ok (.iconst 0, 1) := by decide +kernel
theorem dL_law_273 : decode cL_law 273 = .ok (.invokevirtual 106, 3) := by decide +kernel
theorem dL_law_276 : decode cL_law 276 = .ok (.if_icmp .eq 1508, 3) := by decide +kernel
theorem dL_law_279 : decode cL_law 279 = .ok (.iconst 0, 1) := by decide +kernel
theorem dL_law_280 : decode cL_law 280 = .ok (.ireturn, 1) := by decide +kernel
theorem dL_law_281 : decode cL_law 281 = .ok (.aload_n 1, 1) := by decide +kernel
theorem dL_law_282 : decode cL_law 282 = .ok (.aload_n 0, 1) := by decide +kernel
theorem dL_law_283 : decode cL_law 283 = .ok (.iload 4, 2) := by decide +kernel
theorem dL_law_285 : decode cL_law 285 = .ok (.iconst 1, 1) := by decide +kernel
theorem dL_law_286 : decode cL_law 286 = .ok (.iadd, 1) := by decide +kernel
theorem dL_law_287 : decode cL_law 287 = .ok (.iaload, 1) := by decide +kernel
theorem dL_law_288 : decode cL_law 288 = .ok (.aload_n 0, 1) := by decide +kernel
theorem dL_law_289 : decode cL_law 289 = .ok (.iload 4, 2) := by decide +kernel
theorem dL_law_291 : decode cL_law 291 = .ok (.iconst 2, 1) := by decide +kernel
theorem dL_law_292 : decode cL_law 292 = .ok (.iadd, 1) := by decide +kernel
theorem dL_law_293 : decode cL_law 293 = .ok (.iaload, 1) := by decide +kernel
theorem dL_law_294 : decode cL_law 294 = .ok (.aload_n 0, 1) := by decide +kernel
theorem dL_law_295 : decode cL_law 295 = .ok (.iload 4, 2) := by decide +kernel
theorem dL_law_297 : decode cL_law 297 = .ok (.iconst 3, 1) := by decide +kernel
theorem dL_law_298 : decode cL_law 298 = .ok (.iadd, 1) := by decide +kernel
theorem dL_law_299 : decode cL_law 299 = .ok (.iaload, 1) := by decide +kernel
theorem dL_law_300 : decode cL_law 300 = .ok (.aload_n 0, 1) := by decide +kernel
theorem dL_law_301 : decode cL_law 301 = .ok (.iload 4, 2) := by decide +kernel
theorem dL_law_303 : decode cL_law 303 = .ok (.iconst 4, 1) := by decide +kernel
theorem dL_law_304 : decode cL_law 304 = .ok (.iadd, 1) := by decide +kernel
theorem dL_law_305 : decode cL_law 305 = .ok (.iaload, 1) := by decide +kernel
theorem dL_law_306 : decode cL_law 306 = .ok (.aload_n 3, 1) := by decide +kernel
theorem dL_law_307 : decode cL_law 307 = .ok (.invokestatic 107, 3) := by decide +kernel
theorem dL_law_310 : decode cL_law 310 = .ok (.istore 5, 2) := by decide +kernel
theorem dL_law_312 : decode cL_law 312 = .ok (.aload_n 2, 1) := by decide +kernel
theorem dL_law_313 : decode cL_law 313 = .ok (.aload_n 0, 1) := by decide +kernel
theorem dL_law_314 : decode cL_law 314 = .ok (.iload 4, 2) := by decide +kernel
theorem dL_law_316 : decode cL_law 316 = .ok (.iconst 1, 1) := by decide +kernel
theorem dL_law_317 : decode cL_law 317 = .ok (.iadd, 1) := by decide +kernel
theorem dL_law_318 : decode cL_law 318 = .ok (.iaload, 1) := by decide +kernel
theorem dL_law_319 : decode cL_law 319 = .ok (.aload_n 0, 1) := by decide +kernel
theorem dL_law_320 : decode cL_law 320 = .ok (.iload 4, 2) := by decide +kernel
theorem dL_law_322 : decode cL_law 322 = .ok (.iconst 2, 1) := by decide +kernel
theorem dL_law_323 : decode cL_law 323 = .ok (.iadd, 1) := by decide +kernel
theorem dL_law_324 : decode cL_law 324 = .ok (.iaload, 1) := by decide +kernel
theorem dL_law_325 : decode cL_law 325 = .ok (.aload_n 0, 1) := by decide +kernel
theorem dL_law_326 : decode cL_law 326 = .ok (.iload 4, 2) := by decide +kernel
theorem dL_law_328 : decode cL_law 328 = .ok (.iconst 3, 1) := by decide +kernel
theorem dL_law_329 : decode cL_law 329 = .ok (.iadd, 1) := by decide +kernel
theorem dL_law_330 : decode cL_law 330 = .ok (.iaload, 1) := by decide +kernel
theorem dL_law_331 : decode cL_law 331 = .ok (.aload_n 0, 1) := by decide +kernel
theorem dL_law_332 : decode cL_law 332 = .ok (.iload 4, 2) := by decide +kernel
theorem dL_law_334 : decode cL_law 334 = .ok (.iconst 4, 1) := by decide +kernel
theorem dL_law_335 : decode cL_law 335 = .ok (.iadd, 1) := by decide +kernel
theorem dL_law_336 : decode cL_law 336 = .ok (.iaload, 1) := by decide +kernel
theorem dL_law_337 : decode cL_law 337 = .ok (.invokevirtual 110, 3) := by decide +kernel
theorem dL_law_340 : decode cL_law 340 = .ok (.istore 6, 2) := by decide +kernel
theorem dL_law_342 : decode cL_law 342 = .ok (.aload_n 2, 1) := by decide +kernel
theorem dL_law_343 : decode cL_law 343 = .ok (.invokevirtual 99, 3) := by decide +kernel
theorem dL_law_346 : decode cL_law 346 = .ok (.iload 5, 2) := by decide +kernel
theorem dL_law_348 : decode cL_law 348 = .ok (.if_icmp .eq 5, 3) := by decide +kernel
theorem dL_law_351 : decode cL_law 351 = .ok (.iconst 0, 1) := by decide +kernel
theorem dL_law_352 : decode cL_law 352 = .ok (.ireturn, 1) := by decide +kernel
theorem dL_law_353 : decode cL_law 353 = .ok (.iload 5, 2) := by decide +kernel
theorem dL_law_355 : decode cL_law 355 = .ok (.ifCond .ne 15, 3) := by decide +kernel
theorem dL_law_358 : decode cL_law 358 = .ok (.aload_n 3, 1) := by decide +kernel
theorem dL_law_359 : decode cL_law 359 = .ok (.iconst 0, 1) := by decide +kernel
theorem dL_law_360 : decode cL_law 360 = .ok (.laload, 1) := by decide +kernel
theorem dL_law_361 : decode cL_law 361 = .ok (.iload 6, 2) := by decide +kernel
theorem dL_law_363 : decode cL_law 363 = .ok (.i2l, 1) := by decide +kernel
theorem dL_law_364 : decode cL_law 364 = .ok (.lcmp, 1) := by decide +kernel
theorem dL_law_365 : decode cL_law 365 = .ok (.ifCond .eq 5, 3) := by decide +kernel
theorem dL_law_368 : decode cL_law 368 = .ok (.iconst 0, 1) := by decide +kernel
theorem dL_law_369 : decode cL_law 369 = .ok (.ireturn, 1) := by decide +kernel
theorem dL_law_370 : decode cL_law 370 = .ok (.goto 1414, 3) := by decide +kernel
theorem dL_law_373 : decode cL_law 373 = .ok (.aload_n 1, 1) := by decide +kernel
theorem dL_law_374 : decode cL_law 374 = .ok (.aload_n 0, 1) := by decide +kernel
theorem dL_law_375 : decode cL_law 375 = .ok (.iload 4, 2) := by decide +kernel
theorem dL_law_377 : decode cL_law 377 = .ok (.iconst 1, 1) := by decide +kernel
theorem dL_law_378 : decode cL_law 378 = .ok (.iadd, 1) := by decide +kernel
theorem dL_law_379 : decode cL_law 379 = .ok (.iaload, 1) := by decide +kernel
theorem dL_law_380 : decode cL_law 380 = .ok (.aload_n 0, 1) := by decide +kernel
theorem dL_law_381 : decode cL_law 381 = .ok (.iload 4, 2) := by decide +kernel
theorem dL_law_383 : decode cL_law 383 = .ok (.iconst 2, 1) := by decide +kernel
theorem dL_law_384 : decode cL_law 384 = .ok (.iadd, 1) := by decide +kernel
theorem dL_law_385 : decode cL_law 385 = .ok (.iaload, 1) := by decide +kernel
theorem dL_law_386 : decode cL_law 386 = .ok (.aload_n 3, 1) := by decide +kernel
theorem dL_law_387 : decode cL_law 387 = .ok (.invokestatic 111, 3) := by decide +kernel
theorem dL_law_390 : decode cL_law 390 = .ok (.istore 5, 2) := by decide +kernel
theorem dL_law_392 : decode cL_law 392 = .ok (.aload_n 2, 1) := by decide +kernel
theorem dL_law_393 : decode cL_law 393 = .ok (.aload_n 0, 1) := by decide +kernel
theorem dL_law_394 : decode cL_law 394 = .ok (.iload 4, 2) := by decide +kernel
theorem dL_law_396 : decode cL_law 396 = .ok (.iconst 1, 1) := by decide +kernel
theorem dL_law_397 : decode cL_law 397 = .ok (.iadd, 1) := by decide +kernel
theorem dL_law_398 : decode cL_law 398 = .ok (.iaload, 1) := by decide +kernel
theorem dL_law_399 : decode cL_law 399 = .ok (.aload_n 0, 1) := by decide +kernel
theorem dL_law_400 : decode cL_law 400 = .ok (.iload 4, 2) := by decide +kernel
theorem dL_law_402 : decode cL_law 402 = .ok (.iconst 2, 1) := by decide +kernel
theorem dL_law_403 : decode cL_law 403 = .ok (.iadd, 1) := by decide +kernel
theorem dL_law_404 : decode cL_law 404 = .ok (.iaload, 1) := by decide +kernel
theorem dL_law_405 : decode cL_law 405 = .ok (.invokevirtual 113, 3) := by decide +kernel
theorem dL_law_408 : decode cL_law 408 = .ok (.istore 6, 2) := by decide +kernel
theorem dL_law_410 : decode cL_law 410 = .ok (.aload_n 2, 1) := by decide +kernel
theorem dL_law_411 : decode cL_law 411 = .ok (.invokevirtual 99, 3) := by decide +kernel
theorem dL_law_414 : decode cL_law 414 = .ok (.iload 5, 2) := by decide +kernel
theorem dL_law_416 : decode cL_law 416 = .ok (.if_icmp .eq 5, 3) := by decide +kernel
theorem dL_law_419 : decode cL_law 419 = .ok (.iconst 0, 1) := by decide +kernel
theorem dL_law_420 : decode cL_law 420 = .ok (.ireturn, 1) := by decide +kernel
theorem dL_law_421 : decode cL_law 421 = .ok (.iload 5, 2) := by decide +kernel
theorem dL_law_423 : decode cL_law 423 = .ok (.ifCond .ne 15, 3) := by decide +kernel
theorem dL_law_426 : decode cL_law 426 = .ok (.aload_n 3, 1) := by decide +kernel
theorem dL_law_427 : decode cL_law 427 = .ok (.iconst 0, 1) := by decide +kernel
theorem dL_law_428 : decode cL_law 428 = .ok (.laload, 1) := by decide +kernel
theorem dL_law_429 : decode cL_law 429 = .ok (.iload 6, 2) := by decide +kernel
theorem dL_law_431 : decode cL_law 431 = .ok (.i2l, 1) := by decide +kernel
theorem dL_law_432 : decode cL_law 432 = .ok (.lcmp, 1) := by decide +kernel
theorem dL_law_433 : decode cL_law 433 = .ok (.ifCond .eq 5, 3) := by decide +kernel
theorem dL_law_436 : decode cL_law 436 = .ok (.iconst 0, 1) := by decide +kernel
theorem dL_law_437 : decode cL_law 437 = .ok (.ireturn, 1) := by decide +kernel
theorem dL_law_438 : decode cL_law 438 = .ok (.goto 1346, 3) := by decide +kernel
theorem dL_law_441 : decode cL_law 441 = .ok (.aload_n 1, 1) := by decide +kernel
theorem dL_law_442 : decode cL_law 442 = .ok (.aload_n 0, 1) := by decide +kernel
theorem dL_law_443 : decode cL_law 443 = .ok (.iload 4, 2) := by decide +kernel
theorem dL_law_445 : decode cL_law 445 = .ok (.iconst 1, 1) := by decide +kernel
theorem dL_law_446 : decode cL_law 446 = .ok (.iadd, 1) := by decide +kernel
theorem dL_law_447 : decode cL_law 447 = .ok (.iaload, 1) := by decide +kernel
theorem dL_law_448 : decode cL_law 448 = .ok (.aload_n 0, 1) := by decide +kernel
theorem dL_law_449 : decode cL_law 449 = .ok (.iload 4, 2) := by decide +kernel
theorem dL_law_451 : decode cL_law 451 = .ok (.iconst 2, 1) := by decide +kernel
theorem dL_law_452 : decode cL_law 452 = .ok (.iadd, 1) := by decide +kernel
theorem dL_law_453 : decode cL_law 453 = .ok (.iaload, 1) := by decide +kernel
theorem dL_law_454 : decode cL_law 454 = .ok (.aload_n 0, 1) := by decide +kernel
theorem dL_law_455 : decode cL_law 455 = .ok (.iload 4, 2) := by decide +kernel
theorem dL_law_457 : decode cL_law 457 = .ok (.iconst 3, 1) := by decide +kernel
theorem dL_law_458 : decode cL_law 458 = .ok (.iadd, 1) := by decide +kernel
theorem dL_law_459 : decode cL_law 459 = .ok (.iaload, 1) := by decide +kernel
theorem dL_law_460 : decode cL_law 460 = .ok (.aload_n 3, 1) := by decide +kernel
theorem dL_law_461 : decode cL_law 461 = .ok (.invokestatic 114, 3) := by decide +kernel
theorem dL_law_464 : decode cL_law 464 = .ok (.istore 5, 2) := by decide +kernel
theorem dL_law_466 : decode cL_law 466 = .ok (.aload_n 2, 1) := by decide +kernel
theorem dL_law_467 : decode cL_law 467 = .ok (.aload_n 0, 1) := by decide +kernel
theorem dL_law_468 : decode cL_law 468 = .ok (.iload 4, 2) := by decide +kernel
theorem dL_law_470 : decode cL_law 470 = .ok (.iconst 1, 1) := by decide +kernel
theorem dL_law_471 : decode cL_law 471 = .ok (.iadd, 1) := by decide +kernel
theorem dL_law_472 : decode cL_law 472 = .ok (.iaload, 1) := by decide +kernel
theorem dL_law_473 : decode cL_law 473 = .ok (.aload_n 0, 1) := by decide +kernel
theorem dL_law_474 : decode cL_law 474 = .ok (.iload 4, 2) := by decide +kernel
theorem dL_law_476 : decode cL_law 476 = .ok (.iconst 2, 1) := by decide +kernel
theorem dL_law_477 : decode cL_law 477 = .ok (.iadd, 1) := by decide +kernel
theorem dL_law_478 : decode cL_law 478 = .ok (.iaload, 1) := by decide +kernel
theorem dL_law_479 : decode cL_law 479 = .ok (.aload_n 0, 1) := by decide +kernel
theorem dL_law_480 : decode cL_law 480 = .ok (.iload 4, 2) := by decide +kernel
theorem dL_law_482 : decode cL_law 482 = .ok (.iconst 3, 1) := by decide +kernel
theorem dL_law_483 : decode cL_law 483 = .ok (.iadd, 1) := by decide +kernel
theorem dL_law_484 : decode cL_law 484 = .ok (.iaload, 1) := by decide +kernel
theorem dL_law_485 : decode cL_law 485 = .ok (.invokevirtual 117, 3) := by decide +kernel
theorem dL_law_488 : decode cL_law 488 = .ok (.istore 6, 2) := by decide +kernel
theorem dL_law_490 : decode cL_law 490 = .ok (.aload_n 2, 1) := by decide +kernel
theorem dL_law_491 : decode cL_law 491 = .ok (.invokevirtual 99, 3) := by decide +kernel
theorem dL_law_494 : decode cL_law 494 = .ok (.iload 5, 2) := by decide +kernel
theorem dL_law_496 : decode cL_law 496 = .ok (.if_icmp .eq 5, 3) := by decide +kernel
theorem dL_law_499 : decode cL_law 499 = .ok (.iconst 0, 1) := by decide +kernel
theorem dL_law_500 : decode cL_law 500 = .ok (.ireturn, 1) := by decide +kernel
theorem dL_law_501 : decode cL_law 501 = .ok (.iload 5, 2) := by decide +kernel
theorem dL_law_503 : decode cL_law 503 = .ok (.ifCond .ne 15, 3) := by decide +kernel
theorem dL_law_506 : decode cL_law 506 = .ok (.aload_n 3, 1) := by decide +kernel
theorem dL_law_507 : decode cL_law 507 = .ok (.iconst 0, 1) := by decide +kernel
theorem dL_law_508 : decode cL_law 508 = .ok (.laload, 1) := by decide +kernel
theorem dL_law_509 : decode cL_law 509 = .ok (.iload 6, 2) := by decide +kernel
theorem dL_law_511 : decode cL_law 511 = .ok (.i2l, 1) := by decide +kernel
theorem dL_law_512 : decode cL_law 512 = .ok (.lcmp, 1) := by decide +kernel
theorem dL_law_513 : decode cL_law 513 = .ok (.ifCond .eq 5, 3) := by decide +kernel
theorem dL_law_516 : decode cL_law 516 = .ok (.iconst 0, 1) := by decide +kernel
theorem dL_law_517 : decode cL_law 517 = .ok (.ireturn, 1) := by decide +kernel
theorem dL_law_518 : decode cL_law 518 = .ok (.goto 1266, 3) := by decide +kernel
theorem dL_law_521 : decode cL_law 521 = .ok (.aload_n 1, 1) := by decide +kernel
theorem dL_law_522 : decode cL_law 522 = .ok (.aload_n 0, 1) := by decide +kernel
theorem dL_law_523 : decode cL_law 523 = .ok (.iload 4, 2) := by decide +kernel
theorem dL_law_525 : decode cL_law 525 = .ok (.iconst 1, 1) := by decide +kernel
theorem dL_law_526 : decode cL_law 526 = .ok (.iadd, 1) := by decide +kernel
theorem dL_law_527 : decode cL_law 527 = .ok (.iaload, 1) := by decide +kernel
theorem dL_law_528 : decode cL_law 528 = .ok (.aload_n 0, 1) := by decide +kernel
theorem dL_law_529 : decode cL_law 529 = .ok (.iload 4, 2) := by decide +kernel
theorem dL_law_531 : decode cL_law 531 = .ok (.iconst 2, 1) := by decide +kernel
theorem dL_law_532 : decode cL_law 532 = .ok (.iadd, 1) := by decide +kernel
theorem dL_law_533 : decode cL_law 533 = .ok (.iaload, 1) := by decide +kernel
theorem dL_law_534 : decode cL_law 534 = .ok (.aload_n 0, 1) := by decide +kernel
theorem dL_law_535 : decode cL_law 535 = .ok (.iload 4, 2) := by decide +kernel
theorem dL_law_537 : decode cL_law 537 = .ok (.iconst 3, 1) := by decide +kernel
theorem dL_law_538 : decode cL_law 538 = .ok (.iadd, 1) := by decide +kernel
theorem dL_law_539 : decode cL_law 539 = .ok (.iaload, 1) := by decide +kernel
theorem dL_law_540 : decode cL_law 540 = .ok (.aload_n 0, 1) := by decide +kernel
theorem dL_law_541 : decode cL_law 541 = .ok (.iload 4, 2) := by decide +kernel
theorem dL_law_543 : decode cL_law 543 = .ok (.iconst 4, 1) := by decide +kernel
theorem dL_law_544 : decode cL_law 544 = .ok (.iadd, 1) := by decide +kernel
theorem dL_law_545 : decode cL_law 545 = .ok (.iaload, 1) := by decide +kernel
theorem dL_law_546 : decode cL_law 546 = .ok (.aload_n 3, 1) := by decide +kernel
theorem dL_law_547 : decode cL_law 547 = .ok (.invokestatic 118, 3) := by decide +kernel
theorem dL_law_550 : decode cL_law 550 = .ok (.istore 5, 2) := by decide +kernel
theorem dL_law_552 : decode cL_law 552 = .ok (.aload_n 2, 1) := by decide +kernel
theorem dL_law_553 : decode cL_law 553 = .ok (.aload_n 0, 1) := by decide +kernel
theorem dL_law_554 : decode cL_law 554 = .ok (.iload 4, 2) := by decide +kernel
theorem dL_law_556 : decode cL_law 556 = .ok (.iconst 1, 1) := by decide +kernel
theorem dL_law_557 : decode cL_law 557 = .ok (.iadd, 1) := by decide +kernel
theorem dL_law_558 : decode cL_law 558 = .ok (.iaload, 1) := by decide +kernel
theorem dL_law_559 : decode cL_law 559 = .ok (.aload_n 0, 1) := by decide +kernel
theorem dL_law_560 : decode cL_law 560 = .ok (.iload 4, 2) := by decide +kernel
theorem dL_law_562 : decode cL_law 562 = .ok (.iconst 2, 1) := by decide +kernel
theorem dL_law_563 : decode cL_law 563 = .ok (.iadd, 1) := by decide +kernel
theorem dL_law_564 : decode cL_law 564 = .ok (.iaload, 1) := by decide +kernel
theorem dL_law_565 : decode cL_law 565 = .ok (.aload_n 0, 1) := by decide +kernel
theorem dL_law_566 : decode cL_law 566 = .ok (.iload 4, 2) := by decide +kernel
theorem dL_law_568 : decode cL_law 568 = .ok (.iconst 3, 1) := by decide +kernel
theorem dL_law_569 : decode cL_law 569 = .ok (.iadd, 1) := by decide +kernel
theorem dL_law_570 : decode cL_law 570 = .ok (.iaload, 1) := by decide +kernel
theorem dL_law_571 : decode cL_law 571 = .ok (.aload_n 0, 1) := by decide +kernel
theorem dL_law_572 : decode cL_law 572 = .ok (.iload 4, 2) := by decide +kernel
theorem dL_law_574 : decode cL_law 574 = .ok (.iconst 4, 1) := by decide +kernel
theorem dL_law_575 : decode cL_law 575 = .ok (.iadd, 1) := by decide +kernel
theorem dL_law_576 : decode cL_law 576 = .ok (.iaload, 1) := by decide +kernel
theorem dL_law_577 : decode cL_law 577 = .ok (.invokevirtual 120, 3) := by decide +kernel
theorem dL_law_580 : decode cL_law 580 = .ok (.istore 6, 2) := by decide +kernel
theorem dL_law_582 : decode cL_law 582 = .ok (.aload_n 2, 1) := by decide +kernel
theorem dL_law_583 : decode cL_law 583 = .ok (.invokevirtual 99, 3) := by decide +kernel
theorem dL_law_586 : decode cL_law 586 = .ok (.iload 5, 2) := by decide +kernel
theorem dL_law_588 : decode cL_law 588 = .ok (.if_icmp .eq 5, 3) := by decide +kernel
theorem dL_law_591 : decode cL_law 591 = .ok (.iconst 0, 1) := by decide +kernel
theorem dL_law_592 : decode cL_law 592 = .ok (.ireturn, 1) := by decide +kernel
theorem dL_law_593 : decode cL_law 593 = .ok (.iload 5, 2) := by decide +kernel
theorem dL_law_595 : decode cL_law 595 = .ok (.ifCond .ne 15, 3) := by decide +kernel
theorem dL_law_598 : decode cL_law 598 = .ok (.aload_n 3, 1) := by decide +kernel
theorem dL_law_599 : decode cL_law 599 = .ok (.iconst 0, 1) := by decide +kernel
