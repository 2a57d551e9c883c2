theorem dX8_requireArgument_10 : decode cX8_requireArgument 10 = .ok (.new 273, 3) := by decide +kernel
theorem dX8_requireArgument_13 : decode cX8_requireArgument 13 = .ok (.dup, 1) := by decide +kernel
theorem dX8_requireArgument_14 : decode cX8_requireArgument 14 = .ok (.ldc_w 275, 3) := by decide +kernel
theorem dX8_requireArgument_17 : decode cX8_requireArgument 17 = .ok (.invokespecial 277, 3) := by decide +kernel
theorem dX8_requireArgument_20 : decode cX8_requireArgument 20 = .ok (.athrow, 1) := by decide +kernel
theorem dX8_requireArgument_21 : decode cX8_requireArgument 21 = .ok (.return_, 1) := by decide +kernel
set_option maxRecDepth 20000 in
theorem ggX8_requireSlew_X8_requireArgument : GoodIn wsX8_requireSlew wsX8_requireArgument := goodIn_ca (goodIn_r _ [4, 5, 6] (by decide +kernel) (by decide +kernel)) (goodIn_sub (fun _ h => List.mem_cons_of_mem _ (List.mem_append_right _ h)) (by decide +kernel))
set_option maxRecDepth 20000 in
theorem gX8_requireSlew_X8_requireArgument : GoodIn wsX8_requireSlew (va_wsS RX8 51 yX8_requireArgument wsX8_requireArgument) := goodIn_app (goodIn_of _ (by decide +kernel)) ggX8_requireSlew_X8_requireArgument
theorem dX8_requireSlew_0 : decode cX8_requireSlew 0 = .ok (.iload_n 0, 1) := by decide +kernel
theorem dX8_requireSlew_1 : decode cX8_requireSlew 1 = .ok (.iconst 0, 1) := by decide +kernel
theorem dX8_requireSlew_2 : decode cX8_requireSlew 2 = .ok (.sipush 3599, 3) := by decide +kernel
theorem dX8_requireSlew_5 : decode cX8_requireSlew 5 = .ok (.invokestatic 51, 3) := by decide +kernel
theorem dX8_requireSlew_8 : decode cX8_requireSlew 8 = .ok (.return_, 1) := by decide +kernel
set_option maxRecDepth 20000 in
theorem ggX8_requirePosition_X8_requireArgument : GoodIn wsX8_requirePosition wsX8_requireArgument := goodIn_ca (goodIn_r _ [4, 5, 6] (by decide +kernel) (by decide +kernel)) (goodIn_sub (fun _ h => List.mem_cons_of_mem _ (List.mem_append_right _ h)) (by decide +kernel))
set_option maxRecDepth 20000 in
theorem gX8_requirePosition_X8_requireArgument : GoodIn wsX8_requirePosition (va_wsS RX8 51 yX8_requireArgument wsX8_requireArgument) := goodIn_app (goodIn_of _ (by decide +kernel)) ggX8_requirePosition_X8_requireArgument
set_option maxRecDepth 20000 in
theorem ggX8_requirePosition_X8_requireSlew : GoodIn wsX8_requirePosition wsX8_requireSlew := goodIn_ca (goodIn_r _ [9, 1, 2, 3, 4, 5, 6] (by decide +kernel) (by decide +kernel)) (goodIn_sub (fun _ h => List.mem_cons_of_mem _ (List.mem_append_right _ h)) (by decide +kernel))
set_option maxRecDepth 20000 in
theorem gX8_requirePosition_X8_requireSlew : GoodIn wsX8_requirePosition (va_wsS RX8 90 yX8_requireSlew wsX8_requireSlew) := goodIn_app (goodIn_of _ (by decide +kernel)) ggX8_requirePosition_X8_requireSlew
theorem dX8_requirePosition_0 : decode cX8_requirePosition 0 = .ok (.iload_n 0, 1) := by decide +kernel
theorem dX8_requirePosition_1 : decode cX8_requirePosition 1 = .ok (.sipush 1000, 3) := by decide +kernel
theorem dX8_requirePosition_4 : decode cX8_requirePosition 4 = .ok (.sipush 6000, 3) := by decide +kernel
theorem dX8_requirePosition_7 : decode cX8_requirePosition 7 = .ok (.invokestatic 51, 3) := by decide +kernel
theorem dX8_requirePosition_10 : decode cX8_requirePosition 10 = .ok (.iload_n 1, 1) := by decide +kernel
theorem dX8_requirePosition_11 : decode cX8_requirePosition 11 = .ok (.iconst 0, 1) := by decide +kernel
theorem dX8_requirePosition_12 : decode cX8_requirePosition 12 = .ok (.sipush 850, 3) := by decide +kernel
theorem dX8_requirePosition_15 : decode cX8_requirePosition 15 = .ok (.invokestatic 51, 3) := by decide +kernel
theorem dX8_requirePosition_18 : decode cX8_requirePosition 18 = .ok (.iload_n 2, 1) := by decide +kernel
theorem dX8_requirePosition_19 : decode cX8_requirePosition 19 = .ok (.invokestatic 90, 3) := by decide +kernel
theorem dX8_requirePosition_22 : decode cX8_requirePosition 22 = .ok (.return_, 1) := by decide +kernel
theorem dX8_requireNoOpposites_0 : decode cX8_requireNoOpposites 0 = .ok (.iconst 0, 1) := by decide +kernel
theorem dX8_requireNoOpposites_1 : decode cX8_requireNoOpposites 1 = .ok (.istore_n 1, 1) := by decide +kernel
theorem dX8_requireNoOpposites_2 : decode cX8_requireNoOpposites 2 = .ok (.iload_n 1, 1) := by decide +kernel
theorem dX8_requireNoOpposites_3 : decode cX8_requireNoOpposites 3 = .ok (.bipush 8, 2) := by decide +kernel
theorem dX8_requireNoOpposites_5 : decode cX8_requireNoOpposites 5 = .ok (.if_icmp .ge 31, 3) := by decide +kernel
theorem dX8_requireNoOpposites_8 : decode cX8_requireNoOpposites 8 = .ok (.iconst 3, 1) := by decide +kernel
theorem dX8_requireNoOpposites_9 : decode cX8_requireNoOpposites 9 = .ok (.iload_n 1, 1) := by decide +kernel
theorem dX8_requireNoOpposites_10 : decode cX8_requireNoOpposites 10 = .ok (.ishl, 1) := by decide +kernel
theorem dX8_requireNoOpposites_11 : decode cX8_requireNoOpposites 11 = .ok (.istore_n 2, 1) := by decide +kernel
theorem dX8_requireNoOpposites_12 : decode cX8_requireNoOpposites 12 = .ok (.iload_n 0, 1) := by decide +kernel
theorem dX8_requireNoOpposites_13 : decode cX8_requireNoOpposites 13 = .ok (.iload_n 2, 1) := by decide +kernel
theorem dX8_requireNoOpposites_14 : decode cX8_requireNoOpposites 14 = .ok (.iand, 1) := by decide +kernel
theorem dX8_requireNoOpposites_15 : decode cX8_requireNoOpposites 15 = .ok (.iload_n 2, 1) := by decide +kernel
theorem dX8_requireNoOpposites_16 : decode cX8_requireNoOpposites 16 = .ok (.if_icmp .ne 14, 3) := by decide +kernel
theorem dX8_requireNoOpposites_19 : decode cX8_requireNoOpposites 19 = .ok (.new 273, 3) := by decide +kernel
theorem dX8_requireNoOpposites_22 : decode cX8_requireNoOpposites 22 = .ok (.dup, 1) := by decide +kernel
theorem dX8_requireNoOpposites_23 : decode cX8_requireNoOpposites 23 = .ok (.ldc_w 278, 3) := by decide +kernel
theorem dX8_requireNoOpposites_26 : decode cX8_requireNoOpposites 26 = .ok (.invokespecial 277, 3) := by decide +kernel
theorem dX8_requireNoOpposites_29 : decode cX8_requireNoOpposites 29 = .ok (.athrow, 1) := by decide +kernel
theorem dX8_requireNoOpposites_30 : decode cX8_requireNoOpposites 30 = .ok (.iinc 1 2, 3) := by decide +kernel
theorem dX8_requireNoOpposites_33 : decode cX8_requireNoOpposites 33 = .ok (.goto (-31), 3) := by decide +kernel
theorem dX8_requireNoOpposites_36 : decode cX8_requireNoOpposites 36 = .ok (.return_, 1) := by decide +kernel
theorem dX8_requireState_0 : decode cX8_requireState 0 = .ok (.iload_n 0, 1) := by decide +kernel
theorem dX8_requireState_1 : decode cX8_requireState 1 = .ok (.ifCond .ne 14, 3) := by decide +kernel
theorem dX8_requireState_4 : decode cX8_requireState 4 = .ok (.new 280, 3) := by decide +kernel
theorem dX8_requireState_7 : decode cX8_requireState 7 = .ok (.dup, 1) := by decide +kernel
theorem dX8_requireState_8 : decode cX8_requireState 8 = .ok (.ldc_w 282, 3) := by decide +kernel
theorem dX8_requireState_11 : decode cX8_requireState 11 = .ok (.invokespecial 284, 3) := by decide +kernel
theorem dX8_requireState_14 : decode cX8_requireState 14 = .ok (.athrow, 1) := by decide +kernel
theorem dX8_requireState_15 : decode cX8_requireState 15 = .ok (.return_, 1) := by decide +kernel
set_option maxRecDepth 20000 in
theorem ggX8_boomValue_X0_radius : GoodIn wsX8_boomValue wsX0_radius := goodIn_r _ [18, 19, 20, 21, 22, 23, 24, 25, 26, 17, 27, 28, 98, 99, 100, 101, 102, 103, 104] (by decide +kernel) (by decide +kernel)
set_option maxRecDepth 20000 in
theorem gX8_boomValue_X0_radius : GoodIn wsX8_boomValue (wsV RX8 175 RX0 yX0_radius wsX0_radius) := goodIn_app (goodIn_of _ (by decide +kernel)) ggX8_boomValue_X0_radius
set_option maxRecDepth 20000 in
theorem ggX8_boomValue_X0_tip : GoodIn wsX8_boomValue wsX0_tip := goodIn_r _ [32, 19, 20, 25, 26, 17, 27, 28, 98, 99, 100, 101, 102, 103, 104] (by decide +kernel) (by decide +kernel)
set_option maxRecDepth 20000 in
theorem gX8_boomValue_X0_tip : GoodIn wsX8_boomValue (wsV RX8 288 RX0 yX0_tip wsX0_tip) := goodIn_app (goodIn_of _ (by decide +kernel)) ggX8_boomValue_X0_tip
set_option maxRecDepth 20000 in
theorem ggX8_boomValue_X2_read : GoodIn wsX8_boomValue wsX2_read := goodIn_r _ [37, 38, 39, 40, 41, 42, 43, 44, 22, 23, 24, 45, 46, 15, 16, 17, 18, 19, 20, 21, 25, 26, 27, 28, 47, 48, 49, 50, 51, 52, 53, 54, 55, 56, 57, 58, 59, 60, 61, 62, 63, 64, 36, 65, 105, 106, 107, 108, 98, 99, 100, 101, 102, 103, 104] (by decide +kernel) (by decide +kernel)
set_option maxRecDepth 20000 in
theorem gX8_boomValue_X2_read : GoodIn wsX8_boomValue (wsV RX8 184 RX2 yX2_read wsX2_read) := goodIn_app (goodIn_of _ (by decide +kernel)) ggX8_boomValue_X2_read
set_option maxRecDepth 20000 in
theorem ggX8_boomValue_X7_violation : GoodIn wsX8_boomValue wsX7_violation := goodIn_r _ [70, 71, 72, 73, 74, 22, 23, 24, 75, 15, 16, 17, 18, 19, 20, 21, 25, 26, 27, 28, 76, 30, 31, 32, 77, 78, 79, 109, 110, 98, 99, 100, 101, 102, 103, 104] (by decide +kernel) (by decide +kernel)
set_option maxRecDepth 20000 in
theorem gX8_boomValue_X7_violation : GoodIn wsX8_boomValue (wsV RX8 126 RX7 yX7_violation wsX7_violation) := goodIn_app (goodIn_of _ (by decide +kernel)) ggX8_boomValue_X7_violation
theorem dX8_boomValue_0 : decode cX8_boomValue 0 = .ok (.iload_n 1, 1) := by decide +kernel
theorem dX8_boomValue_1 : decode cX8_boomValue 1 = .ok (.tableswitch 195 0 10 #[59, 70, 81, 92, 103, 114, 125, 136, 147, 169, 187], 59) := by decide +kernel
theorem dX8_boomValue_60 : decode cX8_boomValue 60 = .ok (.aload_n 0, 1) := by decide +kernel
theorem dX8_boomValue_61 : decode cX8_boomValue 61 = .ok (.getfield 10, 3) := by decide +kernel
theorem dX8_boomValue_64 : decode cX8_boomValue 64 = .ok (.getfield 117, 3) := by decide +kernel
theorem dX8_boomValue_67 : decode cX8_boomValue 67 = .ok (.getfield 181, 3) := by decide +kernel
theorem dX8_boomValue_70 : decode cX8_boomValue 70 = .ok (.ireturn, 1) := by decide +kernel
theorem dX8_boomValue_71 : decode cX8_boomValue 71 = .ok (.aload_n 0, 1) := by decide +kernel
theorem dX8_boomValue_72 : decode cX8_boomValue 72 = .ok (.getfield 10, 3) := by decide +kernel
theorem dX8_boomValue_75 : decode cX8_boomValue 75 = .ok (.getfield 117, 3) := by decide +kernel
theorem dX8_boomValue_78 : decode cX8_boomValue 78 = .ok (.getfield 285, 3) := by decide +kernel
theorem dX8_boomValue_81 : decode cX8_boomValue 81 = .ok (.ireturn, 1) := by decide +kernel
theorem dX8_boomValue_82 : decode cX8_boomValue 82 = .ok (.aload_n 0, 1) := by decide +kernel
theorem dX8_boomValue_83 : decode cX8_boomValue 83 = .ok (.getfield 10, 3) := by decide +kernel
theorem dX8_boomValue_86 : decode cX8_boomValue 86 = .ok (.getfield 117, 3) := by decide +kernel
theorem dX8_boomValue_89 : decode cX8_boomValue 89 = .ok (.getfield 162, 3) := by decide +kernel
theorem dX8_boomValue_92 : decode cX8_boomValue 92 = .ok (.ireturn, 1) := by decide +kernel
theorem dX8_boomValue_93 : decode cX8_boomValue 93 = .ok (.aload_n 0, 1) := by decide +kernel
theorem dX8_boomValue_94 : decode cX8_boomValue 94 = .ok (.getfield 10, 3) := by decide +kernel
theorem dX8_boomValue_97 : decode cX8_boomValue 97 = .ok (.getfield 117, 3) := by decide +kernel
theorem dX8_boomValue_100 : decode cX8_boomValue 100 = .ok (.invokevirtual 175, 3) := by decide +kernel
theorem dX8_boomValue_103 : decode cX8_boomValue 103 = .ok (.ireturn, 1) := by decide +kernel
theorem dX8_boomValue_104 : decode cX8_boomValue 104 = .ok (.aload_n 0, 1) := by decide +kernel
theorem dX8_boomValue_105 : decode cX8_boomValue 105 = .ok (.getfield 10, 3) := by decide +kernel
theorem dX8_boomValue_108 : decode cX8_boomValue 108 = .ok (.getfield 117, 3) := by decide +kernel
theorem dX8_boomValue_111 : decode cX8_boomValue 111 = .ok (.invokevirtual 288, 3) := by decide +kernel
theorem dX8_boomValue_114 : decode cX8_boomValue 114 = .ok (.ireturn, 1) := by decide +kernel
theorem dX8_boomValue_115 : decode cX8_boomValue 115 = .ok (.aload_n 0, 1) := by decide +kernel
theorem dX8_boomValue_116 : decode cX8_boomValue 116 = .ok (.getfield 10, 3) := by decide +kernel
theorem dX8_boomValue_119 : decode cX8_boomValue 119 = .ok (.getfield 117, 3) := by decide +kernel
theorem dX8_boomValue_122 : decode cX8_boomValue 122 = .ok (.getfield 137, 3) := by decide +kernel
theorem dX8_boomValue_125 : decode cX8_boomValue 125 = .ok (.ireturn, 1) := by decide +kernel
theorem dX8_boomValue_126 : decode cX8_boomValue 126 = .ok (.aload_n 0, 1) := by decide +kernel
theorem dX8_boomValue_127 : decode cX8_boomValue 127 = .ok (.getfield 10, 3) := by decide +kernel
theorem dX8_boomValue_130 : decode cX8_boomValue 130 = .ok (.getfield 117, 3) := by decide +kernel
theorem dX8_boomValue_133 : decode cX8_boomValue 133 = .ok (.getfield 120, 3) := by decide +kernel
theorem dX8_boomValue_136 : decode cX8_boomValue 136 = .ok (.ireturn, 1) := by decide +kernel
theorem dX8_boomValue_137 : decode cX8_boomValue 137 = .ok (.aload_n 0, 1) := by decide +kernel
theorem dX8_boomValue_138 : decode cX8_boomValue 138 = .ok (.getfield 10, 3) := by decide +kernel
theorem dX8_boomValue_141 : decode cX8_boomValue 141 = .ok (.getfield 117, 3) := by decide +kernel
theorem dX8_boomValue_144 : decode cX8_boomValue 144 = .ok (.getfield 140, 3) := by decide +kernel
theorem dX8_boomValue_147 : decode cX8_boomValue 147 = .ok (.ireturn, 1) := by decide +kernel
theorem dX8_boomValue_148 : decode cX8_boomValue 148 = .ok (.aload_n 0, 1) := by decide +kernel
theorem dX8_boomValue_149 : decode cX8_boomValue 149 = .ok (.getfield 34, 3) := by decide +kernel
theorem dX8_boomValue_152 : decode cX8_boomValue 152 = .ok (.aload_n 0, 1) := by decide +kernel
theorem dX8_boomValue_153 : decode cX8_boomValue 153 = .ok (.getfield 10, 3) := by decide +kernel
theorem dX8_boomValue_156 : decode cX8_boomValue 156 = .ok (.getfield 117, 3) := by decide +kernel
theorem dX8_boomValue_159 : decode cX8_boomValue 159 = .ok (.invokevirtual 184, 3) := by decide +kernel
theorem dX8_boomValue_162 : decode cX8_boomValue 162 = .ok (.aload_n 0, 1) := by decide +kernel
theorem dX8_boomValue_163 : decode cX8_boomValue 163 = .ok (.getfield 34, 3) := by decide +kernel
theorem dX8_boomValue_166 : decode cX8_boomValue 166 = .ok (.getfield 291, 3) := by decide +kernel
theorem dX8_boomValue_169 : decode cX8_boomValue 169 = .ok (.ireturn, 1) := by decide +kernel
theorem dX8_boomValue_170 : decode cX8_boomValue 170 = .ok (.aload_n 0, 1) := by decide +kernel
theorem dX8_boomValue_171 : decode cX8_boomValue 171 = .ok (.getfield 10, 3) := by decide +kernel
theorem dX8_boomValue_174 : decode cX8_boomValue 174 = .ok (.getfield 94, 3) := by decide +kernel
theorem dX8_boomValue_177 : decode cX8_boomValue 177 = .ok (.aload_n 0, 1) := by decide +kernel
theorem dX8_boomValue_178 : decode cX8_boomValue 178 = .ok (.getfield 10, 3) := by decide +kernel
theorem dX8_boomValue_181 : decode cX8_boomValue 181 = .ok (.getfield 117, 3) := by decide +kernel
theorem dX8_boomValue_184 : decode cX8_boomValue 184 = .ok (.invokevirtual 126, 3) := by decide +kernel
theorem dX8_boomValue_187 : decode cX8_boomValue 187 = .ok (.ireturn, 1) := by decide +kernel
theorem dX8_boomValue_188 : decode cX8_boomValue 188 = .ok (.aload_n 0, 1) := by decide +kernel
theorem dX8_boomValue_189 : decode cX8_boomValue 189 = .ok (.getfield 10, 3) := by decide +kernel
theorem dX8_boomValue_192 : decode cX8_boomValue 192 = .ok (.getfield 294, 3) := by decide +kernel
theorem dX8_boomValue_195 : decode cX8_boomValue 195 = .ok (.ireturn, 1) := by decide +kernel
theorem dX8_boomValue_196 : decode cX8_boomValue 196 = .ok (.aload_n 0, 1) := by decide +kernel
theorem dX8_boomValue_197 : decode cX8_boomValue 197 = .ok (.getfield 10, 3) := by decide +kernel
theorem dX8_boomValue_200 : decode cX8_boomValue 200 = .ok (.getfield 146, 3) := by decide +kernel
theorem dX8_boomValue_203 : decode cX8_boomValue 203 = .ok (.ireturn, 1) := by decide +kernel
set_option maxRecDepth 20000 in
theorem ggX8_limiterValue_X2_read : GoodIn wsX8_limiterValue wsX2_read := goodIn_r _ [15, 16, 17, 18, 19, 20, 21, 22, 23, 24, 25, 26, 27, 28, 29, 30, 31, 32, 33, 34, 35, 36, 37, 38, 39, 40, 41, 42, 43, 44, 45, 46, 47, 48, 49, 50, 51, 52, 53, 54, 55, 56, 14, 57, 128, 129, 130, 131, 132, 133, 134, 135, 136, 137, 138] (by decide +kernel) (by decide +kernel)
set_option maxRecDepth 20000 in
theorem gX8_limiterValue_X2_read : GoodIn wsX8_limiterValue (wsV RX8 184 RX2 yX2_read wsX2_read) := goodIn_app (goodIn_of _ (by decide +kernel)) ggX8_limiterValue_X2_read
set_option maxRecDepth 20000 in
theorem ggX8_limiterValue_X1_tableAt : GoodIn wsX8_limiterValue wsX1_tableAt := goodIn_r _ [62, 63, 64, 65, 66, 67, 139, 140, 141, 142] (by decide +kernel) (by decide +kernel)
set_option maxRecDepth 20000 in
theorem gX8_limiterValue_X1_tableAt : GoodIn wsX8_limiterValue (wsV RX8 298 RX1 yX1_tableAt wsX1_tableAt) := goodIn_app (goodIn_of _ (by decide +kernel)) ggX8_limiterValue_X1_tableAt
set_option maxRecDepth 20000 in
theorem ggX8_limiterValue_X1_windSpeed : GoodIn wsX8_limiterValue wsX1_windSpeed := goodIn_r _ [71, 72, 139, 140, 141, 142] (by decide +kernel) (by decide +kernel)
set_option maxRecDepth 20000 in
theorem gX8_limiterValue_X1_windSpeed : GoodIn wsX8_limiterValue (wsV RX8 133 RX1 yX1_windSpeed wsX1_windSpeed) := goodIn_app (goodIn_of _ (by decide +kernel)) ggX8_limiterValue_X1_windSpeed
set_option maxRecDepth 20000 in
theorem ggX8_limiterValue_X1_ratedAt : GoodIn wsX8_limiterValue wsX1_ratedAt := goodIn_r _ [76, 77, 59, 60, 61, 62, 63, 64, 65, 66, 67, 78, 79, 80, 81, 82, 83, 84, 23, 24, 25, 85, 86, 87, 88, 89, 90, 91, 92, 93, 94, 95, 96, 97, 69, 70, 71, 72, 139, 140, 141, 142] (by decide +kernel) (by decide +kernel)
set_option maxRecDepth 20000 in
theorem gX8_limiterValue_X1_ratedAt : GoodIn wsX8_limiterValue (wsV RX8 178 RX1 yX1_ratedAt wsX1_ratedAt) := goodIn_app (goodIn_of _ (by decide +kernel)) ggX8_limiterValue_X1_ratedAt
set_option maxRecDepth 20000 in
theorem ggX8_limiterValue_X8_utilizationAt : GoodIn wsX8_limiterValue wsX8_utilizationAt := goodIn_r _ [101, 3, 6, 1, 7, 9, 5, 11, 12, 13, 14, 15, 16, 17, 18, 19, 20, 21, 22, 23, 24, 25, 26, 27, 28, 29, 30, 31, 32, 33, 34, 35, 36, 37, 38, 39, 40, 41, 42, 43, 44, 45, 46, 47, 48, 49, 50, 51, 52, 53, 54, 55, 56, 57, 73, 74, 75, 61, 76, 77, 59, 60, 62, 63, 64, 65, 66, 67, 78, 79, 80, 81, 82, 83, 84, 85, 86, 87, 88, 89, 90, 91, 92, 93, 94, 95, 96, 97, 69, 70, 71, 72, 102, 103, 104, 105, 106, 107, 108, 109, 110, 111, 112, 113, 114, 115, 116, 117, 118, 128, 129, 130, 131, 119, 120, 121, 122, 123, 124, 125, 126, 127, 132, 133, 134, 135, 136, 137, 138, 139, 140, 141, 142] (by decide +kernel) (by decide +kernel)
set_option maxRecDepth 20000 in
theorem gX8_limiterValue_X8_utilizationAt : GoodIn wsX8_limiterValue (wsV RX8 165 RX8 yX8_utilizationAt wsX8_utilizationAt) := goodIn_app (goodIn_of _ (by decide +kernel)) ggX8_limiterValue_X8_utilizationAt
theorem dX8_limiterValue_0 : decode cX8_limiterValue 0 = .ok (.aload_n 0, 1) := by decide +kernel
theorem dX8_limiterValue_1 : decode cX8_limiterValue 1 = .ok (.getfield 10, 3) := by decide +kernel
theorem dX8_limiterValue_4 : decode cX8_limiterValue 4 = .ok (.getfield 117, 3) := by decide +kernel
theorem dX8_limiterValue_7 : decode cX8_limiterValue 7 = .ok (.astore_n 2, 1) := by decide +kernel
theorem dX8_limiterValue_8 : decode cX8_limiterValue 8 = .ok (.aload_n 0, 1) := by decide +kernel
theorem dX8_limiterValue_9 : decode cX8_limiterValue 9 = .ok (.getfield 34, 3) := by decide +kernel
theorem dX8_limiterValue_12 : decode cX8_limiterValue 12 = .ok (.aload_n 2, 1) := by decide +kernel
theorem dX8_limiterValue_13 : decode cX8_limiterValue 13 = .ok (.invokevirtual 184, 3) := by decide +kernel
theorem dX8_limiterValue_16 : decode cX8_limiterValue 16 = .ok (.iload_n 1, 1) := by decide +kernel
theorem dX8_limiterValue_17 : decode cX8_limiterValue 17 = .ok (.tableswitch 129 0 6 #[43, 51, 59, 67, 82, 93, 119], 43) := by decide +kernel
theorem dX8_limiterValue_60 : decode cX8_limiterValue 60 = .ok (.aload_n 0, 1) := by decide +kernel
theorem dX8_limiterValue_61 : decode cX8_limiterValue 61 = .ok (.getfield 34, 3) := by decide +kernel
theorem dX8_limiterValue_64 : decode cX8_limiterValue 64 = .ok (.getfield 297, 3) := by decide +kernel
theorem dX8_limiterValue_67 : decode cX8_limiterValue 67 = .ok (.ireturn, 1) := by decide +kernel
theorem dX8_limiterValue_68 : decode cX8_limiterValue 68 = .ok (.aload_n 0, 1) := by decide +kernel
theorem dX8_limiterValue_69 : decode cX8_limiterValue 69 = .ok (.getfield 34, 3) := by decide +kernel
theorem dX8_limiterValue_72 : decode cX8_limiterValue 72 = .ok (.getfield 191, 3) := by decide +kernel
theorem dX8_limiterValue_75 : decode cX8_limiterValue 75 = .ok (.ireturn, 1) := by decide +kernel
theorem dX8_limiterValue_76 : decode cX8_limiterValue 76 = .ok (.aload_n 0, 1) := by decide +kernel
theorem dX8_limiterValue_77 : decode cX8_limiterValue 77 = .ok (.getfield 34, 3) := by decide +kernel
theorem dX8_limiterValue_80 : decode cX8_limiterValue 80 = .ok (.getfield 193, 3) := by decide +kernel
theorem dX8_limiterValue_83 : decode cX8_limiterValue 83 = .ok (.ireturn, 1) := by decide +kernel
theorem dX8_limiterValue_84 : decode cX8_limiterValue 84 = .ok (.aload_n 0, 1) := by decide +kernel
theorem dX8_limiterValue_85 : decode cX8_limiterValue 85 = .ok (.getfield 10, 3) := by decide +kernel
theorem dX8_limiterValue_88 : decode cX8_limiterValue 88 = .ok (.getfield 58, 3) := by decide +kernel
theorem dX8_limiterValue_91 : decode cX8_limiterValue 91 = .ok (.aload_n 2, 1) := by decide +kernel
theorem dX8_limiterValue_92 : decode cX8_limiterValue 92 = .ok (.getfield 162, 3) := by decide +kernel
theorem dX8_limiterValue_95 : decode cX8_limiterValue 95 = .ok (.invokevirtual 298, 3) := by decide +kernel
theorem dX8_limiterValue_98 : decode cX8_limiterValue 98 = .ok (.ireturn, 1) := by decide +kernel
theorem dX8_limiterValue_99 : decode cX8_limiterValue 99 = .ok (.aload_n 0, 1) := by decide +kernel
theorem dX8_limiterValue_100 : decode cX8_limiterValue 100 = .ok (.getfield 10, 3) := by decide +kernel
theorem dX8_limiterValue_103 : decode cX8_limiterValue 103 = .ok (.getfield 58, 3) := by decide +kernel
theorem dX8_limiterValue_106 : decode cX8_limiterValue 106 = .ok (.invokevirtual 133, 3) := by decide +kernel
theorem dX8_limiterValue_109 : decode cX8_limiterValue 109 = .ok (.ireturn, 1) := by decide +kernel
theorem dX8_limiterValue_110 : decode cX8_limiterValue 110 = .ok (.aload_n 0, 1) := by decide +kernel
theorem dX8_limiterValue_111 : decode cX8_limiterValue 111 = .ok (.getfield 10, 3) := by decide +kernel
theorem dX8_limiterValue_114 : decode cX8_limiterValue 114 = .ok (.getfield 58, 3) := by decide +kernel
theorem dX8_limiterValue_117 : decode cX8_limiterValue 117 = .ok (.aload_n 2, 1) := by decide +kernel
theorem dX8_limiterValue_118 : decode cX8_limiterValue 118 = .ok (.getfield 181, 3) := by decide +kernel
theorem dX8_limiterValue_121 : decode cX8_limiterValue 121 = .ok (.aload_n 0, 1) := by decide +kernel
theorem dX8_limiterValue_122 : decode cX8_limiterValue 122 = .ok (.getfield 34, 3) := by decide +kernel
theorem dX8_limiterValue_125 : decode cX8_limiterValue 125 = .ok (.getfield 191, 3) := by decide +kernel
theorem dX8_limiterValue_128 : decode cX8_limiterValue 128 = .ok (.aload_n 2, 1) := by decide +kernel
theorem dX8_limiterValue_129 : decode cX8_limiterValue 129 = .ok (.getfield 162, 3) := by decide +kernel
theorem dX8_limiterValue_132 : decode cX8_limiterValue 132 = .ok (.invokevirtual 178, 3) := by decide +kernel
theorem dX8_limiterValue_135 : decode cX8_limiterValue 135 = .ok (.ireturn, 1) := by decide +kernel
theorem dX8_limiterValue_136 : decode cX8_limiterValue 136 = .ok (.aload_n 0, 1) := by decide +kernel
theorem dX8_limiterValue_137 : decode cX8_limiterValue 137 = .ok (.aload_n 2, 1) := by decide +kernel
theorem dX8_limiterValue_138 : decode cX8_limiterValue 138 = .ok (.aload_n 2, 1) := by decide +kernel
theorem dX8_limiterValue_139 : decode cX8_limiterValue 139 = .ok (.getfield 162, 3) := by decide +kernel
theorem dX8_limiterValue_142 : decode cX8_limiterValue 142 = .ok (.invokevirtual 165, 3) := by decide +kernel
theorem dX8_limiterValue_145 : decode cX8_limiterValue 145 = .ok (.ireturn, 1) := by decide +kernel
theorem dX8_limiterValue_146 : decode cX8_limiterValue 146 = .ok (.aload_n 0, 1) := by decide +kernel
theorem dX8_limiterValue_147 : decode cX8_limiterValue 147 = .ok (.getfield 10, 3) := by decide +kernel
theorem dX8_limiterValue_150 : decode cX8_limiterValue 150 = .ok (.getfield 301, 3) := by decide +kernel
theorem dX8_limiterValue_153 : decode cX8_limiterValue 153 = .ok (.ireturn, 1) := by decide +kernel
set_option maxRecDepth 20000 in
theorem ggX8_utilizationAt_X2_read : GoodIn wsX8_utilizationAt wsX2_read := goodIn_r _ [11, 12, 13, 14, 15, 16, 17, 18, 19, 20, 21, 22, 23, 24, 25, 26, 27, 28, 29, 30, 31, 32, 33, 34, 35, 36, 37, 38, 39, 40, 41, 42, 43, 44, 45, 46, 47, 48, 49, 50, 51, 52, 10, 53, 109, 110, 111, 112, 122, 123, 124, 125, 126, 127, 128] (by decide +kernel) (by decide +kernel)
set_option maxRecDepth 20000 in
theorem gX8_utilizationAt_X2_read : GoodIn wsX8_utilizationAt (wsV RX8 184 RX2 yX2_read wsX2_read) := goodIn_app (goodIn_of _ (by decide +kernel)) ggX8_utilizationAt_X2_read
set_option maxRecDepth 20000 in
theorem ggX8_utilizationAt_X1_ratedAt : GoodIn wsX8_utilizationAt wsX1_ratedAt := goodIn_r _ [58, 59, 60, 61, 57, 62, 63, 64, 65, 66, 67, 68, 69, 70, 71, 72, 73, 74, 19, 20, 21, 75, 76, 77, 78, 79, 80, 81, 82, 83, 84, 85, 86, 87, 88, 89, 90, 91, 129, 130, 131, 132] (by decide +kernel) (by decide +kernel)
set_option maxRecDepth 20000 in
theorem gX8_utilizationAt_X1_ratedAt : GoodIn wsX8_utilizationAt (wsV RX8 178 RX1 yX1_ratedAt wsX1_ratedAt) := goodIn_app (goodIn_of _ (by decide +kernel)) ggX8_utilizationAt_X1_ratedAt
set_option maxRecDepth 20000 in
theorem ggX8_utilizationAt_X8_utilization : GoodIn wsX8_utilizationAt wsX8_utilization := goodIn_r _ [94, 95, 96, 97, 98, 20, 99] (by decide +kernel) (by decide +kernel)
set_option maxRecDepth 20000 in
theorem gX8_utilizationAt_X8_utilization : GoodIn wsX8_utilizationAt (va_wsS RX8 196 yX8_utilization wsX8_utilization) := goodIn_app (goodIn_of _ (by decide +kernel)) ggX8_utilizationAt_X8_utilization
theorem dX8_utilizationAt_0 : decode cX8_utilizationAt 0 = .ok (.aload_n 0, 1) := by decide +kernel
theorem dX8_utilizationAt_1 : decode cX8_utilizationAt 1 = .ok (.getfield 34, 3) := by decide +kernel
theorem dX8_utilizationAt_4 : decode cX8_utilizationAt 4 = .ok (.aload_n 1, 1) := by decide +kernel
theorem dX8_utilizationAt_5 : decode cX8_utilizationAt 5 = .ok (.invokevirtual 184, 3) := by decide +kernel
theorem dX8_utilizationAt_8 : decode cX8_utilizationAt 8 = .ok (.aload_n 0, 1) := by decide +kernel
theorem dX8_utilizationAt_9 : decode cX8_utilizationAt 9 = .ok (.getfield 34, 3) := by decide +kernel
theorem dX8_utilizationAt_12 : decode cX8_utilizationAt 12 = .ok (.getfield 193, 3) := by decide +kernel
theorem dX8_utilizationAt_15 : decode cX8_utilizationAt 15 = .ok (.aload_n 0, 1) := by decide +kernel
theorem dX8_utilizationAt_16 : decode cX8_utilizationAt 16 = .ok (.getfield 10, 3) := by decide +kernel
theorem dX8_utilizationAt_19 : decode cX8_utilizationAt 19 = .ok (.getfield 58, 3) := by decide +kernel
theorem dX8_utilizationAt_22 : decode cX8_utilizationAt 22 = .ok (.aload_n 1, 1) := by decide +kernel
theorem dX8_utilizationAt_23 : decode cX8_utilizationAt 23 = .ok (.getfield 181, 3) := by decide +kernel
theorem dX8_utilizationAt_26 : decode cX8_utilizationAt 26 = .ok (.aload_n 0, 1) := by decide +kernel
theorem dX8_utilizationAt_27 : decode cX8_utilizationAt 27 = .ok (.getfield 34, 3) := by decide +kernel
theorem dX8_utilizationAt_30 : decode cX8_utilizationAt 30 = .ok (.getfield 191, 3) := by decide +kernel
theorem dX8_utilizationAt_33 : decode cX8_utilizationAt 33 = .ok (.iload_n 2, 1) := by decide +kernel
theorem dX8_utilizationAt_34 : decode cX8_utilizationAt 34 = .ok (.invokevirtual 178, 3) := by decide +kernel
theorem dX8_utilizationAt_37 : decode cX8_utilizationAt 37 = .ok (.invokestatic 196, 3) := by decide +kernel
theorem dX8_utilizationAt_40 : decode cX8_utilizationAt 40 = .ok (.ireturn, 1) := by decide +kernel
theorem dX8_utilization_0 : decode cX8_utilization 0 = .ok (.iload_n 0, 1) := by decide +kernel
theorem dX8_utilization_1 : decode cX8_utilization 1 = .ok (.ifCond .gt 5, 3) := by decide +kernel
theorem dX8_utilization_4 : decode cX8_utilization 4 = .ok (.iconst 0, 1) := by decide +kernel
theorem dX8_utilization_5 : decode cX8_utilization 5 = .ok (.ireturn, 1) := by decide +kernel
theorem dX8_utilization_6 : decode cX8_utilization 6 = .ok (.iload_n 1, 1) := by decide +kernel
theorem dX8_utilization_7 : decode cX8_utilization 7 = .ok (.ifCond .gt 7, 3) := by decide +kernel
theorem dX8_utilization_10 : decode cX8_utilization 10 = .ok (.sipush 9999, 3) := by decide +kernel
theorem dX8_utilization_13 : decode cX8_utilization 13 = .ok (.ireturn, 1) := by decide +kernel
theorem dX8_utilization_14 : decode cX8_utilization 14 = .ok (.ldc2_w 304, 3) := by decide +kernel
theorem dX8_utilization_17 : decode cX8_utilization 17 = .ok (.ldc2_w 306, 3) := by decide +kernel
theorem dX8_utilization_20 : decode cX8_utilization 20 = .ok (.iload_n 0, 1) := by decide +kernel
theorem dX8_utilization_21 : decode cX8_utilization 21 = .ok (.i2l, 1) := by decide +kernel
theorem dX8_utilization_22 : decode cX8_utilization 22 = .ok (.lmul, 1) := by decide +kernel
theorem dX8_utilization_23 : decode cX8_utilization 23 = .ok (.iload_n 1, 1) := by decide +kernel
theorem dX8_utilization_24 : decode cX8_utilization 24 = .ok (.i2l, 1) := by decide +kernel
theorem dX8_utilization_25 : decode cX8_utilization 25 = .ok (.ldiv, 1) := by decide +kernel
theorem dX8_utilization_26 : decode cX8_utilization 26 = .ok (.invokestatic 308, 3) := by decide +kernel
theorem dX8_utilization_29 : decode cX8_utilization 29 = .ok (.l2i, 1) := by decide +kernel
theorem dX8_utilization_30 : decode cX8_utilization 30 = .ok (.ireturn, 1) := by decide +kernel
theorem dX8_clockwise_0 : decode cX8_clockwise 0 = .ok (.iload_n 1, 1) := by decide +kernel
theorem dX8_clockwise_1 : decode cX8_clockwise 1 = .ok (.iload_n 0, 1) := by decide +kernel
theorem dX8_clockwise_2 : decode cX8_clockwise 2 = .ok (.if_icmp .lt 9, 3) := by decide +kernel
theorem dX8_clockwise_5 : decode cX8_clockwise 5 = .ok (.iload_n 1, 1) := by decide +kernel
theorem dX8_clockwise_6 : decode cX8_clockwise 6 = .ok (.iload_n 0, 1) := by decide +kernel
theorem dX8_clockwise_7 : decode cX8_clockwise 7 = .ok (.isub, 1) := by decide +kernel
theorem dX8_clockwise_8 : decode cX8_clockwise 8 = .ok (.goto 10, 3) := by decide +kernel
theorem dX8_clockwise_11 : decode cX8_clockwise 11 = .ok (.iload_n 1, 1) := by decide +kernel
theorem dX8_clockwise_12 : decode cX8_clockwise 12 = .ok (.iload_n 0, 1) := by decide +kernel
theorem dX8_clockwise_13 : decode cX8_clockwise 13 = .ok (.isub, 1) := by decide +kernel
theorem dX8_clockwise_14 : decode cX8_clockwise 14 = .ok (.sipush 3600, 3) := by decide +kernel
theorem dX8_clockwise_17 : decode cX8_clockwise 17 = .ok (.iadd, 1) := by decide +kernel
theorem dX8_clockwise_18 : decode cX8_clockwise 18 = .ok (.ireturn, 1) := by decide +kernel
set_option maxRecDepth 20000 in
theorem ggX8_tick_X8_isPermitted : GoodIn wsX8_tick wsX8_isPermitted := goodIn_r _ [13, 1, 2, 14, 15, 16, 8, 17, 18, 19, 20, 21, 22, 23, 24, 25, 26, 27, 28, 29, 30, 31, 32, 33, 34, 35, 36, 37, 38, 39, 40, 12, 41, 42, 43, 44, 45, 46, 47, 48, 49, 50, 51, 52, 53, 54, 55, 56, 57, 58, 59, 60, 61, 62, 63, 64, 65, 66, 67, 68, 69, 70, 71, 72, 73, 74, 75, 76, 77, 78, 79, 80, 81, 82, 83, 84, 85, 86, 87, 88, 89, 90, 91, 92, 93, 94, 95, 96, 97, 98, 99, 100, 101, 102, 103, 104, 105, 106, 107, 108, 109, 110, 111, 112, 113, 114, 115, 116, 117, 118, 119, 120, 121, 122, 123, 124, 125, 126, 127, 128, 129, 130, 131, 132, 133, 134, 135, 136, 137, 138, 139, 140, 141, 142, 143, 144, 145, 146, 147, 148, 149, 150, 151, 152, 153, 154, 155, 156, 157, 158, 159, 160, 161, 162, 163, 164, 165, 166, 167, 168, 169, 170, 171, 172, 229, 230, 231, 232, 233, 234, 235, 236, 237, 238, 239, 240, 241, 242, 243, 244, 245, 246, 247, 248, 249, 250, 251, 252, 253, 254, 255, 256, 257, 258, 259, 260, 261, 262, 263] (by decide +kernel) (by decide +kernel)
set_option maxRecDepth 20000 in
theorem gX8_tick_X8_isPermitted : GoodIn wsX8_tick (wsV RX8 156 RX8 yX8_isPermitted wsX8_isPermitted) := goodIn_app (goodIn_of _ (by decide +kernel)) ggX8_tick_X8_isPermitted
set_option maxRecDepth 20000 in
theorem ggX8_tick_X8_isSlow : GoodIn wsX8_tick wsX8_isSlow := goodIn_r _ [55, 1, 14, 229, 230, 231, 232, 233, 234, 235, 236, 237, 238, 239, 240, 241, 242, 243, 244, 245, 246] (by decide +kernel) (by decide +kernel)
set_option maxRecDepth 20000 in
theorem gX8_tick_X8_isSlow : GoodIn wsX8_tick (wsV RX8 312 RX8 yX8_isSlow wsX8_isSlow) := goodIn_app (goodIn_of _ (by decide +kernel)) ggX8_tick_X8_isSlow
set_option maxRecDepth 20000 in
theorem ggX8_tick_X0_move : GoodIn wsX8_tick wsX0_move := goodIn_r _ [59, 24, 60, 61, 62, 63, 64, 65, 66, 25, 50, 22, 67, 68, 69, 20, 70, 23, 26, 27, 28, 29, 30, 71, 72, 73, 74, 31, 32, 33, 34, 35, 36, 37, 38, 247, 248, 249, 250, 251, 252, 253] (by decide +kernel) (by decide +kernel)
set_option maxRecDepth 20000 in
theorem gX8_tick_X0_move : GoodIn wsX8_tick (wsV RX8 316 RX0 yX0_move wsX0_move) := goodIn_app (goodIn_of _ (by decide +kernel)) ggX8_tick_X0_move
set_option maxRecDepth 20000 in
theorem ggX8_tick_X3_add : GoodIn wsX8_tick wsX3_add := goodIn_r _ [177, 178, 179, 180, 181, 182, 183, 184, 185, 176, 186, 187, 188, 189, 190, 264, 265, 266, 267, 268] (by decide +kernel) (by decide +kernel)
set_option maxRecDepth 20000 in
theorem gX8_tick_X3_add : GoodIn wsX8_tick (wsV RX8 323 RX3 yX3_add wsX3_add) := goodIn_app (goodIn_of _ (by decide +kernel)) ggX8_tick_X3_add
set_option maxRecDepth 20000 in
theorem ggX8_tick_X8_utilizationAt : GoodIn wsX8_tick wsX8_utilizationAt := goodIn_r _ [94, 95, 96, 1, 97, 98, 99, 100, 101, 102, 103, 104, 105, 106, 107, 108, 109, 110, 111, 65, 62, 66, 112, 113, 85, 86, 20, 87, 25, 24, 64, 35, 36, 37, 38, 114, 115, 116, 117, 118, 119, 120, 121, 30, 23, 51, 122, 123, 124, 125, 126, 127, 128, 129, 130, 131, 132, 133, 134, 135, 136, 137, 138, 139, 140, 89, 12, 90, 141, 142, 143, 144, 145, 146, 147, 148, 149, 150, 151, 152, 153, 154, 155, 156, 157, 158, 159, 160, 161, 162, 163, 164, 165, 166, 167, 168, 169, 170, 171, 172, 229, 230, 231, 232, 233, 234, 235, 236, 237, 256, 257, 258, 259, 238, 239, 240, 241, 242, 243, 244, 245, 246, 247, 248, 249, 250, 251, 252, 253, 260, 261, 262, 263] (by decide +kernel) (by decide +kernel)
set_option maxRecDepth 20000 in
theorem gX8_tick_X8_utilizationAt : GoodIn wsX8_tick (wsV RX8 165 RX8 yX8_utilizationAt wsX8_utilizationAt) := goodIn_app (goodIn_of _ (by decide +kernel)) ggX8_tick_X8_utilizationAt
set_option maxRecDepth 20000 in
theorem ggX8_tick_X8_nextState : GoodIn wsX8_tick wsX8_nextState := goodIn_r _ [194, 1, 14, 5, 229, 230, 231, 232, 233, 234, 235, 236, 237, 238, 239, 240, 241, 242, 243, 244, 245, 246] (by decide +kernel) (by decide +kernel)
set_option maxRecDepth 20000 in
theorem gX8_tick_X8_nextState : GoodIn wsX8_tick (wsV RX8 325 RX8 yX8_nextState wsX8_nextState) := goodIn_app (goodIn_of _ (by decide +kernel)) ggX8_tick_X8_nextState
set_option maxRecDepth 20000 in
theorem ggX8_tick_X8_enterState : GoodIn wsX8_tick wsX8_enterState := goodIn_r _ [198, 1, 14, 7, 4, 173, 174, 175, 176, 177, 178, 179, 180, 181, 182, 183, 184, 185, 186, 187, 188, 189, 190, 229, 230, 231, 232, 233, 234, 235, 236, 237, 238, 239, 240, 241, 242, 243, 244, 245, 246, 264, 265, 266, 267, 268] (by decide +kernel) (by decide +kernel)
set_option maxRecDepth 20000 in
theorem gX8_tick_X8_enterState : GoodIn wsX8_tick (wsV RX8 328 RX8 yX8_enterState wsX8_enterState) := goodIn_app (goodIn_of _ (by decide +kernel)) ggX8_tick_X8_enterState
set_option maxRecDepth 20000 in
theorem ggX8_tick_X5_countTick : GoodIn wsX8_tick wsX5_countTick := goodIn_r _ [203, 204, 205, 206, 207, 208, 209, 210, 211, 212, 213, 214, 215, 216, 217, 218, 219, 220, 221, 222, 223, 224, 225, 65, 62, 66, 226, 61, 63, 227, 228, 174, 175, 176, 177, 178, 179, 180, 181, 182, 183, 184, 185, 186, 187, 188, 189, 190, 238, 239, 240, 241, 242, 243, 244, 245, 246, 247, 248, 249, 250, 251, 252, 253, 269, 270, 271, 264, 265, 266, 267, 268] (by decide +kernel) (by decide +kernel)
set_option maxRecDepth 20000 in
theorem gX8_tick_X5_countTick : GoodIn wsX8_tick (wsV RX8 331 RX5 yX5_countTick wsX5_countTick) := goodIn_app (goodIn_of _ (by decide +kernel)) ggX8_tick_X5_countTick
theorem dX8_tick_0 : decode cX8_tick 0 = .ok (.aload_n 0, 1) := by decide +kernel
theorem dX8_tick_1 : decode cX8_tick 1 = .ok (.getfield 10, 3) := by decide +kernel
theorem dX8_tick_4 : decode cX8_tick 4 = .ok (.getfield 117, 3) := by decide +kernel
theorem dX8_tick_7 : decode cX8_tick 7 = .ok (.getfield 120, 3) := by decide +kernel
theorem dX8_tick_10 : decode cX8_tick 10 = .ok (.istore_n 2, 1) := by decide +kernel
theorem dX8_tick_11 : decode cX8_tick 11 = .ok (.aload_n 0, 1) := by decide +kernel
theorem dX8_tick_12 : decode cX8_tick 12 = .ok (.getfield 10, 3) := by decide +kernel
theorem dX8_tick_15 : decode cX8_tick 15 = .ok (.dup, 1) := by decide +kernel
theorem dX8_tick_16 : decode cX8_tick 16 = .ok (.getfield 294, 3) := by decide +kernel
theorem dX8_tick_19 : decode cX8_tick 19 = .ok (.iconst 1, 1) := by decide +kernel
theorem dX8_tick_20 : decode cX8_tick 20 = .ok (.iadd, 1) := by decide +kernel
theorem dX8_tick_21 : decode cX8_tick 21 = .ok (.putfield 294, 3) := by decide +kernel
theorem dX8_tick_24 : decode cX8_tick 24 = .ok (.aload_n 0, 1) := by decide +kernel
theorem dX8_tick_25 : decode cX8_tick 25 = .ok (.getfield 10, 3) := by decide +kernel
theorem dX8_tick_28 : decode cX8_tick 28 = .ok (.getfield 146, 3) := by decide +kernel
theorem dX8_tick_31 : decode cX8_tick 31 = .ok (.ifCond .le 16, 3) := by decide +kernel
theorem dX8_tick_34 : decode cX8_tick 34 = .ok (.aload_n 0, 1) := by decide +kernel
theorem dX8_tick_35 : decode cX8_tick 35 = .ok (.getfield 10, 3) := by decide +kernel
theorem dX8_tick_38 : decode cX8_tick 38 = .ok (.dup, 1) := by decide +kernel
theorem dX8_tick_39 : decode cX8_tick 39 = .ok (.getfield 146, 3) := by decide +kernel
theorem dX8_tick_42 : decode cX8_tick 42 = .ok (.iconst 1, 1) := by decide +kernel
theorem dX8_tick_43 : decode cX8_tick 43 = .ok (.isub, 1) := by decide +kernel
theorem dX8_tick_44 : decode cX8_tick 44 = .ok (.putfield 146, 3) := by decide +kernel
theorem dX8_tick_47 : decode cX8_tick 47 = .ok (.iconst 0, 1) := by decide +kernel
theorem dX8_tick_48 : decode cX8_tick 48 = .ok (.istore_n 3, 1) := by decide +kernel
theorem dX8_tick_49 : decode cX8_tick 49 = .ok (.iconst 0, 1) := by decide +kernel
theorem dX8_tick_50 : decode cX8_tick 50 = .ok (.istore 4, 2) := by decide +kernel
theorem dX8_tick_52 : decode cX8_tick 52 = .ok (.iload 4, 2) := by decide +kernel
theorem dX8_tick_54 : decode cX8_tick 54 = .ok (.bipush 8, 2) := by decide +kernel
theorem dX8_tick_56 : decode cX8_tick 56 = .ok (.if_icmp .ge 91, 3) := by decide +kernel
theorem dX8_tick_59 : decode cX8_tick 59 = .ok (.iload_n 1, 1) := by decide +kernel
theorem dX8_tick_60 : decode cX8_tick 60 = .ok (.iconst 1, 1) := by decide +kernel
theorem dX8_tick_61 : decode cX8_tick 61 = .ok (.iload 4, 2) := by decide +kernel
theorem dX8_tick_63 : decode cX8_tick 63 = .ok (.ishl, 1) := by decide +kernel
theorem dX8_tick_64 : decode cX8_tick 64 = .ok (.iand, 1) := by decide +kernel
theorem dX8_tick_65 : decode cX8_tick 65 = .ok (.istore 5, 2) := by decide +kernel
theorem dX8_tick_67 : decode cX8_tick 67 = .ok (.iload 5, 2) := by decide +kernel
theorem dX8_tick_69 : decode cX8_tick 69 = .ok (.ifCond .ne 6, 3) := by decide +kernel
theorem dX8_tick_72 : decode cX8_tick 72 = .ok (.goto 69, 3) := by decide +kernel
theorem dX8_tick_75 : decode cX8_tick 75 = .ok (.aload_n 0, 1) := by decide +kernel
theorem dX8_tick_76 : decode cX8_tick 76 = .ok (.iload 4, 2) := by decide +kernel
theorem dX8_tick_78 : decode cX8_tick 78 = .ok (.invokevirtual 156, 3) := by decide +kernel
theorem dX8_tick_81 : decode cX8_tick 81 = .ok (.ifCond .eq 22, 3) := by decide +kernel
theorem dX8_tick_84 : decode cX8_tick 84 = .ok (.aload_n 0, 1) := by decide +kernel
theorem dX8_tick_85 : decode cX8_tick 85 = .ok (.getfield 10, 3) := by decide +kernel
theorem dX8_tick_88 : decode cX8_tick 88 = .ok (.getfield 117, 3) := by decide +kernel
theorem dX8_tick_91 : decode cX8_tick 91 = .ok (.iload 4, 2) := by decide +kernel
theorem dX8_tick_93 : decode cX8_tick 93 = .ok (.aload_n 0, 1) := by decide +kernel
theorem dX8_tick_94 : decode cX8_tick 94 = .ok (.invokevirtual 312, 3) := by decide +kernel
theorem dX8_tick_97 : decode cX8_tick 97 = .ok (.invokevirtual 316, 3) := by decide +kernel
theorem dX8_tick_100 : decode cX8_tick 100 = .ok (.goto 41, 3) := by decide +kernel
theorem dX8_tick_103 : decode cX8_tick 103 = .ok (.iload_n 3, 1) := by decide +kernel
theorem dX8_tick_104 : decode cX8_tick 104 = .ok (.iload 5, 2) := by decide +kernel
theorem dX8_tick_106 : decode cX8_tick 106 = .ok (.ior, 1) := by decide +kernel
theorem dX8_tick_107 : decode cX8_tick 107 = .ok (.istore_n 3, 1) := by decide +kernel
theorem dX8_tick_108 : decode cX8_tick 108 = .ok (.aload_n 0, 1) := by decide +kernel
theorem dX8_tick_109 : decode cX8_tick 109 = .ok (.getfield 10, 3) := by decide +kernel
theorem dX8_tick_112 : decode cX8_tick 112 = .ok (.getfield 320, 3) := by decide +kernel
theorem dX8_tick_115 : decode cX8_tick 115 = .ok (.iload 5, 2) := by decide +kernel
theorem dX8_tick_117 : decode cX8_tick 117 = .ok (.iand, 1) := by decide +kernel
theorem dX8_tick_118 : decode cX8_tick 118 = .ok (.ifCond .ne 23, 3) := by decide +kernel
theorem dX8_tick_121 : decode cX8_tick 121 = .ok (.aload_n 0, 1) := by decide +kernel
theorem dX8_tick_122 : decode cX8_tick 122 = .ok (.getfield 10, 3) := by decide +kernel
theorem dX8_tick_125 : decode cX8_tick 125 = .ok (.getfield 199, 3) := by decide +kernel
theorem dX8_tick_128 : decode cX8_tick 128 = .ok (.aload_n 0, 1) := by decide +kernel
theorem dX8_tick_129 : decode cX8_tick 129 = .ok (.getfield 10, 3) := by decide +kernel
theorem dX8_tick_132 : decode cX8_tick 132 = .ok (.getfield 294, 3) := by decide +kernel
theorem dX8_tick_135 : decode cX8_tick 135 = .ok (.iconst 0, 1) := by decide +kernel
theorem dX8_tick_136 : decode cX8_tick 136 = .ok (.iload 4, 2) := by decide +kernel
theorem dX8_tick_138 : decode cX8_tick 138 = .ok (.invokevirtual 323, 3) := by decide +kernel
theorem dX8_tick_141 : decode cX8_tick 141 = .ok (.iinc 4 1, 3) := by decide +kernel
theorem dX8_tick_144 : decode cX8_tick 144 = .ok (.goto (-92), 3) := by decide +kernel
theorem dX8_tick_147 : decode cX8_tick 147 = .ok (.aload_n 0, 1) := by decide +kernel
theorem dX8_tick_148 : decode cX8_tick 148 = .ok (.getfield 10, 3) := by decide +kernel
theorem dX8_tick_151 : decode cX8_tick 151 = .ok (.iload_n 3, 1) := by decide +kernel
theorem dX8_tick_152 : decode cX8_tick 152 = .ok (.putfield 320, 3) := by decide +kernel
theorem dX8_tick_155 : decode cX8_tick 155 = .ok (.aload_n 0, 1) := by decide +kernel
theorem dX8_tick_156 : decode cX8_tick 156 = .ok (.aload_n 0, 1) := by decide +kernel
theorem dX8_tick_157 : decode cX8_tick 157 = .ok (.getfield 10, 3) := by decide +kernel
theorem dX8_tick_160 : decode cX8_tick 160 = .ok (.getfield 117, 3) := by decide +kernel
theorem dX8_tick_163 : decode cX8_tick 163 = .ok (.aload_n 0, 1) := by decide +kernel
theorem dX8_tick_164 : decode cX8_tick 164 = .ok (.getfield 10, 3) := by decide +kernel
theorem dX8_tick_167 : decode cX8_tick 167 = .ok (.getfield 117, 3) := by decide +kernel
theorem dX8_tick_170 : decode cX8_tick 170 = .ok (.getfield 162, 3) := by decide +kernel
theorem dX8_tick_173 : decode cX8_tick 173 = .ok (.invokevirtual 165, 3) := by decide +kernel
theorem dX8_tick_176 : decode cX8_tick 176 = .ok (.istore 4, 2) := by decide +kernel
theorem dX8_tick_178 : decode cX8_tick 178 = .ok (.aload_n 0, 1) := by decide +kernel
theorem dX8_tick_179 : decode cX8_tick 179 = .ok (.aload_n 0, 1) := by decide +kernel
theorem dX8_tick_180 : decode cX8_tick 180 = .ok (.iload 4, 2) := by decide +kernel
theorem dX8_tick_182 : decode cX8_tick 182 = .ok (.invokevirtual 325, 3) := by decide +kernel
theorem dX8_tick_185 : decode cX8_tick 185 = .ok (.iload 4, 2) := by decide +kernel
theorem dX8_tick_187 : decode cX8_tick 187 = .ok (.invokevirtual 328, 3) := by decide +kernel
theorem dX8_tick_190 : decode cX8_tick 190 = .ok (.aload_n 0, 1) := by decide +kernel
theorem dX8_tick_191 : decode cX8_tick 191 = .ok (.getfield 10, 3) := by decide +kernel
theorem dX8_tick_194 : decode cX8_tick 194 = .ok (.iload_n 2, 1) := by decide +kernel
theorem dX8_tick_195 : decode cX8_tick 195 = .ok (.iload 4, 2) := by decide +kernel
theorem dX8_tick_197 : decode cX8_tick 197 = .ok (.invokevirtual 331, 3) := by decide +kernel
theorem dX8_tick_200 : decode cX8_tick 200 = .ok (.iload_n 3, 1) := by decide +kernel
theorem dX8_tick_201 : decode cX8_tick 201 = .ok (.ifCond .ne 7, 3) := by decide +kernel
theorem dX8_tick_204 : decode cX8_tick 204 = .ok (.iconst 1, 1) := by decide +kernel
theorem dX8_tick_205 : decode cX8_tick 205 = .ok (.goto 4, 3) := by decide +kernel
theorem dX8_tick_208 : decode cX8_tick 208 = .ok (.iconst 0, 1) := by decide +kernel
theorem dX8_tick_209 : decode cX8_tick 209 = .ok (.ireturn, 1) := by decide +kernel
set_option maxRecDepth 20000 in
theorem ggX8_isPermitted_X0_isAtEnd : GoodIn wsX8_isPermitted wsX0_isAtEnd := goodIn_r _ [11, 12, 13, 14, 15, 16, 17, 18, 10, 19, 20, 21, 22, 23, 24, 25, 26, 27, 28, 182, 183, 184, 185, 186, 187, 188] (by decide +kernel) (by decide +kernel)
set_option maxRecDepth 20000 in
theorem gX8_isPermitted_X0_isAtEnd : GoodIn wsX8_isPermitted (wsV RX8 334 RX0 yX0_isAtEnd wsX0_isAtEnd) := goodIn_app (goodIn_of _ (by decide +kernel)) ggX8_isPermitted_X0_isAtEnd
set_option maxRecDepth 20000 in
theorem ggX8_isPermitted_X8_addsMoment : GoodIn wsX8_isPermitted wsX8_addsMoment := goodIn_r _ [32] (by decide +kernel) (by decide +kernel)
set_option maxRecDepth 20000 in
theorem gX8_isPermitted_X8_addsMoment : GoodIn wsX8_isPermitted (va_wsS RX8 337 yX8_addsMoment wsX8_addsMoment) := goodIn_app (goodIn_of _ (by decide +kernel)) ggX8_isPermitted_X8_addsMoment
set_option maxRecDepth 20000 in
theorem ggX8_isPermitted_X8_tryMotion : GoodIn wsX8_isPermitted wsX8_tryMotion := goodIn_r _ [36, 5, 1, 2, 37, 38, 39, 10, 40, 15, 14, 41, 12, 13, 20, 42, 43, 44, 45, 31, 46, 3, 47, 48, 49, 50, 51, 52, 53, 54, 55, 56, 57, 58, 59, 60, 61, 16, 17, 18, 19, 62, 63, 64, 65, 21, 22, 23, 24, 25, 26, 27, 28, 164, 165, 166, 167, 168, 169, 170, 171, 172, 173, 174, 175, 176, 177, 178, 179, 180, 181, 182, 183, 184, 185, 186, 187, 188] (by decide +kernel) (by decide +kernel)
set_option maxRecDepth 20000 in
theorem gX8_isPermitted_X8_tryMotion : GoodIn wsX8_isPermitted (wsV RX8 159 RX8 yX8_tryMotion wsX8_tryMotion) := goodIn_app (goodIn_of _ (by decide +kernel)) ggX8_isPermitted_X8_tryMotion
set_option maxRecDepth 20000 in
theorem ggX8_isPermitted_X7_violation : GoodIn wsX8_isPermitted wsX7_violation := goodIn_r _ [70, 71, 72, 73, 74, 56, 53, 57, 75, 76, 77, 10, 78, 15, 14, 55, 25, 26, 27, 28, 79, 22, 23, 24, 80, 31, 81, 189, 190, 182, 183, 184, 185, 186, 187, 188] (by decide +kernel) (by decide +kernel)
set_option maxRecDepth 20000 in
theorem gX8_isPermitted_X7_violation : GoodIn wsX8_isPermitted (wsV RX8 126 RX7 yX7_violation wsX7_violation) := goodIn_app (goodIn_of _ (by decide +kernel)) ggX8_isPermitted_X7_violation
set_option maxRecDepth 20000 in
theorem ggX8_isPermitted_X8_utilizationAt : GoodIn wsX8_isPermitted wsX8_utilizationAt := goodIn_r _ [85, 86, 87, 1, 88, 89, 90, 91, 92, 93, 94, 95, 96, 97, 98, 99, 100, 101, 102, 56, 53, 57, 103, 104, 76, 77, 10, 78, 15, 14, 55, 25, 26, 27, 28, 105, 106, 107, 108, 109, 110, 111, 112, 20, 13, 42, 113, 114, 115, 116, 117, 118, 119, 120, 121, 122, 123, 124, 125, 126, 127, 128, 129, 130, 131, 80, 31, 81, 132, 133, 134, 135, 136, 137, 138, 139, 140, 141, 142, 143, 144, 145, 146, 147, 148, 149, 150, 151, 152, 153, 154, 155, 156, 157, 158, 159, 160, 161, 162, 163, 164, 165, 166, 167, 168, 169, 170, 171, 172, 191, 192, 193, 194, 173, 174, 175, 176, 177, 178, 179, 180, 181, 182, 183, 184, 185, 186, 187, 188, 195, 196, 197, 198] (by decide +kernel) (by decide +kernel)
set_option maxRecDepth 20000 in
theorem gX8_isPermitted_X8_utilizationAt : GoodIn wsX8_isPermitted (wsV RX8 165 RX8 yX8_utilizationAt wsX8_utilizationAt) := goodIn_app (goodIn_of _ (by decide +kernel)) ggX8_isPermitted_X8_utilizationAt
theorem dX8_isPermitted_0 : decode cX8_isPermitted 0 = .ok (.aload_n 0, 1) := by decide +kernel
theorem dX8_isPermitted_1 : decode cX8_isPermitted 1 = .ok (.getfield 10, 3) := by decide +kernel
theorem dX8_isPermitted_4 : decode cX8_isPermitted 4 = .ok (.getfield 117, 3) := by decide +kernel
theorem dX8_isPermitted_7 : decode cX8_isPermitted 7 = .ok (.iload_n 1, 1) := by decide +kernel
theorem dX8_isPermitted_8 : decode cX8_isPermitted 8 = .ok (.invokevirtual 334, 3) := by decide +kernel
theorem dX8_isPermitted_11 : decode cX8_isPermitted 11 = .ok (.ifCond .eq 5, 3) := by decide +kernel
theorem dX8_isPermitted_14 : decode cX8_isPermitted 14 = .ok (.iconst 0, 1) := by decide +kernel
theorem dX8_isPermitted_15 : decode cX8_isPermitted 15 = .ok (.ireturn, 1) := by decide +kernel
theorem dX8_isPermitted_16 : decode cX8_isPermitted 16 = .ok (.aload_n 0, 1) := by decide +kernel
theorem dX8_isPermitted_17 : decode cX8_isPermitted 17 = .ok (.getfield 10, 3) := by decide +kernel
theorem dX8_isPermitted_20 : decode cX8_isPermitted 20 = .ok (.getfield 301, 3) := by decide +kernel
theorem dX8_isPermitted_23 : decode cX8_isPermitted 23 = .ok (.iconst 2, 1) := by decide +kernel
theorem dX8_isPermitted_24 : decode cX8_isPermitted 24 = .ok (.if_icmp .ne 12, 3) := by decide +kernel
theorem dX8_isPermitted_27 : decode cX8_isPermitted 27 = .ok (.iload_n 1, 1) := by decide +kernel
theorem dX8_isPermitted_28 : decode cX8_isPermitted 28 = .ok (.invokestatic 337, 3) := by decide +kernel
theorem dX8_isPermitted_31 : decode cX8_isPermitted 31 = .ok (.ifCond .eq 5, 3) := by decide +kernel
theorem dX8_isPermitted_34 : decode cX8_isPermitted 34 = .ok (.iconst 0, 1) := by decide +kernel
theorem dX8_isPermitted_35 : decode cX8_isPermitted 35 = .ok (.ireturn, 1) := by decide +kernel
theorem dX8_isPermitted_36 : decode cX8_isPermitted 36 = .ok (.aload_n 0, 1) := by decide +kernel
theorem dX8_isPermitted_37 : decode cX8_isPermitted 37 = .ok (.iload_n 1, 1) := by decide +kernel
theorem dX8_isPermitted_38 : decode cX8_isPermitted 38 = .ok (.invokevirtual 159, 3) := by decide +kernel
theorem dX8_isPermitted_41 : decode cX8_isPermitted 41 = .ok (.aload_n 0, 1) := by decide +kernel
theorem dX8_isPermitted_42 : decode cX8_isPermitted 42 = .ok (.getfield 10, 3) := by decide +kernel
theorem dX8_isPermitted_45 : decode cX8_isPermitted 45 = .ok (.getfield 94, 3) := by decide +kernel
theorem dX8_isPermitted_48 : decode cX8_isPermitted 48 = .ok (.aload_n 0, 1) := by decide +kernel
theorem dX8_isPermitted_49 : decode cX8_isPermitted 49 = .ok (.getfield 41, 3) := by decide +kernel
theorem dX8_isPermitted_52 : decode cX8_isPermitted 52 = .ok (.invokevirtual 126, 3) := by decide +kernel
theorem dX8_isPermitted_55 : decode cX8_isPermitted 55 = .ok (.aload_n 0, 1) := by decide +kernel
theorem dX8_isPermitted_56 : decode cX8_isPermitted 56 = .ok (.getfield 10, 3) := by decide +kernel
theorem dX8_isPermitted_59 : decode cX8_isPermitted 59 = .ok (.getfield 94, 3) := by decide +kernel
theorem dX8_isPermitted_62 : decode cX8_isPermitted 62 = .ok (.aload_n 0, 1) := by decide +kernel
theorem dX8_isPermitted_63 : decode cX8_isPermitted 63 = .ok (.getfield 10, 3) := by decide +kernel
theorem dX8_isPermitted_66 : decode cX8_isPermitted 66 = .ok (.getfield 117, 3) := by decide +kernel
theorem dX8_isPermitted_69 : decode cX8_isPermitted 69 = .ok (.invokevirtual 126, 3) := by decide +kernel
theorem dX8_isPermitted_72 : decode cX8_isPermitted 72 = .ok (.if_icmp .le 5, 3) := by decide +kernel
theorem dX8_isPermitted_75 : decode cX8_isPermitted 75 = .ok (.iconst 0, 1) := by decide +kernel
theorem dX8_isPermitted_76 : decode cX8_isPermitted 76 = .ok (.ireturn, 1) := by decide +kernel
theorem dX8_isPermitted_77 : decode cX8_isPermitted 77 = .ok (.iload_n 1, 1) := by decide +kernel
theorem dX8_isPermitted_78 : decode cX8_isPermitted 78 = .ok (.bipush 6, 2) := by decide +kernel
theorem dX8_isPermitted_80 : decode cX8_isPermitted 80 = .ok (.if_icmp .lt 14, 3) := by decide +kernel
theorem dX8_isPermitted_83 : decode cX8_isPermitted 83 = .ok (.aload_n 0, 1) := by decide +kernel
theorem dX8_isPermitted_84 : decode cX8_isPermitted 84 = .ok (.getfield 10, 3) := by decide +kernel
theorem dX8_isPermitted_87 : decode cX8_isPermitted 87 = .ok (.getfield 301, 3) := by decide +kernel
theorem dX8_isPermitted_90 : decode cX8_isPermitted 90 = .ok (.iconst 3, 1) := by decide +kernel
theorem dX8_isPermitted_91 : decode cX8_isPermitted 91 = .ok (.if_icmp .ne 5, 3) := by decide +kernel
theorem dX8_isPermitted_94 : decode cX8_isPermitted 94 = .ok (.iconst 1, 1) := by decide +kernel
theorem dX8_isPermitted_95 : decode cX8_isPermitted 95 = .ok (.ireturn, 1) := by decide +kernel
theorem dX8_isPermitted_96 : decode cX8_isPermitted 96 = .ok (.aload_n 0, 1) := by decide +kernel
theorem dX8_isPermitted_97 : decode cX8_isPermitted 97 = .ok (.getfield 10, 3) := by decide +kernel
theorem dX8_isPermitted_100 : decode cX8_isPermitted 100 = .ok (.getfield 117, 3) := by decide +kernel
theorem dX8_isPermitted_103 : decode cX8_isPermitted 103 = .ok (.getfield 162, 3) := by decide +kernel
theorem dX8_isPermitted_106 : decode cX8_isPermitted 106 = .ok (.iload_n 1, 1) := by decide +kernel
theorem dX8_isPermitted_107 : decode cX8_isPermitted 107 = .ok (.bipush 6, 2) := by decide +kernel
theorem dX8_isPermitted_109 : decode cX8_isPermitted 109 = .ok (.if_icmp .ne 8, 3) := by decide +kernel
theorem dX8_isPermitted_112 : decode cX8_isPermitted 112 = .ok (.bipush 50, 2) := by decide +kernel
theorem dX8_isPermitted_114 : decode cX8_isPermitted 114 = .ok (.goto 6, 3) := by decide +kernel
theorem dX8_isPermitted_117 : decode cX8_isPermitted 117 = .ok (.sipush 3550, 3) := by decide +kernel
theorem dX8_isPermitted_120 : decode cX8_isPermitted 120 = .ok (.iadd, 1) := by decide +kernel
theorem dX8_isPermitted_121 : decode cX8_isPermitted 121 = .ok (.sipush 3600, 3) := by decide +kernel
theorem dX8_isPermitted_124 : decode cX8_isPermitted 124 = .ok (.irem, 1) := by decide +kernel
theorem dX8_isPermitted_125 : decode cX8_isPermitted 125 = .ok (.istore_n 2, 1) := by decide +kernel
theorem dX8_isPermitted_126 : decode cX8_isPermitted 126 = .ok (.aload_n 0, 1) := by decide +kernel
theorem dX8_isPermitted_127 : decode cX8_isPermitted 127 = .ok (.aload_n 0, 1) := by decide +kernel
theorem dX8_isPermitted_128 : decode cX8_isPermitted 128 = .ok (.getfield 10, 3) := by decide +kernel
theorem dX8_isPermitted_131 : decode cX8_isPermitted 131 = .ok (.getfield 117, 3) := by decide +kernel
theorem dX8_isPermitted_134 : decode cX8_isPermitted 134 = .ok (.iload_n 2, 1) := by decide +kernel
theorem dX8_isPermitted_135 : decode cX8_isPermitted 135 = .ok (.invokevirtual 165, 3) := by decide +kernel
theorem dX8_isPermitted_138 : decode cX8_isPermitted 138 = .ok (.istore_n 3, 1) := by decide +kernel
theorem dX8_isPermitted_139 : decode cX8_isPermitted 139 = .ok (.iload_n 3, 1) := by decide +kernel
theorem dX8_isPermitted_140 : decode cX8_isPermitted 140 = .ok (.sipush 1000, 3) := by decide +kernel
theorem dX8_isPermitted_143 : decode cX8_isPermitted 143 = .ok (.if_icmp .lt 28, 3) := by decide +kernel
theorem dX8_isPermitted_146 : decode cX8_isPermitted 146 = .ok (.iload_n 3, 1) := by decide +kernel
theorem dX8_isPermitted_147 : decode cX8_isPermitted 147 = .ok (.aload_n 0, 1) := by decide +kernel
theorem dX8_isPermitted_148 : decode cX8_isPermitted 148 = .ok (.aload_n 0, 1) := by decide +kernel
theorem dX8_isPermitted_149 : decode cX8_isPermitted 149 = .ok (.getfield 10, 3) := by decide +kernel
theorem dX8_isPermitted_152 : decode cX8_isPermitted 152 = .ok (.getfield 117, 3) := by decide +kernel
theorem dX8_isPermitted_155 : decode cX8_isPermitted 155 = .ok (.aload_n 0, 1) := by decide +kernel
theorem dX8_isPermitted_156 : decode cX8_isPermitted 156 = .ok (.getfield 10, 3) := by decide +kernel
theorem dX8_isPermitted_159 : decode cX8_isPermitted 159 = .ok (.getfield 117, 3) := by decide +kernel
theorem dX8_isPermitted_162 : decode cX8_isPermitted 162 = .ok (.getfield 162, 3) := by decide +kernel
theorem dX8_isPermitted_165 : decode cX8_isPermitted 165 = .ok (.invokevirtual 165, 3) := by decide +kernel
theorem dX8_isPermitted_168 : decode cX8_isPermitted 168 = .ok (.if_icmp .gt 7, 3) := by decide +kernel
theorem dX8_isPermitted_171 : decode cX8_isPermitted 171 = .ok (.iconst 1, 1) := by decide +kernel
theorem dX8_isPermitted_172 : decode cX8_isPermitted 172 = .ok (.goto 4, 3) := by decide +kernel
theorem dX8_isPermitted_175 : decode cX8_isPermitted 175 = .ok (.iconst 0, 1) := by decide +kernel
theorem dX8_isPermitted_176 : decode cX8_isPermitted 176 = .ok (.ireturn, 1) := by decide +kernel
theorem dX8_addsMoment_0 : decode cX8_addsMoment 0 = .ok (.iload_n 0, 1) := by decide +kernel
theorem dX8_addsMoment_1 : decode cX8_addsMoment 1 = .ok (.ifCond .eq 13, 3) := by decide +kernel
theorem dX8_addsMoment_4 : decode cX8_addsMoment 4 = .ok (.iload_n 0, 1) := by decide +kernel
theorem dX8_addsMoment_5 : decode cX8_addsMoment 5 = .ok (.iconst 3, 1) := by decide +kernel
theorem dX8_addsMoment_6 : decode cX8_addsMoment 6 = .ok (.if_icmp .eq 8, 3) := by decide +kernel
theorem dX8_addsMoment_9 : decode cX8_addsMoment 9 = .ok (.iload_n 0, 1) := by decide +kernel
theorem dX8_addsMoment_10 : decode cX8_addsMoment 10 = .ok (.iconst 4, 1) := by decide +kernel
theorem dX8_addsMoment_11 : decode cX8_addsMoment 11 = .ok (.if_icmp .ne 7, 3) := by decide +kernel
theorem dX8_addsMoment_14 : decode cX8_addsMoment 14 = .ok (.iconst 1, 1) := by decide +kernel
theorem dX8_addsMoment_15 : decode cX8_addsMoment 15 = .ok (.goto 4, 3) := by decide +kernel
theorem dX8_addsMoment_18 : decode cX8_addsMoment 18 = .ok (.iconst 0, 1) := by decide +kernel
theorem dX8_addsMoment_19 : decode cX8_addsMoment 19 = .ok (.ireturn, 1) := by decide +kernel
set_option maxRecDepth 20000 in
theorem ggX8_tryMotion_X0_copyFrom : GoodIn wsX8_tryMotion wsX0_copyFrom := goodIn_r _ [8, 9, 10, 11, 12, 13, 14, 15, 71, 72, 73, 74, 75, 76, 77] (by decide +kernel) (by decide +kernel)
set_option maxRecDepth 20000 in
theorem gX8_tryMotion_X0_copyFrom : GoodIn wsX8_tryMotion (wsV RX8 340 RX0 yX0_copyFrom wsX0_copyFrom) := goodIn_app (goodIn_of _ (by decide +kernel)) ggX8_tryMotion_X0_copyFrom
set_option maxRecDepth 20000 in
theorem ggX8_tryMotion_X8_isSlow : GoodIn wsX8_tryMotion wsX8_isSlow := goodIn_r _ [20, 2, 21, 53, 54, 55, 56, 57, 58, 59, 60, 61, 62, 63, 64, 65, 66, 67, 68, 69, 70] (by decide +kernel) (by decide +kernel)
set_option maxRecDepth 20000 in
theorem gX8_tryMotion_X8_isSlow : GoodIn wsX8_tryMotion (wsV RX8 312 RX8 yX8_isSlow wsX8_isSlow) := goodIn_app (goodIn_of _ (by decide +kernel)) ggX8_tryMotion_X8_isSlow
set_option maxRecDepth 20000 in
theorem ggX8_tryMotion_X0_move : GoodIn wsX8_tryMotion wsX0_move := goodIn_r _ [25, 10, 26, 27, 28, 29, 30, 31, 32, 9, 11, 12, 33, 34, 35, 7, 36, 13, 37, 38, 39, 40, 14, 41, 42, 43, 44, 45, 46, 47, 48, 49, 50, 51, 52, 71, 72, 73, 74, 75, 76, 77] (by decide +kernel) (by decide +kernel)
set_option maxRecDepth 20000 in
theorem gX8_tryMotion_X0_move : GoodIn wsX8_tryMotion (wsV RX8 316 RX0 yX0_move wsX0_move) := goodIn_app (goodIn_of _ (by decide +kernel)) ggX8_tryMotion_X0_move
theorem dX8_tryMotion_0 : decode cX8_tryMotion 0 = .ok (.aload_n 0, 1) := by decide +kernel
theorem dX8_tryMotion_1 : decode cX8_tryMotion 1 = .ok (.getfield 41, 3) := by decide +kernel
theorem dX8_tryMotion_4 : decode cX8_tryMotion 4 = .ok (.aload_n 0, 1) := by decide +kernel
theorem dX8_tryMotion_5 : decode cX8_tryMotion 5 = .ok (.getfield 10, 3) := by decide +kernel
theorem dX8_tryMotion_8 : decode cX8_tryMotion 8 = .ok (.getfield 117, 3) := by decide +kernel
theorem dX8_tryMotion_11 : decode cX8_tryMotion 11 = .ok (.invokevirtual 340, 3) := by decide +kernel
theorem dX8_tryMotion_14 : decode cX8_tryMotion 14 = .ok (.aload_n 0, 1) := by decide +kernel
theorem dX8_tryMotion_15 : decode cX8_tryMotion 15 = .ok (.getfield 41, 3) := by decide +kernel
theorem dX8_tryMotion_18 : decode cX8_tryMotion 18 = .ok (.iload_n 1, 1) := by decide +kernel
theorem dX8_tryMotion_19 : decode cX8_tryMotion 19 = .ok (.aload_n 0, 1) := by decide +kernel
theorem dX8_tryMotion_20 : decode cX8_tryMotion 20 = .ok (.invokevirtual 312, 3) := by decide +kernel
theorem dX8_tryMotion_23 : decode cX8_tryMotion 23 = .ok (.invokevirtual 316, 3) := by decide +kernel
theorem dX8_tryMotion_26 : decode cX8_tryMotion 26 = .ok (.return_, 1) := by decide +kernel
theorem dX8_isSlow_0 : decode cX8_isSlow 0 = .ok (.aload_n 0, 1) := by decide +kernel
theorem dX8_isSlow_1 : decode cX8_isSlow 1 = .ok (.getfield 10, 3) := by decide +kernel
theorem dX8_isSlow_4 : decode cX8_isSlow 4 = .ok (.getfield 301, 3) := by decide +kernel
theorem dX8_isSlow_7 : decode cX8_isSlow 7 = .ok (.ifCond .eq 7, 3) := by decide +kernel
theorem dX8_isSlow_10 : decode cX8_isSlow 10 = .ok (.iconst 1, 1) := by decide +kernel
theorem dX8_isSlow_11 : decode cX8_isSlow 11 = .ok (.goto 4, 3) := by decide +kernel
theorem dX8_isSlow_14 : decode cX8_isSlow 14 = .ok (.iconst 0, 1) := by decide +kernel
theorem dX8_isSlow_15 : decode cX8_isSlow 15 = .ok (.ireturn, 1) := by decide +kernel
theorem dX8_nextState_0 : decode cX8_nextState 0 = .ok (.aload_n 0, 1) := by decide +kernel
theorem dX8_nextState_1 : decode cX8_nextState 1 = .ok (.getfield 10, 3) := by decide +kernel
theorem dX8_nextState_4 : decode cX8_nextState 4 = .ok (.getfield 301, 3) := by decide +kernel
theorem dX8_nextState_7 : decode cX8_nextState 7 = .ok (.iconst 2, 1) := by decide +kernel
theorem dX8_nextState_8 : decode cX8_nextState 8 = .ok (.if_icmp .ne 7, 3) := by decide +kernel
theorem dX8_nextState_11 : decode cX8_nextState 11 = .ok (.iconst 1, 1) := by decide +kernel
theorem dX8_nextState_12 : decode cX8_nextState 12 = .ok (.goto 4, 3) := by decide +kernel
theorem dX8_nextState_15 : decode cX8_nextState 15 = .ok (.iconst 0, 1) := by decide +kernel
theorem dX8_nextState_16 : decode cX8_nextState 16 = .ok (.istore_n 2, 1) := by decide +kernel
theorem dX8_nextState_17 : decode cX8_nextState 17 = .ok (.aload_n 0, 1) := by decide +kernel
theorem dX8_nextState_18 : decode cX8_nextState 18 = .ok (.getfield 10, 3) := by decide +kernel
theorem dX8_nextState_21 : decode cX8_nextState 21 = .ok (.getfield 301, 3) := by decide +kernel
theorem dX8_nextState_24 : decode cX8_nextState 24 = .ok (.iconst 1, 1) := by decide +kernel
theorem dX8_nextState_25 : decode cX8_nextState 25 = .ok (.if_icmp .ne 7, 3) := by decide +kernel
theorem dX8_nextState_28 : decode cX8_nextState 28 = .ok (.iconst 1, 1) := by decide +kernel
theorem dX8_nextState_29 : decode cX8_nextState 29 = .ok (.goto 4, 3) := by decide +kernel
theorem dX8_nextState_32 : decode cX8_nextState 32 = .ok (.iconst 0, 1) := by decide +kernel
theorem dX8_nextState_33 : decode cX8_nextState 33 = .ok (.istore_n 3, 1) := by decide +kernel
theorem dX8_nextState_34 : decode cX8_nextState 34 = .ok (.aload_n 0, 1) := by decide +kernel
theorem dX8_nextState_35 : decode cX8_nextState 35 = .ok (.getfield 10, 3) := by decide +kernel
theorem dX8_nextState_38 : decode cX8_nextState 38 = .ok (.getfield 146, 3) := by decide +kernel
theorem dX8_nextState_41 : decode cX8_nextState 41 = .ok (.ifCond .le 5, 3) := by decide +kernel
theorem dX8_nextState_44 : decode cX8_nextState 44 = .ok (.iconst 3, 1) := by decide +kernel
theorem dX8_nextState_45 : decode cX8_nextState 45 = .ok (.ireturn, 1) := by decide +kernel
theorem dX8_nextState_46 : decode cX8_nextState 46 = .ok (.iload_n 1, 1) := by decide +kernel
theorem dX8_nextState_47 : decode cX8_nextState 47 = .ok (.sipush 1000, 3) := by decide +kernel
theorem dX8_nextState_50 : decode cX8_nextState 50 = .ok (.if_icmp .ge 14, 3) := by decide +kernel
theorem dX8_nextState_53 : decode cX8_nextState 53 = .ok (.iload_n 2, 1) := by decide +kernel
theorem dX8_nextState_54 : decode cX8_nextState 54 = .ok (.ifCond .eq 12, 3) := by decide +kernel
theorem dX8_nextState_57 : decode cX8_nextState 57 = .ok (.iload_n 1, 1) := by decide +kernel
theorem dX8_nextState_58 : decode cX8_nextState 58 = .ok (.sipush 950, 3) := by decide +kernel
theorem dX8_nextState_61 : decode cX8_nextState 61 = .ok (.if_icmp .lt 5, 3) := by decide +kernel
theorem dX8_nextState_64 : decode cX8_nextState 64 = .ok (.iconst 2, 1) := by decide +kernel
theorem dX8_nextState_65 : decode cX8_nextState 65 = .ok (.ireturn, 1) := by decide +kernel
theorem dX8_nextState_66 : decode cX8_nextState 66 = .ok (.iload_n 1, 1) := by decide +kernel
theorem dX8_nextState_67 : decode cX8_nextState 67 = .ok (.sipush 900, 3) := by decide +kernel
theorem dX8_nextState_70 : decode cX8_nextState 70 = .ok (.if_icmp .ge 18, 3) := by decide +kernel
theorem dX8_nextState_73 : decode cX8_nextState 73 = .ok (.iload_n 3, 1) := by decide +kernel
theorem dX8_nextState_74 : decode cX8_nextState 74 = .ok (.ifCond .ne 7, 3) := by decide +kernel
theorem dX8_nextState_77 : decode cX8_nextState 77 = .ok (.iload_n 2, 1) := by decide +kernel
theorem dX8_nextState_78 : decode cX8_nextState 78 = .ok (.ifCond .eq 12, 3) := by decide +kernel
theorem dX8_nextState_81 : decode cX8_nextState 81 = .ok (.iload_n 1, 1) := by decide +kernel
theorem dX8_nextState_82 : decode cX8_nextState 82 = .ok (.sipush 850, 3) := by decide +kernel
theorem dX8_nextState_85 : decode cX8_nextState 85 = .ok (.if_icmp .lt 5, 3) := by decide +kernel
theorem dX8_nextState_88 : decode cX8_nextState 88 = .ok (.iconst 1, 1) := by decide +kernel
theorem dX8_nextState_89 : decode cX8_nextState 89 = .ok (.ireturn, 1) := by decide +kernel
theorem dX8_nextState_90 : decode cX8_nextState 90 = .ok (.iconst 0, 1) := by decide +kernel
theorem dX8_nextState_91 : decode cX8_nextState 91 = .ok (.ireturn, 1) := by decide +kernel
set_option maxRecDepth 20000 in
theorem ggX8_enterState_X3_add : GoodIn wsX8_enterState wsX3_add := goodIn_r _ [9, 10, 11, 12, 13, 14, 15, 16, 17, 8, 18, 19, 20, 21, 22, 41, 42, 43, 44, 45] (by decide +kernel) (by decide +kernel)
set_option maxRecDepth 20000 in
theorem gX8_enterState_X3_add : GoodIn wsX8_enterState (wsV RX8 323 RX3 yX3_add wsX3_add) := goodIn_app (goodIn_of _ (by decide +kernel)) ggX8_enterState_X3_add
theorem dX8_enterState_0 : decode cX8_enterState 0 = .ok (.iload_n 1, 1) := by decide +kernel
theorem dX8_enterState_1 : decode cX8_enterState 1 = .ok (.aload_n 0, 1) := by decide +kernel
theorem dX8_enterState_2 : decode cX8_enterState 2 = .ok (.getfield 10, 3) := by decide +kernel
theorem dX8_enterState_5 : decode cX8_enterState 5 = .ok (.getfield 301, 3) := by decide +kernel
theorem dX8_enterState_8 : decode cX8_enterState 8 = .ok (.if_icmp .ne 4, 3) := by decide +kernel
theorem dX8_enterState_11 : decode cX8_enterState 11 = .ok (.return_, 1) := by decide +kernel
theorem dX8_enterState_12 : decode cX8_enterState 12 = .ok (.aload_n 0, 1) := by decide +kernel
theorem dX8_enterState_13 : decode cX8_enterState 13 = .ok (.getfield 10, 3) := by decide +kernel
theorem dX8_enterState_16 : decode cX8_enterState 16 = .ok (.iload_n 1, 1) := by decide +kernel
theorem dX8_enterState_17 : decode cX8_enterState 17 = .ok (.putfield 301, 3) := by decide +kernel
theorem dX8_enterState_20 : decode cX8_enterState 20 = .ok (.aload_n 0, 1) := by decide +kernel
theorem dX8_enterState_21 : decode cX8_enterState 21 = .ok (.getfield 10, 3) := by decide +kernel
theorem dX8_enterState_24 : decode cX8_enterState 24 = .ok (.getfield 199, 3) := by decide +kernel
theorem dX8_enterState_27 : decode cX8_enterState 27 = .ok (.aload_n 0, 1) := by decide +kernel
theorem dX8_enterState_28 : decode cX8_enterState 28 = .ok (.getfield 10, 3) := by decide +kernel
theorem dX8_enterState_31 : decode cX8_enterState 31 = .ok (.getfield 294, 3) := by decide +kernel
theorem dX8_enterState_34 : decode cX8_enterState 34 = .ok (.iconst 1, 1) := by decide +kernel
theorem dX8_enterState_35 : decode cX8_enterState 35 = .ok (.iload_n 1, 1) := by decide +kernel
theorem dX8_enterState_36 : decode cX8_enterState 36 = .ok (.invokevirtual 323, 3) := by decide +kernel
theorem dX8_enterState_39 : decode cX8_enterState 39 = .ok (.iload_n 1, 1) := by decide +kernel
theorem dX8_enterState_40 : decode cX8_enterState 40 = .ok (.iconst 2, 1) := by decide +kernel
theorem dX8_enterState_41 : decode cX8_enterState 41 = .ok (.if_icmp .ne 22, 3) := by decide +kernel
theorem dX8_enterState_44 : decode cX8_enterState 44 = .ok (.aload_n 0, 1) := by decide +kernel
theorem dX8_enterState_45 : decode cX8_enterState 45 = .ok (.getfield 10, 3) := by decide +kernel
theorem dX8_enterState_48 : decode cX8_enterState 48 = .ok (.getfield 199, 3) := by decide +kernel
theorem dX8_enterState_51 : decode cX8_enterState 51 = .ok (.aload_n 0, 1) := by decide +kernel
theorem dX8_enterState_52 : decode cX8_enterState 52 = .ok (.getfield 10, 3) := by decide +kernel
theorem dX8_enterState_55 : decode cX8_enterState 55 = .ok (.getfield 294, 3) := by decide +kernel
theorem dX8_enterState_58 : decode cX8_enterState 58 = .ok (.iconst 2, 1) := by decide +kernel
theorem dX8_enterState_59 : decode cX8_enterState 59 = .ok (.iload_n 2, 1) := by decide +kernel
theorem dX8_enterState_60 : decode cX8_enterState 60 = .ok (.invokevirtual 323, 3) := by decide +kernel
theorem dX8_enterState_63 : decode cX8_enterState 63 = .ok (.return_, 1) := by decide +kernel
set_option maxRecDepth 20000 in
theorem ggX8_save_X5_init : GoodIn wsX8_save wsX5_init := goodIn_r _ [13, 14, 15, 16, 17, 18, 19, 20, 21, 22, 23, 24, 25, 26, 27, 28, 29, 30, 31, 32, 33, 34, 35, 36, 37, 38, 39, 40, 41, 42, 43, 44, 45, 46, 47, 48, 49, 50, 51, 52, 53, 54, 55, 56, 57, 58, 59, 60, 61, 62, 63, 64, 65, 127, 128, 129, 130, 131, 132, 133, 118, 119, 120, 121, 122, 123, 124, 125, 126, 134, 135, 136, 137, 138, 139, 140, 141, 142, 143, 144, 145, 146, 147] (by decide +kernel) (by decide +kernel)
set_option maxRecDepth 20000 in
theorem gX8_save_X5_init_n9 : GoodIn wsX8_save (wsX5_init) := ggX8_save_X5_init
set_option maxRecDepth 20000 in
theorem ggX8_save_X5_copyFrom : GoodIn wsX8_save wsX5_copyFrom := goodIn_r _ [69, 20, 24, 28, 32, 36, 70, 71, 72, 73, 74, 75, 76, 19, 77, 40, 41, 78, 79, 80, 81, 42, 82, 83, 84, 23, 85, 47, 86, 87, 88, 89, 48, 49, 90, 91, 92, 93, 27, 94, 53, 95, 96, 97, 98, 99, 31, 100, 57, 101, 58, 59, 102, 103, 104, 105, 106, 35, 107, 63, 108, 64, 65, 118, 119, 120, 121, 122, 123, 124, 125, 126, 127, 128, 129, 130, 131, 132, 133, 134, 135, 136, 137, 138, 139, 140, 141, 142, 143, 144, 145, 146, 147] (by decide +kernel) (by decide +kernel)
set_option maxRecDepth 20000 in
theorem gX8_save_X5_copyFrom : GoodIn wsX8_save (wsV RX8 248 RX5 yX5_copyFrom wsX5_copyFrom) := goodIn_app (goodIn_of _ (by decide +kernel)) ggX8_save_X5_copyFrom
theorem dX8_save_0 : decode cX8_save 0 = .ok (.aload_n 0, 1) := by decide +kernel
theorem dX8_save_1 : decode cX8_save 1 = .ok (.getfield 16, 3) := by decide +kernel
theorem dX8_save_4 : decode cX8_save 4 = .ok (.aload_n 0, 1) := by decide +kernel
theorem dX8_save_5 : decode cX8_save 5 = .ok (.getfield 240, 3) := by decide +kernel
theorem dX8_save_8 : decode cX8_save 8 = .ok (.aaload, 1) := by decide +kernel
theorem dX8_save_9 : decode cX8_save 9 = .ok (.astore_n 1, 1) := by decide +kernel
theorem dX8_save_10 : decode cX8_save 10 = .ok (.aload_n 1, 1) := by decide +kernel
theorem dX8_save_11 : decode cX8_save 11 = .ok (.ifnonnull 21, 3) := by decide +kernel
theorem dX8_save_14 : decode cX8_save 14 = .ok (.new 7, 3) := by decide +kernel
theorem dX8_save_17 : decode cX8_save 17 = .ok (.dup, 1) := by decide +kernel
theorem dX8_save_18 : decode cX8_save 18 = .ok (.invokespecial 9, 3) := by decide +kernel
theorem dX8_save_21 : decode cX8_save 21 = .ok (.astore_n 1, 1) := by decide +kernel
theorem dX8_save_22 : decode cX8_save 22 = .ok (.aload_n 0, 1) := by decide +kernel
theorem dX8_save_23 : decode cX8_save 23 = .ok (.getfield 16, 3) := by decide +kernel
theorem dX8_save_26 : decode cX8_save 26 = .ok (.aload_n 0, 1) := by decide +kernel
theorem dX8_save_27 : decode cX8_save 27 = .ok (.getfield 240, 3) := by decide +kernel
theorem dX8_save_30 : decode cX8_save 30 = .ok (.aload_n 1, 1) := by decide +kernel
theorem dX8_save_31 : decode cX8_save 31 = .ok (.aastore, 1) := by decide +kernel
theorem dX8_save_32 : decode cX8_save 32 = .ok (.aload_n 1, 1) := by decide +kernel
theorem dX8_save_33 : decode cX8_save 33 = .ok (.aload_n 0, 1) := by decide +kernel
theorem dX8_save_34 : decode cX8_save 34 = .ok (.getfield 10, 3) := by decide +kernel
theorem dX8_save_37 : decode cX8_save 37 = .ok (.invokevirtual 248, 3) := by decide +kernel
theorem dX8_save_40 : decode cX8_save 40 = .ok (.aload_n 0, 1) := by decide +kernel
theorem dX8_save_41 : decode cX8_save 41 = .ok (.aload_n 0, 1) := by decide +kernel
theorem dX8_save_42 : decode cX8_save 42 = .ok (.getfield 240, 3) := by decide +kernel
theorem dX8_save_45 : decode cX8_save 45 = .ok (.iconst 1, 1) := by decide +kernel
theorem dX8_save_46 : decode cX8_save 46 = .ok (.iadd, 1) := by decide +kernel
theorem dX8_save_47 : decode cX8_save 47 = .ok (.iconst 4, 1) := by decide +kernel
theorem dX8_save_48 : decode cX8_save 48 = .ok (.irem, 1) := by decide +kernel
theorem dX8_save_49 : decode cX8_save 49 = .ok (.putfield 240, 3) := by decide +kernel
theorem dX8_save_52 : decode cX8_save 52 = .ok (.aload_n 0, 1) := by decide +kernel
theorem dX8_save_53 : decode cX8_save 53 = .ok (.aload_n 0, 1) := by decide +kernel
theorem dX8_save_54 : decode cX8_save 54 = .ok (.getfield 237, 3) := by decide +kernel
theorem dX8_save_57 : decode cX8_save 57 = .ok (.iconst 1, 1) := by decide +kernel
theorem dX8_save_58 : decode cX8_save 58 = .ok (.iadd, 1) := by decide +kernel
theorem dX8_save_59 : decode cX8_save 59 = .ok (.iconst 4, 1) := by decide +kernel
theorem dX8_save_60 : decode cX8_save 60 = .ok (.invokestatic 342, 3) := by decide +kernel
theorem dX8_save_63 : decode cX8_save 63 = .ok (.putfield 237, 3) := by decide +kernel
theorem dX8_save_66 : decode cX8_save 66 = .ok (.return_, 1) := by decide +kernel
theorem dX9_init_0 : decode cX9_init 0 = .ok (.aload_n 0, 1) := by decide +kernel
theorem dX9_init_1 : decode cX9_init 1 = .ok (.invokespecial 1, 3) := by decide +kernel
theorem dX9_init_4 : decode cX9_init 4 = .ok (.aload_n 0, 1) := by decide +kernel
theorem dX9_init_5 : decode cX9_init 5 = .ok (.sipush 246, 3) := by decide +kernel
theorem dX9_init_8 : decode cX9_init 8 = .ok (.newarray .int, 2) := by decide +kernel
theorem dX9_init_10 : decode cX9_init 10 = .ok (.putfield 7, 3) := by decide +kernel
theorem dX9_init_13 : decode cX9_init 13 = .ok (.aload_n 0, 1) := by decide +kernel
theorem dX9_init_14 : decode cX9_init 14 = .ok (.sipush 984, 3) := by decide +kernel
theorem dX9_init_17 : decode cX9_init 17 = .ok (.newarray .int, 2) := by decide +kernel
theorem dX9_init_19 : decode cX9_init 19 = .ok (.putfield 13, 3) := by decide +kernel
theorem dX9_init_22 : decode cX9_init 22 = .ok (.aload_n 0, 1) := by decide +kernel
theorem dX9_init_23 : decode cX9_init 23 = .ok (.bipush 80, 2) := by decide +kernel
theorem dX9_init_25 : decode cX9_init 25 = .ok (.newarray .int, 2) := by decide +kernel
theorem dX9_init_27 : decode cX9_init 27 = .ok (.putfield 16, 3) := by decide +kernel
theorem dX9_init_30 : decode cX9_init 30 = .ok (.aload_n 0, 1) := by decide +kernel
theorem dX9_init_31 : decode cX9_init 31 = .ok (.iconst 5, 1) := by decide +kernel
theorem dX9_init_32 : decode cX9_init 32 = .ok (.newarray .int, 2) := by decide +kernel
theorem dX9_init_34 : decode cX9_init 34 = .ok (.putfield 19, 3) := by decide +kernel
theorem dX9_init_37 : decode cX9_init 37 = .ok (.aload_n 0, 1) := by decide +kernel
theorem dX9_init_38 : decode cX9_init 38 = .ok (.bipush 40, 2) := by decide +kernel
theorem dX9_init_40 : decode cX9_init 40 = .ok (.newarray .int, 2) := by decide +kernel
theorem dX9_init_42 : decode cX9_init 42 = .ok (.putfield 22, 3) := by decide +kernel
theorem dX9_init_45 : decode cX9_init 45 = .ok (.aload_n 0, 1) := by decide +kernel
theorem dX9_init_46 : decode cX9_init 46 = .ok (.bipush 40, 2) := by decide +kernel
theorem dX9_init_48 : decode cX9_init 48 = .ok (.newarray .int, 2) := by decide +kernel
theorem dX9_init_50 : decode cX9_init 50 = .ok (.putfield 25, 3) := by decide +kernel
theorem dX9_init_53 : decode cX9_init 53 = .ok (.aload_n 0, 1) := by decide +kernel
theorem dX9_init_54 : decode cX9_init 54 = .ok (.getfield 7, 3) := by decide +kernel
theorem dX9_init_57 : decode cX9_init 57 = .ok (.iconst 0, 1) := by decide +kernel
theorem dX9_init_58 : decode cX9_init 58 = .ok (.sipush 1500, 3) := by decide +kernel
theorem dX9_init_61 : decode cX9_init 61 = .ok (.iastore, 1) := by decide +kernel
theorem dX9_init_62 : decode cX9_init 62 = .ok (.aload_n 0, 1) := by decide +kernel
theorem dX9_init_63 : decode cX9_init 63 = .ok (.getfield 7, 3) := by decide +kernel
theorem dX9_init_66 : decode cX9_init 66 = .ok (.iconst 1, 1) := by decide +kernel
theorem dX9_init_67 : decode cX9_init 67 = .ok (.sipush 600, 3) := by decide +kernel
theorem dX9_init_70 : decode cX9_init 70 = .ok (.iastore, 1) := by decide +kernel
theorem dX9_init_71 : decode cX9_init 71 = .ok (.aload_n 0, 1) := by decide +kernel
theorem dX9_init_72 : decode cX9_init 72 = .ok (.getfield 7, 3) := by decide +kernel
theorem dX9_init_75 : decode cX9_init 75 = .ok (.iconst 5, 1) := by decide +kernel
theorem dX9_init_76 : decode cX9_init 76 = .ok (.sipush 200, 3) := by decide +kernel
theorem dX9_init_79 : decode cX9_init 79 = .ok (.iastore, 1) := by decide +kernel
theorem dX9_init_80 : decode cX9_init 80 = .ok (.iconst 0, 1) := by decide +kernel
theorem dX9_init_81 : decode cX9_init 81 = .ok (.istore_n 1, 1) := by decide +kernel
theorem dX9_init_82 : decode cX9_init 82 = .ok (.iload_n 1, 1) := by decide +kernel
theorem dX9_init_83 : decode cX9_init 83 = .ok (.iconst 4, 1) := by decide +kernel
theorem dX9_init_84 : decode cX9_init 84 = .ok (.if_icmp .ge 19, 3) := by decide +kernel
theorem dX9_init_87 : decode cX9_init 87 = .ok (.aload_n 0, 1) := by decide +kernel
theorem dX9_init_88 : decode cX9_init 88 = .ok (.getfield 7, 3) := by decide +kernel
theorem dX9_init_91 : decode cX9_init 91 = .ok (.bipush 43, 2) := by decide +kernel
theorem dX9_init_93 : decode cX9_init 93 = .ok (.iload_n 1, 1) := by decide +kernel
theorem dX9_init_94 : decode cX9_init 94 = .ok (.iadd, 1) := by decide +kernel
theorem dX9_init_95 : decode cX9_init 95 = .ok (.iconst 2, 1) := by decide +kernel
theorem dX9_init_96 : decode cX9_init 96 = .ok (.iastore, 1) := by decide +kernel
theorem dX9_init_97 : decode cX9_init 97 = .ok (.iinc 1 1, 3) := by decide +kernel
theorem dX9_init_100 : decode cX9_init 100 = .ok (.goto (-18), 3) := by decide +kernel
theorem dX9_init_103 : decode cX9_init 103 = .ok (.return_, 1) := by decide +kernel
theorem dX9_thrown_0 : decode cX9_thrown 0 = .ok (.aload_n 0, 1) := by decide +kernel
theorem dX9_thrown_1 : decode cX9_thrown 1 = .ok (.getfield 28, 3) := by decide +kernel
theorem dX9_thrown_4 : decode cX9_thrown 4 = .ok (.ireturn, 1) := by decide +kernel
theorem dX9_fails_0 : decode cX9_fails 0 = .ok (.aload_n 0, 1) := by decide +kernel
theorem dX9_fails_1 : decode cX9_fails 1 = .ok (.iload_n 1, 1) := by decide +kernel
theorem dX9_fails_2 : decode cX9_fails 2 = .ok (.putfield 28, 3) := by decide +kernel
theorem dX9_fails_5 : decode cX9_fails 5 = .ok (.iconst 0, 1) := by decide +kernel
theorem dX9_fails_6 : decode cX9_fails 6 = .ok (.ireturn, 1) := by decide +kernel
theorem dX9_in_0 : decode cX9_in 0 = .ok (.iload_n 0, 1) := by decide +kernel
theorem dX9_in_1 : decode cX9_in 1 = .ok (.iload_n 1, 1) := by decide +kernel
theorem dX9_in_2 : decode cX9_in 2 = .ok (.if_icmp .lt 12, 3) := by decide +kernel
theorem dX9_in_5 : decode cX9_in 5 = .ok (.iload_n 0, 1) := by decide +kernel
theorem dX9_in_6 : decode cX9_in 6 = .ok (.iload_n 2, 1) := by decide +kernel
theorem dX9_in_7 : decode cX9_in 7 = .ok (.if_icmp .gt 7, 3) := by decide +kernel
theorem dX9_in_10 : decode cX9_in 10 = .ok (.iconst 1, 1) := by decide +kernel
theorem dX9_in_11 : decode cX9_in 11 = .ok (.goto 4, 3) := by decide +kernel
theorem dX9_in_14 : decode cX9_in 14 = .ok (.iconst 0, 1) := by decide +kernel
theorem dX9_in_15 : decode cX9_in 15 = .ok (.ireturn, 1) := by decide +kernel
theorem dX9_greater_0 : decode cX9_greater 0 = .ok (.iload_n 0, 1) := by decide +kernel
theorem dX9_greater_1 : decode cX9_greater 1 = .ok (.iload_n 1, 1) := by decide +kernel
theorem dX9_greater_2 : decode cX9_greater 2 = .ok (.if_icmp .le 7, 3) := by decide +kernel
theorem dX9_greater_5 : decode cX9_greater 5 = .ok (.iload_n 0, 1) := by decide +kernel
theorem dX9_greater_6 : decode cX9_greater 6 = .ok (.goto 4, 3) := by decide +kernel
theorem dX9_greater_9 : decode cX9_greater 9 = .ok (.iload_n 1, 1) := by decide +kernel
theorem dX9_greater_10 : decode cX9_greater 10 = .ok (.ireturn, 1) := by decide +kernel
theorem dX9_lesser_0 : decode cX9_lesser 0 = .ok (.iload_n 0, 1) := by decide +kernel
theorem dX9_lesser_1 : decode cX9_lesser 1 = .ok (.iload_n 1, 1) := by decide +kernel
theorem dX9_lesser_2 : decode cX9_lesser 2 = .ok (.if_icmp .ge 7, 3) := by decide +kernel
theorem dX9_lesser_5 : decode cX9_lesser 5 = .ok (.iload_n 0, 1) := by decide +kernel
theorem dX9_lesser_6 : decode cX9_lesser 6 = .ok (.goto 4, 3) := by decide +kernel
theorem dX9_lesser_9 : decode cX9_lesser 9 = .ok (.iload_n 1, 1) := by decide +kernel
theorem dX9_lesser_10 : decode cX9_lesser 10 = .ok (.ireturn, 1) := by decide +kernel
theorem dX9_keep_0 : decode cX9_keep 0 = .ok (.aload_n 0, 1) := by decide +kernel
theorem dX9_keep_1 : decode cX9_keep 1 = .ok (.getfield 32, 3) := by decide +kernel
theorem dX9_keep_4 : decode cX9_keep 4 = .ok (.iconst 4, 1) := by decide +kernel
theorem dX9_keep_5 : decode cX9_keep 5 = .ok (.if_icmp .ne 44, 3) := by decide +kernel
theorem dX9_keep_8 : decode cX9_keep 8 = .ok (.iconst 0, 1) := by decide +kernel
theorem dX9_keep_9 : decode cX9_keep 9 = .ok (.istore_n 1, 1) := by decide +kernel
theorem dX9_keep_10 : decode cX9_keep 10 = .ok (.iload_n 1, 1) := by decide +kernel
theorem dX9_keep_11 : decode cX9_keep 11 = .ok (.sipush 738, 3) := by decide +kernel
theorem dX9_keep_14 : decode cX9_keep 14 = .ok (.if_icmp .ge 25, 3) := by decide +kernel
theorem dX9_keep_17 : decode cX9_keep 17 = .ok (.aload_n 0, 1) := by decide +kernel
theorem dX9_keep_18 : decode cX9_keep 18 = .ok (.getfield 13, 3) := by decide +kernel
theorem dX9_keep_21 : decode cX9_keep 21 = .ok (.iload_n 1, 1) := by decide +kernel
theorem dX9_keep_22 : decode cX9_keep 22 = .ok (.aload_n 0, 1) := by decide +kernel
theorem dX9_keep_23 : decode cX9_keep 23 = .ok (.getfield 13, 3) := by decide +kernel
theorem dX9_keep_26 : decode cX9_keep 26 = .ok (.iload_n 1, 1) := by decide +kernel
theorem dX9_keep_27 : decode cX9_keep 27 = .ok (.sipush 246, 3) := by decide +kernel
theorem dX9_keep_30 : decode cX9_keep 30 = .ok (.iadd, 1) := by decide +kernel
theorem dX9_keep_31 : decode cX9_keep 31 = .ok (.iaload, 1) := by decide +kernel
theorem dX9_keep_32 : decode cX9_keep 32 = .ok (.iastore, 1) := by decide +kernel
theorem dX9_keep_33 : decode cX9_keep 33 = .ok (.iinc 1 1, 3) := by decide +kernel
theorem dX9_keep_36 : decode cX9_keep 36 = .ok (.goto (-26), 3) := by decide +kernel
theorem dX9_keep_39 : decode cX9_keep 39 = .ok (.aload_n 0, 1) := by decide +kernel
theorem dX9_keep_40 : decode cX9_keep 40 = .ok (.dup, 1) := by decide +kernel
theorem dX9_keep_41 : decode cX9_keep 41 = .ok (.getfield 32, 3) := by decide +kernel
theorem dX9_keep_44 : decode cX9_keep 44 = .ok (.iconst 1, 1) := by decide +kernel
theorem dX9_keep_45 : decode cX9_keep 45 = .ok (.isub, 1) := by decide +kernel
theorem dX9_keep_46 : decode cX9_keep 46 = .ok (.putfield 32, 3) := by decide +kernel
theorem dX9_keep_49 : decode cX9_keep 49 = .ok (.iconst 0, 1) := by decide +kernel
theorem dX9_keep_50 : decode cX9_keep 50 = .ok (.istore_n 1, 1) := by decide +kernel
theorem dX9_keep_51 : decode cX9_keep 51 = .ok (.iload_n 1, 1) := by decide +kernel
theorem dX9_keep_52 : decode cX9_keep 52 = .ok (.sipush 246, 3) := by decide +kernel
theorem dX9_keep_55 : decode cX9_keep 55 = .ok (.if_icmp .ge 30, 3) := by decide +kernel
theorem dX9_keep_58 : decode cX9_keep 58 = .ok (.aload_n 0, 1) := by decide +kernel
theorem dX9_keep_59 : decode cX9_keep 59 = .ok (.getfield 13, 3) := by decide +kernel
theorem dX9_keep_62 : decode cX9_keep 62 = .ok (.sipush 246, 3) := by decide +kernel
theorem dX9_keep_65 : decode cX9_keep 65 = .ok (.aload_n 0, 1) := by decide +kernel
theorem dX9_keep_66 : decode cX9_keep 66 = .ok (.getfield 32, 3) := by decide +kernel
theorem dX9_keep_69 : decode cX9_keep 69 = .ok (.imul, 1) := by decide +kernel
theorem dX9_keep_70 : decode cX9_keep 70 = .ok (.iload_n 1, 1) := by decide +kernel
theorem dX9_keep_71 : decode cX9_keep 71 = .ok (.iadd, 1) := by decide +kernel
theorem dX9_keep_72 : decode cX9_keep 72 = .ok (.aload_n 0, 1) := by decide +kernel
theorem dX9_keep_73 : decode cX9_keep 73 = .ok (.getfield 7, 3) := by decide +kernel
theorem dX9_keep_76 : decode cX9_keep 76 = .ok (.iload_n 1, 1) := by decide +kernel
theorem dX9_keep_77 : decode cX9_keep 77 = .ok (.iaload, 1) := by decide +kernel
theorem dX9_keep_78 : decode cX9_keep 78 = .ok (.iastore, 1) := by decide +kernel
theorem dX9_keep_79 : decode cX9_keep 79 = .ok (.iinc 1 1, 3) := by decide +kernel
theorem dX9_keep_82 : decode cX9_keep 82 = .ok (.goto (-31), 3) := by decide +kernel
theorem dX9_keep_85 : decode cX9_keep 85 = .ok (.aload_n 0, 1) := by decide +kernel
theorem dX9_keep_86 : decode cX9_keep 86 = .ok (.dup, 1) := by decide +kernel
theorem dX9_keep_87 : decode cX9_keep 87 = .ok (.getfield 32, 3) := by decide +kernel
theorem dX9_keep_90 : decode cX9_keep 90 = .ok (.iconst 1, 1) := by decide +kernel
theorem dX9_keep_91 : decode cX9_keep 91 = .ok (.iadd, 1) := by decide +kernel
theorem dX9_keep_92 : decode cX9_keep 92 = .ok (.putfield 32, 3) := by decide +kernel
theorem dX9_keep_95 : decode cX9_keep 95 = .ok (.return_, 1) := by decide +kernel
set_option maxRecDepth 20000 in
theorem ggX9_change_X9_keep : GoodIn wsX9_change wsX9_keep := goodIn_r _ [6, 7, 8, 1, 9, 10, 11, 12, 13, 14, 15, 16, 17, 18, 19, 20, 21] (by decide +kernel) (by decide +kernel)
set_option maxRecDepth 20000 in
theorem gX9_change_X9_keep : GoodIn wsX9_change (wsV RX9 35 RX9 yX9_keep wsX9_keep) := goodIn_app (goodIn_of _ (by decide +kernel)) ggX9_change_X9_keep
theorem dX9_change_0 : decode cX9_change 0 = .ok (.aload_n 0, 1) := by decide +kernel
theorem dX9_change_1 : decode cX9_change 1 = .ok (.invokevirtual 35, 3) := by decide +kernel
theorem dX9_change_4 : decode cX9_change 4 = .ok (.aload_n 0, 1) := by decide +kernel
theorem dX9_change_5 : decode cX9_change 5 = .ok (.getfield 7, 3) := by decide +kernel
theorem dX9_change_8 : decode cX9_change 8 = .ok (.iload_n 1, 1) := by decide +kernel
theorem dX9_change_9 : decode cX9_change 9 = .ok (.iaload, 1) := by decide +kernel
theorem dX9_change_10 : decode cX9_change 10 = .ok (.istore_n 3, 1) := by decide +kernel
theorem dX9_change_11 : decode cX9_change 11 = .ok (.aload_n 0, 1) := by decide +kernel
theorem dX9_change_12 : decode cX9_change 12 = .ok (.getfield 7, 3) := by decide +kernel
theorem dX9_change_15 : decode cX9_change 15 = .ok (.iload_n 1, 1) := by decide +kernel
theorem dX9_change_16 : decode cX9_change 16 = .ok (.iload_n 2, 1) := by decide +kernel
theorem dX9_change_17 : decode cX9_change 17 = .ok (.iastore, 1) := by decide +kernel
theorem dX9_change_18 : decode cX9_change 18 = .ok (.iload_n 3, 1) := by decide +kernel
theorem dX9_change_19 : decode cX9_change 19 = .ok (.ireturn, 1) := by decide +kernel
theorem dX9_cosineAt_0 : decode cX9_cosineAt 0 = .ok (.iload_n 0, 1) := by decide +kernel
theorem dX9_cosineAt_1 : decode cX9_cosineAt 1 = .ok (.tableswitch 87 0 8 #[51, 55, 59, 63, 67, 71, 75, 79, 83], 51) := by decide +kernel
theorem dX9_cosineAt_52 : decode cX9_cosineAt 52 = .ok (.sipush 10000, 3) := by decide +kernel
theorem dX9_cosineAt_55 : decode cX9_cosineAt 55 = .ok (.ireturn, 1) := by decide +kernel
theorem dX9_cosineAt_56 : decode cX9_cosineAt 56 = .ok (.sipush 9848, 3) := by decide +kernel
theorem dX9_cosineAt_59 : decode cX9_cosineAt 59 = .ok (.ireturn, 1) := by decide +kernel
theorem dX9_cosineAt_60 : decode cX9_cosineAt 60 = .ok (.sipush 9397, 3) := by decide +kernel
theorem dX9_cosineAt_63 : decode cX9_cosineAt 63 = .ok (.ireturn, 1) := by decide +kernel
theorem dX9_cosineAt_64 : decode cX9_cosineAt 64 = .ok (.sipush 8660, 3) := by decide +kernel
theorem dX9_cosineAt_67 : decode cX9_cosineAt 67 = .ok (.ireturn, 1) := by decide +kernel
theorem dX9_cosineAt_68 : decode cX9_cosineAt 68 = .ok (.sipush 7660, 3) := by decide +kernel
theorem dX9_cosineAt_71 : decode cX9_cosineAt 71 = .ok (.ireturn, 1) := by decide +kernel
theorem dX9_cosineAt_72 : decode cX9_cosineAt 72 = .ok (.sipush 6428, 3) := by decide +kernel
theorem dX9_cosineAt_75 : decode cX9_cosineAt 75 = .ok (.ireturn, 1) := by decide +kernel
theorem dX9_cosineAt_76 : decode cX9_cosineAt 76 = .ok (.sipush 5000, 3) := by decide +kernel
theorem dX9_cosineAt_79 : decode cX9_cosineAt 79 = .ok (.ireturn, 1) := by decide +kernel
theorem dX9_cosineAt_80 : decode cX9_cosineAt 80 = .ok (.sipush 3420, 3) := by decide +kernel
theorem dX9_cosineAt_83 : decode cX9_cosineAt 83 = .ok (.ireturn, 1) := by decide +kernel
theorem dX9_cosineAt_84 : decode cX9_cosineAt 84 = .ok (.sipush 1736, 3) := by decide +kernel
theorem dX9_cosineAt_87 : decode cX9_cosineAt 87 = .ok (.ireturn, 1) := by decide +kernel
theorem dX9_cosineAt_88 : decode cX9_cosineAt 88 = .ok (.iconst 0, 1) := by decide +kernel
theorem dX9_cosineAt_89 : decode cX9_cosineAt 89 = .ok (.ireturn, 1) := by decide +kernel
set_option maxRecDepth 20000 in
theorem ggX9_cosine_X9_cosineAt : GoodIn wsX9_cosine wsX9_cosineAt := goodIn_r _ [4] (by decide +kernel) (by decide +kernel)
set_option maxRecDepth 20000 in
theorem gX9_cosine_X9_cosineAt : GoodIn wsX9_cosine (va_wsS RX9 38 yX9_cosineAt wsX9_cosineAt) := goodIn_app (goodIn_of _ (by decide +kernel)) ggX9_cosine_X9_cosineAt
theorem dX9_cosine_0 : decode cX9_cosine 0 = .ok (.iload_n 0, 1) := by decide +kernel
theorem dX9_cosine_1 : decode cX9_cosine 1 = .ok (.bipush 100, 2) := by decide +kernel
theorem dX9_cosine_3 : decode cX9_cosine 3 = .ok (.idiv, 1) := by decide +kernel
theorem dX9_cosine_4 : decode cX9_cosine 4 = .ok (.istore_n 1, 1) := by decide +kernel
theorem dX9_cosine_5 : decode cX9_cosine 5 = .ok (.iload_n 1, 1) := by decide +kernel
theorem dX9_cosine_6 : decode cX9_cosine 6 = .ok (.invokestatic 38, 3) := by decide +kernel
theorem dX9_cosine_9 : decode cX9_cosine 9 = .ok (.iload_n 1, 1) := by decide +kernel
theorem dX9_cosine_10 : decode cX9_cosine 10 = .ok (.iconst 1, 1) := by decide +kernel
theorem dX9_cosine_11 : decode cX9_cosine 11 = .ok (.iadd, 1) := by decide +kernel
theorem dX9_cosine_12 : decode cX9_cosine 12 = .ok (.invokestatic 38, 3) := by decide +kernel
theorem dX9_cosine_15 : decode cX9_cosine 15 = .ok (.isub, 1) := by decide +kernel
theorem dX9_cosine_16 : decode cX9_cosine 16 = .ok (.istore_n 2, 1) := by decide +kernel
theorem dX9_cosine_17 : decode cX9_cosine 17 = .ok (.iload_n 1, 1) := by decide +kernel
theorem dX9_cosine_18 : decode cX9_cosine 18 = .ok (.invokestatic 38, 3) := by decide +kernel
theorem dX9_cosine_21 : decode cX9_cosine 21 = .ok (.iload_n 2, 1) := by decide +kernel
theorem dX9_cosine_22 : decode cX9_cosine 22 = .ok (.iload_n 0, 1) := by decide +kernel
theorem dX9_cosine_23 : decode cX9_cosine 23 = .ok (.bipush 100, 2) := by decide +kernel
theorem dX9_cosine_25 : decode cX9_cosine 25 = .ok (.irem, 1) := by decide +kernel
theorem dX9_cosine_26 : decode cX9_cosine 26 = .ok (.imul, 1) := by decide +kernel
theorem dX9_cosine_27 : decode cX9_cosine 27 = .ok (.bipush 100, 2) := by decide +kernel
theorem dX9_cosine_29 : decode cX9_cosine 29 = .ok (.idiv, 1) := by decide +kernel
theorem dX9_cosine_30 : decode cX9_cosine 30 = .ok (.isub, 1) := by decide +kernel
theorem dX9_cosine_31 : decode cX9_cosine 31 = .ok (.ireturn, 1) := by decide +kernel
set_option maxRecDepth 20000 in
theorem ggX9_radiusOf_X9_cosine : GoodIn wsX9_radiusOf wsX9_cosine := goodIn_r _ [4, 5, 6, 3, 7] (by decide +kernel) (by decide +kernel)
set_option maxRecDepth 20000 in
theorem gX9_radiusOf_X9_cosine : GoodIn wsX9_radiusOf (va_wsS RX9 42 yX9_cosine wsX9_cosine) := goodIn_app (goodIn_of _ (by decide +kernel)) ggX9_radiusOf_X9_cosine
set_option maxRecDepth 20000 in
theorem ggX9_radiusOf_X9_greater : GoodIn wsX9_radiusOf wsX9_greater := goodIn_r _ [10] (by decide +kernel) (by decide +kernel)
set_option maxRecDepth 20000 in
theorem gX9_radiusOf_X9_greater : GoodIn wsX9_radiusOf (va_wsS RX9 45 yX9_greater wsX9_greater) := goodIn_app (goodIn_of _ (by decide +kernel)) ggX9_radiusOf_X9_greater
theorem dX9_radiusOf_0 : decode cX9_radiusOf 0 = .ok (.bipush 100, 2) := by decide +kernel
theorem dX9_radiusOf_2 : decode cX9_radiusOf 2 = .ok (.iload_n 0, 1) := by decide +kernel
theorem dX9_radiusOf_3 : decode cX9_radiusOf 3 = .ok (.iload_n 1, 1) := by decide +kernel
theorem dX9_radiusOf_4 : decode cX9_radiusOf 4 = .ok (.invokestatic 42, 3) := by decide +kernel
theorem dX9_radiusOf_7 : decode cX9_radiusOf 7 = .ok (.imul, 1) := by decide +kernel
theorem dX9_radiusOf_8 : decode cX9_radiusOf 8 = .ok (.sipush 10000, 3) := by decide +kernel
theorem dX9_radiusOf_11 : decode cX9_radiusOf 11 = .ok (.idiv, 1) := by decide +kernel
theorem dX9_radiusOf_12 : decode cX9_radiusOf 12 = .ok (.sipush 150, 3) := by decide +kernel
theorem dX9_radiusOf_15 : decode cX9_radiusOf 15 = .ok (.isub, 1) := by decide +kernel
theorem dX9_radiusOf_16 : decode cX9_radiusOf 16 = .ok (.invokestatic 45, 3) := by decide +kernel
theorem dX9_radiusOf_19 : decode cX9_radiusOf 19 = .ok (.ireturn, 1) := by decide +kernel
set_option maxRecDepth 20000 in
theorem ggX9_heightOf_X9_cosine : GoodIn wsX9_heightOf wsX9_cosine := goodIn_r _ [4, 5, 6, 3, 7] (by decide +kernel) (by decide +kernel)
set_option maxRecDepth 20000 in
theorem gX9_heightOf_X9_cosine : GoodIn wsX9_heightOf (va_wsS RX9 42 yX9_cosine wsX9_cosine) := goodIn_app (goodIn_of _ (by decide +kernel)) ggX9_heightOf_X9_cosine
theorem dX9_heightOf_0 : decode cX9_heightOf 0 = .ok (.iload_n 0, 1) := by decide +kernel
theorem dX9_heightOf_1 : decode cX9_heightOf 1 = .ok (.sipush 900, 3) := by decide +kernel
theorem dX9_heightOf_4 : decode cX9_heightOf 4 = .ok (.iload_n 1, 1) := by decide +kernel
theorem dX9_heightOf_5 : decode cX9_heightOf 5 = .ok (.isub, 1) := by decide +kernel
theorem dX9_heightOf_6 : decode cX9_heightOf 6 = .ok (.invokestatic 42, 3) := by decide +kernel
theorem dX9_heightOf_9 : decode cX9_heightOf 9 = .ok (.imul, 1) := by decide +kernel
theorem dX9_heightOf_10 : decode cX9_heightOf 10 = .ok (.sipush 10000, 3) := by decide +kernel
theorem dX9_heightOf_13 : decode cX9_heightOf 13 = .ok (.idiv, 1) := by decide +kernel
theorem dX9_heightOf_14 : decode cX9_heightOf 14 = .ok (.sipush 250, 3) := by decide +kernel
theorem dX9_heightOf_17 : decode cX9_heightOf 17 = .ok (.iadd, 1) := by decide +kernel
theorem dX9_heightOf_18 : decode cX9_heightOf 18 = .ok (.ireturn, 1) := by decide +kernel
set_option maxRecDepth 20000 in
theorem ggX9_radius_X9_radiusOf : GoodIn wsX9_radius wsX9_radiusOf := goodIn_r _ [5, 6, 7, 4, 8, 9, 10, 11, 12, 13, 14] (by decide +kernel) (by decide +kernel)
set_option maxRecDepth 20000 in
theorem gX9_radius_X9_radiusOf : GoodIn wsX9_radius (va_wsS RX9 49 yX9_radiusOf wsX9_radiusOf) := goodIn_app (goodIn_of _ (by decide +kernel)) ggX9_radius_X9_radiusOf
theorem dX9_radius_0 : decode cX9_radius 0 = .ok (.aload_n 0, 1) := by decide +kernel
theorem dX9_radius_1 : decode cX9_radius 1 = .ok (.getfield 7, 3) := by decide +kernel
theorem dX9_radius_4 : decode cX9_radius 4 = .ok (.iconst 0, 1) := by decide +kernel
theorem dX9_radius_5 : decode cX9_radius 5 = .ok (.iaload, 1) := by decide +kernel
theorem dX9_radius_6 : decode cX9_radius 6 = .ok (.aload_n 0, 1) := by decide +kernel
theorem dX9_radius_7 : decode cX9_radius 7 = .ok (.getfield 7, 3) := by decide +kernel
theorem dX9_radius_10 : decode cX9_radius 10 = .ok (.iconst 1, 1) := by decide +kernel
theorem dX9_radius_11 : decode cX9_radius 11 = .ok (.iaload, 1) := by decide +kernel
theorem dX9_radius_12 : decode cX9_radius 12 = .ok (.invokestatic 49, 3) := by decide +kernel
theorem dX9_radius_15 : decode cX9_radius 15 = .ok (.ireturn, 1) := by decide +kernel
set_option maxRecDepth 20000 in
theorem ggX9_height_X9_heightOf : GoodIn wsX9_height wsX9_heightOf := goodIn_r _ [5, 6, 7, 4, 8, 9, 10, 11] (by decide +kernel) (by decide +kernel)
set_option maxRecDepth 20000 in
theorem gX9_height_X9_heightOf : GoodIn wsX9_height (va_wsS RX9 52 yX9_heightOf wsX9_heightOf) := goodIn_app (goodIn_of _ (by decide +kernel)) ggX9_height_X9_heightOf
theorem dX9_height_0 : decode cX9_height 0 = .ok (.aload_n 0, 1) := by decide +kernel
theorem dX9_height_1 : decode cX9_height 1 = .ok (.getfield 7, 3) := by decide +kernel
theorem dX9_height_4 : decode cX9_height 4 = .ok (.iconst 0, 1) := by decide +kernel
theorem dX9_height_5 : decode cX9_height 5 = .ok (.iaload, 1) := by decide +kernel
theorem dX9_height_6 : decode cX9_height 6 = .ok (.aload_n 0, 1) := by decide +kernel
theorem dX9_height_7 : decode cX9_height 7 = .ok (.getfield 7, 3) := by decide +kernel
theorem dX9_height_10 : decode cX9_height 10 = .ok (.iconst 1, 1) := by decide +kernel
theorem dX9_height_11 : decode cX9_height 11 = .ok (.iaload, 1) := by decide +kernel
theorem dX9_height_12 : decode cX9_height 12 = .ok (.invokestatic 52, 3) := by decide +kernel
theorem dX9_height_15 : decode cX9_height 15 = .ok (.ireturn, 1) := by decide +kernel
set_option maxRecDepth 20000 in
theorem ggX9_moment_X9_radius : GoodIn wsX9_moment wsX9_radius := goodIn_r _ [6, 1, 7, 8, 5, 9, 10, 11, 12, 13, 14, 15, 16, 17, 18, 19, 20, 21, 22, 23, 24, 25, 26, 27, 28, 29, 30, 31] (by decide +kernel) (by decide +kernel)
set_option maxRecDepth 20000 in
theorem gX9_moment_X9_radius : GoodIn wsX9_moment (wsV RX9 55 RX9 yX9_radius wsX9_radius) := goodIn_app (goodIn_of _ (by decide +kernel)) ggX9_moment_X9_radius
theorem dX9_moment_0 : decode cX9_moment 0 = .ok (.iconst 4, 1) := by decide +kernel
theorem dX9_moment_1 : decode cX9_moment 1 = .ok (.aload_n 0, 1) := by decide +kernel
theorem dX9_moment_2 : decode cX9_moment 2 = .ok (.getfield 7, 3) := by decide +kernel
theorem dX9_moment_5 : decode cX9_moment 5 = .ok (.iconst 0, 1) := by decide +kernel
theorem dX9_moment_6 : decode cX9_moment 6 = .ok (.iaload, 1) := by decide +kernel
theorem dX9_moment_7 : decode cX9_moment 7 = .ok (.imul, 1) := by decide +kernel
theorem dX9_moment_8 : decode cX9_moment 8 = .ok (.iconst 5, 1) := by decide +kernel
theorem dX9_moment_9 : decode cX9_moment 9 = .ok (.idiv, 1) := by decide +kernel
theorem dX9_moment_10 : decode cX9_moment 10 = .ok (.i2l, 1) := by decide +kernel
theorem dX9_moment_11 : decode cX9_moment 11 = .ok (.aload_n 0, 1) := by decide +kernel
theorem dX9_moment_12 : decode cX9_moment 12 = .ok (.invokevirtual 55, 3) := by decide +kernel
theorem dX9_moment_15 : decode cX9_moment 15 = .ok (.sipush 150, 3) := by decide +kernel
theorem dX9_moment_18 : decode cX9_moment 18 = .ok (.iadd, 1) := by decide +kernel
theorem dX9_moment_19 : decode cX9_moment 19 = .ok (.iconst 2, 1) := by decide +kernel
theorem dX9_moment_20 : decode cX9_moment 20 = .ok (.idiv, 1) := by decide +kernel
theorem dX9_moment_21 : decode cX9_moment 21 = .ok (.i2l, 1) := by decide +kernel
theorem dX9_moment_22 : decode cX9_moment 22 = .ok (.lmul, 1) := by decide +kernel
theorem dX9_moment_23 : decode cX9_moment 23 = .ok (.lreturn, 1) := by decide +kernel
theorem dX9_deflection_0 : decode cX9_deflection 0 = .ok (.lload_n 1, 1) := by decide +kernel
theorem dX9_deflection_1 : decode cX9_deflection 1 = .ok (.aload_n 0, 1) := by decide +kernel
theorem dX9_deflection_2 : decode cX9_deflection 2 = .ok (.getfield 7, 3) := by decide +kernel
theorem dX9_deflection_5 : decode cX9_deflection 5 = .ok (.iconst 0, 1) := by decide +kernel
theorem dX9_deflection_6 : decode cX9_deflection 6 = .ok (.iaload, 1) := by decide +kernel
theorem dX9_deflection_7 : decode cX9_deflection 7 = .ok (.i2l, 1) := by decide +kernel
theorem dX9_deflection_8 : decode cX9_deflection 8 = .ok (.lmul, 1) := by decide +kernel
theorem dX9_deflection_9 : decode cX9_deflection 9 = .ok (.aload_n 0, 1) := by decide +kernel
theorem dX9_deflection_10 : decode cX9_deflection 10 = .ok (.getfield 7, 3) := by decide +kernel
theorem dX9_deflection_13 : decode cX9_deflection 13 = .ok (.iconst 0, 1) := by decide +kernel
theorem dX9_deflection_14 : decode cX9_deflection 14 = .ok (.iaload, 1) := by decide +kernel
theorem dX9_deflection_15 : decode cX9_deflection 15 = .ok (.i2l, 1) := by decide +kernel
theorem dX9_deflection_16 : decode cX9_deflection 16 = .ok (.lmul, 1) := by decide +kernel
theorem dX9_deflection_17 : decode cX9_deflection 17 = .ok (.ldc2_w 59, 3) := by decide +kernel
theorem dX9_deflection_20 : decode cX9_deflection 20 = .ok (.ldiv, 1) := by decide +kernel
theorem dX9_deflection_21 : decode cX9_deflection 21 = .ok (.l2i, 1) := by decide +kernel
theorem dX9_deflection_22 : decode cX9_deflection 22 = .ok (.ireturn, 1) := by decide +kernel
set_option maxRecDepth 20000 in
theorem ggX9_pressure_X9_radius : GoodIn wsX9_pressure wsX9_radius := goodIn_r _ [7, 1, 8, 9, 6, 10, 11, 12, 13, 14, 15, 16, 17, 18, 19, 29, 30, 31, 32, 33, 34, 35, 36, 37, 38, 39, 40, 41] (by decide +kernel) (by decide +kernel)
set_option maxRecDepth 20000 in
theorem gX9_pressure_X9_radius : GoodIn wsX9_pressure (wsV RX9 55 RX9 yX9_radius wsX9_radius) := goodIn_app (goodIn_of _ (by decide +kernel)) ggX9_pressure_X9_radius
set_option maxRecDepth 20000 in
theorem ggX9_pressure_X9_deflection : GoodIn wsX9_pressure wsX9_deflection := goodIn_r _ [23, 1, 24, 29, 30, 31, 32, 33, 34, 35, 36, 37, 38, 39, 40, 41] (by decide +kernel) (by decide +kernel)
set_option maxRecDepth 20000 in
theorem gX9_pressure_X9_deflection : GoodIn wsX9_pressure (wsV RX9 61 RX9 yX9_deflection wsX9_deflection) := goodIn_app (goodIn_of _ (by decide +kernel)) ggX9_pressure_X9_deflection
set_option maxRecDepth 20000 in
theorem ggX9_pressure_X9_moment : GoodIn wsX9_pressure wsX9_moment := goodIn_r _ [28, 1, 3, 4, 5, 6, 7, 8, 9, 10, 11, 12, 13, 14, 15, 16, 17, 18, 19, 29, 30, 31, 32, 33, 34, 35, 36, 37, 38, 39, 40, 41] (by decide +kernel) (by decide +kernel)
set_option maxRecDepth 20000 in
theorem gX9_pressure_X9_moment : GoodIn wsX9_pressure (wsV RX9 65 RX9 yX9_moment wsX9_moment) := goodIn_app (goodIn_of _ (by decide +kernel)) ggX9_pressure_X9_moment
theorem dX9_pressure_0 : decode cX9_pressure 0 = .ok (.aload_n 0, 1) := by decide +kernel
theorem dX9_pressure_1 : decode cX9_pressure 1 = .ok (.getfield 7, 3) := by decide +kernel
theorem dX9_pressure_4 : decode cX9_pressure 4 = .ok (.bipush 6, 2) := by decide +kernel
theorem dX9_pressure_6 : decode cX9_pressure 6 = .ok (.iaload, 1) := by decide +kernel
theorem dX9_pressure_7 : decode cX9_pressure 7 = .ok (.aload_n 0, 1) := by decide +kernel
theorem dX9_pressure_8 : decode cX9_pressure 8 = .ok (.getfield 7, 3) := by decide +kernel
theorem dX9_pressure_11 : decode cX9_pressure 11 = .ok (.iconst 4, 1) := by decide +kernel
theorem dX9_pressure_12 : decode cX9_pressure 12 = .ok (.iaload, 1) := by decide +kernel
theorem dX9_pressure_13 : decode cX9_pressure 13 = .ok (.imul, 1) := by decide +kernel
theorem dX9_pressure_14 : decode cX9_pressure 14 = .ok (.iconst 4, 1) := by decide +kernel
theorem dX9_pressure_15 : decode cX9_pressure 15 = .ok (.idiv, 1) := by decide +kernel
theorem dX9_pressure_16 : decode cX9_pressure 16 = .ok (.aload_n 0, 1) := by decide +kernel
theorem dX9_pressure_17 : decode cX9_pressure 17 = .ok (.getfield 7, 3) := by decide +kernel
theorem dX9_pressure_20 : decode cX9_pressure 20 = .ok (.iconst 5, 1) := by decide +kernel
theorem dX9_pressure_21 : decode cX9_pressure 21 = .ok (.iaload, 1) := by decide +kernel
theorem dX9_pressure_22 : decode cX9_pressure 22 = .ok (.iadd, 1) := by decide +kernel
theorem dX9_pressure_23 : decode cX9_pressure 23 = .ok (.i2l, 1) := by decide +kernel
theorem dX9_pressure_24 : decode cX9_pressure 24 = .ok (.lstore_n 1, 1) := by decide +kernel
theorem dX9_pressure_25 : decode cX9_pressure 25 = .ok (.lload_n 1, 1) := by decide +kernel
theorem dX9_pressure_26 : decode cX9_pressure 26 = .ok (.aload_n 0, 1) := by decide +kernel
theorem dX9_pressure_27 : decode cX9_pressure 27 = .ok (.invokevirtual 55, 3) := by decide +kernel
theorem dX9_pressure_30 : decode cX9_pressure 30 = .ok (.aload_n 0, 1) := by decide +kernel
theorem dX9_pressure_31 : decode cX9_pressure 31 = .ok (.lload_n 1, 1) := by decide +kernel
theorem dX9_pressure_32 : decode cX9_pressure 32 = .ok (.invokevirtual 61, 3) := by decide +kernel
theorem dX9_pressure_35 : decode cX9_pressure 35 = .ok (.iadd, 1) := by decide +kernel
theorem dX9_pressure_36 : decode cX9_pressure 36 = .ok (.sipush 150, 3) := by decide +kernel
theorem dX9_pressure_39 : decode cX9_pressure 39 = .ok (.iadd, 1) := by decide +kernel
theorem dX9_pressure_40 : decode cX9_pressure 40 = .ok (.i2l, 1) := by decide +kernel
theorem dX9_pressure_41 : decode cX9_pressure 41 = .ok (.lmul, 1) := by decide +kernel
theorem dX9_pressure_42 : decode cX9_pressure 42 = .ok (.aload_n 0, 1) := by decide +kernel
theorem dX9_pressure_43 : decode cX9_pressure 43 = .ok (.invokevirtual 65, 3) := by decide +kernel
theorem dX9_pressure_46 : decode cX9_pressure 46 = .ok (.ladd, 1) := by decide +kernel
theorem dX9_pressure_47 : decode cX9_pressure 47 = .ok (.ldc2_w 69, 3) := by decide +kernel
theorem dX9_pressure_50 : decode cX9_pressure 50 = .ok (.ldiv, 1) := by decide +kernel
theorem dX9_pressure_51 : decode cX9_pressure 51 = .ok (.l2i, 1) := by decide +kernel
theorem dX9_pressure_52 : decode cX9_pressure 52 = .ok (.ireturn, 1) := by decide +kernel
theorem dX9_massBy_0 : decode cX9_massBy 0 = .ok (.lload_n 1, 1) := by decide +kernel
theorem dX9_massBy_1 : decode cX9_massBy 1 = .ok (.lconst 0, 1) := by decide +kernel
theorem dX9_massBy_2 : decode cX9_massBy 2 = .ok (.lcmp, 1) := by decide +kernel
theorem dX9_massBy_3 : decode cX9_massBy 3 = .ok (.ifCond .ge 7, 3) := by decide +kernel
theorem dX9_massBy_6 : decode cX9_massBy 6 = .ok (.iconst 0, 1) := by decide +kernel
theorem dX9_massBy_7 : decode cX9_massBy 7 = .ok (.goto 8, 3) := by decide +kernel
theorem dX9_massBy_10 : decode cX9_massBy 10 = .ok (.lload_n 1, 1) := by decide +kernel
theorem dX9_massBy_11 : decode cX9_massBy 11 = .ok (.iload_n 3, 1) := by decide +kernel
theorem dX9_massBy_12 : decode cX9_massBy 12 = .ok (.i2l, 1) := by decide +kernel
theorem dX9_massBy_13 : decode cX9_massBy 13 = .ok (.ldiv, 1) := by decide +kernel
theorem dX9_massBy_14 : decode cX9_massBy 14 = .ok (.l2i, 1) := by decide +kernel
theorem dX9_massBy_15 : decode cX9_massBy 15 = .ok (.ireturn, 1) := by decide +kernel
set_option maxRecDepth 20000 in
theorem ggX9_measure_X9_pressure : GoodIn wsX9_measure wsX9_pressure := goodIn_r _ [8, 9, 1, 10, 11, 12, 7, 13, 14, 15, 16, 17, 18, 19, 20, 21, 22, 23, 24, 25, 26, 27, 28, 29, 30, 31, 32, 33, 34, 39, 40, 41, 42, 43, 44, 45, 46, 47, 48, 49, 50, 51] (by decide +kernel) (by decide +kernel)
set_option maxRecDepth 20000 in
theorem gX9_measure_X9_pressure : GoodIn wsX9_measure (wsV RX9 71 RX9 yX9_pressure wsX9_pressure) := goodIn_app (goodIn_of _ (by decide +kernel)) ggX9_measure_X9_pressure
set_option maxRecDepth 20000 in
theorem ggX9_measure_X9_moment : GoodIn wsX9_measure wsX9_moment := goodIn_r _ [34, 9, 10, 11, 12, 7, 13, 14, 15, 16, 17, 18, 19, 20, 21, 22, 23, 24, 25, 39, 40, 41, 42, 43, 44, 45, 46, 47, 48, 49, 50, 51] (by decide +kernel) (by decide +kernel)
set_option maxRecDepth 20000 in
theorem gX9_measure_X9_moment : GoodIn wsX9_measure (wsV RX9 65 RX9 yX9_moment wsX9_moment) := goodIn_app (goodIn_of _ (by decide +kernel)) ggX9_measure_X9_moment
set_option maxRecDepth 20000 in
theorem ggX9_measure_X9_radius : GoodIn wsX9_measure wsX9_radius := goodIn_r _ [13, 9, 14, 15, 7, 16, 17, 18, 19, 20, 21, 22, 23, 24, 25, 39, 40, 41, 42, 43, 44, 45, 46, 47, 48, 49, 50, 51] (by decide +kernel) (by decide +kernel)
set_option maxRecDepth 20000 in
theorem gX9_measure_X9_radius : GoodIn wsX9_measure (wsV RX9 55 RX9 yX9_radius wsX9_radius) := goodIn_app (goodIn_of _ (by decide +kernel)) ggX9_measure_X9_radius
set_option maxRecDepth 20000 in
theorem ggX9_measure_X9_massBy : GoodIn wsX9_measure wsX9_massBy := goodIn_r _ [38] (by decide +kernel) (by decide +kernel)
set_option maxRecDepth 20000 in
theorem gX9_measure_X9_massBy : GoodIn wsX9_measure (wsV RX9 74 RX9 yX9_massBy wsX9_massBy) := goodIn_app (goodIn_of _ (by decide +kernel)) ggX9_measure_X9_massBy
set_option maxRecDepth 20000 in
theorem ggX9_measure_X9_deflection : GoodIn wsX9_measure wsX9_deflection := goodIn_r _ [29, 9, 30, 39, 40, 41, 42, 43, 44, 45, 46, 47, 48, 49, 50, 51] (by decide +kernel) (by decide +kernel)
set_option maxRecDepth 20000 in
theorem gX9_measure_X9_deflection : GoodIn wsX9_measure (wsV RX9 61 RX9 yX9_deflection wsX9_deflection) := goodIn_app (goodIn_of _ (by decide +kernel)) ggX9_measure_X9_deflection
theorem dX9_measure_0 : decode cX9_measure 0 = .ok (.ldc2_w 69, 3) := by decide +kernel
theorem dX9_measure_3 : decode cX9_measure 3 = .ok (.aload_n 0, 1) := by decide +kernel
theorem dX9_measure_4 : decode cX9_measure 4 = .ok (.invokevirtual 71, 3) := by decide +kernel
theorem dX9_measure_7 : decode cX9_measure 7 = .ok (.i2l, 1) := by decide +kernel
theorem dX9_measure_8 : decode cX9_measure 8 = .ok (.lmul, 1) := by decide +kernel
theorem dX9_measure_9 : decode cX9_measure 9 = .ok (.aload_n 0, 1) := by decide +kernel
