theorem dX0_init_0 : decode cX0_init 0 = .ok (.aload_n 0, 1) := by decide +kernel
theorem dX0_init_1 : decode cX0_init 1 = .ok (.invokespecial 3, 3) := by decide +kernel
theorem dX0_init_4 : decode cX0_init 4 = .ok (.aload_n 0, 1) := by decide +kernel
theorem dX0_init_5 : decode cX0_init 5 = .ok (.sipush 1500, 3) := by decide +kernel
theorem dX0_init_8 : decode cX0_init 8 = .ok (.putfield 9, 3) := by decide +kernel
theorem dX0_init_11 : decode cX0_init 11 = .ok (.aload_n 0, 1) := by decide +kernel
theorem dX0_init_12 : decode cX0_init 12 = .ok (.sipush 600, 3) := by decide +kernel
theorem dX0_init_15 : decode cX0_init 15 = .ok (.putfield 15, 3) := by decide +kernel
theorem dX0_init_18 : decode cX0_init 18 = .ok (.aload_n 0, 1) := by decide +kernel
theorem dX0_init_19 : decode cX0_init 19 = .ok (.sipush 200, 3) := by decide +kernel
theorem dX0_init_22 : decode cX0_init 22 = .ok (.putfield 18, 3) := by decide +kernel
theorem dX0_init_25 : decode cX0_init 25 = .ok (.return_, 1) := by decide +kernel
theorem dX0_copyFrom_0 : decode cX0_copyFrom 0 = .ok (.aload_n 0, 1) := by decide +kernel
theorem dX0_copyFrom_1 : decode cX0_copyFrom 1 = .ok (.aload_n 1, 1) := by decide +kernel
theorem dX0_copyFrom_2 : decode cX0_copyFrom 2 = .ok (.getfield 9, 3) := by decide +kernel
theorem dX0_copyFrom_5 : decode cX0_copyFrom 5 = .ok (.putfield 9, 3) := by decide +kernel
theorem dX0_copyFrom_8 : decode cX0_copyFrom 8 = .ok (.aload_n 0, 1) := by decide +kernel
theorem dX0_copyFrom_9 : decode cX0_copyFrom 9 = .ok (.aload_n 1, 1) := by decide +kernel
theorem dX0_copyFrom_10 : decode cX0_copyFrom 10 = .ok (.getfield 15, 3) := by decide +kernel
theorem dX0_copyFrom_13 : decode cX0_copyFrom 13 = .ok (.putfield 15, 3) := by decide +kernel
theorem dX0_copyFrom_16 : decode cX0_copyFrom 16 = .ok (.aload_n 0, 1) := by decide +kernel
theorem dX0_copyFrom_17 : decode cX0_copyFrom 17 = .ok (.aload_n 1, 1) := by decide +kernel
theorem dX0_copyFrom_18 : decode cX0_copyFrom 18 = .ok (.getfield 21, 3) := by decide +kernel
theorem dX0_copyFrom_21 : decode cX0_copyFrom 21 = .ok (.putfield 21, 3) := by decide +kernel
theorem dX0_copyFrom_24 : decode cX0_copyFrom 24 = .ok (.aload_n 0, 1) := by decide +kernel
theorem dX0_copyFrom_25 : decode cX0_copyFrom 25 = .ok (.aload_n 1, 1) := by decide +kernel
theorem dX0_copyFrom_26 : decode cX0_copyFrom 26 = .ok (.getfield 24, 3) := by decide +kernel
theorem dX0_copyFrom_29 : decode cX0_copyFrom 29 = .ok (.putfield 24, 3) := by decide +kernel
theorem dX0_copyFrom_32 : decode cX0_copyFrom 32 = .ok (.aload_n 0, 1) := by decide +kernel
theorem dX0_copyFrom_33 : decode cX0_copyFrom 33 = .ok (.aload_n 1, 1) := by decide +kernel
theorem dX0_copyFrom_34 : decode cX0_copyFrom 34 = .ok (.getfield 27, 3) := by decide +kernel
theorem dX0_copyFrom_37 : decode cX0_copyFrom 37 = .ok (.putfield 27, 3) := by decide +kernel
theorem dX0_copyFrom_40 : decode cX0_copyFrom 40 = .ok (.aload_n 0, 1) := by decide +kernel
theorem dX0_copyFrom_41 : decode cX0_copyFrom 41 = .ok (.aload_n 1, 1) := by decide +kernel
theorem dX0_copyFrom_42 : decode cX0_copyFrom 42 = .ok (.getfield 30, 3) := by decide +kernel
theorem dX0_copyFrom_45 : decode cX0_copyFrom 45 = .ok (.putfield 30, 3) := by decide +kernel
theorem dX0_copyFrom_48 : decode cX0_copyFrom 48 = .ok (.aload_n 0, 1) := by decide +kernel
theorem dX0_copyFrom_49 : decode cX0_copyFrom 49 = .ok (.aload_n 1, 1) := by decide +kernel
theorem dX0_copyFrom_50 : decode cX0_copyFrom 50 = .ok (.getfield 18, 3) := by decide +kernel
theorem dX0_copyFrom_53 : decode cX0_copyFrom 53 = .ok (.putfield 18, 3) := by decide +kernel
theorem dX0_copyFrom_56 : decode cX0_copyFrom 56 = .ok (.return_, 1) := by decide +kernel
theorem dX0_place_0 : decode cX0_place 0 = .ok (.aload_n 0, 1) := by decide +kernel
theorem dX0_place_1 : decode cX0_place 1 = .ok (.iload_n 1, 1) := by decide +kernel
theorem dX0_place_2 : decode cX0_place 2 = .ok (.putfield 9, 3) := by decide +kernel
theorem dX0_place_5 : decode cX0_place 5 = .ok (.aload_n 0, 1) := by decide +kernel
theorem dX0_place_6 : decode cX0_place 6 = .ok (.iload_n 2, 1) := by decide +kernel
theorem dX0_place_7 : decode cX0_place 7 = .ok (.putfield 15, 3) := by decide +kernel
theorem dX0_place_10 : decode cX0_place 10 = .ok (.aload_n 0, 1) := by decide +kernel
theorem dX0_place_11 : decode cX0_place 11 = .ok (.iload_n 3, 1) := by decide +kernel
theorem dX0_place_12 : decode cX0_place 12 = .ok (.putfield 21, 3) := by decide +kernel
theorem dX0_place_15 : decode cX0_place 15 = .ok (.aload_n 0, 1) := by decide +kernel
theorem dX0_place_16 : decode cX0_place 16 = .ok (.iconst 0, 1) := by decide +kernel
theorem dX0_place_17 : decode cX0_place 17 = .ok (.putfield 24, 3) := by decide +kernel
theorem dX0_place_20 : decode cX0_place 20 = .ok (.return_, 1) := by decide +kernel
theorem dX0_radius_0 : decode cX0_radius 0 = .ok (.bipush 100, 2) := by decide +kernel
theorem dX0_radius_2 : decode cX0_radius 2 = .ok (.aload_n 0, 1) := by decide +kernel
theorem dX0_radius_3 : decode cX0_radius 3 = .ok (.getfield 9, 3) := by decide +kernel
theorem dX0_radius_6 : decode cX0_radius 6 = .ok (.aload_n 0, 1) := by decide +kernel
theorem dX0_radius_7 : decode cX0_radius 7 = .ok (.getfield 15, 3) := by decide +kernel
theorem dX0_radius_10 : decode cX0_radius 10 = .ok (.invokestatic 33, 3) := by decide +kernel
theorem dX0_radius_13 : decode cX0_radius 13 = .ok (.imul, 1) := by decide +kernel
theorem dX0_radius_14 : decode cX0_radius 14 = .ok (.sipush 10000, 3) := by decide +kernel
theorem dX0_radius_17 : decode cX0_radius 17 = .ok (.idiv, 1) := by decide +kernel
theorem dX0_radius_18 : decode cX0_radius 18 = .ok (.sipush 150, 3) := by decide +kernel
theorem dX0_radius_21 : decode cX0_radius 21 = .ok (.isub, 1) := by decide +kernel
theorem dX0_radius_22 : decode cX0_radius 22 = .ok (.invokestatic 37, 3) := by decide +kernel
theorem dX0_radius_25 : decode cX0_radius 25 = .ok (.ireturn, 1) := by decide +kernel
theorem dX0_tip_0 : decode cX0_tip 0 = .ok (.aload_n 0, 1) := by decide +kernel
theorem dX0_tip_1 : decode cX0_tip 1 = .ok (.getfield 9, 3) := by decide +kernel
theorem dX0_tip_4 : decode cX0_tip 4 = .ok (.sipush 900, 3) := by decide +kernel
theorem dX0_tip_7 : decode cX0_tip 7 = .ok (.aload_n 0, 1) := by decide +kernel
theorem dX0_tip_8 : decode cX0_tip 8 = .ok (.getfield 15, 3) := by decide +kernel
theorem dX0_tip_11 : decode cX0_tip 11 = .ok (.isub, 1) := by decide +kernel
theorem dX0_tip_12 : decode cX0_tip 12 = .ok (.invokestatic 33, 3) := by decide +kernel
theorem dX0_tip_15 : decode cX0_tip 15 = .ok (.imul, 1) := by decide +kernel
theorem dX0_tip_16 : decode cX0_tip 16 = .ok (.sipush 10000, 3) := by decide +kernel
theorem dX0_tip_19 : decode cX0_tip 19 = .ok (.idiv, 1) := by decide +kernel
theorem dX0_tip_20 : decode cX0_tip 20 = .ok (.sipush 250, 3) := by decide +kernel
theorem dX0_tip_23 : decode cX0_tip 23 = .ok (.iadd, 1) := by decide +kernel
theorem dX0_tip_24 : decode cX0_tip 24 = .ok (.ireturn, 1) := by decide +kernel
theorem dX0_hanging_0 : decode cX0_hanging 0 = .ok (.aload_n 0, 1) := by decide +kernel
theorem dX0_hanging_1 : decode cX0_hanging 1 = .ok (.getfield 30, 3) := by decide +kernel
theorem dX0_hanging_4 : decode cX0_hanging 4 = .ok (.aload_n 0, 1) := by decide +kernel
theorem dX0_hanging_5 : decode cX0_hanging 5 = .ok (.getfield 27, 3) := by decide +kernel
theorem dX0_hanging_8 : decode cX0_hanging 8 = .ok (.imul, 1) := by decide +kernel
theorem dX0_hanging_9 : decode cX0_hanging 9 = .ok (.iconst 4, 1) := by decide +kernel
theorem dX0_hanging_10 : decode cX0_hanging 10 = .ok (.idiv, 1) := by decide +kernel
theorem dX0_hanging_11 : decode cX0_hanging 11 = .ok (.aload_n 0, 1) := by decide +kernel
theorem dX0_hanging_12 : decode cX0_hanging 12 = .ok (.getfield 18, 3) := by decide +kernel
theorem dX0_hanging_15 : decode cX0_hanging 15 = .ok (.iadd, 1) := by decide +kernel
theorem dX0_hanging_16 : decode cX0_hanging 16 = .ok (.ireturn, 1) := by decide +kernel
theorem dX0_deflection_0 : decode cX0_deflection 0 = .ok (.lload_n 1, 1) := by decide +kernel
theorem dX0_deflection_1 : decode cX0_deflection 1 = .ok (.aload_n 0, 1) := by decide +kernel
theorem dX0_deflection_2 : decode cX0_deflection 2 = .ok (.getfield 9, 3) := by decide +kernel
theorem dX0_deflection_5 : decode cX0_deflection 5 = .ok (.i2l, 1) := by decide +kernel
theorem dX0_deflection_6 : decode cX0_deflection 6 = .ok (.lmul, 1) := by decide +kernel
theorem dX0_deflection_7 : decode cX0_deflection 7 = .ok (.aload_n 0, 1) := by decide +kernel
theorem dX0_deflection_8 : decode cX0_deflection 8 = .ok (.getfield 9, 3) := by decide +kernel
theorem dX0_deflection_11 : decode cX0_deflection 11 = .ok (.i2l, 1) := by decide +kernel
theorem dX0_deflection_12 : decode cX0_deflection 12 = .ok (.lmul, 1) := by decide +kernel
theorem dX0_deflection_13 : decode cX0_deflection 13 = .ok (.ldc2_w 43, 3) := by decide +kernel
theorem dX0_deflection_16 : decode cX0_deflection 16 = .ok (.ldiv, 1) := by decide +kernel
theorem dX0_deflection_17 : decode cX0_deflection 17 = .ok (.lreturn, 1) := by decide +kernel
theorem dX0_boomMoment_0 : decode cX0_boomMoment 0 = .ok (.iconst 4, 1) := by decide +kernel
theorem dX0_boomMoment_1 : decode cX0_boomMoment 1 = .ok (.aload_n 0, 1) := by decide +kernel
theorem dX0_boomMoment_2 : decode cX0_boomMoment 2 = .ok (.getfield 9, 3) := by decide +kernel
theorem dX0_boomMoment_5 : decode cX0_boomMoment 5 = .ok (.imul, 1) := by decide +kernel
theorem dX0_boomMoment_6 : decode cX0_boomMoment 6 = .ok (.iconst 5, 1) := by decide +kernel
theorem dX0_boomMoment_7 : decode cX0_boomMoment 7 = .ok (.idiv, 1) := by decide +kernel
theorem dX0_boomMoment_8 : decode cX0_boomMoment 8 = .ok (.i2l, 1) := by decide +kernel
theorem dX0_boomMoment_9 : decode cX0_boomMoment 9 = .ok (.iload_n 1, 1) := by decide +kernel
theorem dX0_boomMoment_10 : decode cX0_boomMoment 10 = .ok (.sipush 150, 3) := by decide +kernel
theorem dX0_boomMoment_13 : decode cX0_boomMoment 13 = .ok (.iadd, 1) := by decide +kernel
theorem dX0_boomMoment_14 : decode cX0_boomMoment 14 = .ok (.iconst 2, 1) := by decide +kernel
theorem dX0_boomMoment_15 : decode cX0_boomMoment 15 = .ok (.idiv, 1) := by decide +kernel
theorem dX0_boomMoment_16 : decode cX0_boomMoment 16 = .ok (.i2l, 1) := by decide +kernel
theorem dX0_boomMoment_17 : decode cX0_boomMoment 17 = .ok (.lmul, 1) := by decide +kernel
theorem dX0_boomMoment_18 : decode cX0_boomMoment 18 = .ok (.lreturn, 1) := by decide +kernel
theorem dX0_move_0 : decode cX0_move 0 = .ok (.iload_n 1, 1) := by decide +kernel
theorem dX0_move_1 : decode cX0_move 1 = .ok (.tableswitch 249 0 7 #[47, 65, 83, 110, 135, 163, 191, 218], 47) := by decide +kernel
theorem dX0_move_48 : decode cX0_move 48 = .ok (.aload_n 0, 1) := by decide +kernel
theorem dX0_move_49 : decode cX0_move 49 = .ok (.iload_n 2, 1) := by decide +kernel
theorem dX0_move_50 : decode cX0_move 50 = .ok (.ifCond .eq 8, 3) := by decide +kernel
theorem dX0_move_53 : decode cX0_move 53 = .ok (.bipush 10, 2) := by decide +kernel
theorem dX0_move_55 : decode cX0_move 55 = .ok (.goto 5, 3) := by decide +kernel
theorem dX0_move_58 : decode cX0_move 58 = .ok (.bipush 20, 2) := by decide +kernel
theorem dX0_move_60 : decode cX0_move 60 = .ok (.invokevirtual 45, 3) := by decide +kernel
theorem dX0_move_63 : decode cX0_move 63 = .ok (.goto 187, 3) := by decide +kernel
theorem dX0_move_66 : decode cX0_move 66 = .ok (.aload_n 0, 1) := by decide +kernel
theorem dX0_move_67 : decode cX0_move 67 = .ok (.iload_n 2, 1) := by decide +kernel
theorem dX0_move_68 : decode cX0_move 68 = .ok (.ifCond .eq 8, 3) := by decide +kernel
theorem dX0_move_71 : decode cX0_move 71 = .ok (.bipush 10, 2) := by decide +kernel
theorem dX0_move_73 : decode cX0_move 73 = .ok (.goto 5, 3) := by decide +kernel
theorem dX0_move_76 : decode cX0_move 76 = .ok (.bipush 20, 2) := by decide +kernel
theorem dX0_move_78 : decode cX0_move 78 = .ok (.invokevirtual 49, 3) := by decide +kernel
theorem dX0_move_81 : decode cX0_move 81 = .ok (.goto 169, 3) := by decide +kernel
theorem dX0_move_84 : decode cX0_move 84 = .ok (.aload_n 0, 1) := by decide +kernel
theorem dX0_move_85 : decode cX0_move 85 = .ok (.aload_n 0, 1) := by decide +kernel
theorem dX0_move_86 : decode cX0_move 86 = .ok (.getfield 15, 3) := by decide +kernel
theorem dX0_move_89 : decode cX0_move 89 = .ok (.iload_n 2, 1) := by decide +kernel
theorem dX0_move_90 : decode cX0_move 90 = .ok (.ifCond .eq 7, 3) := by decide +kernel
theorem dX0_move_93 : decode cX0_move 93 = .ok (.iconst 2, 1) := by decide +kernel
theorem dX0_move_94 : decode cX0_move 94 = .ok (.goto 4, 3) := by decide +kernel
theorem dX0_move_97 : decode cX0_move 97 = .ok (.iconst 5, 1) := by decide +kernel
theorem dX0_move_98 : decode cX0_move 98 = .ok (.iadd, 1) := by decide +kernel
theorem dX0_move_99 : decode cX0_move 99 = .ok (.sipush 850, 3) := by decide +kernel
theorem dX0_move_102 : decode cX0_move 102 = .ok (.invokestatic 52, 3) := by decide +kernel
theorem dX0_move_105 : decode cX0_move 105 = .ok (.putfield 15, 3) := by decide +kernel
theorem dX0_move_108 : decode cX0_move 108 = .ok (.goto 142, 3) := by decide +kernel
theorem dX0_move_111 : decode cX0_move 111 = .ok (.aload_n 0, 1) := by decide +kernel
theorem dX0_move_112 : decode cX0_move 112 = .ok (.aload_n 0, 1) := by decide +kernel
theorem dX0_move_113 : decode cX0_move 113 = .ok (.getfield 15, 3) := by decide +kernel
theorem dX0_move_116 : decode cX0_move 116 = .ok (.iload_n 2, 1) := by decide +kernel
theorem dX0_move_117 : decode cX0_move 117 = .ok (.ifCond .eq 7, 3) := by decide +kernel
theorem dX0_move_120 : decode cX0_move 120 = .ok (.iconst 2, 1) := by decide +kernel
theorem dX0_move_121 : decode cX0_move 121 = .ok (.goto 4, 3) := by decide +kernel
theorem dX0_move_124 : decode cX0_move 124 = .ok (.iconst 5, 1) := by decide +kernel
theorem dX0_move_125 : decode cX0_move 125 = .ok (.isub, 1) := by decide +kernel
theorem dX0_move_126 : decode cX0_move 126 = .ok (.iconst 0, 1) := by decide +kernel
theorem dX0_move_127 : decode cX0_move 127 = .ok (.invokestatic 37, 3) := by decide +kernel
theorem dX0_move_130 : decode cX0_move 130 = .ok (.putfield 15, 3) := by decide +kernel
theorem dX0_move_133 : decode cX0_move 133 = .ok (.goto 117, 3) := by decide +kernel
theorem dX0_move_136 : decode cX0_move 136 = .ok (.aload_n 0, 1) := by decide +kernel
theorem dX0_move_137 : decode cX0_move 137 = .ok (.aload_n 0, 1) := by decide +kernel
theorem dX0_move_138 : decode cX0_move 138 = .ok (.getfield 9, 3) := by decide +kernel
theorem dX0_move_141 : decode cX0_move 141 = .ok (.iload_n 2, 1) := by decide +kernel
theorem dX0_move_142 : decode cX0_move 142 = .ok (.ifCond .eq 7, 3) := by decide +kernel
theorem dX0_move_145 : decode cX0_move 145 = .ok (.iconst 5, 1) := by decide +kernel
theorem dX0_move_146 : decode cX0_move 146 = .ok (.goto 5, 3) := by decide +kernel
theorem dX0_move_149 : decode cX0_move 149 = .ok (.bipush 10, 2) := by decide +kernel
theorem dX0_move_151 : decode cX0_move 151 = .ok (.iadd, 1) := by decide +kernel
theorem dX0_move_152 : decode cX0_move 152 = .ok (.sipush 6000, 3) := by decide +kernel
theorem dX0_move_155 : decode cX0_move 155 = .ok (.invokestatic 52, 3) := by decide +kernel
theorem dX0_move_158 : decode cX0_move 158 = .ok (.putfield 9, 3) := by decide +kernel
theorem dX0_move_161 : decode cX0_move 161 = .ok (.goto 89, 3) := by decide +kernel
theorem dX0_move_164 : decode cX0_move 164 = .ok (.aload_n 0, 1) := by decide +kernel
theorem dX0_move_165 : decode cX0_move 165 = .ok (.aload_n 0, 1) := by decide +kernel
theorem dX0_move_166 : decode cX0_move 166 = .ok (.getfield 9, 3) := by decide +kernel
theorem dX0_move_169 : decode cX0_move 169 = .ok (.iload_n 2, 1) := by decide +kernel
theorem dX0_move_170 : decode cX0_move 170 = .ok (.ifCond .eq 7, 3) := by decide +kernel
theorem dX0_move_173 : decode cX0_move 173 = .ok (.iconst 5, 1) := by decide +kernel
theorem dX0_move_174 : decode cX0_move 174 = .ok (.goto 5, 3) := by decide +kernel
theorem dX0_move_177 : decode cX0_move 177 = .ok (.bipush 10, 2) := by decide +kernel
theorem dX0_move_179 : decode cX0_move 179 = .ok (.isub, 1) := by decide +kernel
theorem dX0_move_180 : decode cX0_move 180 = .ok (.sipush 1000, 3) := by decide +kernel
theorem dX0_move_183 : decode cX0_move 183 = .ok (.invokestatic 37, 3) := by decide +kernel
theorem dX0_move_186 : decode cX0_move 186 = .ok (.putfield 9, 3) := by decide +kernel
theorem dX0_move_189 : decode cX0_move 189 = .ok (.goto 61, 3) := by decide +kernel
theorem dX0_move_192 : decode cX0_move 192 = .ok (.aload_n 0, 1) := by decide +kernel
theorem dX0_move_193 : decode cX0_move 193 = .ok (.aload_n 0, 1) := by decide +kernel
theorem dX0_move_194 : decode cX0_move 194 = .ok (.getfield 21, 3) := by decide +kernel
theorem dX0_move_197 : decode cX0_move 197 = .ok (.iload_n 2, 1) := by decide +kernel
theorem dX0_move_198 : decode cX0_move 198 = .ok (.ifCond .eq 8, 3) := by decide +kernel
theorem dX0_move_201 : decode cX0_move 201 = .ok (.bipush 7, 2) := by decide +kernel
theorem dX0_move_203 : decode cX0_move 203 = .ok (.goto 5, 3) := by decide +kernel
theorem dX0_move_206 : decode cX0_move 206 = .ok (.bipush 15, 2) := by decide +kernel
theorem dX0_move_208 : decode cX0_move 208 = .ok (.iadd, 1) := by decide +kernel
theorem dX0_move_209 : decode cX0_move 209 = .ok (.sipush 3600, 3) := by decide +kernel
theorem dX0_move_212 : decode cX0_move 212 = .ok (.irem, 1) := by decide +kernel
theorem dX0_move_213 : decode cX0_move 213 = .ok (.putfield 21, 3) := by decide +kernel
theorem dX0_move_216 : decode cX0_move 216 = .ok (.goto 34, 3) := by decide +kernel
theorem dX0_move_219 : decode cX0_move 219 = .ok (.aload_n 0, 1) := by decide +kernel
theorem dX0_move_220 : decode cX0_move 220 = .ok (.aload_n 0, 1) := by decide +kernel
theorem dX0_move_221 : decode cX0_move 221 = .ok (.getfield 21, 3) := by decide +kernel
theorem dX0_move_224 : decode cX0_move 224 = .ok (.sipush 3600, 3) := by decide +kernel
theorem dX0_move_227 : decode cX0_move 227 = .ok (.iadd, 1) := by decide +kernel
theorem dX0_move_228 : decode cX0_move 228 = .ok (.iload_n 2, 1) := by decide +kernel
theorem dX0_move_229 : decode cX0_move 229 = .ok (.ifCond .eq 8, 3) := by decide +kernel
theorem dX0_move_232 : decode cX0_move 232 = .ok (.bipush 7, 2) := by decide +kernel
theorem dX0_move_234 : decode cX0_move 234 = .ok (.goto 5, 3) := by decide +kernel
theorem dX0_move_237 : decode cX0_move 237 = .ok (.bipush 15, 2) := by decide +kernel
theorem dX0_move_239 : decode cX0_move 239 = .ok (.isub, 1) := by decide +kernel
theorem dX0_move_240 : decode cX0_move 240 = .ok (.sipush 3600, 3) := by decide +kernel
theorem dX0_move_243 : decode cX0_move 243 = .ok (.irem, 1) := by decide +kernel
theorem dX0_move_244 : decode cX0_move 244 = .ok (.putfield 21, 3) := by decide +kernel
theorem dX0_move_247 : decode cX0_move 247 = .ok (.goto 3, 3) := by decide +kernel
theorem dX0_move_250 : decode cX0_move 250 = .ok (.aload_n 0, 1) := by decide +kernel
theorem dX0_move_251 : decode cX0_move 251 = .ok (.aload_n 0, 1) := by decide +kernel
theorem dX0_move_252 : decode cX0_move 252 = .ok (.getfield 24, 3) := by decide +kernel
theorem dX0_move_255 : decode cX0_move 255 = .ok (.aload_n 0, 1) := by decide +kernel
theorem dX0_move_256 : decode cX0_move 256 = .ok (.invokevirtual 55, 3) := by decide +kernel
theorem dX0_move_259 : decode cX0_move 259 = .ok (.sipush 200, 3) := by decide +kernel
theorem dX0_move_262 : decode cX0_move 262 = .ok (.isub, 1) := by decide +kernel
theorem dX0_move_263 : decode cX0_move 263 = .ok (.invokestatic 52, 3) := by decide +kernel
theorem dX0_move_266 : decode cX0_move 266 = .ok (.putfield 24, 3) := by decide +kernel
theorem dX0_move_269 : decode cX0_move 269 = .ok (.return_, 1) := by decide +kernel
theorem dX0_hoistUp_0 : decode cX0_hoistUp 0 = .ok (.aload_n 0, 1) := by decide +kernel
theorem dX0_hoistUp_1 : decode cX0_hoistUp 1 = .ok (.invokevirtual 59, 3) := by decide +kernel
theorem dX0_hoistUp_4 : decode cX0_hoistUp 4 = .ok (.ifCond .eq 16, 3) := by decide +kernel
theorem dX0_hoistUp_7 : decode cX0_hoistUp 7 = .ok (.aload_n 0, 1) := by decide +kernel
theorem dX0_hoistUp_8 : decode cX0_hoistUp 8 = .ok (.dup, 1) := by decide +kernel
theorem dX0_hoistUp_9 : decode cX0_hoistUp 9 = .ok (.getfield 27, 3) := by decide +kernel
theorem dX0_hoistUp_12 : decode cX0_hoistUp 12 = .ok (.iconst 1, 1) := by decide +kernel
theorem dX0_hoistUp_13 : decode cX0_hoistUp 13 = .ok (.iadd, 1) := by decide +kernel
theorem dX0_hoistUp_14 : decode cX0_hoistUp 14 = .ok (.putfield 27, 3) := by decide +kernel
theorem dX0_hoistUp_17 : decode cX0_hoistUp 17 = .ok (.goto 13, 3) := by decide +kernel
theorem dX0_hoistUp_20 : decode cX0_hoistUp 20 = .ok (.aload_n 0, 1) := by decide +kernel
theorem dX0_hoistUp_21 : decode cX0_hoistUp 21 = .ok (.dup, 1) := by decide +kernel
theorem dX0_hoistUp_22 : decode cX0_hoistUp 22 = .ok (.getfield 24, 3) := by decide +kernel
theorem dX0_hoistUp_25 : decode cX0_hoistUp 25 = .ok (.iload_n 1, 1) := by decide +kernel
theorem dX0_hoistUp_26 : decode cX0_hoistUp 26 = .ok (.iadd, 1) := by decide +kernel
theorem dX0_hoistUp_27 : decode cX0_hoistUp 27 = .ok (.putfield 24, 3) := by decide +kernel
theorem dX0_hoistUp_30 : decode cX0_hoistUp 30 = .ok (.return_, 1) := by decide +kernel
theorem dX0_hoistDown_0 : decode cX0_hoistDown 0 = .ok (.aload_n 0, 1) := by decide +kernel
theorem dX0_hoistDown_1 : decode cX0_hoistDown 1 = .ok (.getfield 24, 3) := by decide +kernel
theorem dX0_hoistDown_4 : decode cX0_hoistDown 4 = .ok (.ifCond .le 20, 3) := by decide +kernel
theorem dX0_hoistDown_7 : decode cX0_hoistDown 7 = .ok (.aload_n 0, 1) := by decide +kernel
theorem dX0_hoistDown_8 : decode cX0_hoistDown 8 = .ok (.aload_n 0, 1) := by decide +kernel
theorem dX0_hoistDown_9 : decode cX0_hoistDown 9 = .ok (.getfield 24, 3) := by decide +kernel
theorem dX0_hoistDown_12 : decode cX0_hoistDown 12 = .ok (.iload_n 1, 1) := by decide +kernel
theorem dX0_hoistDown_13 : decode cX0_hoistDown 13 = .ok (.isub, 1) := by decide +kernel
theorem dX0_hoistDown_14 : decode cX0_hoistDown 14 = .ok (.iconst 0, 1) := by decide +kernel
theorem dX0_hoistDown_15 : decode cX0_hoistDown 15 = .ok (.invokestatic 37, 3) := by decide +kernel
theorem dX0_hoistDown_18 : decode cX0_hoistDown 18 = .ok (.putfield 24, 3) := by decide +kernel
theorem dX0_hoistDown_21 : decode cX0_hoistDown 21 = .ok (.goto 17, 3) := by decide +kernel
theorem dX0_hoistDown_24 : decode cX0_hoistDown 24 = .ok (.aload_n 0, 1) := by decide +kernel
theorem dX0_hoistDown_25 : decode cX0_hoistDown 25 = .ok (.aload_n 0, 1) := by decide +kernel
theorem dX0_hoistDown_26 : decode cX0_hoistDown 26 = .ok (.getfield 27, 3) := by decide +kernel
theorem dX0_hoistDown_29 : decode cX0_hoistDown 29 = .ok (.iconst 1, 1) := by decide +kernel
theorem dX0_hoistDown_30 : decode cX0_hoistDown 30 = .ok (.isub, 1) := by decide +kernel
theorem dX0_hoistDown_31 : decode cX0_hoistDown 31 = .ok (.iconst 0, 1) := by decide +kernel
theorem dX0_hoistDown_32 : decode cX0_hoistDown 32 = .ok (.invokestatic 37, 3) := by decide +kernel
theorem dX0_hoistDown_35 : decode cX0_hoistDown 35 = .ok (.putfield 27, 3) := by decide +kernel
theorem dX0_hoistDown_38 : decode cX0_hoistDown 38 = .ok (.return_, 1) := by decide +kernel
theorem dX0_takesUpLoad_0 : decode cX0_takesUpLoad 0 = .ok (.aload_n 0, 1) := by decide +kernel
theorem dX0_takesUpLoad_1 : decode cX0_takesUpLoad 1 = .ok (.getfield 30, 3) := by decide +kernel
theorem dX0_takesUpLoad_4 : decode cX0_takesUpLoad 4 = .ok (.ifCond .le 15, 3) := by decide +kernel
theorem dX0_takesUpLoad_7 : decode cX0_takesUpLoad 7 = .ok (.aload_n 0, 1) := by decide +kernel
theorem dX0_takesUpLoad_8 : decode cX0_takesUpLoad 8 = .ok (.getfield 27, 3) := by decide +kernel
theorem dX0_takesUpLoad_11 : decode cX0_takesUpLoad 11 = .ok (.iconst 4, 1) := by decide +kernel
theorem dX0_takesUpLoad_12 : decode cX0_takesUpLoad 12 = .ok (.if_icmp .ge 7, 3) := by decide +kernel
theorem dX0_takesUpLoad_15 : decode cX0_takesUpLoad 15 = .ok (.iconst 1, 1) := by decide +kernel
theorem dX0_takesUpLoad_16 : decode cX0_takesUpLoad 16 = .ok (.goto 4, 3) := by decide +kernel
theorem dX0_takesUpLoad_19 : decode cX0_takesUpLoad 19 = .ok (.iconst 0, 1) := by decide +kernel
theorem dX0_takesUpLoad_20 : decode cX0_takesUpLoad 20 = .ok (.ireturn, 1) := by decide +kernel
theorem dX0_isAtEnd_0 : decode cX0_isAtEnd 0 = .ok (.iload_n 1, 1) := by decide +kernel
theorem dX0_isAtEnd_1 : decode cX0_isAtEnd 1 = .ok (.tableswitch 148 0 5 #[39, 67, 87, 103, 116, 132], 39) := by decide +kernel
theorem dX0_isAtEnd_40 : decode cX0_isAtEnd 40 = .ok (.aload_n 0, 1) := by decide +kernel
theorem dX0_isAtEnd_41 : decode cX0_isAtEnd 41 = .ok (.invokevirtual 59, 3) := by decide +kernel
theorem dX0_isAtEnd_44 : decode cX0_isAtEnd 44 = .ok (.ifCond .ne 22, 3) := by decide +kernel
theorem dX0_isAtEnd_47 : decode cX0_isAtEnd 47 = .ok (.aload_n 0, 1) := by decide +kernel
theorem dX0_isAtEnd_48 : decode cX0_isAtEnd 48 = .ok (.getfield 24, 3) := by decide +kernel
theorem dX0_isAtEnd_51 : decode cX0_isAtEnd 51 = .ok (.aload_n 0, 1) := by decide +kernel
theorem dX0_isAtEnd_52 : decode cX0_isAtEnd 52 = .ok (.invokevirtual 55, 3) := by decide +kernel
theorem dX0_isAtEnd_55 : decode cX0_isAtEnd 55 = .ok (.sipush 200, 3) := by decide +kernel
theorem dX0_isAtEnd_58 : decode cX0_isAtEnd 58 = .ok (.isub, 1) := by decide +kernel
theorem dX0_isAtEnd_59 : decode cX0_isAtEnd 59 = .ok (.if_icmp .ne 7, 3) := by decide +kernel
theorem dX0_isAtEnd_62 : decode cX0_isAtEnd 62 = .ok (.iconst 1, 1) := by decide +kernel
theorem dX0_isAtEnd_63 : decode cX0_isAtEnd 63 = .ok (.goto 4, 3) := by decide +kernel
theorem dX0_isAtEnd_66 : decode cX0_isAtEnd 66 = .ok (.iconst 0, 1) := by decide +kernel
theorem dX0_isAtEnd_67 : decode cX0_isAtEnd 67 = .ok (.ireturn, 1) := by decide +kernel
theorem dX0_isAtEnd_68 : decode cX0_isAtEnd 68 = .ok (.aload_n 0, 1) := by decide +kernel
theorem dX0_isAtEnd_69 : decode cX0_isAtEnd 69 = .ok (.getfield 24, 3) := by decide +kernel
theorem dX0_isAtEnd_72 : decode cX0_isAtEnd 72 = .ok (.ifCond .ne 14, 3) := by decide +kernel
theorem dX0_isAtEnd_75 : decode cX0_isAtEnd 75 = .ok (.aload_n 0, 1) := by decide +kernel
theorem dX0_isAtEnd_76 : decode cX0_isAtEnd 76 = .ok (.getfield 27, 3) := by decide +kernel
theorem dX0_isAtEnd_79 : decode cX0_isAtEnd 79 = .ok (.ifCond .ne 7, 3) := by decide +kernel
theorem dX0_isAtEnd_82 : decode cX0_isAtEnd 82 = .ok (.iconst 1, 1) := by decide +kernel
theorem dX0_isAtEnd_83 : decode cX0_isAtEnd 83 = .ok (.goto 4, 3) := by decide +kernel
theorem dX0_isAtEnd_86 : decode cX0_isAtEnd 86 = .ok (.iconst 0, 1) := by decide +kernel
theorem dX0_isAtEnd_87 : decode cX0_isAtEnd 87 = .ok (.ireturn, 1) := by decide +kernel
theorem dX0_isAtEnd_88 : decode cX0_isAtEnd 88 = .ok (.aload_n 0, 1) := by decide +kernel
theorem dX0_isAtEnd_89 : decode cX0_isAtEnd 89 = .ok (.getfield 15, 3) := by decide +kernel
theorem dX0_isAtEnd_92 : decode cX0_isAtEnd 92 = .ok (.sipush 850, 3) := by decide +kernel
theorem dX0_isAtEnd_95 : decode cX0_isAtEnd 95 = .ok (.if_icmp .ne 7, 3) := by decide +kernel
theorem dX0_isAtEnd_98 : decode cX0_isAtEnd 98 = .ok (.iconst 1, 1) := by decide +kernel
theorem dX0_isAtEnd_99 : decode cX0_isAtEnd 99 = .ok (.goto 4, 3) := by decide +kernel
theorem dX0_isAtEnd_102 : decode cX0_isAtEnd 102 = .ok (.iconst 0, 1) := by decide +kernel
theorem dX0_isAtEnd_103 : decode cX0_isAtEnd 103 = .ok (.ireturn, 1) := by decide +kernel
theorem dX0_isAtEnd_104 : decode cX0_isAtEnd 104 = .ok (.aload_n 0, 1) := by decide +kernel
theorem dX0_isAtEnd_105 : decode cX0_isAtEnd 105 = .ok (.getfield 15, 3) := by decide +kernel
theorem dX0_isAtEnd_108 : decode cX0_isAtEnd 108 = .ok (.ifCond .ne 7, 3) := by decide +kernel
theorem dX0_isAtEnd_111 : decode cX0_isAtEnd 111 = .ok (.iconst 1, 1) := by decide +kernel
theorem dX0_isAtEnd_112 : decode cX0_isAtEnd 112 = .ok (.goto 4, 3) := by decide +kernel
theorem dX0_isAtEnd_115 : decode cX0_isAtEnd 115 = .ok (.iconst 0, 1) := by decide +kernel
theorem dX0_isAtEnd_116 : decode cX0_isAtEnd 116 = .ok (.ireturn, 1) := by decide +kernel
theorem dX0_isAtEnd_117 : decode cX0_isAtEnd 117 = .ok (.aload_n 0, 1) := by decide +kernel
theorem dX0_isAtEnd_118 : decode cX0_isAtEnd 118 = .ok (.getfield 9, 3) := by decide +kernel
theorem dX0_isAtEnd_121 : decode cX0_isAtEnd 121 = .ok (.sipush 6000, 3) := by decide +kernel
theorem dX0_isAtEnd_124 : decode cX0_isAtEnd 124 = .ok (.if_icmp .ne 7, 3) := by decide +kernel
theorem dX0_isAtEnd_127 : decode cX0_isAtEnd 127 = .ok (.iconst 1, 1) := by decide +kernel
theorem dX0_isAtEnd_128 : decode cX0_isAtEnd 128 = .ok (.goto 4, 3) := by decide +kernel
theorem dX0_isAtEnd_131 : decode cX0_isAtEnd 131 = .ok (.iconst 0, 1) := by decide +kernel
theorem dX0_isAtEnd_132 : decode cX0_isAtEnd 132 = .ok (.ireturn, 1) := by decide +kernel
theorem dX0_isAtEnd_133 : decode cX0_isAtEnd 133 = .ok (.aload_n 0, 1) := by decide +kernel
theorem dX0_isAtEnd_134 : decode cX0_isAtEnd 134 = .ok (.getfield 9, 3) := by decide +kernel
theorem dX0_isAtEnd_137 : decode cX0_isAtEnd 137 = .ok (.sipush 1000, 3) := by decide +kernel
theorem dX0_isAtEnd_140 : decode cX0_isAtEnd 140 = .ok (.if_icmp .ne 7, 3) := by decide +kernel
theorem dX0_isAtEnd_143 : decode cX0_isAtEnd 143 = .ok (.iconst 1, 1) := by decide +kernel
theorem dX0_isAtEnd_144 : decode cX0_isAtEnd 144 = .ok (.goto 4, 3) := by decide +kernel
theorem dX0_isAtEnd_147 : decode cX0_isAtEnd 147 = .ok (.iconst 0, 1) := by decide +kernel
theorem dX0_isAtEnd_148 : decode cX0_isAtEnd 148 = .ok (.ireturn, 1) := by decide +kernel
theorem dX0_isAtEnd_149 : decode cX0_isAtEnd 149 = .ok (.iconst 0, 1) := by decide +kernel
theorem dX0_isAtEnd_150 : decode cX0_isAtEnd 150 = .ok (.ireturn, 1) := by decide +kernel
theorem dX0_cosine_0 : decode cX0_cosine 0 = .ok (.iload_n 0, 1) := by decide +kernel
theorem dX0_cosine_1 : decode cX0_cosine 1 = .ok (.bipush 100, 2) := by decide +kernel
theorem dX0_cosine_3 : decode cX0_cosine 3 = .ok (.idiv, 1) := by decide +kernel
theorem dX0_cosine_4 : decode cX0_cosine 4 = .ok (.istore_n 1, 1) := by decide +kernel
theorem dX0_cosine_5 : decode cX0_cosine 5 = .ok (.iload_n 1, 1) := by decide +kernel
theorem dX0_cosine_6 : decode cX0_cosine 6 = .ok (.ifCond .lt 13, 3) := by decide +kernel
theorem dX0_cosine_9 : decode cX0_cosine 9 = .ok (.iload_n 1, 1) := by decide +kernel
theorem dX0_cosine_10 : decode cX0_cosine 10 = .ok (.getstatic 63, 3) := by decide +kernel
theorem dX0_cosine_13 : decode cX0_cosine 13 = .ok (.arraylength, 1) := by decide +kernel
theorem dX0_cosine_14 : decode cX0_cosine 14 = .ok (.iconst 1, 1) := by decide +kernel
theorem dX0_cosine_15 : decode cX0_cosine 15 = .ok (.isub, 1) := by decide +kernel
theorem dX0_cosine_16 : decode cX0_cosine 16 = .ok (.if_icmp .lt 5, 3) := by decide +kernel
theorem dX0_cosine_19 : decode cX0_cosine 19 = .ok (.iconst 0, 1) := by decide +kernel
theorem dX0_cosine_20 : decode cX0_cosine 20 = .ok (.ireturn, 1) := by decide +kernel
theorem dX0_cosine_21 : decode cX0_cosine 21 = .ok (.getstatic 63, 3) := by decide +kernel
theorem dX0_cosine_24 : decode cX0_cosine 24 = .ok (.iload_n 1, 1) := by decide +kernel
theorem dX0_cosine_25 : decode cX0_cosine 25 = .ok (.iaload, 1) := by decide +kernel
theorem dX0_cosine_26 : decode cX0_cosine 26 = .ok (.getstatic 63, 3) := by decide +kernel
theorem dX0_cosine_29 : decode cX0_cosine 29 = .ok (.iload_n 1, 1) := by decide +kernel
theorem dX0_cosine_30 : decode cX0_cosine 30 = .ok (.iconst 1, 1) := by decide +kernel
theorem dX0_cosine_31 : decode cX0_cosine 31 = .ok (.iadd, 1) := by decide +kernel
theorem dX0_cosine_32 : decode cX0_cosine 32 = .ok (.iaload, 1) := by decide +kernel
theorem dX0_cosine_33 : decode cX0_cosine 33 = .ok (.isub, 1) := by decide +kernel
theorem dX0_cosine_34 : decode cX0_cosine 34 = .ok (.istore_n 2, 1) := by decide +kernel
theorem dX0_cosine_35 : decode cX0_cosine 35 = .ok (.getstatic 63, 3) := by decide +kernel
theorem dX0_cosine_38 : decode cX0_cosine 38 = .ok (.iload_n 1, 1) := by decide +kernel
theorem dX0_cosine_39 : decode cX0_cosine 39 = .ok (.iaload, 1) := by decide +kernel
theorem dX0_cosine_40 : decode cX0_cosine 40 = .ok (.iload_n 2, 1) := by decide +kernel
theorem dX0_cosine_41 : decode cX0_cosine 41 = .ok (.iload_n 0, 1) := by decide +kernel
theorem dX0_cosine_42 : decode cX0_cosine 42 = .ok (.bipush 100, 2) := by decide +kernel
theorem dX0_cosine_44 : decode cX0_cosine 44 = .ok (.iload_n 1, 1) := by decide +kernel
theorem dX0_cosine_45 : decode cX0_cosine 45 = .ok (.imul, 1) := by decide +kernel
theorem dX0_cosine_46 : decode cX0_cosine 46 = .ok (.isub, 1) := by decide +kernel
theorem dX0_cosine_47 : decode cX0_cosine 47 = .ok (.imul, 1) := by decide +kernel
theorem dX0_cosine_48 : decode cX0_cosine 48 = .ok (.bipush 100, 2) := by decide +kernel
theorem dX0_cosine_50 : decode cX0_cosine 50 = .ok (.idiv, 1) := by decide +kernel
theorem dX0_cosine_51 : decode cX0_cosine 51 = .ok (.isub, 1) := by decide +kernel
theorem dX0_cosine_52 : decode cX0_cosine 52 = .ok (.ireturn, 1) := by decide +kernel
theorem dX1_init_0 : decode cX1_init 0 = .ok (.aload_n 0, 1) := by decide +kernel
theorem dX1_init_1 : decode cX1_init 1 = .ok (.invokespecial 5, 3) := by decide +kernel
theorem dX1_init_4 : decode cX1_init 4 = .ok (.aload_n 0, 1) := by decide +kernel
theorem dX1_init_5 : decode cX1_init 5 = .ok (.bipush 96, 2) := by decide +kernel
theorem dX1_init_7 : decode cX1_init 7 = .ok (.newarray .int, 2) := by decide +kernel
theorem dX1_init_9 : decode cX1_init 9 = .ok (.putfield 11, 3) := by decide +kernel
theorem dX1_init_12 : decode cX1_init 12 = .ok (.aload_n 0, 1) := by decide +kernel
theorem dX1_init_13 : decode cX1_init 13 = .ok (.iconst 4, 1) := by decide +kernel
theorem dX1_init_14 : decode cX1_init 14 = .ok (.newarray .int, 2) := by decide +kernel
theorem dX1_init_16 : decode cX1_init 16 = .ok (.dup, 1) := by decide +kernel
theorem dX1_init_17 : decode cX1_init 17 = .ok (.iconst 0, 1) := by decide +kernel
theorem dX1_init_18 : decode cX1_init 18 = .ok (.iconst 2, 1) := by decide +kernel
theorem dX1_init_19 : decode cX1_init 19 = .ok (.iastore, 1) := by decide +kernel
theorem dX1_init_20 : decode cX1_init 20 = .ok (.dup, 1) := by decide +kernel
theorem dX1_init_21 : decode cX1_init 21 = .ok (.iconst 1, 1) := by decide +kernel
theorem dX1_init_22 : decode cX1_init 22 = .ok (.iconst 2, 1) := by decide +kernel
theorem dX1_init_23 : decode cX1_init 23 = .ok (.iastore, 1) := by decide +kernel
theorem dX1_init_24 : decode cX1_init 24 = .ok (.dup, 1) := by decide +kernel
theorem dX1_init_25 : decode cX1_init 25 = .ok (.iconst 2, 1) := by decide +kernel
theorem dX1_init_26 : decode cX1_init 26 = .ok (.iconst 2, 1) := by decide +kernel
theorem dX1_init_27 : decode cX1_init 27 = .ok (.iastore, 1) := by decide +kernel
theorem dX1_init_28 : decode cX1_init 28 = .ok (.dup, 1) := by decide +kernel
theorem dX1_init_29 : decode cX1_init 29 = .ok (.iconst 3, 1) := by decide +kernel
theorem dX1_init_30 : decode cX1_init 30 = .ok (.iconst 2, 1) := by decide +kernel
theorem dX1_init_31 : decode cX1_init 31 = .ok (.iastore, 1) := by decide +kernel
theorem dX1_init_32 : decode cX1_init 32 = .ok (.putfield 15, 3) := by decide +kernel
theorem dX1_init_35 : decode cX1_init 35 = .ok (.aload_n 0, 1) := by decide +kernel
theorem dX1_init_36 : decode cX1_init 36 = .ok (.iconst 4, 1) := by decide +kernel
theorem dX1_init_37 : decode cX1_init 37 = .ok (.newarray .int, 2) := by decide +kernel
theorem dX1_init_39 : decode cX1_init 39 = .ok (.putfield 18, 3) := by decide +kernel
theorem dX1_init_42 : decode cX1_init 42 = .ok (.return_, 1) := by decide +kernel
theorem dX1_copyFrom_0 : decode cX1_copyFrom 0 = .ok (.aload_n 1, 1) := by decide +kernel
theorem dX1_copyFrom_1 : decode cX1_copyFrom 1 = .ok (.getfield 11, 3) := by decide +kernel
theorem dX1_copyFrom_4 : decode cX1_copyFrom 4 = .ok (.iconst 0, 1) := by decide +kernel
theorem dX1_copyFrom_5 : decode cX1_copyFrom 5 = .ok (.aload_n 0, 1) := by decide +kernel
theorem dX1_copyFrom_6 : decode cX1_copyFrom 6 = .ok (.getfield 11, 3) := by decide +kernel
theorem dX1_copyFrom_9 : decode cX1_copyFrom 9 = .ok (.iconst 0, 1) := by decide +kernel
theorem dX1_copyFrom_10 : decode cX1_copyFrom 10 = .ok (.aload_n 0, 1) := by decide +kernel
theorem dX1_copyFrom_11 : decode cX1_copyFrom 11 = .ok (.getfield 11, 3) := by decide +kernel
theorem dX1_copyFrom_14 : decode cX1_copyFrom 14 = .ok (.arraylength, 1) := by decide +kernel
theorem dX1_copyFrom_15 : decode cX1_copyFrom 15 = .ok (.invokestatic 21, 3) := by decide +kernel
theorem dX1_copyFrom_18 : decode cX1_copyFrom 18 = .ok (.aload_n 1, 1) := by decide +kernel
theorem dX1_copyFrom_19 : decode cX1_copyFrom 19 = .ok (.getfield 15, 3) := by decide +kernel
theorem dX1_copyFrom_22 : decode cX1_copyFrom 22 = .ok (.iconst 0, 1) := by decide +kernel
theorem dX1_copyFrom_23 : decode cX1_copyFrom 23 = .ok (.aload_n 0, 1) := by decide +kernel
theorem dX1_copyFrom_24 : decode cX1_copyFrom 24 = .ok (.getfield 15, 3) := by decide +kernel
theorem dX1_copyFrom_27 : decode cX1_copyFrom 27 = .ok (.iconst 0, 1) := by decide +kernel
theorem dX1_copyFrom_28 : decode cX1_copyFrom 28 = .ok (.aload_n 0, 1) := by decide +kernel
theorem dX1_copyFrom_29 : decode cX1_copyFrom 29 = .ok (.getfield 15, 3) := by decide +kernel
theorem dX1_copyFrom_32 : decode cX1_copyFrom 32 = .ok (.arraylength, 1) := by decide +kernel
theorem dX1_copyFrom_33 : decode cX1_copyFrom 33 = .ok (.invokestatic 21, 3) := by decide +kernel
theorem dX1_copyFrom_36 : decode cX1_copyFrom 36 = .ok (.aload_n 1, 1) := by decide +kernel
theorem dX1_copyFrom_37 : decode cX1_copyFrom 37 = .ok (.getfield 18, 3) := by decide +kernel
theorem dX1_copyFrom_40 : decode cX1_copyFrom 40 = .ok (.iconst 0, 1) := by decide +kernel
theorem dX1_copyFrom_41 : decode cX1_copyFrom 41 = .ok (.aload_n 0, 1) := by decide +kernel
theorem dX1_copyFrom_42 : decode cX1_copyFrom 42 = .ok (.getfield 18, 3) := by decide +kernel
theorem dX1_copyFrom_45 : decode cX1_copyFrom 45 = .ok (.iconst 0, 1) := by decide +kernel
theorem dX1_copyFrom_46 : decode cX1_copyFrom 46 = .ok (.aload_n 0, 1) := by decide +kernel
theorem dX1_copyFrom_47 : decode cX1_copyFrom 47 = .ok (.getfield 18, 3) := by decide +kernel
theorem dX1_copyFrom_50 : decode cX1_copyFrom 50 = .ok (.arraylength, 1) := by decide +kernel
theorem dX1_copyFrom_51 : decode cX1_copyFrom 51 = .ok (.invokestatic 21, 3) := by decide +kernel
theorem dX1_copyFrom_54 : decode cX1_copyFrom 54 = .ok (.aload_n 0, 1) := by decide +kernel
theorem dX1_copyFrom_55 : decode cX1_copyFrom 55 = .ok (.aload_n 1, 1) := by decide +kernel
theorem dX1_copyFrom_56 : decode cX1_copyFrom 56 = .ok (.getfield 27, 3) := by decide +kernel
theorem dX1_copyFrom_59 : decode cX1_copyFrom 59 = .ok (.putfield 27, 3) := by decide +kernel
theorem dX1_copyFrom_62 : decode cX1_copyFrom 62 = .ok (.return_, 1) := by decide +kernel
theorem dX1_extendOutrigger_0 : decode cX1_extendOutrigger 0 = .ok (.iload_n 1, 1) := by decide +kernel
theorem dX1_extendOutrigger_1 : decode cX1_extendOutrigger 1 = .ok (.ifCond .lt 12, 3) := by decide +kernel
theorem dX1_extendOutrigger_4 : decode cX1_extendOutrigger 4 = .ok (.iload_n 1, 1) := by decide +kernel
theorem dX1_extendOutrigger_5 : decode cX1_extendOutrigger 5 = .ok (.aload_n 0, 1) := by decide +kernel
theorem dX1_extendOutrigger_6 : decode cX1_extendOutrigger 6 = .ok (.getfield 15, 3) := by decide +kernel
theorem dX1_extendOutrigger_9 : decode cX1_extendOutrigger 9 = .ok (.arraylength, 1) := by decide +kernel
theorem dX1_extendOutrigger_10 : decode cX1_extendOutrigger 10 = .ok (.if_icmp .lt 5, 3) := by decide +kernel
theorem dX1_extendOutrigger_13 : decode cX1_extendOutrigger 13 = .ok (.iconst 0, 1) := by decide +kernel
theorem dX1_extendOutrigger_14 : decode cX1_extendOutrigger 14 = .ok (.ireturn, 1) := by decide +kernel
theorem dX1_extendOutrigger_15 : decode cX1_extendOutrigger 15 = .ok (.aload_n 0, 1) := by decide +kernel
theorem dX1_extendOutrigger_16 : decode cX1_extendOutrigger 16 = .ok (.getfield 15, 3) := by decide +kernel
theorem dX1_extendOutrigger_19 : decode cX1_extendOutrigger 19 = .ok (.iload_n 1, 1) := by decide +kernel
theorem dX1_extendOutrigger_20 : decode cX1_extendOutrigger 20 = .ok (.iaload, 1) := by decide +kernel
theorem dX1_extendOutrigger_21 : decode cX1_extendOutrigger 21 = .ok (.istore_n 3, 1) := by decide +kernel
theorem dX1_extendOutrigger_22 : decode cX1_extendOutrigger 22 = .ok (.aload_n 0, 1) := by decide +kernel
theorem dX1_extendOutrigger_23 : decode cX1_extendOutrigger 23 = .ok (.getfield 15, 3) := by decide +kernel
theorem dX1_extendOutrigger_26 : decode cX1_extendOutrigger 26 = .ok (.iload_n 1, 1) := by decide +kernel
theorem dX1_extendOutrigger_27 : decode cX1_extendOutrigger 27 = .ok (.iload_n 2, 1) := by decide +kernel
theorem dX1_extendOutrigger_28 : decode cX1_extendOutrigger 28 = .ok (.iastore, 1) := by decide +kernel
theorem dX1_extendOutrigger_29 : decode cX1_extendOutrigger 29 = .ok (.iload_n 3, 1) := by decide +kernel
theorem dX1_extendOutrigger_30 : decode cX1_extendOutrigger 30 = .ok (.ireturn, 1) := by decide +kernel
theorem dX1_valueAt_0 : decode cX1_valueAt 0 = .ok (.iload_n 1, 1) := by decide +kernel
theorem dX1_valueAt_1 : decode cX1_valueAt 1 = .ok (.bipush 24, 2) := by decide +kernel
theorem dX1_valueAt_3 : decode cX1_valueAt 3 = .ok (.imul, 1) := by decide +kernel
theorem dX1_valueAt_4 : decode cX1_valueAt 4 = .ok (.iload_n 2, 1) := by decide +kernel
theorem dX1_valueAt_5 : decode cX1_valueAt 5 = .ok (.bipush 6, 2) := by decide +kernel
theorem dX1_valueAt_7 : decode cX1_valueAt 7 = .ok (.imul, 1) := by decide +kernel
theorem dX1_valueAt_8 : decode cX1_valueAt 8 = .ok (.iadd, 1) := by decide +kernel
theorem dX1_valueAt_9 : decode cX1_valueAt 9 = .ok (.iload_n 3, 1) := by decide +kernel
theorem dX1_valueAt_10 : decode cX1_valueAt 10 = .ok (.iadd, 1) := by decide +kernel
theorem dX1_valueAt_11 : decode cX1_valueAt 11 = .ok (.istore 4, 2) := by decide +kernel
theorem dX1_valueAt_13 : decode cX1_valueAt 13 = .ok (.iload 4, 2) := by decide +kernel
theorem dX1_valueAt_15 : decode cX1_valueAt 15 = .ok (.ifCond .lt 23, 3) := by decide +kernel
theorem dX1_valueAt_18 : decode cX1_valueAt 18 = .ok (.iload 4, 2) := by decide +kernel
theorem dX1_valueAt_20 : decode cX1_valueAt 20 = .ok (.aload_n 0, 1) := by decide +kernel
theorem dX1_valueAt_21 : decode cX1_valueAt 21 = .ok (.getfield 11, 3) := by decide +kernel
theorem dX1_valueAt_24 : decode cX1_valueAt 24 = .ok (.arraylength, 1) := by decide +kernel
theorem dX1_valueAt_25 : decode cX1_valueAt 25 = .ok (.if_icmp .ge 13, 3) := by decide +kernel
theorem dX1_valueAt_28 : decode cX1_valueAt 28 = .ok (.aload_n 0, 1) := by decide +kernel
theorem dX1_valueAt_29 : decode cX1_valueAt 29 = .ok (.getfield 11, 3) := by decide +kernel
theorem dX1_valueAt_32 : decode cX1_valueAt 32 = .ok (.iload 4, 2) := by decide +kernel
theorem dX1_valueAt_34 : decode cX1_valueAt 34 = .ok (.iaload, 1) := by decide +kernel
theorem dX1_valueAt_35 : decode cX1_valueAt 35 = .ok (.goto 4, 3) := by decide +kernel
theorem dX1_valueAt_38 : decode cX1_valueAt 38 = .ok (.iconst 0, 1) := by decide +kernel
theorem dX1_valueAt_39 : decode cX1_valueAt 39 = .ok (.ireturn, 1) := by decide +kernel
theorem dX1_putValue_0 : decode cX1_putValue 0 = .ok (.iload_n 1, 1) := by decide +kernel
theorem dX1_putValue_1 : decode cX1_putValue 1 = .ok (.bipush 24, 2) := by decide +kernel
theorem dX1_putValue_3 : decode cX1_putValue 3 = .ok (.imul, 1) := by decide +kernel
theorem dX1_putValue_4 : decode cX1_putValue 4 = .ok (.iload_n 2, 1) := by decide +kernel
theorem dX1_putValue_5 : decode cX1_putValue 5 = .ok (.bipush 6, 2) := by decide +kernel
theorem dX1_putValue_7 : decode cX1_putValue 7 = .ok (.imul, 1) := by decide +kernel
theorem dX1_putValue_8 : decode cX1_putValue 8 = .ok (.iadd, 1) := by decide +kernel
theorem dX1_putValue_9 : decode cX1_putValue 9 = .ok (.iload_n 3, 1) := by decide +kernel
theorem dX1_putValue_10 : decode cX1_putValue 10 = .ok (.iadd, 1) := by decide +kernel
theorem dX1_putValue_11 : decode cX1_putValue 11 = .ok (.istore 5, 2) := by decide +kernel
theorem dX1_putValue_13 : decode cX1_putValue 13 = .ok (.iload 5, 2) := by decide +kernel
theorem dX1_putValue_15 : decode cX1_putValue 15 = .ok (.ifCond .lt 22, 3) := by decide +kernel
theorem dX1_putValue_18 : decode cX1_putValue 18 = .ok (.iload 5, 2) := by decide +kernel
theorem dX1_putValue_20 : decode cX1_putValue 20 = .ok (.aload_n 0, 1) := by decide +kernel
theorem dX1_putValue_21 : decode cX1_putValue 21 = .ok (.getfield 11, 3) := by decide +kernel
theorem dX1_putValue_24 : decode cX1_putValue 24 = .ok (.arraylength, 1) := by decide +kernel
theorem dX1_putValue_25 : decode cX1_putValue 25 = .ok (.if_icmp .ge 12, 3) := by decide +kernel
theorem dX1_putValue_28 : decode cX1_putValue 28 = .ok (.aload_n 0, 1) := by decide +kernel
theorem dX1_putValue_29 : decode cX1_putValue 29 = .ok (.getfield 11, 3) := by decide +kernel
theorem dX1_putValue_32 : decode cX1_putValue 32 = .ok (.iload 5, 2) := by decide +kernel
theorem dX1_putValue_34 : decode cX1_putValue 34 = .ok (.iload 4, 2) := by decide +kernel
theorem dX1_putValue_36 : decode cX1_putValue 36 = .ok (.iastore, 1) := by decide +kernel
theorem dX1_putValue_37 : decode cX1_putValue 37 = .ok (.return_, 1) := by decide +kernel
theorem dX1_fill_0 : decode cX1_fill 0 = .ok (.iconst 0, 1) := by decide +kernel
theorem dX1_fill_1 : decode cX1_fill 1 = .ok (.istore_n 3, 1) := by decide +kernel
theorem dX1_fill_2 : decode cX1_fill 2 = .ok (.iload_n 3, 1) := by decide +kernel
theorem dX1_fill_3 : decode cX1_fill 3 = .ok (.getstatic 31, 3) := by decide +kernel
theorem dX1_fill_6 : decode cX1_fill 6 = .ok (.arraylength, 1) := by decide +kernel
theorem dX1_fill_7 : decode cX1_fill 7 = .ok (.if_icmp .ge 74, 3) := by decide +kernel
theorem dX1_fill_10 : decode cX1_fill 10 = .ok (.getstatic 31, 3) := by decide +kernel
theorem dX1_fill_13 : decode cX1_fill 13 = .ok (.iload_n 3, 1) := by decide +kernel
theorem dX1_fill_14 : decode cX1_fill 14 = .ok (.iaload, 1) := by decide +kernel
theorem dX1_fill_15 : decode cX1_fill 15 = .ok (.istore 4, 2) := by decide +kernel
theorem dX1_fill_17 : decode cX1_fill 17 = .ok (.iload 4, 2) := by decide +kernel
theorem dX1_fill_19 : decode cX1_fill 19 = .ok (.ifCond .gt 7, 3) := by decide +kernel
theorem dX1_fill_22 : decode cX1_fill 22 = .ok (.iconst 0, 1) := by decide +kernel
theorem dX1_fill_23 : decode cX1_fill 23 = .ok (.goto 16, 3) := by decide +kernel
theorem dX1_fill_26 : decode cX1_fill 26 = .ok (.ldc 34, 2) := by decide +kernel
theorem dX1_fill_28 : decode cX1_fill 28 = .ok (.sipush 1000, 3) := by decide +kernel
theorem dX1_fill_31 : decode cX1_fill 31 = .ok (.iload_n 2, 1) := by decide +kernel
theorem dX1_fill_32 : decode cX1_fill 32 = .ok (.imul, 1) := by decide +kernel
theorem dX1_fill_33 : decode cX1_fill 33 = .ok (.iload 4, 2) := by decide +kernel
theorem dX1_fill_35 : decode cX1_fill 35 = .ok (.idiv, 1) := by decide +kernel
theorem dX1_fill_36 : decode cX1_fill 36 = .ok (.invokestatic 35, 3) := by decide +kernel
theorem dX1_fill_39 : decode cX1_fill 39 = .ok (.istore 5, 2) := by decide +kernel
theorem dX1_fill_41 : decode cX1_fill 41 = .ok (.iconst 0, 1) := by decide +kernel
theorem dX1_fill_42 : decode cX1_fill 42 = .ok (.istore 6, 2) := by decide +kernel
theorem dX1_fill_44 : decode cX1_fill 44 = .ok (.iload 6, 2) := by decide +kernel
theorem dX1_fill_46 : decode cX1_fill 46 = .ok (.iconst 4, 1) := by decide +kernel
theorem dX1_fill_47 : decode cX1_fill 47 = .ok (.if_icmp .ge 28, 3) := by decide +kernel
theorem dX1_fill_50 : decode cX1_fill 50 = .ok (.aload_n 0, 1) := by decide +kernel
theorem dX1_fill_51 : decode cX1_fill 51 = .ok (.iload_n 1, 1) := by decide +kernel
theorem dX1_fill_52 : decode cX1_fill 52 = .ok (.iload 6, 2) := by decide +kernel
theorem dX1_fill_54 : decode cX1_fill 54 = .ok (.iload_n 3, 1) := by decide +kernel
theorem dX1_fill_55 : decode cX1_fill 55 = .ok (.iload 5, 2) := by decide +kernel
theorem dX1_fill_57 : decode cX1_fill 57 = .ok (.bipush 10, 2) := by decide +kernel
theorem dX1_fill_59 : decode cX1_fill 59 = .ok (.iload 6, 2) := by decide +kernel
theorem dX1_fill_61 : decode cX1_fill 61 = .ok (.isub, 1) := by decide +kernel
theorem dX1_fill_62 : decode cX1_fill 62 = .ok (.imul, 1) := by decide +kernel
theorem dX1_fill_63 : decode cX1_fill 63 = .ok (.bipush 10, 2) := by decide +kernel
theorem dX1_fill_65 : decode cX1_fill 65 = .ok (.idiv, 1) := by decide +kernel
theorem dX1_fill_66 : decode cX1_fill 66 = .ok (.invokevirtual 41, 3) := by decide +kernel
theorem dX1_fill_69 : decode cX1_fill 69 = .ok (.iinc 6 1, 3) := by decide +kernel
theorem dX1_fill_72 : decode cX1_fill 72 = .ok (.goto (-28), 3) := by decide +kernel
theorem dX1_fill_75 : decode cX1_fill 75 = .ok (.iinc 3 1, 3) := by decide +kernel
theorem dX1_fill_78 : decode cX1_fill 78 = .ok (.goto (-76), 3) := by decide +kernel
theorem dX1_fill_81 : decode cX1_fill 81 = .ok (.return_, 1) := by decide +kernel
theorem dX1_sum_0 : decode cX1_sum 0 = .ok (.iconst 0, 1) := by decide +kernel
theorem dX1_sum_1 : decode cX1_sum 1 = .ok (.istore_n 2, 1) := by decide +kernel
theorem dX1_sum_2 : decode cX1_sum 2 = .ok (.iconst 0, 1) := by decide +kernel
theorem dX1_sum_3 : decode cX1_sum 3 = .ok (.istore_n 3, 1) := by decide +kernel
theorem dX1_sum_4 : decode cX1_sum 4 = .ok (.iload_n 3, 1) := by decide +kernel
theorem dX1_sum_5 : decode cX1_sum 5 = .ok (.iconst 4, 1) := by decide +kernel
theorem dX1_sum_6 : decode cX1_sum 6 = .ok (.if_icmp .ge 36, 3) := by decide +kernel
theorem dX1_sum_9 : decode cX1_sum 9 = .ok (.iconst 0, 1) := by decide +kernel
theorem dX1_sum_10 : decode cX1_sum 10 = .ok (.istore 4, 2) := by decide +kernel
theorem dX1_sum_12 : decode cX1_sum 12 = .ok (.iload 4, 2) := by decide +kernel
theorem dX1_sum_14 : decode cX1_sum 14 = .ok (.bipush 6, 2) := by decide +kernel
theorem dX1_sum_16 : decode cX1_sum 16 = .ok (.if_icmp .ge 20, 3) := by decide +kernel
theorem dX1_sum_19 : decode cX1_sum 19 = .ok (.iload_n 2, 1) := by decide +kernel
theorem dX1_sum_20 : decode cX1_sum 20 = .ok (.aload_n 0, 1) := by decide +kernel
theorem dX1_sum_21 : decode cX1_sum 21 = .ok (.iload_n 1, 1) := by decide +kernel
theorem dX1_sum_22 : decode cX1_sum 22 = .ok (.iload_n 3, 1) := by decide +kernel
theorem dX1_sum_23 : decode cX1_sum 23 = .ok (.iload 4, 2) := by decide +kernel
theorem dX1_sum_25 : decode cX1_sum 25 = .ok (.invokevirtual 45, 3) := by decide +kernel
theorem dX1_sum_28 : decode cX1_sum 28 = .ok (.iadd, 1) := by decide +kernel
theorem dX1_sum_29 : decode cX1_sum 29 = .ok (.istore_n 2, 1) := by decide +kernel
theorem dX1_sum_30 : decode cX1_sum 30 = .ok (.iinc 4 1, 3) := by decide +kernel
theorem dX1_sum_33 : decode cX1_sum 33 = .ok (.goto (-21), 3) := by decide +kernel
theorem dX1_sum_36 : decode cX1_sum 36 = .ok (.iinc 3 1, 3) := by decide +kernel
theorem dX1_sum_39 : decode cX1_sum 39 = .ok (.goto (-35), 3) := by decide +kernel
theorem dX1_sum_42 : decode cX1_sum 42 = .ok (.iload_n 2, 1) := by decide +kernel
theorem dX1_sum_43 : decode cX1_sum 43 = .ok (.ireturn, 1) := by decide +kernel
theorem dX1_takeSample_0 : decode cX1_takeSample 0 = .ok (.aload_n 0, 1) := by decide +kernel
theorem dX1_takeSample_1 : decode cX1_takeSample 1 = .ok (.getfield 18, 3) := by decide +kernel
theorem dX1_takeSample_4 : decode cX1_takeSample 4 = .ok (.arraylength, 1) := by decide +kernel
theorem dX1_takeSample_5 : decode cX1_takeSample 5 = .ok (.iconst 1, 1) := by decide +kernel
theorem dX1_takeSample_6 : decode cX1_takeSample 6 = .ok (.isub, 1) := by decide +kernel
theorem dX1_takeSample_7 : decode cX1_takeSample 7 = .ok (.istore_n 2, 1) := by decide +kernel
theorem dX1_takeSample_8 : decode cX1_takeSample 8 = .ok (.iload_n 2, 1) := by decide +kernel
theorem dX1_takeSample_9 : decode cX1_takeSample 9 = .ok (.ifCond .le 23, 3) := by decide +kernel
theorem dX1_takeSample_12 : decode cX1_takeSample 12 = .ok (.aload_n 0, 1) := by decide +kernel
theorem dX1_takeSample_13 : decode cX1_takeSample 13 = .ok (.getfield 18, 3) := by decide +kernel
theorem dX1_takeSample_16 : decode cX1_takeSample 16 = .ok (.iload_n 2, 1) := by decide +kernel
theorem dX1_takeSample_17 : decode cX1_takeSample 17 = .ok (.aload_n 0, 1) := by decide +kernel
theorem dX1_takeSample_18 : decode cX1_takeSample 18 = .ok (.getfield 18, 3) := by decide +kernel
theorem dX1_takeSample_21 : decode cX1_takeSample 21 = .ok (.iload_n 2, 1) := by decide +kernel
theorem dX1_takeSample_22 : decode cX1_takeSample 22 = .ok (.iconst 1, 1) := by decide +kernel
theorem dX1_takeSample_23 : decode cX1_takeSample 23 = .ok (.isub, 1) := by decide +kernel
theorem dX1_takeSample_24 : decode cX1_takeSample 24 = .ok (.iaload, 1) := by decide +kernel
theorem dX1_takeSample_25 : decode cX1_takeSample 25 = .ok (.iastore, 1) := by decide +kernel
theorem dX1_takeSample_26 : decode cX1_takeSample 26 = .ok (.iinc 2 (-1), 3) := by decide +kernel
theorem dX1_takeSample_29 : decode cX1_takeSample 29 = .ok (.goto (-21), 3) := by decide +kernel
theorem dX1_takeSample_32 : decode cX1_takeSample 32 = .ok (.aload_n 0, 1) := by decide +kernel
theorem dX1_takeSample_33 : decode cX1_takeSample 33 = .ok (.getfield 18, 3) := by decide +kernel
theorem dX1_takeSample_36 : decode cX1_takeSample 36 = .ok (.iconst 0, 1) := by decide +kernel
theorem dX1_takeSample_37 : decode cX1_takeSample 37 = .ok (.iload_n 1, 1) := by decide +kernel
theorem dX1_takeSample_38 : decode cX1_takeSample 38 = .ok (.iastore, 1) := by decide +kernel
theorem dX1_takeSample_39 : decode cX1_takeSample 39 = .ok (.return_, 1) := by decide +kernel
theorem dX1_windSpeed_0 : decode cX1_windSpeed 0 = .ok (.iconst 0, 1) := by decide +kernel
theorem dX1_windSpeed_1 : decode cX1_windSpeed 1 = .ok (.istore_n 1, 1) := by decide +kernel
theorem dX1_windSpeed_2 : decode cX1_windSpeed 2 = .ok (.aload_n 0, 1) := by decide +kernel
theorem dX1_windSpeed_3 : decode cX1_windSpeed 3 = .ok (.getfield 18, 3) := by decide +kernel
theorem dX1_windSpeed_6 : decode cX1_windSpeed 6 = .ok (.astore_n 2, 1) := by decide +kernel
theorem dX1_windSpeed_7 : decode cX1_windSpeed 7 = .ok (.aload_n 2, 1) := by decide +kernel
theorem dX1_windSpeed_8 : decode cX1_windSpeed 8 = .ok (.arraylength, 1) := by decide +kernel
theorem dX1_windSpeed_9 : decode cX1_windSpeed 9 = .ok (.istore_n 3, 1) := by decide +kernel
theorem dX1_windSpeed_10 : decode cX1_windSpeed 10 = .ok (.iconst 0, 1) := by decide +kernel
theorem dX1_windSpeed_11 : decode cX1_windSpeed 11 = .ok (.istore 4, 2) := by decide +kernel
theorem dX1_windSpeed_13 : decode cX1_windSpeed 13 = .ok (.iload 4, 2) := by decide +kernel
theorem dX1_windSpeed_15 : decode cX1_windSpeed 15 = .ok (.iload_n 3, 1) := by decide +kernel
theorem dX1_windSpeed_16 : decode cX1_windSpeed 16 = .ok (.if_icmp .ge 24, 3) := by decide +kernel
theorem dX1_windSpeed_19 : decode cX1_windSpeed 19 = .ok (.aload_n 2, 1) := by decide +kernel
theorem dX1_windSpeed_20 : decode cX1_windSpeed 20 = .ok (.iload 4, 2) := by decide +kernel
theorem dX1_windSpeed_22 : decode cX1_windSpeed 22 = .ok (.iaload, 1) := by decide +kernel
theorem dX1_windSpeed_23 : decode cX1_windSpeed 23 = .ok (.istore 5, 2) := by decide +kernel
theorem dX1_windSpeed_25 : decode cX1_windSpeed 25 = .ok (.iload 5, 2) := by decide +kernel
theorem dX1_windSpeed_27 : decode cX1_windSpeed 27 = .ok (.iload_n 1, 1) := by decide +kernel
theorem dX1_windSpeed_28 : decode cX1_windSpeed 28 = .ok (.if_icmp .le 6, 3) := by decide +kernel
theorem dX1_windSpeed_31 : decode cX1_windSpeed 31 = .ok (.iload 5, 2) := by decide +kernel
theorem dX1_windSpeed_33 : decode cX1_windSpeed 33 = .ok (.istore_n 1, 1) := by decide +kernel
theorem dX1_windSpeed_34 : decode cX1_windSpeed 34 = .ok (.iinc 4 1, 3) := by decide +kernel
theorem dX1_windSpeed_37 : decode cX1_windSpeed 37 = .ok (.goto (-24), 3) := by decide +kernel
theorem dX1_windSpeed_40 : decode cX1_windSpeed 40 = .ok (.iload_n 1, 1) := by decide +kernel
theorem dX1_windSpeed_41 : decode cX1_windSpeed 41 = .ok (.ireturn, 1) := by decide +kernel
theorem dX1_windFactor_0 : decode cX1_windFactor 0 = .ok (.aload_n 0, 1) := by decide +kernel
theorem dX1_windFactor_1 : decode cX1_windFactor 1 = .ok (.invokevirtual 49, 3) := by decide +kernel
theorem dX1_windFactor_4 : decode cX1_windFactor 4 = .ok (.bipush 100, 2) := by decide +kernel
theorem dX1_windFactor_6 : decode cX1_windFactor 6 = .ok (.isub, 1) := by decide +kernel
theorem dX1_windFactor_7 : decode cX1_windFactor 7 = .ok (.iconst 0, 1) := by decide +kernel
theorem dX1_windFactor_8 : decode cX1_windFactor 8 = .ok (.invokestatic 53, 3) := by decide +kernel
theorem dX1_windFactor_11 : decode cX1_windFactor 11 = .ok (.istore_n 1, 1) := by decide +kernel
theorem dX1_windFactor_12 : decode cX1_windFactor 12 = .ok (.sipush 1000, 3) := by decide +kernel
theorem dX1_windFactor_15 : decode cX1_windFactor 15 = .ok (.iconst 2, 1) := by decide +kernel
theorem dX1_windFactor_16 : decode cX1_windFactor 16 = .ok (.iload_n 1, 1) := by decide +kernel
theorem dX1_windFactor_17 : decode cX1_windFactor 17 = .ok (.imul, 1) := by decide +kernel
theorem dX1_windFactor_18 : decode cX1_windFactor 18 = .ok (.isub, 1) := by decide +kernel
theorem dX1_windFactor_19 : decode cX1_windFactor 19 = .ok (.iconst 0, 1) := by decide +kernel
theorem dX1_windFactor_20 : decode cX1_windFactor 20 = .ok (.invokestatic 53, 3) := by decide +kernel
theorem dX1_windFactor_23 : decode cX1_windFactor 23 = .ok (.ireturn, 1) := by decide +kernel
theorem dX1_tableAt_0 : decode cX1_tableAt 0 = .ok (.aload_n 0, 1) := by decide +kernel
theorem dX1_tableAt_1 : decode cX1_tableAt 1 = .ok (.getfield 27, 3) := by decide +kernel
theorem dX1_tableAt_4 : decode cX1_tableAt 4 = .ok (.ifCond .eq 5, 3) := by decide +kernel
theorem dX1_tableAt_7 : decode cX1_tableAt 7 = .ok (.iconst 3, 1) := by decide +kernel
theorem dX1_tableAt_8 : decode cX1_tableAt 8 = .ok (.ireturn, 1) := by decide +kernel
theorem dX1_tableAt_9 : decode cX1_tableAt 9 = .ok (.iconst 2, 1) := by decide +kernel
theorem dX1_tableAt_10 : decode cX1_tableAt 10 = .ok (.istore_n 2, 1) := by decide +kernel
theorem dX1_tableAt_11 : decode cX1_tableAt 11 = .ok (.iconst 0, 1) := by decide +kernel
theorem dX1_tableAt_12 : decode cX1_tableAt 12 = .ok (.istore_n 3, 1) := by decide +kernel
theorem dX1_tableAt_13 : decode cX1_tableAt 13 = .ok (.iload_n 3, 1) := by decide +kernel
theorem dX1_tableAt_14 : decode cX1_tableAt 14 = .ok (.aload_n 0, 1) := by decide +kernel
theorem dX1_tableAt_15 : decode cX1_tableAt 15 = .ok (.getfield 15, 3) := by decide +kernel
theorem dX1_tableAt_18 : decode cX1_tableAt 18 = .ok (.arraylength, 1) := by decide +kernel
theorem dX1_tableAt_19 : decode cX1_tableAt 19 = .ok (.if_icmp .ge 69, 3) := by decide +kernel
theorem dX1_tableAt_22 : decode cX1_tableAt 22 = .ok (.sipush 450, 3) := by decide +kernel
theorem dX1_tableAt_25 : decode cX1_tableAt 25 = .ok (.sipush 900, 3) := by decide +kernel
theorem dX1_tableAt_28 : decode cX1_tableAt 28 = .ok (.iload_n 3, 1) := by decide +kernel
theorem dX1_tableAt_29 : decode cX1_tableAt 29 = .ok (.imul, 1) := by decide +kernel
theorem dX1_tableAt_30 : decode cX1_tableAt 30 = .ok (.iadd, 1) := by decide +kernel
theorem dX1_tableAt_31 : decode cX1_tableAt 31 = .ok (.iload_n 1, 1) := by decide +kernel
theorem dX1_tableAt_32 : decode cX1_tableAt 32 = .ok (.invokestatic 56, 3) := by decide +kernel
theorem dX1_tableAt_35 : decode cX1_tableAt 35 = .ok (.istore 4, 2) := by decide +kernel
theorem dX1_tableAt_37 : decode cX1_tableAt 37 = .ok (.iload 4, 2) := by decide +kernel
theorem dX1_tableAt_39 : decode cX1_tableAt 39 = .ok (.sipush 900, 3) := by decide +kernel
theorem dX1_tableAt_42 : decode cX1_tableAt 42 = .ok (.if_icmp .lt 11, 3) := by decide +kernel
theorem dX1_tableAt_45 : decode cX1_tableAt 45 = .ok (.iload 4, 2) := by decide +kernel
theorem dX1_tableAt_47 : decode cX1_tableAt 47 = .ok (.sipush 2700, 3) := by decide +kernel
theorem dX1_tableAt_50 : decode cX1_tableAt 50 = .ok (.if_icmp .le 7, 3) := by decide +kernel
theorem dX1_tableAt_53 : decode cX1_tableAt 53 = .ok (.iconst 1, 1) := by decide +kernel
theorem dX1_tableAt_54 : decode cX1_tableAt 54 = .ok (.goto 4, 3) := by decide +kernel
theorem dX1_tableAt_57 : decode cX1_tableAt 57 = .ok (.iconst 0, 1) := by decide +kernel
theorem dX1_tableAt_58 : decode cX1_tableAt 58 = .ok (.istore 5, 2) := by decide +kernel
theorem dX1_tableAt_60 : decode cX1_tableAt 60 = .ok (.iload 5, 2) := by decide +kernel
theorem dX1_tableAt_62 : decode cX1_tableAt 62 = .ok (.ifCond .eq 20, 3) := by decide +kernel
theorem dX1_tableAt_65 : decode cX1_tableAt 65 = .ok (.aload_n 0, 1) := by decide +kernel
theorem dX1_tableAt_66 : decode cX1_tableAt 66 = .ok (.getfield 15, 3) := by decide +kernel
theorem dX1_tableAt_69 : decode cX1_tableAt 69 = .ok (.iload_n 3, 1) := by decide +kernel
theorem dX1_tableAt_70 : decode cX1_tableAt 70 = .ok (.iaload, 1) := by decide +kernel
theorem dX1_tableAt_71 : decode cX1_tableAt 71 = .ok (.iload_n 2, 1) := by decide +kernel
theorem dX1_tableAt_72 : decode cX1_tableAt 72 = .ok (.if_icmp .ge 10, 3) := by decide +kernel
theorem dX1_tableAt_75 : decode cX1_tableAt 75 = .ok (.aload_n 0, 1) := by decide +kernel
theorem dX1_tableAt_76 : decode cX1_tableAt 76 = .ok (.getfield 15, 3) := by decide +kernel
theorem dX1_tableAt_79 : decode cX1_tableAt 79 = .ok (.iload_n 3, 1) := by decide +kernel
theorem dX1_tableAt_80 : decode cX1_tableAt 80 = .ok (.iaload, 1) := by decide +kernel
theorem dX1_tableAt_81 : decode cX1_tableAt 81 = .ok (.istore_n 2, 1) := by decide +kernel
theorem dX1_tableAt_82 : decode cX1_tableAt 82 = .ok (.iinc 3 1, 3) := by decide +kernel
theorem dX1_tableAt_85 : decode cX1_tableAt 85 = .ok (.goto (-72), 3) := by decide +kernel
theorem dX1_tableAt_88 : decode cX1_tableAt 88 = .ok (.iload_n 2, 1) := by decide +kernel
theorem dX1_tableAt_89 : decode cX1_tableAt 89 = .ok (.ireturn, 1) := by decide +kernel
theorem dX1_ratedAt_0 : decode cX1_ratedAt 0 = .ok (.aload_n 0, 1) := by decide +kernel
theorem dX1_ratedAt_1 : decode cX1_ratedAt 1 = .ok (.aload_n 0, 1) := by decide +kernel
theorem dX1_ratedAt_2 : decode cX1_ratedAt 2 = .ok (.iload_n 3, 1) := by decide +kernel
theorem dX1_ratedAt_3 : decode cX1_ratedAt 3 = .ok (.invokevirtual 59, 3) := by decide +kernel
theorem dX1_ratedAt_6 : decode cX1_ratedAt 6 = .ok (.iload_n 1, 1) := by decide +kernel
theorem dX1_ratedAt_7 : decode cX1_ratedAt 7 = .ok (.iload_n 2, 1) := by decide +kernel
theorem dX1_ratedAt_8 : decode cX1_ratedAt 8 = .ok (.invokevirtual 63, 3) := by decide +kernel
theorem dX1_ratedAt_11 : decode cX1_ratedAt 11 = .ok (.aload_n 0, 1) := by decide +kernel
theorem dX1_ratedAt_12 : decode cX1_ratedAt 12 = .ok (.invokevirtual 66, 3) := by decide +kernel
theorem dX1_ratedAt_15 : decode cX1_ratedAt 15 = .ok (.imul, 1) := by decide +kernel
theorem dX1_ratedAt_16 : decode cX1_ratedAt 16 = .ok (.sipush 1000, 3) := by decide +kernel
theorem dX1_ratedAt_19 : decode cX1_ratedAt 19 = .ok (.idiv, 1) := by decide +kernel
theorem dX1_ratedAt_20 : decode cX1_ratedAt 20 = .ok (.ireturn, 1) := by decide +kernel
theorem dX1_capacityAt_0 : decode cX1_capacityAt 0 = .ok (.iload_n 3, 1) := by decide +kernel
theorem dX1_capacityAt_1 : decode cX1_capacityAt 1 = .ok (.sipush 3000, 3) := by decide +kernel
theorem dX1_capacityAt_4 : decode cX1_capacityAt 4 = .ok (.if_icmp .le 5, 3) := by decide +kernel
theorem dX1_capacityAt_7 : decode cX1_capacityAt 7 = .ok (.iconst 0, 1) := by decide +kernel
theorem dX1_capacityAt_8 : decode cX1_capacityAt 8 = .ok (.ireturn, 1) := by decide +kernel
theorem dX1_capacityAt_9 : decode cX1_capacityAt 9 = .ok (.getstatic 69, 3) := by decide +kernel
theorem dX1_capacityAt_12 : decode cX1_capacityAt 12 = .ok (.iload_n 2, 1) := by decide +kernel
theorem dX1_capacityAt_13 : decode cX1_capacityAt 13 = .ok (.invokestatic 72, 3) := by decide +kernel
theorem dX1_capacityAt_16 : decode cX1_capacityAt 16 = .ok (.istore 4, 2) := by decide +kernel
theorem dX1_capacityAt_18 : decode cX1_capacityAt 18 = .ok (.getstatic 31, 3) := by decide +kernel
theorem dX1_capacityAt_21 : decode cX1_capacityAt 21 = .ok (.iload_n 3, 1) := by decide +kernel
theorem dX1_capacityAt_22 : decode cX1_capacityAt 22 = .ok (.invokestatic 72, 3) := by decide +kernel
theorem dX1_capacityAt_25 : decode cX1_capacityAt 25 = .ok (.istore 5, 2) := by decide +kernel
theorem dX1_capacityAt_27 : decode cX1_capacityAt 27 = .ok (.iload_n 3, 1) := by decide +kernel
theorem dX1_capacityAt_28 : decode cX1_capacityAt 28 = .ok (.sipush 300, 3) := by decide +kernel
theorem dX1_capacityAt_31 : decode cX1_capacityAt 31 = .ok (.invokestatic 53, 3) := by decide +kernel
theorem dX1_capacityAt_34 : decode cX1_capacityAt 34 = .ok (.getstatic 31, 3) := by decide +kernel
theorem dX1_capacityAt_37 : decode cX1_capacityAt 37 = .ok (.iload 5, 2) := by decide +kernel
theorem dX1_capacityAt_39 : decode cX1_capacityAt 39 = .ok (.iaload, 1) := by decide +kernel
theorem dX1_capacityAt_40 : decode cX1_capacityAt 40 = .ok (.isub, 1) := by decide +kernel
theorem dX1_capacityAt_41 : decode cX1_capacityAt 41 = .ok (.istore 6, 2) := by decide +kernel
theorem dX1_capacityAt_43 : decode cX1_capacityAt 43 = .ok (.getstatic 31, 3) := by decide +kernel
theorem dX1_capacityAt_46 : decode cX1_capacityAt 46 = .ok (.iload 5, 2) := by decide +kernel
theorem dX1_capacityAt_48 : decode cX1_capacityAt 48 = .ok (.iconst 1, 1) := by decide +kernel
theorem dX1_capacityAt_49 : decode cX1_capacityAt 49 = .ok (.iadd, 1) := by decide +kernel
theorem dX1_capacityAt_50 : decode cX1_capacityAt 50 = .ok (.iaload, 1) := by decide +kernel
theorem dX1_capacityAt_51 : decode cX1_capacityAt 51 = .ok (.getstatic 31, 3) := by decide +kernel
theorem dX1_capacityAt_54 : decode cX1_capacityAt 54 = .ok (.iload 5, 2) := by decide +kernel
theorem dX1_capacityAt_56 : decode cX1_capacityAt 56 = .ok (.iaload, 1) := by decide +kernel
theorem dX1_capacityAt_57 : decode cX1_capacityAt 57 = .ok (.isub, 1) := by decide +kernel
theorem dX1_capacityAt_58 : decode cX1_capacityAt 58 = .ok (.istore 7, 2) := by decide +kernel
theorem dX1_capacityAt_60 : decode cX1_capacityAt 60 = .ok (.iload_n 2, 1) := by decide +kernel
theorem dX1_capacityAt_61 : decode cX1_capacityAt 61 = .ok (.getstatic 69, 3) := by decide +kernel
theorem dX1_capacityAt_64 : decode cX1_capacityAt 64 = .ok (.iload 4, 2) := by decide +kernel
theorem dX1_capacityAt_66 : decode cX1_capacityAt 66 = .ok (.iaload, 1) := by decide +kernel
theorem dX1_capacityAt_67 : decode cX1_capacityAt 67 = .ok (.isub, 1) := by decide +kernel
theorem dX1_capacityAt_68 : decode cX1_capacityAt 68 = .ok (.istore 8, 2) := by decide +kernel
theorem dX1_capacityAt_70 : decode cX1_capacityAt 70 = .ok (.getstatic 69, 3) := by decide +kernel
theorem dX1_capacityAt_73 : decode cX1_capacityAt 73 = .ok (.iload 4, 2) := by decide +kernel
theorem dX1_capacityAt_75 : decode cX1_capacityAt 75 = .ok (.iconst 1, 1) := by decide +kernel
theorem dX1_capacityAt_76 : decode cX1_capacityAt 76 = .ok (.iadd, 1) := by decide +kernel
theorem dX1_capacityAt_77 : decode cX1_capacityAt 77 = .ok (.iaload, 1) := by decide +kernel
theorem dX1_capacityAt_78 : decode cX1_capacityAt 78 = .ok (.getstatic 69, 3) := by decide +kernel
theorem dX1_capacityAt_81 : decode cX1_capacityAt 81 = .ok (.iload 4, 2) := by decide +kernel
theorem dX1_capacityAt_83 : decode cX1_capacityAt 83 = .ok (.iaload, 1) := by decide +kernel
theorem dX1_capacityAt_84 : decode cX1_capacityAt 84 = .ok (.isub, 1) := by decide +kernel
theorem dX1_capacityAt_85 : decode cX1_capacityAt 85 = .ok (.istore 9, 2) := by decide +kernel
theorem dX1_capacityAt_87 : decode cX1_capacityAt 87 = .ok (.aload_n 0, 1) := by decide +kernel
theorem dX1_capacityAt_88 : decode cX1_capacityAt 88 = .ok (.iload_n 1, 1) := by decide +kernel
theorem dX1_capacityAt_89 : decode cX1_capacityAt 89 = .ok (.iload 4, 2) := by decide +kernel
theorem dX1_capacityAt_91 : decode cX1_capacityAt 91 = .ok (.iload 5, 2) := by decide +kernel
theorem dX1_capacityAt_93 : decode cX1_capacityAt 93 = .ok (.invokevirtual 45, 3) := by decide +kernel
theorem dX1_capacityAt_96 : decode cX1_capacityAt 96 = .ok (.i2l, 1) := by decide +kernel
theorem dX1_capacityAt_97 : decode cX1_capacityAt 97 = .ok (.iload 7, 2) := by decide +kernel
theorem dX1_capacityAt_99 : decode cX1_capacityAt 99 = .ok (.iload 6, 2) := by decide +kernel
theorem dX1_capacityAt_101 : decode cX1_capacityAt 101 = .ok (.isub, 1) := by decide +kernel
theorem dX1_capacityAt_102 : decode cX1_capacityAt 102 = .ok (.i2l, 1) := by decide +kernel
theorem dX1_capacityAt_103 : decode cX1_capacityAt 103 = .ok (.lmul, 1) := by decide +kernel
theorem dX1_capacityAt_104 : decode cX1_capacityAt 104 = .ok (.aload_n 0, 1) := by decide +kernel
theorem dX1_capacityAt_105 : decode cX1_capacityAt 105 = .ok (.iload_n 1, 1) := by decide +kernel
theorem dX1_capacityAt_106 : decode cX1_capacityAt 106 = .ok (.iload 4, 2) := by decide +kernel
theorem dX1_capacityAt_108 : decode cX1_capacityAt 108 = .ok (.iload 5, 2) := by decide +kernel
theorem dX1_capacityAt_110 : decode cX1_capacityAt 110 = .ok (.iconst 1, 1) := by decide +kernel
theorem dX1_capacityAt_111 : decode cX1_capacityAt 111 = .ok (.iadd, 1) := by decide +kernel
theorem dX1_capacityAt_112 : decode cX1_capacityAt 112 = .ok (.invokevirtual 45, 3) := by decide +kernel
theorem dX1_capacityAt_115 : decode cX1_capacityAt 115 = .ok (.i2l, 1) := by decide +kernel
theorem dX1_capacityAt_116 : decode cX1_capacityAt 116 = .ok (.iload 6, 2) := by decide +kernel
theorem dX1_capacityAt_118 : decode cX1_capacityAt 118 = .ok (.i2l, 1) := by decide +kernel
theorem dX1_capacityAt_119 : decode cX1_capacityAt 119 = .ok (.lmul, 1) := by decide +kernel
theorem dX1_capacityAt_120 : decode cX1_capacityAt 120 = .ok (.ladd, 1) := by decide +kernel
theorem dX1_capacityAt_121 : decode cX1_capacityAt 121 = .ok (.lstore 10, 2) := by decide +kernel
theorem dX1_capacityAt_123 : decode cX1_capacityAt 123 = .ok (.aload_n 0, 1) := by decide +kernel
theorem dX1_capacityAt_124 : decode cX1_capacityAt 124 = .ok (.iload_n 1, 1) := by decide +kernel
theorem dX1_capacityAt_125 : decode cX1_capacityAt 125 = .ok (.iload 4, 2) := by decide +kernel
theorem dX1_capacityAt_127 : decode cX1_capacityAt 127 = .ok (.iconst 1, 1) := by decide +kernel
theorem dX1_capacityAt_128 : decode cX1_capacityAt 128 = .ok (.iadd, 1) := by decide +kernel
theorem dX1_capacityAt_129 : decode cX1_capacityAt 129 = .ok (.iload 5, 2) := by decide +kernel
theorem dX1_capacityAt_131 : decode cX1_capacityAt 131 = .ok (.invokevirtual 45, 3) := by decide +kernel
theorem dX1_capacityAt_134 : decode cX1_capacityAt 134 = .ok (.i2l, 1) := by decide +kernel
theorem dX1_capacityAt_135 : decode cX1_capacityAt 135 = .ok (.iload 7, 2) := by decide +kernel
theorem dX1_capacityAt_137 : decode cX1_capacityAt 137 = .ok (.iload 6, 2) := by decide +kernel
theorem dX1_capacityAt_139 : decode cX1_capacityAt 139 = .ok (.isub, 1) := by decide +kernel
theorem dX1_capacityAt_140 : decode cX1_capacityAt 140 = .ok (.i2l, 1) := by decide +kernel
theorem dX1_capacityAt_141 : decode cX1_capacityAt 141 = .ok (.lmul, 1) := by decide +kernel
theorem dX1_capacityAt_142 : decode cX1_capacityAt 142 = .ok (.aload_n 0, 1) := by decide +kernel
theorem dX1_capacityAt_143 : decode cX1_capacityAt 143 = .ok (.iload_n 1, 1) := by decide +kernel
theorem dX1_capacityAt_144 : decode cX1_capacityAt 144 = .ok (.iload 4, 2) := by decide +kernel
theorem dX1_capacityAt_146 : decode cX1_capacityAt 146 = .ok (.iconst 1, 1) := by decide +kernel
theorem dX1_capacityAt_147 : decode cX1_capacityAt 147 = .ok (.iadd, 1) := by decide +kernel
theorem dX1_capacityAt_148 : decode cX1_capacityAt 148 = .ok (.iload 5, 2) := by decide +kernel
theorem dX1_capacityAt_150 : decode cX1_capacityAt 150 = .ok (.iconst 1, 1) := by decide +kernel
theorem dX1_capacityAt_151 : decode cX1_capacityAt 151 = .ok (.iadd, 1) := by decide +kernel
theorem dX1_capacityAt_152 : decode cX1_capacityAt 152 = .ok (.invokevirtual 45, 3) := by decide +kernel
theorem dX1_capacityAt_155 : decode cX1_capacityAt 155 = .ok (.i2l, 1) := by decide +kernel
theorem dX1_capacityAt_156 : decode cX1_capacityAt 156 = .ok (.iload 6, 2) := by decide +kernel
theorem dX1_capacityAt_158 : decode cX1_capacityAt 158 = .ok (.i2l, 1) := by decide +kernel
theorem dX1_capacityAt_159 : decode cX1_capacityAt 159 = .ok (.lmul, 1) := by decide +kernel
theorem dX1_capacityAt_160 : decode cX1_capacityAt 160 = .ok (.ladd, 1) := by decide +kernel
theorem dX1_capacityAt_161 : decode cX1_capacityAt 161 = .ok (.lstore 12, 2) := by decide +kernel
theorem dX1_capacityAt_163 : decode cX1_capacityAt 163 = .ok (.iload 7, 2) := by decide +kernel
theorem dX1_capacityAt_165 : decode cX1_capacityAt 165 = .ok (.i2l, 1) := by decide +kernel
theorem dX1_capacityAt_166 : decode cX1_capacityAt 166 = .ok (.iload 9, 2) := by decide +kernel
theorem dX1_capacityAt_168 : decode cX1_capacityAt 168 = .ok (.i2l, 1) := by decide +kernel
theorem dX1_capacityAt_169 : decode cX1_capacityAt 169 = .ok (.lmul, 1) := by decide +kernel
theorem dX1_capacityAt_170 : decode cX1_capacityAt 170 = .ok (.lstore 14, 2) := by decide +kernel
theorem dX1_capacityAt_172 : decode cX1_capacityAt 172 = .ok (.lload 14, 2) := by decide +kernel
theorem dX1_capacityAt_174 : decode cX1_capacityAt 174 = .ok (.lconst 0, 1) := by decide +kernel
theorem dX1_capacityAt_175 : decode cX1_capacityAt 175 = .ok (.lcmp, 1) := by decide +kernel
theorem dX1_capacityAt_176 : decode cX1_capacityAt 176 = .ok (.ifCond .gt 7, 3) := by decide +kernel
theorem dX1_capacityAt_179 : decode cX1_capacityAt 179 = .ok (.iconst 0, 1) := by decide +kernel
theorem dX1_capacityAt_180 : decode cX1_capacityAt 180 = .ok (.goto 23, 3) := by decide +kernel
theorem dX1_capacityAt_183 : decode cX1_capacityAt 183 = .ok (.lload 10, 2) := by decide +kernel
theorem dX1_capacityAt_185 : decode cX1_capacityAt 185 = .ok (.iload 9, 2) := by decide +kernel
theorem dX1_capacityAt_187 : decode cX1_capacityAt 187 = .ok (.iload 8, 2) := by decide +kernel
theorem dX1_capacityAt_189 : decode cX1_capacityAt 189 = .ok (.isub, 1) := by decide +kernel
theorem dX1_capacityAt_190 : decode cX1_capacityAt 190 = .ok (.i2l, 1) := by decide +kernel
theorem dX1_capacityAt_191 : decode cX1_capacityAt 191 = .ok (.lmul, 1) := by decide +kernel
theorem dX1_capacityAt_192 : decode cX1_capacityAt 192 = .ok (.lload 12, 2) := by decide +kernel
theorem dX1_capacityAt_194 : decode cX1_capacityAt 194 = .ok (.iload 8, 2) := by decide +kernel
theorem dX1_capacityAt_196 : decode cX1_capacityAt 196 = .ok (.i2l, 1) := by decide +kernel
theorem dX1_capacityAt_197 : decode cX1_capacityAt 197 = .ok (.lmul, 1) := by decide +kernel
theorem dX1_capacityAt_198 : decode cX1_capacityAt 198 = .ok (.ladd, 1) := by decide +kernel
theorem dX1_capacityAt_199 : decode cX1_capacityAt 199 = .ok (.lload 14, 2) := by decide +kernel
theorem dX1_capacityAt_201 : decode cX1_capacityAt 201 = .ok (.ldiv, 1) := by decide +kernel
theorem dX1_capacityAt_202 : decode cX1_capacityAt 202 = .ok (.l2i, 1) := by decide +kernel
theorem dX1_capacityAt_203 : decode cX1_capacityAt 203 = .ok (.ireturn, 1) := by decide +kernel
theorem dX1_below_0 : decode cX1_below 0 = .ok (.iconst 0, 1) := by decide +kernel
theorem dX1_below_1 : decode cX1_below 1 = .ok (.istore_n 2, 1) := by decide +kernel
theorem dX1_below_2 : decode cX1_below 2 = .ok (.iconst 1, 1) := by decide +kernel
theorem dX1_below_3 : decode cX1_below 3 = .ok (.istore_n 3, 1) := by decide +kernel
theorem dX1_below_4 : decode cX1_below 4 = .ok (.iload_n 3, 1) := by decide +kernel
theorem dX1_below_5 : decode cX1_below 5 = .ok (.aload_n 0, 1) := by decide +kernel
theorem dX1_below_6 : decode cX1_below 6 = .ok (.arraylength, 1) := by decide +kernel
theorem dX1_below_7 : decode cX1_below 7 = .ok (.iconst 1, 1) := by decide +kernel
theorem dX1_below_8 : decode cX1_below 8 = .ok (.isub, 1) := by decide +kernel
theorem dX1_below_9 : decode cX1_below 9 = .ok (.if_icmp .ge 18, 3) := by decide +kernel
theorem dX1_below_12 : decode cX1_below 12 = .ok (.aload_n 0, 1) := by decide +kernel
theorem dX1_below_13 : decode cX1_below 13 = .ok (.iload_n 3, 1) := by decide +kernel
theorem dX1_below_14 : decode cX1_below 14 = .ok (.iaload, 1) := by decide +kernel
theorem dX1_below_15 : decode cX1_below 15 = .ok (.iload_n 1, 1) := by decide +kernel
theorem dX1_below_16 : decode cX1_below 16 = .ok (.if_icmp .gt 5, 3) := by decide +kernel
theorem dX1_below_19 : decode cX1_below 19 = .ok (.iload_n 3, 1) := by decide +kernel
theorem dX1_below_20 : decode cX1_below 20 = .ok (.istore_n 2, 1) := by decide +kernel
theorem dX1_below_21 : decode cX1_below 21 = .ok (.iinc 3 1, 3) := by decide +kernel
theorem dX1_below_24 : decode cX1_below 24 = .ok (.goto (-20), 3) := by decide +kernel
theorem dX1_below_27 : decode cX1_below 27 = .ok (.iload_n 2, 1) := by decide +kernel
theorem dX1_below_28 : decode cX1_below 28 = .ok (.ireturn, 1) := by decide +kernel
theorem dX1_hash_0 : decode cX1_hash 0 = .ok (.lload_n 1, 1) := by decide +kernel
theorem dX1_hash_1 : decode cX1_hash 1 = .ok (.lstore_n 3, 1) := by decide +kernel
theorem dX1_hash_2 : decode cX1_hash 2 = .ok (.aload_n 0, 1) := by decide +kernel
theorem dX1_hash_3 : decode cX1_hash 3 = .ok (.getfield 15, 3) := by decide +kernel
theorem dX1_hash_6 : decode cX1_hash 6 = .ok (.astore 5, 2) := by decide +kernel
theorem dX1_hash_8 : decode cX1_hash 8 = .ok (.aload 5, 2) := by decide +kernel
theorem dX1_hash_10 : decode cX1_hash 10 = .ok (.arraylength, 1) := by decide +kernel
theorem dX1_hash_11 : decode cX1_hash 11 = .ok (.istore 6, 2) := by decide +kernel
theorem dX1_hash_13 : decode cX1_hash 13 = .ok (.iconst 0, 1) := by decide +kernel
theorem dX1_hash_14 : decode cX1_hash 14 = .ok (.istore 7, 2) := by decide +kernel
theorem dX1_hash_16 : decode cX1_hash 16 = .ok (.iload 7, 2) := by decide +kernel
theorem dX1_hash_18 : decode cX1_hash 18 = .ok (.iload 6, 2) := by decide +kernel
theorem dX1_hash_20 : decode cX1_hash 20 = .ok (.if_icmp .ge 26, 3) := by decide +kernel
theorem dX1_hash_23 : decode cX1_hash 23 = .ok (.aload 5, 2) := by decide +kernel
theorem dX1_hash_25 : decode cX1_hash 25 = .ok (.iload 7, 2) := by decide +kernel
theorem dX1_hash_27 : decode cX1_hash 27 = .ok (.iaload, 1) := by decide +kernel
theorem dX1_hash_28 : decode cX1_hash 28 = .ok (.istore 8, 2) := by decide +kernel
theorem dX1_hash_30 : decode cX1_hash 30 = .ok (.ldc2_w 76, 3) := by decide +kernel
theorem dX1_hash_33 : decode cX1_hash 33 = .ok (.lload_n 3, 1) := by decide +kernel
theorem dX1_hash_34 : decode cX1_hash 34 = .ok (.lmul, 1) := by decide +kernel
theorem dX1_hash_35 : decode cX1_hash 35 = .ok (.iload 8, 2) := by decide +kernel
theorem dX1_hash_37 : decode cX1_hash 37 = .ok (.i2l, 1) := by decide +kernel
theorem dX1_hash_38 : decode cX1_hash 38 = .ok (.ladd, 1) := by decide +kernel
theorem dX1_hash_39 : decode cX1_hash 39 = .ok (.lstore_n 3, 1) := by decide +kernel
theorem dX1_hash_40 : decode cX1_hash 40 = .ok (.iinc 7 1, 3) := by decide +kernel
theorem dX1_hash_43 : decode cX1_hash 43 = .ok (.goto (-27), 3) := by decide +kernel
theorem dX1_hash_46 : decode cX1_hash 46 = .ok (.ldc2_w 76, 3) := by decide +kernel
theorem dX1_hash_49 : decode cX1_hash 49 = .ok (.lload_n 3, 1) := by decide +kernel
theorem dX1_hash_50 : decode cX1_hash 50 = .ok (.lmul, 1) := by decide +kernel
theorem dX1_hash_51 : decode cX1_hash 51 = .ok (.aload_n 0, 1) := by decide +kernel
theorem dX1_hash_52 : decode cX1_hash 52 = .ok (.getfield 27, 3) := by decide +kernel
theorem dX1_hash_55 : decode cX1_hash 55 = .ok (.ifCond .eq 7, 3) := by decide +kernel
theorem dX1_hash_58 : decode cX1_hash 58 = .ok (.iconst 1, 1) := by decide +kernel
theorem dX1_hash_59 : decode cX1_hash 59 = .ok (.goto 4, 3) := by decide +kernel
theorem dX1_hash_62 : decode cX1_hash 62 = .ok (.iconst 0, 1) := by decide +kernel
theorem dX1_hash_63 : decode cX1_hash 63 = .ok (.i2l, 1) := by decide +kernel
theorem dX1_hash_64 : decode cX1_hash 64 = .ok (.ladd, 1) := by decide +kernel
theorem dX1_hash_65 : decode cX1_hash 65 = .ok (.lstore_n 3, 1) := by decide +kernel
theorem dX1_hash_66 : decode cX1_hash 66 = .ok (.iconst 0, 1) := by decide +kernel
theorem dX1_hash_67 : decode cX1_hash 67 = .ok (.istore 5, 2) := by decide +kernel
theorem dX1_hash_69 : decode cX1_hash 69 = .ok (.iload 5, 2) := by decide +kernel
theorem dX1_hash_71 : decode cX1_hash 71 = .ok (.iconst 4, 1) := by decide +kernel
theorem dX1_hash_72 : decode cX1_hash 72 = .ok (.if_icmp .ge 23, 3) := by decide +kernel
theorem dX1_hash_75 : decode cX1_hash 75 = .ok (.ldc2_w 76, 3) := by decide +kernel
theorem dX1_hash_78 : decode cX1_hash 78 = .ok (.lload_n 3, 1) := by decide +kernel
theorem dX1_hash_79 : decode cX1_hash 79 = .ok (.lmul, 1) := by decide +kernel
theorem dX1_hash_80 : decode cX1_hash 80 = .ok (.aload_n 0, 1) := by decide +kernel
theorem dX1_hash_81 : decode cX1_hash 81 = .ok (.iload 5, 2) := by decide +kernel
theorem dX1_hash_83 : decode cX1_hash 83 = .ok (.invokevirtual 78, 3) := by decide +kernel
theorem dX1_hash_86 : decode cX1_hash 86 = .ok (.i2l, 1) := by decide +kernel
theorem dX1_hash_87 : decode cX1_hash 87 = .ok (.ladd, 1) := by decide +kernel
theorem dX1_hash_88 : decode cX1_hash 88 = .ok (.lstore_n 3, 1) := by decide +kernel
theorem dX1_hash_89 : decode cX1_hash 89 = .ok (.iinc 5 1, 3) := by decide +kernel
theorem dX1_hash_92 : decode cX1_hash 92 = .ok (.goto (-23), 3) := by decide +kernel
theorem dX1_hash_95 : decode cX1_hash 95 = .ok (.lload_n 3, 1) := by decide +kernel
theorem dX1_hash_96 : decode cX1_hash 96 = .ok (.lreturn, 1) := by decide +kernel
theorem dX2_init_0 : decode cX2_init 0 = .ok (.aload_n 0, 1) := by decide +kernel
theorem dX2_init_1 : decode cX2_init 1 = .ok (.invokespecial 1, 3) := by decide +kernel
theorem dX2_init_4 : decode cX2_init 4 = .ok (.return_, 1) := by decide +kernel
theorem dX2_read_0 : decode cX2_read 0 = .ok (.aload_n 1, 1) := by decide +kernel
theorem dX2_read_1 : decode cX2_read 1 = .ok (.invokevirtual 7, 3) := by decide +kernel
theorem dX2_read_4 : decode cX2_read 4 = .ok (.istore_n 2, 1) := by decide +kernel
theorem dX2_read_5 : decode cX2_read 5 = .ok (.aload_n 1, 1) := by decide +kernel
theorem dX2_read_6 : decode cX2_read 6 = .ok (.iload_n 2, 1) := by decide +kernel
theorem dX2_read_7 : decode cX2_read 7 = .ok (.invokevirtual 13, 3) := by decide +kernel
theorem dX2_read_10 : decode cX2_read 10 = .ok (.lstore_n 3, 1) := by decide +kernel
theorem dX2_read_11 : decode cX2_read 11 = .ok (.aload_n 1, 1) := by decide +kernel
theorem dX2_read_12 : decode cX2_read 12 = .ok (.invokevirtual 17, 3) := by decide +kernel
theorem dX2_read_15 : decode cX2_read 15 = .ok (.i2l, 1) := by decide +kernel
theorem dX2_read_16 : decode cX2_read 16 = .ok (.lstore 5, 2) := by decide +kernel
theorem dX2_read_18 : decode cX2_read 18 = .ok (.iload_n 2, 1) := by decide +kernel
theorem dX2_read_19 : decode cX2_read 19 = .ok (.i2l, 1) := by decide +kernel
theorem dX2_read_20 : decode cX2_read 20 = .ok (.aload_n 1, 1) := by decide +kernel
theorem dX2_read_21 : decode cX2_read 21 = .ok (.lload 5, 2) := by decide +kernel
theorem dX2_read_23 : decode cX2_read 23 = .ok (.invokevirtual 20, 3) := by decide +kernel
theorem dX2_read_26 : decode cX2_read 26 = .ok (.ladd, 1) := by decide +kernel
theorem dX2_read_27 : decode cX2_read 27 = .ok (.ldc2_w 24, 3) := by decide +kernel
theorem dX2_read_30 : decode cX2_read 30 = .ok (.ladd, 1) := by decide +kernel
theorem dX2_read_31 : decode cX2_read 31 = .ok (.lstore 7, 2) := by decide +kernel
theorem dX2_read_33 : decode cX2_read 33 = .ok (.aload_n 0, 1) := by decide +kernel
theorem dX2_read_34 : decode cX2_read 34 = .ok (.lload 5, 2) := by decide +kernel
theorem dX2_read_36 : decode cX2_read 36 = .ok (.lload 7, 2) := by decide +kernel
theorem dX2_read_38 : decode cX2_read 38 = .ok (.lmul, 1) := by decide +kernel
theorem dX2_read_39 : decode cX2_read 39 = .ok (.lload_n 3, 1) := by decide +kernel
theorem dX2_read_40 : decode cX2_read 40 = .ok (.ladd, 1) := by decide +kernel
theorem dX2_read_41 : decode cX2_read 41 = .ok (.ldc2_w 26, 3) := by decide +kernel
theorem dX2_read_44 : decode cX2_read 44 = .ok (.ldiv, 1) := by decide +kernel
theorem dX2_read_45 : decode cX2_read 45 = .ok (.l2i, 1) := by decide +kernel
theorem dX2_read_46 : decode cX2_read 46 = .ok (.putfield 28, 3) := by decide +kernel
theorem dX2_read_49 : decode cX2_read 49 = .ok (.ldc2_w 26, 3) := by decide +kernel
theorem dX2_read_52 : decode cX2_read 52 = .ok (.aload_n 0, 1) := by decide +kernel
theorem dX2_read_53 : decode cX2_read 53 = .ok (.getfield 28, 3) := by decide +kernel
theorem dX2_read_56 : decode cX2_read 56 = .ok (.i2l, 1) := by decide +kernel
theorem dX2_read_57 : decode cX2_read 57 = .ok (.lmul, 1) := by decide +kernel
theorem dX2_read_58 : decode cX2_read 58 = .ok (.lload_n 3, 1) := by decide +kernel
theorem dX2_read_59 : decode cX2_read 59 = .ok (.lsub, 1) := by decide +kernel
theorem dX2_read_60 : decode cX2_read 60 = .ok (.lstore 9, 2) := by decide +kernel
theorem dX2_read_62 : decode cX2_read 62 = .ok (.aload_n 0, 1) := by decide +kernel
theorem dX2_read_63 : decode cX2_read 63 = .ok (.lload 9, 2) := by decide +kernel
theorem dX2_read_65 : decode cX2_read 65 = .ok (.iload_n 2, 1) := by decide +kernel
theorem dX2_read_66 : decode cX2_read 66 = .ok (.invokestatic 34, 3) := by decide +kernel
theorem dX2_read_69 : decode cX2_read 69 = .ok (.putfield 38, 3) := by decide +kernel
theorem dX2_read_72 : decode cX2_read 72 = .ok (.iconst 0, 1) := by decide +kernel
theorem dX2_read_73 : decode cX2_read 73 = .ok (.istore 11, 2) := by decide +kernel
theorem dX2_read_75 : decode cX2_read 75 = .ok (.iload 11, 2) := by decide +kernel
theorem dX2_read_77 : decode cX2_read 77 = .ok (.iconst 3, 1) := by decide +kernel
theorem dX2_read_78 : decode cX2_read 78 = .ok (.if_icmp .ge 38, 3) := by decide +kernel
theorem dX2_read_81 : decode cX2_read 81 = .ok (.aload_n 0, 1) := by decide +kernel
theorem dX2_read_82 : decode cX2_read 82 = .ok (.iload_n 2, 1) := by decide +kernel
theorem dX2_read_83 : decode cX2_read 83 = .ok (.aload_n 1, 1) := by decide +kernel
theorem dX2_read_84 : decode cX2_read 84 = .ok (.aload_n 0, 1) := by decide +kernel
theorem dX2_read_85 : decode cX2_read 85 = .ok (.getfield 38, 3) := by decide +kernel
theorem dX2_read_88 : decode cX2_read 88 = .ok (.i2l, 1) := by decide +kernel
theorem dX2_read_89 : decode cX2_read 89 = .ok (.invokevirtual 20, 3) := by decide +kernel
theorem dX2_read_92 : decode cX2_read 92 = .ok (.l2i, 1) := by decide +kernel
theorem dX2_read_93 : decode cX2_read 93 = .ok (.iadd, 1) := by decide +kernel
theorem dX2_read_94 : decode cX2_read 94 = .ok (.putfield 41, 3) := by decide +kernel
theorem dX2_read_97 : decode cX2_read 97 = .ok (.aload_n 0, 1) := by decide +kernel
theorem dX2_read_98 : decode cX2_read 98 = .ok (.lload 9, 2) := by decide +kernel
theorem dX2_read_100 : decode cX2_read 100 = .ok (.aload_n 0, 1) := by decide +kernel
theorem dX2_read_101 : decode cX2_read 101 = .ok (.getfield 41, 3) := by decide +kernel
theorem dX2_read_104 : decode cX2_read 104 = .ok (.invokestatic 34, 3) := by decide +kernel
theorem dX2_read_107 : decode cX2_read 107 = .ok (.putfield 38, 3) := by decide +kernel
theorem dX2_read_110 : decode cX2_read 110 = .ok (.iinc 11 1, 3) := by decide +kernel
theorem dX2_read_113 : decode cX2_read 113 = .ok (.goto (-38), 3) := by decide +kernel
theorem dX2_read_116 : decode cX2_read 116 = .ok (.aload_n 0, 1) := by decide +kernel
theorem dX2_read_117 : decode cX2_read 117 = .ok (.aload_n 0, 1) := by decide +kernel
theorem dX2_read_118 : decode cX2_read 118 = .ok (.getfield 38, 3) := by decide +kernel
theorem dX2_read_121 : decode cX2_read 121 = .ok (.aload_n 1, 1) := by decide +kernel
theorem dX2_read_122 : decode cX2_read 122 = .ok (.getfield 43, 3) := by decide +kernel
theorem dX2_read_125 : decode cX2_read 125 = .ok (.isub, 1) := by decide +kernel
theorem dX2_read_126 : decode cX2_read 126 = .ok (.iconst 0, 1) := by decide +kernel
theorem dX2_read_127 : decode cX2_read 127 = .ok (.invokestatic 46, 3) := by decide +kernel
theorem dX2_read_130 : decode cX2_read 130 = .ok (.putfield 52, 3) := by decide +kernel
theorem dX2_read_133 : decode cX2_read 133 = .ok (.return_, 1) := by decide +kernel
theorem dX2_massFor_0 : decode cX2_massFor 0 = .ok (.iload_n 2, 1) := by decide +kernel
theorem dX2_massFor_1 : decode cX2_massFor 1 = .ok (.sipush 150, 3) := by decide +kernel
theorem dX2_massFor_4 : decode cX2_massFor 4 = .ok (.iadd, 1) := by decide +kernel
theorem dX2_massFor_5 : decode cX2_massFor 5 = .ok (.istore_n 3, 1) := by decide +kernel
theorem dX2_massFor_6 : decode cX2_massFor 6 = .ok (.lload_n 0, 1) := by decide +kernel
theorem dX2_massFor_7 : decode cX2_massFor 7 = .ok (.lconst 0, 1) := by decide +kernel
theorem dX2_massFor_8 : decode cX2_massFor 8 = .ok (.lcmp, 1) := by decide +kernel
theorem dX2_massFor_9 : decode cX2_massFor 9 = .ok (.ifCond .le 7, 3) := by decide +kernel
theorem dX2_massFor_12 : decode cX2_massFor 12 = .ok (.iload_n 3, 1) := by decide +kernel
theorem dX2_massFor_13 : decode cX2_massFor 13 = .ok (.ifCond .gt 7, 3) := by decide +kernel
theorem dX2_massFor_16 : decode cX2_massFor 16 = .ok (.iconst 0, 1) := by decide +kernel
theorem dX2_massFor_17 : decode cX2_massFor 17 = .ok (.goto 8, 3) := by decide +kernel
theorem dX2_massFor_20 : decode cX2_massFor 20 = .ok (.lload_n 0, 1) := by decide +kernel
theorem dX2_massFor_21 : decode cX2_massFor 21 = .ok (.iload_n 3, 1) := by decide +kernel
theorem dX2_massFor_22 : decode cX2_massFor 22 = .ok (.i2l, 1) := by decide +kernel
theorem dX2_massFor_23 : decode cX2_massFor 23 = .ok (.ldiv, 1) := by decide +kernel
theorem dX2_massFor_24 : decode cX2_massFor 24 = .ok (.l2i, 1) := by decide +kernel
theorem dX2_massFor_25 : decode cX2_massFor 25 = .ok (.ireturn, 1) := by decide +kernel
theorem dX3_init_0 : decode cX3_init 0 = .ok (.aload_n 0, 1) := by decide +kernel
theorem dX3_init_1 : decode cX3_init 1 = .ok (.invokespecial 1, 3) := by decide +kernel
theorem dX3_init_4 : decode cX3_init 4 = .ok (.aload_n 0, 1) := by decide +kernel
theorem dX3_init_5 : decode cX3_init 5 = .ok (.bipush 30, 2) := by decide +kernel
theorem dX3_init_7 : decode cX3_init 7 = .ok (.newarray .int, 2) := by decide +kernel
theorem dX3_init_9 : decode cX3_init 9 = .ok (.putfield 9, 3) := by decide +kernel
theorem dX3_init_12 : decode cX3_init 12 = .ok (.aload_n 0, 1) := by decide +kernel
theorem dX3_init_13 : decode cX3_init 13 = .ok (.bipush 30, 2) := by decide +kernel
theorem dX3_init_15 : decode cX3_init 15 = .ok (.newarray .int, 2) := by decide +kernel
theorem dX3_init_17 : decode cX3_init 17 = .ok (.putfield 13, 3) := by decide +kernel
theorem dX3_init_20 : decode cX3_init 20 = .ok (.aload_n 0, 1) := by decide +kernel
theorem dX3_init_21 : decode cX3_init 21 = .ok (.bipush 30, 2) := by decide +kernel
theorem dX3_init_23 : decode cX3_init 23 = .ok (.newarray .int, 2) := by decide +kernel
theorem dX3_init_25 : decode cX3_init 25 = .ok (.putfield 16, 3) := by decide +kernel
theorem dX3_init_28 : decode cX3_init 28 = .ok (.return_, 1) := by decide +kernel
theorem dX3_copyFrom_0 : decode cX3_copyFrom 0 = .ok (.aload_n 1, 1) := by decide +kernel
theorem dX3_copyFrom_1 : decode cX3_copyFrom 1 = .ok (.getfield 9, 3) := by decide +kernel
theorem dX3_copyFrom_4 : decode cX3_copyFrom 4 = .ok (.iconst 0, 1) := by decide +kernel
theorem dX3_copyFrom_5 : decode cX3_copyFrom 5 = .ok (.aload_n 0, 1) := by decide +kernel
theorem dX3_copyFrom_6 : decode cX3_copyFrom 6 = .ok (.getfield 9, 3) := by decide +kernel
theorem dX3_copyFrom_9 : decode cX3_copyFrom 9 = .ok (.iconst 0, 1) := by decide +kernel
theorem dX3_copyFrom_10 : decode cX3_copyFrom 10 = .ok (.bipush 30, 2) := by decide +kernel
theorem dX3_copyFrom_12 : decode cX3_copyFrom 12 = .ok (.invokestatic 19, 3) := by decide +kernel
theorem dX3_copyFrom_15 : decode cX3_copyFrom 15 = .ok (.aload_n 1, 1) := by decide +kernel
theorem dX3_copyFrom_16 : decode cX3_copyFrom 16 = .ok (.getfield 13, 3) := by decide +kernel
theorem dX3_copyFrom_19 : decode cX3_copyFrom 19 = .ok (.iconst 0, 1) := by decide +kernel
theorem dX3_copyFrom_20 : decode cX3_copyFrom 20 = .ok (.aload_n 0, 1) := by decide +kernel
theorem dX3_copyFrom_21 : decode cX3_copyFrom 21 = .ok (.getfield 13, 3) := by decide +kernel
theorem dX3_copyFrom_24 : decode cX3_copyFrom 24 = .ok (.iconst 0, 1) := by decide +kernel
theorem dX3_copyFrom_25 : decode cX3_copyFrom 25 = .ok (.bipush 30, 2) := by decide +kernel
theorem dX3_copyFrom_27 : decode cX3_copyFrom 27 = .ok (.invokestatic 19, 3) := by decide +kernel
theorem dX3_copyFrom_30 : decode cX3_copyFrom 30 = .ok (.aload_n 1, 1) := by decide +kernel
theorem dX3_copyFrom_31 : decode cX3_copyFrom 31 = .ok (.getfield 16, 3) := by decide +kernel
theorem dX3_copyFrom_34 : decode cX3_copyFrom 34 = .ok (.iconst 0, 1) := by decide +kernel
theorem dX3_copyFrom_35 : decode cX3_copyFrom 35 = .ok (.aload_n 0, 1) := by decide +kernel
theorem dX3_copyFrom_36 : decode cX3_copyFrom 36 = .ok (.getfield 16, 3) := by decide +kernel
theorem dX3_copyFrom_39 : decode cX3_copyFrom 39 = .ok (.iconst 0, 1) := by decide +kernel
theorem dX3_copyFrom_40 : decode cX3_copyFrom 40 = .ok (.bipush 30, 2) := by decide +kernel
theorem dX3_copyFrom_42 : decode cX3_copyFrom 42 = .ok (.invokestatic 19, 3) := by decide +kernel
theorem dX3_copyFrom_45 : decode cX3_copyFrom 45 = .ok (.aload_n 0, 1) := by decide +kernel
theorem dX3_copyFrom_46 : decode cX3_copyFrom 46 = .ok (.aload_n 1, 1) := by decide +kernel
theorem dX3_copyFrom_47 : decode cX3_copyFrom 47 = .ok (.getfield 25, 3) := by decide +kernel
theorem dX3_copyFrom_50 : decode cX3_copyFrom 50 = .ok (.putfield 25, 3) := by decide +kernel
theorem dX3_copyFrom_53 : decode cX3_copyFrom 53 = .ok (.aload_n 0, 1) := by decide +kernel
theorem dX3_copyFrom_54 : decode cX3_copyFrom 54 = .ok (.aload_n 1, 1) := by decide +kernel
theorem dX3_copyFrom_55 : decode cX3_copyFrom 55 = .ok (.getfield 29, 3) := by decide +kernel
theorem dX3_copyFrom_58 : decode cX3_copyFrom 58 = .ok (.putfield 29, 3) := by decide +kernel
theorem dX3_copyFrom_61 : decode cX3_copyFrom 61 = .ok (.return_, 1) := by decide +kernel
theorem dX3_add_0 : decode cX3_add 0 = .ok (.aload_n 0, 1) := by decide +kernel
theorem dX3_add_1 : decode cX3_add 1 = .ok (.aload_n 0, 1) := by decide +kernel
theorem dX3_add_2 : decode cX3_add 2 = .ok (.getfield 29, 3) := by decide +kernel
theorem dX3_add_5 : decode cX3_add 5 = .ok (.invokevirtual 32, 3) := by decide +kernel
theorem dX3_add_8 : decode cX3_add 8 = .ok (.istore 4, 2) := by decide +kernel
theorem dX3_add_10 : decode cX3_add 10 = .ok (.aload_n 0, 1) := by decide +kernel
theorem dX3_add_11 : decode cX3_add 11 = .ok (.getfield 9, 3) := by decide +kernel
theorem dX3_add_14 : decode cX3_add 14 = .ok (.iload 4, 2) := by decide +kernel
theorem dX3_add_16 : decode cX3_add 16 = .ok (.iload_n 1, 1) := by decide +kernel
theorem dX3_add_17 : decode cX3_add 17 = .ok (.iastore, 1) := by decide +kernel
theorem dX3_add_18 : decode cX3_add 18 = .ok (.aload_n 0, 1) := by decide +kernel
theorem dX3_add_19 : decode cX3_add 19 = .ok (.getfield 13, 3) := by decide +kernel
theorem dX3_add_22 : decode cX3_add 22 = .ok (.iload 4, 2) := by decide +kernel
theorem dX3_add_24 : decode cX3_add 24 = .ok (.iload_n 2, 1) := by decide +kernel
theorem dX3_add_25 : decode cX3_add 25 = .ok (.iastore, 1) := by decide +kernel
theorem dX3_add_26 : decode cX3_add 26 = .ok (.aload_n 0, 1) := by decide +kernel
theorem dX3_add_27 : decode cX3_add 27 = .ok (.getfield 16, 3) := by decide +kernel
theorem dX3_add_30 : decode cX3_add 30 = .ok (.iload 4, 2) := by decide +kernel
theorem dX3_add_32 : decode cX3_add 32 = .ok (.iload_n 3, 1) := by decide +kernel
theorem dX3_add_33 : decode cX3_add 33 = .ok (.iastore, 1) := by decide +kernel
theorem dX3_add_34 : decode cX3_add 34 = .ok (.aload_n 0, 1) := by decide +kernel
theorem dX3_add_35 : decode cX3_add 35 = .ok (.getfield 29, 3) := by decide +kernel
theorem dX3_add_38 : decode cX3_add 38 = .ok (.bipush 30, 2) := by decide +kernel
theorem dX3_add_40 : decode cX3_add 40 = .ok (.if_icmp .ge 16, 3) := by decide +kernel
theorem dX3_add_43 : decode cX3_add 43 = .ok (.aload_n 0, 1) := by decide +kernel
theorem dX3_add_44 : decode cX3_add 44 = .ok (.dup, 1) := by decide +kernel
theorem dX3_add_45 : decode cX3_add 45 = .ok (.getfield 29, 3) := by decide +kernel
theorem dX3_add_48 : decode cX3_add 48 = .ok (.iconst 1, 1) := by decide +kernel
theorem dX3_add_49 : decode cX3_add 49 = .ok (.iadd, 1) := by decide +kernel
theorem dX3_add_50 : decode cX3_add 50 = .ok (.putfield 29, 3) := by decide +kernel
theorem dX3_add_53 : decode cX3_add 53 = .ok (.goto 12, 3) := by decide +kernel
theorem dX3_add_56 : decode cX3_add 56 = .ok (.aload_n 0, 1) := by decide +kernel
theorem dX3_add_57 : decode cX3_add 57 = .ok (.aload_n 0, 1) := by decide +kernel
theorem dX3_add_58 : decode cX3_add 58 = .ok (.iconst 1, 1) := by decide +kernel
theorem dX3_add_59 : decode cX3_add 59 = .ok (.invokevirtual 32, 3) := by decide +kernel
theorem dX3_add_62 : decode cX3_add 62 = .ok (.putfield 25, 3) := by decide +kernel
theorem dX3_add_65 : decode cX3_add 65 = .ok (.return_, 1) := by decide +kernel
theorem dX3_part_0 : decode cX3_part 0 = .ok (.aload_n 0, 1) := by decide +kernel
theorem dX3_part_1 : decode cX3_part 1 = .ok (.iload_n 1, 1) := by decide +kernel
theorem dX3_part_2 : decode cX3_part 2 = .ok (.invokevirtual 32, 3) := by decide +kernel
theorem dX3_part_5 : decode cX3_part 5 = .ok (.istore_n 3, 1) := by decide +kernel
theorem dX3_part_6 : decode cX3_part 6 = .ok (.iload_n 2, 1) := by decide +kernel
theorem dX3_part_7 : decode cX3_part 7 = .ok (.ifCond .ne 12, 3) := by decide +kernel
theorem dX3_part_10 : decode cX3_part 10 = .ok (.aload_n 0, 1) := by decide +kernel
theorem dX3_part_11 : decode cX3_part 11 = .ok (.getfield 9, 3) := by decide +kernel
theorem dX3_part_14 : decode cX3_part 14 = .ok (.iload_n 3, 1) := by decide +kernel
theorem dX3_part_15 : decode cX3_part 15 = .ok (.iaload, 1) := by decide +kernel
theorem dX3_part_16 : decode cX3_part 16 = .ok (.goto 23, 3) := by decide +kernel
theorem dX3_part_19 : decode cX3_part 19 = .ok (.iload_n 2, 1) := by decide +kernel
theorem dX3_part_20 : decode cX3_part 20 = .ok (.iconst 1, 1) := by decide +kernel
theorem dX3_part_21 : decode cX3_part 21 = .ok (.if_icmp .ne 12, 3) := by decide +kernel
theorem dX3_part_24 : decode cX3_part 24 = .ok (.aload_n 0, 1) := by decide +kernel
theorem dX3_part_25 : decode cX3_part 25 = .ok (.getfield 13, 3) := by decide +kernel
theorem dX3_part_28 : decode cX3_part 28 = .ok (.iload_n 3, 1) := by decide +kernel
theorem dX3_part_29 : decode cX3_part 29 = .ok (.iaload, 1) := by decide +kernel
theorem dX3_part_30 : decode cX3_part 30 = .ok (.goto 9, 3) := by decide +kernel
theorem dX3_part_33 : decode cX3_part 33 = .ok (.aload_n 0, 1) := by decide +kernel
theorem dX3_part_34 : decode cX3_part 34 = .ok (.getfield 16, 3) := by decide +kernel
theorem dX3_part_37 : decode cX3_part 37 = .ok (.iload_n 3, 1) := by decide +kernel
theorem dX3_part_38 : decode cX3_part 38 = .ok (.iaload, 1) := by decide +kernel
theorem dX3_part_39 : decode cX3_part 39 = .ok (.ireturn, 1) := by decide +kernel
theorem dX3_slotOf_0 : decode cX3_slotOf 0 = .ok (.aload_n 0, 1) := by decide +kernel
theorem dX3_slotOf_1 : decode cX3_slotOf 1 = .ok (.getfield 25, 3) := by decide +kernel
theorem dX3_slotOf_4 : decode cX3_slotOf 4 = .ok (.iload_n 1, 1) := by decide +kernel
theorem dX3_slotOf_5 : decode cX3_slotOf 5 = .ok (.iadd, 1) := by decide +kernel
theorem dX3_slotOf_6 : decode cX3_slotOf 6 = .ok (.bipush 30, 2) := by decide +kernel
theorem dX3_slotOf_8 : decode cX3_slotOf 8 = .ok (.invokestatic 36, 3) := by decide +kernel
theorem dX3_slotOf_11 : decode cX3_slotOf 11 = .ok (.ireturn, 1) := by decide +kernel
theorem dX3_hash_0 : decode cX3_hash 0 = .ok (.ldc2_w 42, 3) := by decide +kernel
theorem dX3_hash_3 : decode cX3_hash 3 = .ok (.lload_n 1, 1) := by decide +kernel
theorem dX3_hash_4 : decode cX3_hash 4 = .ok (.lmul, 1) := by decide +kernel
theorem dX3_hash_5 : decode cX3_hash 5 = .ok (.aload_n 0, 1) := by decide +kernel
theorem dX3_hash_6 : decode cX3_hash 6 = .ok (.getfield 29, 3) := by decide +kernel
theorem dX3_hash_9 : decode cX3_hash 9 = .ok (.i2l, 1) := by decide +kernel
theorem dX3_hash_10 : decode cX3_hash 10 = .ok (.ladd, 1) := by decide +kernel
theorem dX3_hash_11 : decode cX3_hash 11 = .ok (.lstore_n 3, 1) := by decide +kernel
theorem dX3_hash_12 : decode cX3_hash 12 = .ok (.iconst 0, 1) := by decide +kernel
theorem dX3_hash_13 : decode cX3_hash 13 = .ok (.istore 5, 2) := by decide +kernel
theorem dX3_hash_15 : decode cX3_hash 15 = .ok (.iload 5, 2) := by decide +kernel
theorem dX3_hash_17 : decode cX3_hash 17 = .ok (.aload_n 0, 1) := by decide +kernel
theorem dX3_hash_18 : decode cX3_hash 18 = .ok (.getfield 29, 3) := by decide +kernel
theorem dX3_hash_21 : decode cX3_hash 21 = .ok (.if_icmp .ge 40, 3) := by decide +kernel
theorem dX3_hash_24 : decode cX3_hash 24 = .ok (.iconst 0, 1) := by decide +kernel
theorem dX3_hash_25 : decode cX3_hash 25 = .ok (.istore 6, 2) := by decide +kernel
theorem dX3_hash_27 : decode cX3_hash 27 = .ok (.iload 6, 2) := by decide +kernel
theorem dX3_hash_29 : decode cX3_hash 29 = .ok (.iconst 3, 1) := by decide +kernel
theorem dX3_hash_30 : decode cX3_hash 30 = .ok (.if_icmp .ge 25, 3) := by decide +kernel
theorem dX3_hash_33 : decode cX3_hash 33 = .ok (.ldc2_w 42, 3) := by decide +kernel
theorem dX3_hash_36 : decode cX3_hash 36 = .ok (.lload_n 3, 1) := by decide +kernel
theorem dX3_hash_37 : decode cX3_hash 37 = .ok (.lmul, 1) := by decide +kernel
theorem dX3_hash_38 : decode cX3_hash 38 = .ok (.aload_n 0, 1) := by decide +kernel
theorem dX3_hash_39 : decode cX3_hash 39 = .ok (.iload 5, 2) := by decide +kernel
theorem dX3_hash_41 : decode cX3_hash 41 = .ok (.iload 6, 2) := by decide +kernel
theorem dX3_hash_43 : decode cX3_hash 43 = .ok (.invokevirtual 44, 3) := by decide +kernel
theorem dX3_hash_46 : decode cX3_hash 46 = .ok (.i2l, 1) := by decide +kernel
theorem dX3_hash_47 : decode cX3_hash 47 = .ok (.ladd, 1) := by decide +kernel
theorem dX3_hash_48 : decode cX3_hash 48 = .ok (.lstore_n 3, 1) := by decide +kernel
theorem dX3_hash_49 : decode cX3_hash 49 = .ok (.iinc 6 1, 3) := by decide +kernel
theorem dX3_hash_52 : decode cX3_hash 52 = .ok (.goto (-25), 3) := by decide +kernel
theorem dX3_hash_55 : decode cX3_hash 55 = .ok (.iinc 5 1, 3) := by decide +kernel
theorem dX3_hash_58 : decode cX3_hash 58 = .ok (.goto (-43), 3) := by decide +kernel
theorem dX3_hash_61 : decode cX3_hash 61 = .ok (.lload_n 3, 1) := by decide +kernel
theorem dX3_hash_62 : decode cX3_hash 62 = .ok (.lreturn, 1) := by decide +kernel
theorem dX4_init_0 : decode cX4_init 0 = .ok (.aload_n 0, 1) := by decide +kernel
theorem dX4_init_1 : decode cX4_init 1 = .ok (.invokespecial 3, 3) := by decide +kernel
theorem dX4_init_4 : decode cX4_init 4 = .ok (.aload_n 0, 1) := by decide +kernel
theorem dX4_init_5 : decode cX4_init 5 = .ok (.bipush 26, 2) := by decide +kernel
theorem dX4_init_7 : decode cX4_init 7 = .ok (.newarray .int, 2) := by decide +kernel
theorem dX4_init_9 : decode cX4_init 9 = .ok (.putfield 11, 3) := by decide +kernel
theorem dX4_init_12 : decode cX4_init 12 = .ok (.aload_n 0, 1) := by decide +kernel
theorem dX4_init_13 : decode cX4_init 13 = .ok (.bipush 26, 2) := by decide +kernel
theorem dX4_init_15 : decode cX4_init 15 = .ok (.newarray .int, 2) := by decide +kernel
theorem dX4_init_17 : decode cX4_init 17 = .ok (.putfield 15, 3) := by decide +kernel
theorem dX4_init_20 : decode cX4_init 20 = .ok (.return_, 1) := by decide +kernel
theorem dX4_motionsOf_0 : decode cX4_motionsOf 0 = .ok (.iload_n 1, 1) := by decide +kernel
theorem dX4_motionsOf_1 : decode cX4_motionsOf 1 = .ok (.ifCond .lt 18, 3) := by decide +kernel
theorem dX4_motionsOf_4 : decode cX4_motionsOf 4 = .ok (.iload_n 1, 1) := by decide +kernel
theorem dX4_motionsOf_5 : decode cX4_motionsOf 5 = .ok (.bipush 26, 2) := by decide +kernel
theorem dX4_motionsOf_7 : decode cX4_motionsOf 7 = .ok (.if_icmp .ge 12, 3) := by decide +kernel
theorem dX4_motionsOf_10 : decode cX4_motionsOf 10 = .ok (.aload_n 0, 1) := by decide +kernel
theorem dX4_motionsOf_11 : decode cX4_motionsOf 11 = .ok (.getfield 11, 3) := by decide +kernel
theorem dX4_motionsOf_14 : decode cX4_motionsOf 14 = .ok (.iload_n 1, 1) := by decide +kernel
theorem dX4_motionsOf_15 : decode cX4_motionsOf 15 = .ok (.iaload, 1) := by decide +kernel
theorem dX4_motionsOf_16 : decode cX4_motionsOf 16 = .ok (.goto 4, 3) := by decide +kernel
theorem dX4_motionsOf_19 : decode cX4_motionsOf 19 = .ok (.iconst 0, 1) := by decide +kernel
theorem dX4_motionsOf_20 : decode cX4_motionsOf 20 = .ok (.ireturn, 1) := by decide +kernel
theorem dX4_ticksOf_0 : decode cX4_ticksOf 0 = .ok (.iload_n 1, 1) := by decide +kernel
theorem dX4_ticksOf_1 : decode cX4_ticksOf 1 = .ok (.ifCond .lt 18, 3) := by decide +kernel
theorem dX4_ticksOf_4 : decode cX4_ticksOf 4 = .ok (.iload_n 1, 1) := by decide +kernel
theorem dX4_ticksOf_5 : decode cX4_ticksOf 5 = .ok (.bipush 26, 2) := by decide +kernel
theorem dX4_ticksOf_7 : decode cX4_ticksOf 7 = .ok (.if_icmp .ge 12, 3) := by decide +kernel
theorem dX4_ticksOf_10 : decode cX4_ticksOf 10 = .ok (.aload_n 0, 1) := by decide +kernel
theorem dX4_ticksOf_11 : decode cX4_ticksOf 11 = .ok (.getfield 15, 3) := by decide +kernel
theorem dX4_ticksOf_14 : decode cX4_ticksOf 14 = .ok (.iload_n 1, 1) := by decide +kernel
theorem dX4_ticksOf_15 : decode cX4_ticksOf 15 = .ok (.iaload, 1) := by decide +kernel
theorem dX4_ticksOf_16 : decode cX4_ticksOf 16 = .ok (.goto 4, 3) := by decide +kernel
theorem dX4_ticksOf_19 : decode cX4_ticksOf 19 = .ok (.iconst 0, 1) := by decide +kernel
theorem dX4_ticksOf_20 : decode cX4_ticksOf 20 = .ok (.ireturn, 1) := by decide +kernel
theorem dX4_read_0 : decode cX4_read 0 = .ok (.aload_n 0, 1) := by decide +kernel
theorem dX4_read_1 : decode cX4_read 1 = .ok (.iconst 0, 1) := by decide +kernel
theorem dX4_read_2 : decode cX4_read 2 = .ok (.putfield 18, 3) := by decide +kernel
theorem dX4_read_5 : decode cX4_read 5 = .ok (.aload_n 0, 1) := by decide +kernel
theorem dX4_read_6 : decode cX4_read 6 = .ok (.iconst 0, 1) := by decide +kernel
theorem dX4_read_7 : decode cX4_read 7 = .ok (.putfield 22, 3) := by decide +kernel
theorem dX4_read_10 : decode cX4_read 10 = .ok (.iconst 0, 1) := by decide +kernel
theorem dX4_read_11 : decode cX4_read 11 = .ok (.istore_n 3, 1) := by decide +kernel
theorem dX4_read_12 : decode cX4_read 12 = .ok (.iload_n 3, 1) := by decide +kernel
theorem dX4_read_13 : decode cX4_read 13 = .ok (.iload_n 2, 1) := by decide +kernel
theorem dX4_read_14 : decode cX4_read 14 = .ok (.if_icmp .ge 27, 3) := by decide +kernel
theorem dX4_read_17 : decode cX4_read 17 = .ok (.iload_n 3, 1) := by decide +kernel
theorem dX4_read_18 : decode cX4_read 18 = .ok (.aload_n 1, 1) := by decide +kernel
theorem dX4_read_19 : decode cX4_read 19 = .ok (.arraylength, 1) := by decide +kernel
theorem dX4_read_20 : decode cX4_read 20 = .ok (.if_icmp .ge 21, 3) := by decide +kernel
theorem dX4_read_23 : decode cX4_read 23 = .ok (.aload_n 0, 1) := by decide +kernel
theorem dX4_read_24 : decode cX4_read 24 = .ok (.aload_n 1, 1) := by decide +kernel
theorem dX4_read_25 : decode cX4_read 25 = .ok (.iload_n 3, 1) := by decide +kernel
theorem dX4_read_26 : decode cX4_read 26 = .ok (.iaload, 1) := by decide +kernel
theorem dX4_read_27 : decode cX4_read 27 = .ok (.invokevirtual 25, 3) := by decide +kernel
theorem dX4_read_30 : decode cX4_read 30 = .ok (.ifCond .ne 5, 3) := by decide +kernel
theorem dX4_read_33 : decode cX4_read 33 = .ok (.iload_n 3, 1) := by decide +kernel
theorem dX4_read_34 : decode cX4_read 34 = .ok (.ireturn, 1) := by decide +kernel
theorem dX4_read_35 : decode cX4_read 35 = .ok (.iinc 3 1, 3) := by decide +kernel
theorem dX4_read_38 : decode cX4_read 38 = .ok (.goto (-26), 3) := by decide +kernel
theorem dX4_read_41 : decode cX4_read 41 = .ok (.aload_n 0, 1) := by decide +kernel
theorem dX4_read_42 : decode cX4_read 42 = .ok (.getfield 22, 3) := by decide +kernel
theorem dX4_read_45 : decode cX4_read 45 = .ok (.ifCond .ne 7, 3) := by decide +kernel
theorem dX4_read_48 : decode cX4_read 48 = .ok (.iconst (-1), 1) := by decide +kernel
theorem dX4_read_49 : decode cX4_read 49 = .ok (.goto 4, 3) := by decide +kernel
theorem dX4_read_52 : decode cX4_read 52 = .ok (.iload_n 2, 1) := by decide +kernel
theorem dX4_read_53 : decode cX4_read 53 = .ok (.ireturn, 1) := by decide +kernel
theorem dX4_accepts_0 : decode cX4_accepts 0 = .ok (.aload_n 0, 1) := by decide +kernel
theorem dX4_accepts_1 : decode cX4_accepts 1 = .ok (.getfield 22, 3) := by decide +kernel
theorem dX4_accepts_4 : decode cX4_accepts 4 = .ok (.tableswitch 116 0 3 #[32, 52, 72, 93], 32) := by decide +kernel
theorem dX4_accepts_36 : decode cX4_accepts 36 = .ok (.iload_n 1, 1) := by decide +kernel
theorem dX4_accepts_37 : decode cX4_accepts 37 = .ok (.bipush 32, 2) := by decide +kernel
theorem dX4_accepts_39 : decode cX4_accepts 39 = .ok (.if_icmp .eq 11, 3) := by decide +kernel
theorem dX4_accepts_42 : decode cX4_accepts 42 = .ok (.aload_n 0, 1) := by decide +kernel
theorem dX4_accepts_43 : decode cX4_accepts 43 = .ok (.iload_n 1, 1) := by decide +kernel
theorem dX4_accepts_44 : decode cX4_accepts 44 = .ok (.invokevirtual 29, 3) := by decide +kernel
theorem dX4_accepts_47 : decode cX4_accepts 47 = .ok (.ifCond .eq 7, 3) := by decide +kernel
theorem dX4_accepts_50 : decode cX4_accepts 50 = .ok (.iconst 1, 1) := by decide +kernel
theorem dX4_accepts_51 : decode cX4_accepts 51 = .ok (.goto 4, 3) := by decide +kernel
theorem dX4_accepts_54 : decode cX4_accepts 54 = .ok (.iconst 0, 1) := by decide +kernel
theorem dX4_accepts_55 : decode cX4_accepts 55 = .ok (.ireturn, 1) := by decide +kernel
theorem dX4_accepts_56 : decode cX4_accepts 56 = .ok (.iload_n 1, 1) := by decide +kernel
theorem dX4_accepts_57 : decode cX4_accepts 57 = .ok (.bipush 32, 2) := by decide +kernel
theorem dX4_accepts_59 : decode cX4_accepts 59 = .ok (.if_icmp .eq 11, 3) := by decide +kernel
theorem dX4_accepts_62 : decode cX4_accepts 62 = .ok (.aload_n 0, 1) := by decide +kernel
theorem dX4_accepts_63 : decode cX4_accepts 63 = .ok (.iload_n 1, 1) := by decide +kernel
theorem dX4_accepts_64 : decode cX4_accepts 64 = .ok (.invokevirtual 32, 3) := by decide +kernel
theorem dX4_accepts_67 : decode cX4_accepts 67 = .ok (.ifCond .eq 7, 3) := by decide +kernel
theorem dX4_accepts_70 : decode cX4_accepts 70 = .ok (.iconst 1, 1) := by decide +kernel
theorem dX4_accepts_71 : decode cX4_accepts 71 = .ok (.goto 4, 3) := by decide +kernel
theorem dX4_accepts_74 : decode cX4_accepts 74 = .ok (.iconst 0, 1) := by decide +kernel
theorem dX4_accepts_75 : decode cX4_accepts 75 = .ok (.ireturn, 1) := by decide +kernel
theorem dX4_accepts_76 : decode cX4_accepts 76 = .ok (.iload_n 1, 1) := by decide +kernel
theorem dX4_accepts_77 : decode cX4_accepts 77 = .ok (.bipush 32, 2) := by decide +kernel
theorem dX4_accepts_79 : decode cX4_accepts 79 = .ok (.if_icmp .eq 12, 3) := by decide +kernel
theorem dX4_accepts_82 : decode cX4_accepts 82 = .ok (.aload_n 0, 1) := by decide +kernel
theorem dX4_accepts_83 : decode cX4_accepts 83 = .ok (.iload_n 1, 1) := by decide +kernel
theorem dX4_accepts_84 : decode cX4_accepts 84 = .ok (.iconst 3, 1) := by decide +kernel
theorem dX4_accepts_85 : decode cX4_accepts 85 = .ok (.invokevirtual 35, 3) := by decide +kernel
theorem dX4_accepts_88 : decode cX4_accepts 88 = .ok (.ifCond .eq 7, 3) := by decide +kernel
theorem dX4_accepts_91 : decode cX4_accepts 91 = .ok (.iconst 1, 1) := by decide +kernel
theorem dX4_accepts_92 : decode cX4_accepts 92 = .ok (.goto 4, 3) := by decide +kernel
theorem dX4_accepts_95 : decode cX4_accepts 95 = .ok (.iconst 0, 1) := by decide +kernel
theorem dX4_accepts_96 : decode cX4_accepts 96 = .ok (.ireturn, 1) := by decide +kernel
theorem dX4_accepts_97 : decode cX4_accepts 97 = .ok (.aload_n 0, 1) := by decide +kernel
theorem dX4_accepts_98 : decode cX4_accepts 98 = .ok (.iload_n 1, 1) := by decide +kernel
theorem dX4_accepts_99 : decode cX4_accepts 99 = .ok (.iconst 4, 1) := by decide +kernel
theorem dX4_accepts_100 : decode cX4_accepts 100 = .ok (.invokevirtual 35, 3) := by decide +kernel
theorem dX4_accepts_103 : decode cX4_accepts 103 = .ok (.ifCond .ne 11, 3) := by decide +kernel
theorem dX4_accepts_106 : decode cX4_accepts 106 = .ok (.aload_n 0, 1) := by decide +kernel
theorem dX4_accepts_107 : decode cX4_accepts 107 = .ok (.iload_n 1, 1) := by decide +kernel
theorem dX4_accepts_108 : decode cX4_accepts 108 = .ok (.invokevirtual 39, 3) := by decide +kernel
theorem dX4_accepts_111 : decode cX4_accepts 111 = .ok (.ifCond .eq 7, 3) := by decide +kernel
theorem dX4_accepts_114 : decode cX4_accepts 114 = .ok (.iconst 1, 1) := by decide +kernel
theorem dX4_accepts_115 : decode cX4_accepts 115 = .ok (.goto 4, 3) := by decide +kernel
theorem dX4_accepts_118 : decode cX4_accepts 118 = .ok (.iconst 0, 1) := by decide +kernel
theorem dX4_accepts_119 : decode cX4_accepts 119 = .ok (.ireturn, 1) := by decide +kernel
theorem dX4_accepts_120 : decode cX4_accepts 120 = .ok (.aload_n 0, 1) := by decide +kernel
theorem dX4_accepts_121 : decode cX4_accepts 121 = .ok (.iload_n 1, 1) := by decide +kernel
theorem dX4_accepts_122 : decode cX4_accepts 122 = .ok (.invokevirtual 39, 3) := by decide +kernel
theorem dX4_accepts_125 : decode cX4_accepts 125 = .ok (.ireturn, 1) := by decide +kernel
theorem dX4_acceptsLetter_0 : decode cX4_acceptsLetter 0 = .ok (.iload_n 1, 1) := by decide +kernel
theorem dX4_acceptsLetter_1 : decode cX4_acceptsLetter 1 = .ok (.lookupswitch 93 #[(98, 59), (101, 67), (104, 51), (115, 76), (119, 85)], 51) := by decide +kernel
theorem dX4_acceptsLetter_52 : decode cX4_acceptsLetter 52 = .ok (.aload_n 0, 1) := by decide +kernel
theorem dX4_acceptsLetter_53 : decode cX4_acceptsLetter 53 = .ok (.iconst 1, 1) := by decide +kernel
theorem dX4_acceptsLetter_54 : decode cX4_acceptsLetter 54 = .ok (.putfield 42, 3) := by decide +kernel
theorem dX4_acceptsLetter_57 : decode cX4_acceptsLetter 57 = .ok (.goto 39, 3) := by decide +kernel
theorem dX4_acceptsLetter_60 : decode cX4_acceptsLetter 60 = .ok (.aload_n 0, 1) := by decide +kernel
theorem dX4_acceptsLetter_61 : decode cX4_acceptsLetter 61 = .ok (.iconst 4, 1) := by decide +kernel
theorem dX4_acceptsLetter_62 : decode cX4_acceptsLetter 62 = .ok (.putfield 42, 3) := by decide +kernel
theorem dX4_acceptsLetter_65 : decode cX4_acceptsLetter 65 = .ok (.goto 31, 3) := by decide +kernel
theorem dX4_acceptsLetter_68 : decode cX4_acceptsLetter 68 = .ok (.aload_n 0, 1) := by decide +kernel
theorem dX4_acceptsLetter_69 : decode cX4_acceptsLetter 69 = .ok (.bipush 16, 2) := by decide +kernel
theorem dX4_acceptsLetter_71 : decode cX4_acceptsLetter 71 = .ok (.putfield 42, 3) := by decide +kernel
theorem dX4_acceptsLetter_74 : decode cX4_acceptsLetter 74 = .ok (.goto 22, 3) := by decide +kernel
theorem dX4_acceptsLetter_77 : decode cX4_acceptsLetter 77 = .ok (.aload_n 0, 1) := by decide +kernel
theorem dX4_acceptsLetter_78 : decode cX4_acceptsLetter 78 = .ok (.bipush 64, 2) := by decide +kernel
theorem dX4_acceptsLetter_80 : decode cX4_acceptsLetter 80 = .ok (.putfield 42, 3) := by decide +kernel
theorem dX4_acceptsLetter_83 : decode cX4_acceptsLetter 83 = .ok (.goto 13, 3) := by decide +kernel
theorem dX4_acceptsLetter_86 : decode cX4_acceptsLetter 86 = .ok (.aload_n 0, 1) := by decide +kernel
theorem dX4_acceptsLetter_87 : decode cX4_acceptsLetter 87 = .ok (.iconst 0, 1) := by decide +kernel
theorem dX4_acceptsLetter_88 : decode cX4_acceptsLetter 88 = .ok (.putfield 42, 3) := by decide +kernel
theorem dX4_acceptsLetter_91 : decode cX4_acceptsLetter 91 = .ok (.goto 5, 3) := by decide +kernel
theorem dX4_acceptsLetter_94 : decode cX4_acceptsLetter 94 = .ok (.iconst 0, 1) := by decide +kernel
theorem dX4_acceptsLetter_95 : decode cX4_acceptsLetter 95 = .ok (.ireturn, 1) := by decide +kernel
theorem dX4_acceptsLetter_96 : decode cX4_acceptsLetter 96 = .ok (.aload_n 0, 1) := by decide +kernel
theorem dX4_acceptsLetter_97 : decode cX4_acceptsLetter 97 = .ok (.iconst 0, 1) := by decide +kernel
theorem dX4_acceptsLetter_98 : decode cX4_acceptsLetter 98 = .ok (.putfield 45, 3) := by decide +kernel
theorem dX4_acceptsLetter_101 : decode cX4_acceptsLetter 101 = .ok (.aload_n 0, 1) := by decide +kernel
theorem dX4_acceptsLetter_102 : decode cX4_acceptsLetter 102 = .ok (.iload_n 1, 1) := by decide +kernel
theorem dX4_acceptsLetter_103 : decode cX4_acceptsLetter 103 = .ok (.bipush 119, 2) := by decide +kernel
theorem dX4_acceptsLetter_105 : decode cX4_acceptsLetter 105 = .ok (.if_icmp .ne 7, 3) := by decide +kernel
theorem dX4_acceptsLetter_108 : decode cX4_acceptsLetter 108 = .ok (.iconst 2, 1) := by decide +kernel
theorem dX4_acceptsLetter_109 : decode cX4_acceptsLetter 109 = .ok (.goto 4, 3) := by decide +kernel
theorem dX4_acceptsLetter_112 : decode cX4_acceptsLetter 112 = .ok (.iconst 1, 1) := by decide +kernel
theorem dX4_acceptsLetter_113 : decode cX4_acceptsLetter 113 = .ok (.putfield 22, 3) := by decide +kernel
theorem dX4_acceptsLetter_116 : decode cX4_acceptsLetter 116 = .ok (.iconst 1, 1) := by decide +kernel
theorem dX4_acceptsLetter_117 : decode cX4_acceptsLetter 117 = .ok (.ireturn, 1) := by decide +kernel
theorem dX4_acceptsSign_0 : decode cX4_acceptsSign 0 = .ok (.iload_n 1, 1) := by decide +kernel
theorem dX4_acceptsSign_1 : decode cX4_acceptsSign 1 = .ok (.bipush 43, 2) := by decide +kernel
theorem dX4_acceptsSign_3 : decode cX4_acceptsSign 3 = .ok (.if_icmp .eq 11, 3) := by decide +kernel
theorem dX4_acceptsSign_6 : decode cX4_acceptsSign 6 = .ok (.iload_n 1, 1) := by decide +kernel
theorem dX4_acceptsSign_7 : decode cX4_acceptsSign 7 = .ok (.bipush 45, 2) := by decide +kernel
theorem dX4_acceptsSign_9 : decode cX4_acceptsSign 9 = .ok (.if_icmp .eq 5, 3) := by decide +kernel
theorem dX4_acceptsSign_12 : decode cX4_acceptsSign 12 = .ok (.iconst 0, 1) := by decide +kernel
theorem dX4_acceptsSign_13 : decode cX4_acceptsSign 13 = .ok (.ireturn, 1) := by decide +kernel
theorem dX4_acceptsSign_14 : decode cX4_acceptsSign 14 = .ok (.iload_n 1, 1) := by decide +kernel
theorem dX4_acceptsSign_15 : decode cX4_acceptsSign 15 = .ok (.bipush 45, 2) := by decide +kernel
theorem dX4_acceptsSign_17 : decode cX4_acceptsSign 17 = .ok (.if_icmp .ne 13, 3) := by decide +kernel
theorem dX4_acceptsSign_20 : decode cX4_acceptsSign 20 = .ok (.aload_n 0, 1) := by decide +kernel
theorem dX4_acceptsSign_21 : decode cX4_acceptsSign 21 = .ok (.dup, 1) := by decide +kernel
theorem dX4_acceptsSign_22 : decode cX4_acceptsSign 22 = .ok (.getfield 42, 3) := by decide +kernel
theorem dX4_acceptsSign_25 : decode cX4_acceptsSign 25 = .ok (.iconst 1, 1) := by decide +kernel
theorem dX4_acceptsSign_26 : decode cX4_acceptsSign 26 = .ok (.ishl, 1) := by decide +kernel
theorem dX4_acceptsSign_27 : decode cX4_acceptsSign 27 = .ok (.putfield 42, 3) := by decide +kernel
theorem dX4_acceptsSign_30 : decode cX4_acceptsSign 30 = .ok (.aload_n 0, 1) := by decide +kernel
theorem dX4_acceptsSign_31 : decode cX4_acceptsSign 31 = .ok (.iconst 2, 1) := by decide +kernel
theorem dX4_acceptsSign_32 : decode cX4_acceptsSign 32 = .ok (.putfield 22, 3) := by decide +kernel
theorem dX4_acceptsSign_35 : decode cX4_acceptsSign 35 = .ok (.iconst 1, 1) := by decide +kernel
theorem dX4_acceptsSign_36 : decode cX4_acceptsSign 36 = .ok (.ireturn, 1) := by decide +kernel
theorem dX4_acceptsDigit_0 : decode cX4_acceptsDigit 0 = .ok (.iload_n 1, 1) := by decide +kernel
theorem dX4_acceptsDigit_1 : decode cX4_acceptsDigit 1 = .ok (.bipush 48, 2) := by decide +kernel
theorem dX4_acceptsDigit_3 : decode cX4_acceptsDigit 3 = .ok (.if_icmp .lt 9, 3) := by decide +kernel
theorem dX4_acceptsDigit_6 : decode cX4_acceptsDigit 6 = .ok (.iload_n 1, 1) := by decide +kernel
theorem dX4_acceptsDigit_7 : decode cX4_acceptsDigit 7 = .ok (.bipush 57, 2) := by decide +kernel
theorem dX4_acceptsDigit_9 : decode cX4_acceptsDigit 9 = .ok (.if_icmp .le 5, 3) := by decide +kernel
theorem dX4_acceptsDigit_12 : decode cX4_acceptsDigit 12 = .ok (.iconst 0, 1) := by decide +kernel
theorem dX4_acceptsDigit_13 : decode cX4_acceptsDigit 13 = .ok (.ireturn, 1) := by decide +kernel
theorem dX4_acceptsDigit_14 : decode cX4_acceptsDigit 14 = .ok (.aload_n 0, 1) := by decide +kernel
theorem dX4_acceptsDigit_15 : decode cX4_acceptsDigit 15 = .ok (.aload_n 0, 1) := by decide +kernel
theorem dX4_acceptsDigit_16 : decode cX4_acceptsDigit 16 = .ok (.getfield 45, 3) := by decide +kernel
theorem dX4_acceptsDigit_19 : decode cX4_acceptsDigit 19 = .ok (.bipush 10, 2) := by decide +kernel
theorem dX4_acceptsDigit_21 : decode cX4_acceptsDigit 21 = .ok (.imul, 1) := by decide +kernel
theorem dX4_acceptsDigit_22 : decode cX4_acceptsDigit 22 = .ok (.iload_n 1, 1) := by decide +kernel
theorem dX4_acceptsDigit_23 : decode cX4_acceptsDigit 23 = .ok (.bipush 48, 2) := by decide +kernel
theorem dX4_acceptsDigit_25 : decode cX4_acceptsDigit 25 = .ok (.isub, 1) := by decide +kernel
theorem dX4_acceptsDigit_26 : decode cX4_acceptsDigit 26 = .ok (.iadd, 1) := by decide +kernel
theorem dX4_acceptsDigit_27 : decode cX4_acceptsDigit 27 = .ok (.putfield 45, 3) := by decide +kernel
theorem dX4_acceptsDigit_30 : decode cX4_acceptsDigit 30 = .ok (.aload_n 0, 1) := by decide +kernel
theorem dX4_acceptsDigit_31 : decode cX4_acceptsDigit 31 = .ok (.iload_n 2, 1) := by decide +kernel
theorem dX4_acceptsDigit_32 : decode cX4_acceptsDigit 32 = .ok (.putfield 22, 3) := by decide +kernel
theorem dX4_acceptsDigit_35 : decode cX4_acceptsDigit 35 = .ok (.iconst 1, 1) := by decide +kernel
theorem dX4_acceptsDigit_36 : decode cX4_acceptsDigit 36 = .ok (.ireturn, 1) := by decide +kernel
theorem dX4_acceptsBehindNumber_0 : decode cX4_acceptsBehindNumber 0 = .ok (.aload_n 0, 1) := by decide +kernel
theorem dX4_acceptsBehindNumber_1 : decode cX4_acceptsBehindNumber 1 = .ok (.getfield 45, 3) := by decide +kernel
theorem dX4_acceptsBehindNumber_4 : decode cX4_acceptsBehindNumber 4 = .ok (.ifCond .ne 5, 3) := by decide +kernel
theorem dX4_acceptsBehindNumber_7 : decode cX4_acceptsBehindNumber 7 = .ok (.iconst 0, 1) := by decide +kernel
theorem dX4_acceptsBehindNumber_8 : decode cX4_acceptsBehindNumber 8 = .ok (.ireturn, 1) := by decide +kernel
theorem dX4_acceptsBehindNumber_9 : decode cX4_acceptsBehindNumber 9 = .ok (.iload_n 1, 1) := by decide +kernel
theorem dX4_acceptsBehindNumber_10 : decode cX4_acceptsBehindNumber 10 = .ok (.bipush 32, 2) := by decide +kernel
theorem dX4_acceptsBehindNumber_12 : decode cX4_acceptsBehindNumber 12 = .ok (.if_icmp .ne 10, 3) := by decide +kernel
theorem dX4_acceptsBehindNumber_15 : decode cX4_acceptsBehindNumber 15 = .ok (.aload_n 0, 1) := by decide +kernel
theorem dX4_acceptsBehindNumber_16 : decode cX4_acceptsBehindNumber 16 = .ok (.iconst 4, 1) := by decide +kernel
theorem dX4_acceptsBehindNumber_17 : decode cX4_acceptsBehindNumber 17 = .ok (.putfield 22, 3) := by decide +kernel
theorem dX4_acceptsBehindNumber_20 : decode cX4_acceptsBehindNumber 20 = .ok (.iconst 1, 1) := by decide +kernel
theorem dX4_acceptsBehindNumber_21 : decode cX4_acceptsBehindNumber 21 = .ok (.ireturn, 1) := by decide +kernel
theorem dX4_acceptsBehindNumber_22 : decode cX4_acceptsBehindNumber 22 = .ok (.iload_n 1, 1) := by decide +kernel
theorem dX4_acceptsBehindNumber_23 : decode cX4_acceptsBehindNumber 23 = .ok (.bipush 59, 2) := by decide +kernel
theorem dX4_acceptsBehindNumber_25 : decode cX4_acceptsBehindNumber 25 = .ok (.if_icmp .ne 14, 3) := by decide +kernel
theorem dX4_acceptsBehindNumber_28 : decode cX4_acceptsBehindNumber 28 = .ok (.aload_n 0, 1) := by decide +kernel
theorem dX4_acceptsBehindNumber_29 : decode cX4_acceptsBehindNumber 29 = .ok (.invokevirtual 48, 3) := by decide +kernel
theorem dX4_acceptsBehindNumber_32 : decode cX4_acceptsBehindNumber 32 = .ok (.ifCond .eq 7, 3) := by decide +kernel
theorem dX4_acceptsBehindNumber_35 : decode cX4_acceptsBehindNumber 35 = .ok (.iconst 1, 1) := by decide +kernel
theorem dX4_acceptsBehindNumber_36 : decode cX4_acceptsBehindNumber 36 = .ok (.goto 4, 3) := by decide +kernel
theorem dX4_acceptsBehindNumber_39 : decode cX4_acceptsBehindNumber 39 = .ok (.iconst 0, 1) := by decide +kernel
theorem dX4_acceptsBehindNumber_40 : decode cX4_acceptsBehindNumber 40 = .ok (.ireturn, 1) := by decide +kernel
theorem dX4_keepOrder_0 : decode cX4_keepOrder 0 = .ok (.aload_n 0, 1) := by decide +kernel
theorem dX4_keepOrder_1 : decode cX4_keepOrder 1 = .ok (.getfield 18, 3) := by decide +kernel
theorem dX4_keepOrder_4 : decode cX4_keepOrder 4 = .ok (.ifCond .lt 12, 3) := by decide +kernel
theorem dX4_keepOrder_7 : decode cX4_keepOrder 7 = .ok (.aload_n 0, 1) := by decide +kernel
theorem dX4_keepOrder_8 : decode cX4_keepOrder 8 = .ok (.getfield 18, 3) := by decide +kernel
theorem dX4_keepOrder_11 : decode cX4_keepOrder 11 = .ok (.bipush 26, 2) := by decide +kernel
theorem dX4_keepOrder_13 : decode cX4_keepOrder 13 = .ok (.if_icmp .lt 5, 3) := by decide +kernel
theorem dX4_keepOrder_16 : decode cX4_keepOrder 16 = .ok (.iconst 0, 1) := by decide +kernel
theorem dX4_keepOrder_17 : decode cX4_keepOrder 17 = .ok (.ireturn, 1) := by decide +kernel
theorem dX4_keepOrder_18 : decode cX4_keepOrder 18 = .ok (.aload_n 0, 1) := by decide +kernel
theorem dX4_keepOrder_19 : decode cX4_keepOrder 19 = .ok (.getfield 11, 3) := by decide +kernel
theorem dX4_keepOrder_22 : decode cX4_keepOrder 22 = .ok (.aload_n 0, 1) := by decide +kernel
theorem dX4_keepOrder_23 : decode cX4_keepOrder 23 = .ok (.getfield 18, 3) := by decide +kernel
theorem dX4_keepOrder_26 : decode cX4_keepOrder 26 = .ok (.aload_n 0, 1) := by decide +kernel
theorem dX4_keepOrder_27 : decode cX4_keepOrder 27 = .ok (.getfield 42, 3) := by decide +kernel
theorem dX4_keepOrder_30 : decode cX4_keepOrder 30 = .ok (.iastore, 1) := by decide +kernel
theorem dX4_keepOrder_31 : decode cX4_keepOrder 31 = .ok (.aload_n 0, 1) := by decide +kernel
theorem dX4_keepOrder_32 : decode cX4_keepOrder 32 = .ok (.getfield 15, 3) := by decide +kernel
theorem dX4_keepOrder_35 : decode cX4_keepOrder 35 = .ok (.aload_n 0, 1) := by decide +kernel
theorem dX4_keepOrder_36 : decode cX4_keepOrder 36 = .ok (.getfield 18, 3) := by decide +kernel
theorem dX4_keepOrder_39 : decode cX4_keepOrder 39 = .ok (.aload_n 0, 1) := by decide +kernel
theorem dX4_keepOrder_40 : decode cX4_keepOrder 40 = .ok (.getfield 45, 3) := by decide +kernel
theorem dX4_keepOrder_43 : decode cX4_keepOrder 43 = .ok (.iastore, 1) := by decide +kernel
theorem dX4_keepOrder_44 : decode cX4_keepOrder 44 = .ok (.aload_n 0, 1) := by decide +kernel
theorem dX4_keepOrder_45 : decode cX4_keepOrder 45 = .ok (.dup, 1) := by decide +kernel
theorem dX4_keepOrder_46 : decode cX4_keepOrder 46 = .ok (.getfield 18, 3) := by decide +kernel
theorem dX4_keepOrder_49 : decode cX4_keepOrder 49 = .ok (.iconst 1, 1) := by decide +kernel
theorem dX4_keepOrder_50 : decode cX4_keepOrder 50 = .ok (.iadd, 1) := by decide +kernel
theorem dX4_keepOrder_51 : decode cX4_keepOrder 51 = .ok (.putfield 18, 3) := by decide +kernel
theorem dX4_keepOrder_54 : decode cX4_keepOrder 54 = .ok (.aload_n 0, 1) := by decide +kernel
theorem dX4_keepOrder_55 : decode cX4_keepOrder 55 = .ok (.iconst 0, 1) := by decide +kernel
theorem dX4_keepOrder_56 : decode cX4_keepOrder 56 = .ok (.putfield 22, 3) := by decide +kernel
theorem dX4_keepOrder_59 : decode cX4_keepOrder 59 = .ok (.iconst 1, 1) := by decide +kernel
theorem dX4_keepOrder_60 : decode cX4_keepOrder 60 = .ok (.ireturn, 1) := by decide +kernel
theorem dX5_init_0 : decode cX5_init 0 = .ok (.aload_n 0, 1) := by decide +kernel
theorem dX5_init_1 : decode cX5_init 1 = .ok (.invokespecial 3, 3) := by decide +kernel
theorem dX5_init_4 : decode cX5_init 4 = .ok (.aload_n 0, 1) := by decide +kernel
theorem dX5_init_5 : decode cX5_init 5 = .ok (.new 9, 3) := by decide +kernel
theorem dX5_init_8 : decode cX5_init 8 = .ok (.dup, 1) := by decide +kernel
theorem dX5_init_9 : decode cX5_init 9 = .ok (.invokespecial 11, 3) := by decide +kernel
theorem dX5_init_12 : decode cX5_init 12 = .ok (.putfield 12, 3) := by decide +kernel
theorem dX5_init_15 : decode cX5_init 15 = .ok (.aload_n 0, 1) := by decide +kernel
theorem dX5_init_16 : decode cX5_init 16 = .ok (.new 18, 3) := by decide +kernel
theorem dX5_init_19 : decode cX5_init 19 = .ok (.dup, 1) := by decide +kernel
theorem dX5_init_20 : decode cX5_init 20 = .ok (.invokespecial 20, 3) := by decide +kernel
theorem dX5_init_23 : decode cX5_init 23 = .ok (.putfield 21, 3) := by decide +kernel
theorem dX5_init_26 : decode cX5_init 26 = .ok (.aload_n 0, 1) := by decide +kernel
theorem dX5_init_27 : decode cX5_init 27 = .ok (.new 25, 3) := by decide +kernel
theorem dX5_init_30 : decode cX5_init 30 = .ok (.dup, 1) := by decide +kernel
theorem dX5_init_31 : decode cX5_init 31 = .ok (.invokespecial 27, 3) := by decide +kernel
theorem dX5_init_34 : decode cX5_init 34 = .ok (.putfield 28, 3) := by decide +kernel
theorem dX5_init_37 : decode cX5_init 37 = .ok (.aload_n 0, 1) := by decide +kernel
theorem dX5_init_38 : decode cX5_init 38 = .ok (.new 32, 3) := by decide +kernel
theorem dX5_init_41 : decode cX5_init 41 = .ok (.dup, 1) := by decide +kernel
theorem dX5_init_42 : decode cX5_init 42 = .ok (.invokespecial 34, 3) := by decide +kernel
theorem dX5_init_45 : decode cX5_init 45 = .ok (.putfield 35, 3) := by decide +kernel
theorem dX5_init_48 : decode cX5_init 48 = .ok (.aload_n 0, 1) := by decide +kernel
theorem dX5_init_49 : decode cX5_init 49 = .ok (.new 39, 3) := by decide +kernel
theorem dX5_init_52 : decode cX5_init 52 = .ok (.dup, 1) := by decide +kernel
theorem dX5_init_53 : decode cX5_init 53 = .ok (.invokespecial 41, 3) := by decide +kernel
theorem dX5_init_56 : decode cX5_init 56 = .ok (.putfield 42, 3) := by decide +kernel
theorem dX5_init_59 : decode cX5_init 59 = .ok (.return_, 1) := by decide +kernel
theorem dX5_copyFrom_0 : decode cX5_copyFrom 0 = .ok (.aload_n 0, 1) := by decide +kernel
theorem dX5_copyFrom_1 : decode cX5_copyFrom 1 = .ok (.getfield 12, 3) := by decide +kernel
theorem dX5_copyFrom_4 : decode cX5_copyFrom 4 = .ok (.aload_n 1, 1) := by decide +kernel
theorem dX5_copyFrom_5 : decode cX5_copyFrom 5 = .ok (.getfield 12, 3) := by decide +kernel
theorem dX5_copyFrom_8 : decode cX5_copyFrom 8 = .ok (.invokevirtual 46, 3) := by decide +kernel
theorem dX5_copyFrom_11 : decode cX5_copyFrom 11 = .ok (.aload_n 0, 1) := by decide +kernel
theorem dX5_copyFrom_12 : decode cX5_copyFrom 12 = .ok (.getfield 21, 3) := by decide +kernel
theorem dX5_copyFrom_15 : decode cX5_copyFrom 15 = .ok (.aload_n 1, 1) := by decide +kernel
theorem dX5_copyFrom_16 : decode cX5_copyFrom 16 = .ok (.getfield 21, 3) := by decide +kernel
theorem dX5_copyFrom_19 : decode cX5_copyFrom 19 = .ok (.invokevirtual 50, 3) := by decide +kernel
theorem dX5_copyFrom_22 : decode cX5_copyFrom 22 = .ok (.aload_n 0, 1) := by decide +kernel
theorem dX5_copyFrom_23 : decode cX5_copyFrom 23 = .ok (.getfield 28, 3) := by decide +kernel
theorem dX5_copyFrom_26 : decode cX5_copyFrom 26 = .ok (.aload_n 1, 1) := by decide +kernel
theorem dX5_copyFrom_27 : decode cX5_copyFrom 27 = .ok (.getfield 28, 3) := by decide +kernel
theorem dX5_copyFrom_30 : decode cX5_copyFrom 30 = .ok (.invokevirtual 53, 3) := by decide +kernel
theorem dX5_copyFrom_33 : decode cX5_copyFrom 33 = .ok (.aload_n 0, 1) := by decide +kernel
theorem dX5_copyFrom_34 : decode cX5_copyFrom 34 = .ok (.getfield 35, 3) := by decide +kernel
theorem dX5_copyFrom_37 : decode cX5_copyFrom 37 = .ok (.aload_n 1, 1) := by decide +kernel
theorem dX5_copyFrom_38 : decode cX5_copyFrom 38 = .ok (.getfield 35, 3) := by decide +kernel
theorem dX5_copyFrom_41 : decode cX5_copyFrom 41 = .ok (.invokevirtual 56, 3) := by decide +kernel
theorem dX5_copyFrom_44 : decode cX5_copyFrom 44 = .ok (.aload_n 0, 1) := by decide +kernel
theorem dX5_copyFrom_45 : decode cX5_copyFrom 45 = .ok (.getfield 42, 3) := by decide +kernel
theorem dX5_copyFrom_48 : decode cX5_copyFrom 48 = .ok (.aload_n 1, 1) := by decide +kernel
theorem dX5_copyFrom_49 : decode cX5_copyFrom 49 = .ok (.getfield 42, 3) := by decide +kernel
theorem dX5_copyFrom_52 : decode cX5_copyFrom 52 = .ok (.invokevirtual 59, 3) := by decide +kernel
theorem dX5_copyFrom_55 : decode cX5_copyFrom 55 = .ok (.aload_n 0, 1) := by decide +kernel
theorem dX5_copyFrom_56 : decode cX5_copyFrom 56 = .ok (.aload_n 1, 1) := by decide +kernel
theorem dX5_copyFrom_57 : decode cX5_copyFrom 57 = .ok (.getfield 62, 3) := by decide +kernel
theorem dX5_copyFrom_60 : decode cX5_copyFrom 60 = .ok (.putfield 62, 3) := by decide +kernel
theorem dX5_copyFrom_63 : decode cX5_copyFrom 63 = .ok (.aload_n 0, 1) := by decide +kernel
theorem dX5_copyFrom_64 : decode cX5_copyFrom 64 = .ok (.aload_n 1, 1) := by decide +kernel
theorem dX5_copyFrom_65 : decode cX5_copyFrom 65 = .ok (.getfield 66, 3) := by decide +kernel
theorem dX5_copyFrom_68 : decode cX5_copyFrom 68 = .ok (.putfield 66, 3) := by decide +kernel
theorem dX5_copyFrom_71 : decode cX5_copyFrom 71 = .ok (.aload_n 0, 1) := by decide +kernel
theorem dX5_copyFrom_72 : decode cX5_copyFrom 72 = .ok (.aload_n 1, 1) := by decide +kernel
theorem dX5_copyFrom_73 : decode cX5_copyFrom 73 = .ok (.getfield 69, 3) := by decide +kernel
theorem dX5_copyFrom_76 : decode cX5_copyFrom 76 = .ok (.putfield 69, 3) := by decide +kernel
theorem dX5_copyFrom_79 : decode cX5_copyFrom 79 = .ok (.aload_n 0, 1) := by decide +kernel
theorem dX5_copyFrom_80 : decode cX5_copyFrom 80 = .ok (.aload_n 1, 1) := by decide +kernel
theorem dX5_copyFrom_81 : decode cX5_copyFrom 81 = .ok (.getfield 72, 3) := by decide +kernel
theorem dX5_copyFrom_84 : decode cX5_copyFrom 84 = .ok (.putfield 72, 3) := by decide +kernel
theorem dX5_copyFrom_87 : decode cX5_copyFrom 87 = .ok (.return_, 1) := by decide +kernel
theorem dX5_countTick_0 : decode cX5_countTick 0 = .ok (.aload_n 0, 1) := by decide +kernel
theorem dX5_countTick_1 : decode cX5_countTick 1 = .ok (.getfield 42, 3) := by decide +kernel
theorem dX5_countTick_4 : decode cX5_countTick 4 = .ok (.aload_n 0, 1) := by decide +kernel
theorem dX5_countTick_5 : decode cX5_countTick 5 = .ok (.getfield 62, 3) := by decide +kernel
theorem dX5_countTick_8 : decode cX5_countTick 8 = .ok (.invokevirtual 75, 3) := by decide +kernel
theorem dX5_countTick_11 : decode cX5_countTick 11 = .ok (.iload_n 1, 1) := by decide +kernel
theorem dX5_countTick_12 : decode cX5_countTick 12 = .ok (.iconst 4, 1) := by decide +kernel
theorem dX5_countTick_13 : decode cX5_countTick 13 = .ok (.if_icmp .ge 21, 3) := by decide +kernel
theorem dX5_countTick_16 : decode cX5_countTick 16 = .ok (.aload_n 0, 1) := by decide +kernel
theorem dX5_countTick_17 : decode cX5_countTick 17 = .ok (.getfield 12, 3) := by decide +kernel
theorem dX5_countTick_20 : decode cX5_countTick 20 = .ok (.getfield 79, 3) := by decide +kernel
theorem dX5_countTick_23 : decode cX5_countTick 23 = .ok (.iconst 4, 1) := by decide +kernel
theorem dX5_countTick_24 : decode cX5_countTick 24 = .ok (.if_icmp .ne 10, 3) := by decide +kernel
theorem dX5_countTick_27 : decode cX5_countTick 27 = .ok (.aload_n 0, 1) := by decide +kernel

