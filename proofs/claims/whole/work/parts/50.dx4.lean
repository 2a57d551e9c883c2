theorem dX8_tick_76 : decode cX8_tick 76 = .ok (.iload 4, 2) := by decide +kernel
theorem dX8_tick_78 : decode cX8_tick 78 = .ok (.invokevirtual 156, 3) := by decide +kernel
theorem dX8_tick_81 : decode cX8_tick 81 = .ok (.ifCond .eq 22, 3) := by decide +kernel
theorem dX8_tick_84 : decode cX8_tick 84 = .ok (.aload_n 0, 1) := by decide +kernel
theorem dX8_tick_85 : decode cX8_tick 85 = .ok (.getfield 10, 3) := by decide +kernel
theorem dX8_tick_88 : decode cX8_tick 88 = .ok (.getfield 117, 3) := by decide +kernel
theorem dX8_tick_91 : decode cX8_tick 91 = .ok (.iload 4, 2) := by decide +kernel
theorem dX8_tick_93 : decode cX8_tick 93 = .ok (.aload_n 0, 1) := by decide +kernel
theorem dX8_tick_94 : decode cX8_tick 94 = .ok (.invokevirtual 312, 3) := by decide +kernel
theorem dX8_tick_97 : decode cX8_tick 97 = .ok (.invokevirtual 316, 3) := by decide +kernel
theorem dX8_tick_100 : decode cX8_tick 100 = .ok (.goto 41, 3) := by decide +kernel
theorem dX8_tick_103 : decode cX8_tick 103 = .ok (.iload_n 3, 1) := by decide +kernel
theorem dX8_tick_104 : decode cX8_tick 104 = .ok (.iload 5, 2) := by decide +kernel
theorem dX8_tick_106 : decode cX8_tick 106 = .ok (.ior, 1) := by decide +kernel
theorem dX8_tick_107 : decode cX8_tick 107 = .ok (.istore_n 3, 1) := by decide +kernel
theorem dX8_tick_108 : decode cX8_tick 108 = .ok (.aload_n 0, 1) := by decide +kernel
theorem dX8_tick_109 : decode cX8_tick 109 = .ok (.getfield 10, 3) := by decide +kernel
theorem dX8_tick_112 : decode cX8_tick 112 = .ok (.getfield 320, 3) := by decide +kernel
theorem dX8_tick_115 : decode cX8_tick 115 = .ok (.iload 5, 2) := by decide +kernel
theorem dX8_tick_117 : decode cX8_tick 117 = .ok (.iand, 1) := by decide +kernel
theorem dX8_tick_118 : decode cX8_tick 118 = .ok (.ifCond .ne 23, 3) := by decide +kernel
theorem dX8_tick_121 : decode cX8_tick 121 = .ok (.aload_n 0, 1) := by decide +kernel
theorem dX8_tick_122 : decode cX8_tick 122 = .ok (.getfield 10, 3) := by decide +kernel
theorem dX8_tick_125 : decode cX8_tick 125 = .ok (.getfield 199, 3) := by decide +kernel
theorem dX8_tick_128 : decode cX8_tick 128 = .ok (.aload_n 0, 1) := by decide +kernel
theorem dX8_tick_129 : decode cX8_tick 129 = .ok (.getfield 10, 3) := by decide +kernel
theorem dX8_tick_132 : decode cX8_tick 132 = .ok (.getfield 294, 3) := by decide +kernel
theorem dX8_tick_135 : decode cX8_tick 135 = .ok (.iconst 0, 1) := by decide +kernel
theorem dX8_tick_136 : decode cX8_tick 136 = .ok (.iload 4, 2) := by decide +kernel
theorem dX8_tick_138 : decode cX8_tick 138 = .ok (.invokevirtual 323, 3) := by decide +kernel
theorem dX8_tick_141 : decode cX8_tick 141 = .ok (.iinc 4 1, 3) := by decide +kernel
theorem dX8_tick_144 : decode cX8_tick 144 = .ok (.goto (-92), 3) := by decide +kernel
theorem dX8_tick_147 : decode cX8_tick 147 = .ok (.aload_n 0, 1) := by decide +kernel
theorem dX8_tick_148 : decode cX8_tick 148 = .ok (.getfield 10, 3) := by decide +kernel
theorem dX8_tick_151 : decode cX8_tick 151 = .ok (.iload_n 3, 1) := by decide +kernel
theorem dX8_tick_152 : decode cX8_tick 152 = .ok (.putfield 320, 3) := by decide +kernel
theorem dX8_tick_155 : decode cX8_tick 155 = .ok (.aload_n 0, 1) := by decide +kernel
theorem dX8_tick_156 : decode cX8_tick 156 = .ok (.aload_n 0, 1) := by decide +kernel
theorem dX8_tick_157 : decode cX8_tick 157 = .ok (.getfield 10, 3) := by decide +kernel
theorem dX8_tick_160 : decode cX8_tick 160 = .ok (.getfield 117, 3) := by decide +kernel
theorem dX8_tick_163 : decode cX8_tick 163 = .ok (.aload_n 0, 1) := by decide +kernel
theorem dX8_tick_164 : decode cX8_tick 164 = .ok (.getfield 10, 3) := by decide +kernel
theorem dX8_tick_167 : decode cX8_tick 167 = .ok (.getfield 117, 3) := by decide +kernel
theorem dX8_tick_170 : decode cX8_tick 170 = .ok (.getfield 162, 3) := by decide +kernel
theorem dX8_tick_173 : decode cX8_tick 173 = .ok (.invokevirtual 165, 3) := by decide +kernel
theorem dX8_tick_176 : decode cX8_tick 176 = .ok (.istore 4, 2) := by decide +kernel
theorem dX8_tick_178 : decode cX8_tick 178 = .ok (.aload_n 0, 1) := by decide +kernel
theorem dX8_tick_179 : decode cX8_tick 179 = .ok (.aload_n 0, 1) := by decide +kernel
theorem dX8_tick_180 : decode cX8_tick 180 = .ok (.iload 4, 2) := by decide +kernel
theorem dX8_tick_182 : decode cX8_tick 182 = .ok (.invokevirtual 325, 3) := by decide +kernel
theorem dX8_tick_185 : decode cX8_tick 185 = .ok (.iload 4, 2) := by decide +kernel
theorem dX8_tick_187 : decode cX8_tick 187 = .ok (.invokevirtual 328, 3) := by decide +kernel
theorem dX8_tick_190 : decode cX8_tick 190 = .ok (.aload_n 0, 1) := by decide +kernel
theorem dX8_tick_191 : decode cX8_tick 191 = .ok (.getfield 10, 3) := by decide +kernel
theorem dX8_tick_194 : decode cX8_tick 194 = .ok (.iload_n 2, 1) := by decide +kernel
theorem dX8_tick_195 : decode cX8_tick 195 = .ok (.iload 4, 2) := by decide +kernel
theorem dX8_tick_197 : decode cX8_tick 197 = .ok (.invokevirtual 331, 3) := by decide +kernel
theorem dX8_tick_200 : decode cX8_tick 200 = .ok (.iload_n 3, 1) := by decide +kernel
theorem dX8_tick_201 : decode cX8_tick 201 = .ok (.ifCond .ne 7, 3) := by decide +kernel
theorem dX8_tick_204 : decode cX8_tick 204 = .ok (.iconst 1, 1) := by decide +kernel
theorem dX8_tick_205 : decode cX8_tick 205 = .ok (.goto 4, 3) := by decide +kernel
theorem dX8_tick_208 : decode cX8_tick 208 = .ok (.iconst 0, 1) := by decide +kernel
theorem dX8_tick_209 : decode cX8_tick 209 = .ok (.ireturn, 1) := by decide +kernel
theorem dX8_isPermitted_0 : decode cX8_isPermitted 0 = .ok (.aload_n 0, 1) := by decide +kernel
theorem dX8_isPermitted_1 : decode cX8_isPermitted 1 = .ok (.getfield 10, 3) := by decide +kernel
theorem dX8_isPermitted_4 : decode cX8_isPermitted 4 = .ok (.getfield 117, 3) := by decide +kernel
theorem dX8_isPermitted_7 : decode cX8_isPermitted 7 = .ok (.iload_n 1, 1) := by decide +kernel
theorem dX8_isPermitted_8 : decode cX8_isPermitted 8 = .ok (.invokevirtual 334, 3) := by decide +kernel
theorem dX8_isPermitted_11 : decode cX8_isPermitted 11 = .ok (.ifCond .eq 5, 3) := by decide +kernel
theorem dX8_isPermitted_14 : decode cX8_isPermitted 14 = .ok (.iconst 0, 1) := by decide +kernel
theorem dX8_isPermitted_15 : decode cX8_isPermitted 15 = .ok (.ireturn, 1) := by decide +kernel
theorem dX8_isPermitted_16 : decode cX8_isPermitted 16 = .ok (.aload_n 0, 1) := by decide +kernel
theorem dX8_isPermitted_17 : decode cX8_isPermitted 17 = .ok (.getfield 10, 3) := by decide +kernel
theorem dX8_isPermitted_20 : decode cX8_isPermitted 20 = .ok (.getfield 301, 3) := by decide +kernel
theorem dX8_isPermitted_23 : decode cX8_isPermitted 23 = .ok (.iconst 2, 1) := by decide +kernel
theorem dX8_isPermitted_24 : decode cX8_isPermitted 24 = .ok (.if_icmp .ne 12, 3) := by decide +kernel
theorem dX8_isPermitted_27 : decode cX8_isPermitted 27 = .ok (.iload_n 1, 1) := by decide +kernel
theorem dX8_isPermitted_28 : decode cX8_isPermitted 28 = .ok (.invokestatic 337, 3) := by decide +kernel
theorem dX8_isPermitted_31 : decode cX8_isPermitted 31 = .ok (.ifCond .eq 5, 3) := by decide +kernel
theorem dX8_isPermitted_34 : decode cX8_isPermitted 34 = .ok (.iconst 0, 1) := by decide +kernel
theorem dX8_isPermitted_35 : decode cX8_isPermitted 35 = .ok (.ireturn, 1) := by decide +kernel
theorem dX8_isPermitted_36 : decode cX8_isPermitted 36 = .ok (.aload_n 0, 1) := by decide +kernel
theorem dX8_isPermitted_37 : decode cX8_isPermitted 37 = .ok (.iload_n 1, 1) := by decide +kernel
theorem dX8_isPermitted_38 : decode cX8_isPermitted 38 = .ok (.invokevirtual 159, 3) := by decide +kernel
theorem dX8_isPermitted_41 : decode cX8_isPermitted 41 = .ok (.aload_n 0, 1) := by decide +kernel
theorem dX8_isPermitted_42 : decode cX8_isPermitted 42 = .ok (.getfield 10, 3) := by decide +kernel
theorem dX8_isPermitted_45 : decode cX8_isPermitted 45 = .ok (.getfield 94, 3) := by decide +kernel
theorem dX8_isPermitted_48 : decode cX8_isPermitted 48 = .ok (.aload_n 0, 1) := by decide +kernel
theorem dX8_isPermitted_49 : decode cX8_isPermitted 49 = .ok (.getfield 41, 3) := by decide +kernel
theorem dX8_isPermitted_52 : decode cX8_isPermitted 52 = .ok (.invokevirtual 126, 3) := by decide +kernel
theorem dX8_isPermitted_55 : decode cX8_isPermitted 55 = .ok (.aload_n 0, 1) := by decide +kernel
theorem dX8_isPermitted_56 : decode cX8_isPermitted 56 = .ok (.getfield 10, 3) := by decide +kernel
theorem dX8_isPermitted_59 : decode cX8_isPermitted 59 = .ok (.getfield 94, 3) := by decide +kernel
theorem dX8_isPermitted_62 : decode cX8_isPermitted 62 = .ok (.aload_n 0, 1) := by decide +kernel
theorem dX8_isPermitted_63 : decode cX8_isPermitted 63 = .ok (.getfield 10, 3) := by decide +kernel
theorem dX8_isPermitted_66 : decode cX8_isPermitted 66 = .ok (.getfield 117, 3) := by decide +kernel
theorem dX8_isPermitted_69 : decode cX8_isPermitted 69 = .ok (.invokevirtual 126, 3) := by decide +kernel
theorem dX8_isPermitted_72 : decode cX8_isPermitted 72 = .ok (.if_icmp .le 5, 3) := by decide +kernel
theorem dX8_isPermitted_75 : decode cX8_isPermitted 75 = .ok (.iconst 0, 1) := by decide +kernel
theorem dX8_isPermitted_76 : decode cX8_isPermitted 76 = .ok (.ireturn, 1) := by decide +kernel
theorem dX8_isPermitted_77 : decode cX8_isPermitted 77 = .ok (.iload_n 1, 1) := by decide +kernel
theorem dX8_isPermitted_78 : decode cX8_isPermitted 78 = .ok (.bipush 6, 2) := by decide +kernel
theorem dX8_isPermitted_80 : decode cX8_isPermitted 80 = .ok (.if_icmp .lt 14, 3) := by decide +kernel
theorem dX8_isPermitted_83 : decode cX8_isPermitted 83 = .ok (.aload_n 0, 1) := by decide +kernel
theorem dX8_isPermitted_84 : decode cX8_isPermitted 84 = .ok (.getfield 10, 3) := by decide +kernel
theorem dX8_isPermitted_87 : decode cX8_isPermitted 87 = .ok (.getfield 301, 3) := by decide +kernel
theorem dX8_isPermitted_90 : decode cX8_isPermitted 90 = .ok (.iconst 3, 1) := by decide +kernel
theorem dX8_isPermitted_91 : decode cX8_isPermitted 91 = .ok (.if_icmp .ne 5, 3) := by decide +kernel
theorem dX8_isPermitted_94 : decode cX8_isPermitted 94 = .ok (.iconst 1, 1) := by decide +kernel
theorem dX8_isPermitted_95 : decode cX8_isPermitted 95 = .ok (.ireturn, 1) := by decide +kernel
theorem dX8_isPermitted_96 : decode cX8_isPermitted 96 = .ok (.aload_n 0, 1) := by decide +kernel
theorem dX8_isPermitted_97 : decode cX8_isPermitted 97 = .ok (.getfield 10, 3) := by decide +kernel
theorem dX8_isPermitted_100 : decode cX8_isPermitted 100 = .ok (.getfield 117, 3) := by decide +kernel
theorem dX8_isPermitted_103 : decode cX8_isPermitted 103 = .ok (.getfield 162, 3) := by decide +kernel
theorem dX8_isPermitted_106 : decode cX8_isPermitted 106 = .ok (.iload_n 1, 1) := by decide +kernel
theorem dX8_isPermitted_107 : decode cX8_isPermitted 107 = .ok (.bipush 6, 2) := by decide +kernel
theorem dX8_isPermitted_109 : decode cX8_isPermitted 109 = .ok (.if_icmp .ne 8, 3) := by decide +kernel
theorem dX8_isPermitted_112 : decode cX8_isPermitted 112 = .ok (.bipush 50, 2) := by decide +kernel
theorem dX8_isPermitted_114 : decode cX8_isPermitted 114 = .ok (.goto 6, 3) := by decide +kernel
theorem dX8_isPermitted_117 : decode cX8_isPermitted 117 = .ok (.sipush 3550, 3) := by decide +kernel
theorem dX8_isPermitted_120 : decode cX8_isPermitted 120 = .ok (.iadd, 1) := by decide +kernel
theorem dX8_isPermitted_121 : decode cX8_isPermitted 121 = .ok (.sipush 3600, 3) := by decide +kernel
theorem dX8_isPermitted_124 : decode cX8_isPermitted 124 = .ok (.irem, 1) := by decide +kernel
theorem dX8_isPermitted_125 : decode cX8_isPermitted 125 = .ok (.istore_n 2, 1) := by decide +kernel
theorem dX8_isPermitted_126 : decode cX8_isPermitted 126 = .ok (.aload_n 0, 1) := by decide +kernel
theorem dX8_isPermitted_127 : decode cX8_isPermitted 127 = .ok (.aload_n 0, 1) := by decide +kernel
theorem dX8_isPermitted_128 : decode cX8_isPermitted 128 = .ok (.getfield 10, 3) := by decide +kernel
theorem dX8_isPermitted_131 : decode cX8_isPermitted 131 = .ok (.getfield 117, 3) := by decide +kernel
theorem dX8_isPermitted_134 : decode cX8_isPermitted 134 = .ok (.iload_n 2, 1) := by decide +kernel
theorem dX8_isPermitted_135 : decode cX8_isPermitted 135 = .ok (.invokevirtual 165, 3) := by decide +kernel
theorem dX8_isPermitted_138 : decode cX8_isPermitted 138 = .ok (.istore_n 3, 1) := by decide +kernel
theorem dX8_isPermitted_139 : decode cX8_isPermitted 139 = .ok (.iload_n 3, 1) := by decide +kernel
theorem dX8_isPermitted_140 : decode cX8_isPermitted 140 = .ok (.sipush 1000, 3) := by decide +kernel
theorem dX8_isPermitted_143 : decode cX8_isPermitted 143 = .ok (.if_icmp .lt 28, 3) := by decide +kernel
theorem dX8_isPermitted_146 : decode cX8_isPermitted 146 = .ok (.iload_n 3, 1) := by decide +kernel
theorem dX8_isPermitted_147 : decode cX8_isPermitted 147 = .ok (.aload_n 0, 1) := by decide +kernel
theorem dX8_isPermitted_148 : decode cX8_isPermitted 148 = .ok (.aload_n 0, 1) := by decide +kernel
theorem dX8_isPermitted_149 : decode cX8_isPermitted 149 = .ok (.getfield 10, 3) := by decide +kernel
theorem dX8_isPermitted_152 : decode cX8_isPermitted 152 = .ok (.getfield 117, 3) := by decide +kernel
theorem dX8_isPermitted_155 : decode cX8_isPermitted 155 = .ok (.aload_n 0, 1) := by decide +kernel
theorem dX8_isPermitted_156 : decode cX8_isPermitted 156 = .ok (.getfield 10, 3) := by decide +kernel
theorem dX8_isPermitted_159 : decode cX8_isPermitted 159 = .ok (.getfield 117, 3) := by decide +kernel
theorem dX8_isPermitted_162 : decode cX8_isPermitted 162 = .ok (.getfield 162, 3) := by decide +kernel
theorem dX8_isPermitted_165 : decode cX8_isPermitted 165 = .ok (.invokevirtual 165, 3) := by decide +kernel
theorem dX8_isPermitted_168 : decode cX8_isPermitted 168 = .ok (.if_icmp .gt 7, 3) := by decide +kernel
theorem dX8_isPermitted_171 : decode cX8_isPermitted 171 = .ok (.iconst 1, 1) := by decide +kernel
theorem dX8_isPermitted_172 : decode cX8_isPermitted 172 = .ok (.goto 4, 3) := by decide +kernel
theorem dX8_isPermitted_175 : decode cX8_isPermitted 175 = .ok (.iconst 0, 1) := by decide +kernel
theorem dX8_isPermitted_176 : decode cX8_isPermitted 176 = .ok (.ireturn, 1) := by decide +kernel
theorem dX8_addsMoment_0 : decode cX8_addsMoment 0 = .ok (.iload_n 0, 1) := by decide +kernel
theorem dX8_addsMoment_1 : decode cX8_addsMoment 1 = .ok (.ifCond .eq 13, 3) := by decide +kernel
theorem dX8_addsMoment_4 : decode cX8_addsMoment 4 = .ok (.iload_n 0, 1) := by decide +kernel
theorem dX8_addsMoment_5 : decode cX8_addsMoment 5 = .ok (.iconst 3, 1) := by decide +kernel
theorem dX8_addsMoment_6 : decode cX8_addsMoment 6 = .ok (.if_icmp .eq 8, 3) := by decide +kernel
theorem dX8_addsMoment_9 : decode cX8_addsMoment 9 = .ok (.iload_n 0, 1) := by decide +kernel
theorem dX8_addsMoment_10 : decode cX8_addsMoment 10 = .ok (.iconst 4, 1) := by decide +kernel
theorem dX8_addsMoment_11 : decode cX8_addsMoment 11 = .ok (.if_icmp .ne 7, 3) := by decide +kernel
theorem dX8_addsMoment_14 : decode cX8_addsMoment 14 = .ok (.iconst 1, 1) := by decide +kernel
theorem dX8_addsMoment_15 : decode cX8_addsMoment 15 = .ok (.goto 4, 3) := by decide +kernel
theorem dX8_addsMoment_18 : decode cX8_addsMoment 18 = .ok (.iconst 0, 1) := by decide +kernel
theorem dX8_addsMoment_19 : decode cX8_addsMoment 19 = .ok (.ireturn, 1) := by decide +kernel
theorem dX8_tryMotion_0 : decode cX8_tryMotion 0 = .ok (.aload_n 0, 1) := by decide +kernel
theorem dX8_tryMotion_1 : decode cX8_tryMotion 1 = .ok (.getfield 41, 3) := by decide +kernel
theorem dX8_tryMotion_4 : decode cX8_tryMotion 4 = .ok (.aload_n 0, 1) := by decide +kernel
theorem dX8_tryMotion_5 : decode cX8_tryMotion 5 = .ok (.getfield 10, 3) := by decide +kernel
theorem dX8_tryMotion_8 : decode cX8_tryMotion 8 = .ok (.getfield 117, 3) := by decide +kernel
theorem dX8_tryMotion_11 : decode cX8_tryMotion 11 = .ok (.invokevirtual 340, 3) := by decide +kernel
theorem dX8_tryMotion_14 : decode cX8_tryMotion 14 = .ok (.aload_n 0, 1) := by decide +kernel
theorem dX8_tryMotion_15 : decode cX8_tryMotion 15 = .ok (.getfield 41, 3) := by decide +kernel
theorem dX8_tryMotion_18 : decode cX8_tryMotion 18 = .ok (.iload_n 1, 1) := by decide +kernel
theorem dX8_tryMotion_19 : decode cX8_tryMotion 19 = .ok (.aload_n 0, 1) := by decide +kernel
theorem dX8_tryMotion_20 : decode cX8_tryMotion 20 = .ok (.invokevirtual 312, 3) := by decide +kernel
theorem dX8_tryMotion_23 : decode cX8_tryMotion 23 = .ok (.invokevirtual 316, 3) := by decide +kernel
theorem dX8_tryMotion_26 : decode cX8_tryMotion 26 = .ok (.return_, 1) := by decide +kernel
theorem dX8_isSlow_0 : decode cX8_isSlow 0 = .ok (.aload_n 0, 1) := by decide +kernel
theorem dX8_isSlow_1 : decode cX8_isSlow 1 = .ok (.getfield 10, 3) := by decide +kernel
theorem dX8_isSlow_4 : decode cX8_isSlow 4 = .ok (.getfield 301, 3) := by decide +kernel
theorem dX8_isSlow_7 : decode cX8_isSlow 7 = .ok (.ifCond .eq 7, 3) := by decide +kernel
theorem dX8_isSlow_10 : decode cX8_isSlow 10 = .ok (.iconst 1, 1) := by decide +kernel
theorem dX8_isSlow_11 : decode cX8_isSlow 11 = .ok (.goto 4, 3) := by decide +kernel
theorem dX8_isSlow_14 : decode cX8_isSlow 14 = .ok (.iconst 0, 1) := by decide +kernel
theorem dX8_isSlow_15 : decode cX8_isSlow 15 = .ok (.ireturn, 1) := by decide +kernel
theorem dX8_nextState_0 : decode cX8_nextState 0 = .ok (.aload_n 0, 1) := by decide +kernel
theorem dX8_nextState_1 : decode cX8_nextState 1 = .ok (.getfield 10, 3) := by decide +kernel
theorem dX8_nextState_4 : decode cX8_nextState 4 = .ok (.getfield 301, 3) := by decide +kernel
theorem dX8_nextState_7 : decode cX8_nextState 7 = .ok (.iconst 2, 1) := by decide +kernel
theorem dX8_nextState_8 : decode cX8_nextState 8 = .ok (.if_icmp .ne 7, 3) := by decide +kernel
theorem dX8_nextState_11 : decode cX8_nextState 11 = .ok (.iconst 1, 1) := by decide +kernel
theorem dX8_nextState_12 : decode cX8_nextState 12 = .ok (.goto 4, 3) := by decide +kernel
theorem dX8_nextState_15 : decode cX8_nextState 15 = .ok (.iconst 0, 1) := by decide +kernel
theorem dX8_nextState_16 : decode cX8_nextState 16 = .ok (.istore_n 2, 1) := by decide +kernel
theorem dX8_nextState_17 : decode cX8_nextState 17 = .ok (.aload_n 0, 1) := by decide +kernel
theorem dX8_nextState_18 : decode cX8_nextState 18 = .ok (.getfield 10, 3) := by decide +kernel
theorem dX8_nextState_21 : decode cX8_nextState 21 = .ok (.getfield 301, 3) := by decide +kernel
theorem dX8_nextState_24 : decode cX8_nextState 24 = .ok (.iconst 1, 1) := by decide +kernel
theorem dX8_nextState_25 : decode cX8_nextState 25 = .ok (.if_icmp .ne 7, 3) := by decide +kernel
theorem dX8_nextState_28 : decode cX8_nextState 28 = .ok (.iconst 1, 1) := by decide +kernel
theorem dX8_nextState_29 : decode cX8_nextState 29 = .ok (.goto 4, 3) := by decide +kernel
theorem dX8_nextState_32 : decode cX8_nextState 32 = .ok (.iconst 0, 1) := by decide +kernel
theorem dX8_nextState_33 : decode cX8_nextState 33 = .ok (.istore_n 3, 1) := by decide +kernel
theorem dX8_nextState_34 : decode cX8_nextState 34 = .ok (.aload_n 0, 1) := by decide +kernel
theorem dX8_nextState_35 : decode cX8_nextState 35 = .ok (.getfield 10, 3) := by decide +kernel
theorem dX8_nextState_38 : decode cX8_nextState 38 = .ok (.getfield 146, 3) := by decide +kernel
theorem dX8_nextState_41 : decode cX8_nextState 41 = .ok (.ifCond .le 5, 3) := by decide +kernel
theorem dX8_nextState_44 : decode cX8_nextState 44 = .ok (.iconst 3, 1) := by decide +kernel
theorem dX8_nextState_45 : decode cX8_nextState 45 = .ok (.ireturn, 1) := by decide +kernel
theorem dX8_nextState_46 : decode cX8_nextState 46 = .ok (.iload_n 1, 1) := by decide +kernel
theorem dX8_nextState_47 : decode cX8_nextState 47 = .ok (.sipush 1000, 3) := by decide +kernel
theorem dX8_nextState_50 : decode cX8_nextState 50 = .ok (.if_icmp .ge 14, 3) := by decide +kernel
theorem dX8_nextState_53 : decode cX8_nextState 53 = .ok (.iload_n 2, 1) := by decide +kernel
theorem dX8_nextState_54 : decode cX8_nextState 54 = .ok (.ifCond .eq 12, 3) := by decide +kernel
theorem dX8_nextState_57 : decode cX8_nextState 57 = .ok (.iload_n 1, 1) := by decide +kernel
theorem dX8_nextState_58 : decode cX8_nextState 58 = .ok (.sipush 950, 3) := by decide +kernel
theorem dX8_nextState_61 : decode cX8_nextState 61 = .ok (.if_icmp .lt 5, 3) := by decide +kernel
theorem dX8_nextState_64 : decode cX8_nextState 64 = .ok (.iconst 2, 1) := by decide +kernel
theorem dX8_nextState_65 : decode cX8_nextState 65 = .ok (.ireturn, 1) := by decide +kernel
theorem dX8_nextState_66 : decode cX8_nextState 66 = .ok (.iload_n 1, 1) := by decide +kernel
theorem dX8_nextState_67 : decode cX8_nextState 67 = .ok (.sipush 900, 3) := by decide +kernel
theorem dX8_nextState_70 : decode cX8_nextState 70 = .ok (.if_icmp .ge 18, 3) := by decide +kernel
theorem dX8_nextState_73 : decode cX8_nextState 73 = .ok (.iload_n 3, 1) := by decide +kernel
theorem dX8_nextState_74 : decode cX8_nextState 74 = .ok (.ifCond .ne 7, 3) := by decide +kernel
theorem dX8_nextState_77 : decode cX8_nextState 77 = .ok (.iload_n 2, 1) := by decide +kernel
theorem dX8_nextState_78 : decode cX8_nextState 78 = .ok (.ifCond .eq 12, 3) := by decide +kernel
theorem dX8_nextState_81 : decode cX8_nextState 81 = .ok (.iload_n 1, 1) := by decide +kernel
theorem dX8_nextState_82 : decode cX8_nextState 82 = .ok (.sipush 850, 3) := by decide +kernel
theorem dX8_nextState_85 : decode cX8_nextState 85 = .ok (.if_icmp .lt 5, 3) := by decide +kernel
theorem dX8_nextState_88 : decode cX8_nextState 88 = .ok (.iconst 1, 1) := by decide +kernel
theorem dX8_nextState_89 : decode cX8_nextState 89 = .ok (.ireturn, 1) := by decide +kernel
theorem dX8_nextState_90 : decode cX8_nextState 90 = .ok (.iconst 0, 1) := by decide +kernel
theorem dX8_nextState_91 : decode cX8_nextState 91 = .ok (.ireturn, 1) := by decide +kernel
theorem dX8_enterState_0 : decode cX8_enterState 0 = .ok (.iload_n 1, 1) := by decide +kernel
theorem dX8_enterState_1 : decode cX8_enterState 1 = .ok (.aload_n 0, 1) := by decide +kernel
theorem dX8_enterState_2 : decode cX8_enterState 2 = .ok (.getfield 10, 3) := by decide +kernel
theorem dX8_enterState_5 : decode cX8_enterState 5 = .ok (.getfield 301, 3) := by decide +kernel
theorem dX8_enterState_8 : decode cX8_enterState 8 = .ok (.if_icmp .ne 4, 3) := by decide +kernel
theorem dX8_enterState_11 : decode cX8_enterState 11 = .ok (.return_, 1) := by decide +kernel
theorem dX8_enterState_12 : decode cX8_enterState 12 = .ok (.aload_n 0, 1) := by decide +kernel
theorem dX8_enterState_13 : decode cX8_enterState 13 = .ok (.getfield 10, 3) := by decide +kernel
theorem dX8_enterState_16 : decode cX8_enterState 16 = .ok (.iload_n 1, 1) := by decide +kernel
theorem dX8_enterState_17 : decode cX8_enterState 17 = .ok (.putfield 301, 3) := by decide +kernel
theorem dX8_enterState_20 : decode cX8_enterState 20 = .ok (.aload_n 0, 1) := by decide +kernel
theorem dX8_enterState_21 : decode cX8_enterState 21 = .ok (.getfield 10, 3) := by decide +kernel
theorem dX8_enterState_24 : decode cX8_enterState 24 = .ok (.getfield 199, 3) := by decide +kernel
theorem dX8_enterState_27 : decode cX8_enterState 27 = .ok (.aload_n 0, 1) := by decide +kernel
theorem dX8_enterState_28 : decode cX8_enterState 28 = .ok (.getfield 10, 3) := by decide +kernel
theorem dX8_enterState_31 : decode cX8_enterState 31 = .ok (.getfield 294, 3) := by decide +kernel
theorem dX8_enterState_34 : decode cX8_enterState 34 = .ok (.iconst 1, 1) := by decide +kernel
theorem dX8_enterState_35 : decode cX8_enterState 35 = .ok (.iload_n 1, 1) := by decide +kernel
theorem dX8_enterState_36 : decode cX8_enterState 36 = .ok (.invokevirtual 323, 3) := by decide +kernel
theorem dX8_enterState_39 : decode cX8_enterState 39 = .ok (.iload_n 1, 1) := by decide +kernel
theorem dX8_enterState_40 : decode cX8_enterState 40 = .ok (.iconst 2, 1) := by decide +kernel
theorem dX8_enterState_41 : decode cX8_enterState 41 = .ok (.if_icmp .ne 22, 3) := by decide +kernel
theorem dX8_enterState_44 : decode cX8_enterState 44 = .ok (.aload_n 0, 1) := by decide +kernel
theorem dX8_enterState_45 : decode cX8_enterState 45 = .ok (.getfield 10, 3) := by decide +kernel
theorem dX8_enterState_48 : decode cX8_enterState 48 = .ok (.getfield 199, 3) := by decide +kernel
theorem dX8_enterState_51 : decode cX8_enterState 51 = .ok (.aload_n 0, 1) := by decide +kernel
theorem dX8_enterState_52 : decode cX8_enterState 52 = .ok (.getfield 10, 3) := by decide +kernel
theorem dX8_enterState_55 : decode cX8_enterState 55 = .ok (.getfield 294, 3) := by decide +kernel
theorem dX8_enterState_58 : decode cX8_enterState 58 = .ok (.iconst 2, 1) := by decide +kernel
theorem dX8_enterState_59 : decode cX8_enterState 59 = .ok (.iload_n 2, 1) := by decide +kernel
theorem dX8_enterState_60 : decode cX8_enterState 60 = .ok (.invokevirtual 323, 3) := by decide +kernel
theorem dX8_enterState_63 : decode cX8_enterState 63 = .ok (.return_, 1) := by decide +kernel
theorem dX8_save_0 : decode cX8_save 0 = .ok (.aload_n 0, 1) := by decide +kernel
theorem dX8_save_1 : decode cX8_save 1 = .ok (.getfield 16, 3) := by decide +kernel
theorem dX8_save_4 : decode cX8_save 4 = .ok (.aload_n 0, 1) := by decide +kernel
theorem dX8_save_5 : decode cX8_save 5 = .ok (.getfield 240, 3) := by decide +kernel
theorem dX8_save_8 : decode cX8_save 8 = .ok (.aaload, 1) := by decide +kernel
theorem dX8_save_9 : decode cX8_save 9 = .ok (.astore_n 1, 1) := by decide +kernel
theorem dX8_save_10 : decode cX8_save 10 = .ok (.aload_n 1, 1) := by decide +kernel
theorem dX8_save_11 : decode cX8_save 11 = .ok (.ifnonnull 21, 3) := by decide +kernel
theorem dX8_save_14 : decode cX8_save 14 = .ok (.new 7, 3) := by decide +kernel
theorem dX8_save_17 : decode cX8_save 17 = .ok (.dup, 1) := by decide +kernel
theorem dX8_save_18 : decode cX8_save 18 = .ok (.invokespecial 9, 3) := by decide +kernel
theorem dX8_save_21 : decode cX8_save 21 = .ok (.astore_n 1, 1) := by decide +kernel
theorem dX8_save_22 : decode cX8_save 22 = .ok (.aload_n 0, 1) := by decide +kernel
theorem dX8_save_23 : decode cX8_save 23 = .ok (.getfield 16, 3) := by decide +kernel
theorem dX8_save_26 : decode cX8_save 26 = .ok (.aload_n 0, 1) := by decide +kernel
theorem dX8_save_27 : decode cX8_save 27 = .ok (.getfield 240, 3) := by decide +kernel
theorem dX8_save_30 : decode cX8_save 30 = .ok (.aload_n 1, 1) := by decide +kernel
theorem dX8_save_31 : decode cX8_save 31 = .ok (.aastore, 1) := by decide +kernel
theorem dX8_save_32 : decode cX8_save 32 = .ok (.aload_n 1, 1) := by decide +kernel
theorem dX8_save_33 : decode cX8_save 33 = .ok (.aload_n 0, 1) := by decide +kernel
theorem dX8_save_34 : decode cX8_save 34 = .ok (.getfield 10, 3) := by decide +kernel
theorem dX8_save_37 : decode cX8_save 37 = .ok (.invokevirtual 248, 3) := by decide +kernel
theorem dX8_save_40 : decode cX8_save 40 = .ok (.aload_n 0, 1) := by decide +kernel
theorem dX8_save_41 : decode cX8_save 41 = .ok (.aload_n 0, 1) := by decide +kernel
theorem dX8_save_42 : decode cX8_save 42 = .ok (.getfield 240, 3) := by decide +kernel
theorem dX8_save_45 : decode cX8_save 45 = .ok (.iconst 1, 1) := by decide +kernel
theorem dX8_save_46 : decode cX8_save 46 = .ok (.iadd, 1) := by decide +kernel
theorem dX8_save_47 : decode cX8_save 47 = .ok (.iconst 4, 1) := by decide +kernel
theorem dX8_save_48 : decode cX8_save 48 = .ok (.irem, 1) := by decide +kernel
theorem dX8_save_49 : decode cX8_save 49 = .ok (.putfield 240, 3) := by decide +kernel
theorem dX8_save_52 : decode cX8_save 52 = .ok (.aload_n 0, 1) := by decide +kernel
theorem dX8_save_53 : decode cX8_save 53 = .ok (.aload_n 0, 1) := by decide +kernel
theorem dX8_save_54 : decode cX8_save 54 = .ok (.getfield 237, 3) := by decide +kernel
theorem dX8_save_57 : decode cX8_save 57 = .ok (.iconst 1, 1) := by decide +kernel
theorem dX8_save_58 : decode cX8_save 58 = .ok (.iadd, 1) := by decide +kernel
theorem dX8_save_59 : decode cX8_save 59 = .ok (.iconst 4, 1) := by decide +kernel
theorem dX8_save_60 : decode cX8_save 60 = .ok (.invokestatic 342, 3) := by decide +kernel
theorem dX8_save_63 : decode cX8_save 63 = .ok (.putfield 237, 3) := by decide +kernel
theorem dX8_save_66 : decode cX8_save 66 = .ok (.return_, 1) := by decide +kernel
theorem dJ9_floorMod_7cf53_0 : decode cJ9_floorMod_7cf53 0 = .ok (.iload_n 0, 1) := by decide +kernel
theorem dJ9_floorMod_7cf53_1 : decode cJ9_floorMod_7cf53 1 = .ok (.iload_n 1, 1) := by decide +kernel
theorem dJ9_floorMod_7cf53_2 : decode cJ9_floorMod_7cf53 2 = .ok (.irem, 1) := by decide +kernel
theorem dJ9_floorMod_7cf53_3 : decode cJ9_floorMod_7cf53 3 = .ok (.istore_n 2, 1) := by decide +kernel
theorem dJ9_floorMod_7cf53_4 : decode cJ9_floorMod_7cf53 4 = .ok (.iload_n 0, 1) := by decide +kernel
theorem dJ9_floorMod_7cf53_5 : decode cJ9_floorMod_7cf53 5 = .ok (.iload_n 1, 1) := by decide +kernel
theorem dJ9_floorMod_7cf53_6 : decode cJ9_floorMod_7cf53 6 = .ok (.ixor, 1) := by decide +kernel
theorem dJ9_floorMod_7cf53_7 : decode cJ9_floorMod_7cf53 7 = .ok (.ifCond .ge 11, 3) := by decide +kernel
theorem dJ9_floorMod_7cf53_10 : decode cJ9_floorMod_7cf53 10 = .ok (.iload_n 2, 1) := by decide +kernel
theorem dJ9_floorMod_7cf53_11 : decode cJ9_floorMod_7cf53 11 = .ok (.ifCond .eq 7, 3) := by decide +kernel
theorem dJ9_floorMod_7cf53_14 : decode cJ9_floorMod_7cf53 14 = .ok (.iload_n 2, 1) := by decide +kernel
theorem dJ9_floorMod_7cf53_15 : decode cJ9_floorMod_7cf53 15 = .ok (.iload_n 1, 1) := by decide +kernel
theorem dJ9_floorMod_7cf53_16 : decode cJ9_floorMod_7cf53 16 = .ok (.iadd, 1) := by decide +kernel
theorem dJ9_floorMod_7cf53_17 : decode cJ9_floorMod_7cf53 17 = .ok (.ireturn, 1) := by decide +kernel
theorem dJ9_floorMod_7cf53_18 : decode cJ9_floorMod_7cf53 18 = .ok (.iload_n 2, 1) := by decide +kernel
theorem dJ9_floorMod_7cf53_19 : decode cJ9_floorMod_7cf53 19 = .ok (.ireturn, 1) := by decide +kernel
theorem dJ9_max_7cf53_0 : decode cJ9_max_7cf53 0 = .ok (.iload_n 0, 1) := by decide +kernel
theorem dJ9_max_7cf53_1 : decode cJ9_max_7cf53 1 = .ok (.iload_n 1, 1) := by decide +kernel
theorem dJ9_max_7cf53_2 : decode cJ9_max_7cf53 2 = .ok (.if_icmp .lt 7, 3) := by decide +kernel
theorem dJ9_max_7cf53_5 : decode cJ9_max_7cf53 5 = .ok (.iload_n 0, 1) := by decide +kernel
theorem dJ9_max_7cf53_6 : decode cJ9_max_7cf53 6 = .ok (.goto 4, 3) := by decide +kernel
theorem dJ9_max_7cf53_9 : decode cJ9_max_7cf53 9 = .ok (.iload_n 1, 1) := by decide +kernel
theorem dJ9_max_7cf53_10 : decode cJ9_max_7cf53 10 = .ok (.ireturn, 1) := by decide +kernel
theorem dJ9_min_7cf53_0 : decode cJ9_min_7cf53 0 = .ok (.iload_n 0, 1) := by decide +kernel
theorem dJ9_min_7cf53_1 : decode cJ9_min_7cf53 1 = .ok (.iload_n 1, 1) := by decide +kernel
theorem dJ9_min_7cf53_2 : decode cJ9_min_7cf53 2 = .ok (.if_icmp .gt 7, 3) := by decide +kernel
theorem dJ9_min_7cf53_5 : decode cJ9_min_7cf53 5 = .ok (.iload_n 0, 1) := by decide +kernel
theorem dJ9_min_7cf53_6 : decode cJ9_min_7cf53 6 = .ok (.goto 4, 3) := by decide +kernel
theorem dJ9_min_7cf53_9 : decode cJ9_min_7cf53 9 = .ok (.iload_n 1, 1) := by decide +kernel
theorem dJ9_min_7cf53_10 : decode cJ9_min_7cf53 10 = .ok (.ireturn, 1) := by decide +kernel
theorem dJ9_min_f86c9_0 : decode cJ9_min_f86c9 0 = .ok (.lload_n 0, 1) := by decide +kernel
theorem dJ9_min_f86c9_1 : decode cJ9_min_f86c9 1 = .ok (.lload_n 2, 1) := by decide +kernel
theorem dJ9_min_f86c9_2 : decode cJ9_min_f86c9 2 = .ok (.lcmp, 1) := by decide +kernel
theorem dJ9_min_f86c9_3 : decode cJ9_min_f86c9 3 = .ok (.ifCond .gt 7, 3) := by decide +kernel
theorem dJ9_min_f86c9_6 : decode cJ9_min_f86c9 6 = .ok (.lload_n 0, 1) := by decide +kernel
theorem dJ9_min_f86c9_7 : decode cJ9_min_f86c9 7 = .ok (.goto 4, 3) := by decide +kernel
theorem dJ9_min_f86c9_10 : decode cJ9_min_f86c9 10 = .ok (.lload_n 2, 1) := by decide +kernel
theorem dJ9_min_f86c9_11 : decode cJ9_min_f86c9 11 = .ok (.lreturn, 1) := by decide +kernel
theorem dL_setOutrigger_0 : decode cL_setOutrigger 0 = .ok (.aload_n 3, 1) := by decide +kernel
theorem dL_setOutrigger_1 : decode cL_setOutrigger 1 = .ok (.iconst 0, 1) := by decide +kernel
theorem dL_setOutrigger_2 : decode cL_setOutrigger 2 = .ok (.aload_n 0, 1) := by decide +kernel
theorem dL_setOutrigger_3 : decode cL_setOutrigger 3 = .ok (.iload_n 1, 1) := by decide +kernel
theorem dL_setOutrigger_4 : decode cL_setOutrigger 4 = .ok (.iload_n 2, 1) := by decide +kernel
theorem dL_setOutrigger_5 : decode cL_setOutrigger 5 = .ok (.invokevirtual 7, 3) := by decide +kernel
theorem dL_setOutrigger_8 : decode cL_setOutrigger 8 = .ok (.i2l, 1) := by decide +kernel
theorem dL_setOutrigger_9 : decode cL_setOutrigger 9 = .ok (.lastore, 1) := by decide +kernel
theorem dL_setOutrigger_10 : decode cL_setOutrigger 10 = .ok (.goto 11, 3) := by decide +kernel
theorem dL_setOutrigger_13 : decode cL_setOutrigger 13 = .ok (.astore 4, 2) := by decide +kernel
theorem dL_setOutrigger_15 : decode cL_setOutrigger 15 = .ok (.iconst 1, 1) := by decide +kernel
theorem dL_setOutrigger_16 : decode cL_setOutrigger 16 = .ok (.ireturn, 1) := by decide +kernel
theorem dL_setOutrigger_17 : decode cL_setOutrigger 17 = .ok (.astore 4, 2) := by decide +kernel
theorem dL_setOutrigger_19 : decode cL_setOutrigger 19 = .ok (.iconst 2, 1) := by decide +kernel
theorem dL_setOutrigger_20 : decode cL_setOutrigger 20 = .ok (.ireturn, 1) := by decide +kernel
theorem dL_setOutrigger_21 : decode cL_setOutrigger 21 = .ok (.iconst 0, 1) := by decide +kernel
theorem dL_setOutrigger_22 : decode cL_setOutrigger 22 = .ok (.ireturn, 1) := by decide +kernel
theorem dL_setCapacity_0 : decode cL_setCapacity 0 = .ok (.aload 5, 2) := by decide +kernel
theorem dL_setCapacity_2 : decode cL_setCapacity 2 = .ok (.iconst 0, 1) := by decide +kernel
theorem dL_setCapacity_3 : decode cL_setCapacity 3 = .ok (.aload_n 0, 1) := by decide +kernel
theorem dL_setCapacity_4 : decode cL_setCapacity 4 = .ok (.iload_n 1, 1) := by decide +kernel
theorem dL_setCapacity_5 : decode cL_setCapacity 5 = .ok (.iload_n 2, 1) := by decide +kernel
theorem dL_setCapacity_6 : decode cL_setCapacity 6 = .ok (.iload_n 3, 1) := by decide +kernel
theorem dL_setCapacity_7 : decode cL_setCapacity 7 = .ok (.iload 4, 2) := by decide +kernel
theorem dL_setCapacity_9 : decode cL_setCapacity 9 = .ok (.invokevirtual 17, 3) := by decide +kernel
theorem dL_setCapacity_12 : decode cL_setCapacity 12 = .ok (.i2l, 1) := by decide +kernel
theorem dL_setCapacity_13 : decode cL_setCapacity 13 = .ok (.lastore, 1) := by decide +kernel
theorem dL_setCapacity_14 : decode cL_setCapacity 14 = .ok (.goto 11, 3) := by decide +kernel
theorem dL_setCapacity_17 : decode cL_setCapacity 17 = .ok (.astore 6, 2) := by decide +kernel
theorem dL_setCapacity_19 : decode cL_setCapacity 19 = .ok (.iconst 1, 1) := by decide +kernel
theorem dL_setCapacity_20 : decode cL_setCapacity 20 = .ok (.ireturn, 1) := by decide +kernel
theorem dL_setCapacity_21 : decode cL_setCapacity 21 = .ok (.astore 6, 2) := by decide +kernel
theorem dL_setCapacity_23 : decode cL_setCapacity 23 = .ok (.iconst 2, 1) := by decide +kernel
theorem dL_setCapacity_24 : decode cL_setCapacity 24 = .ok (.ireturn, 1) := by decide +kernel
theorem dL_setCapacity_25 : decode cL_setCapacity 25 = .ok (.iconst 0, 1) := by decide +kernel
theorem dL_setCapacity_26 : decode cL_setCapacity 26 = .ok (.ireturn, 1) := by decide +kernel
theorem dL_fillTable_0 : decode cL_fillTable 0 = .ok (.aload_n 3, 1) := by decide +kernel
theorem dL_fillTable_1 : decode cL_fillTable 1 = .ok (.iconst 0, 1) := by decide +kernel
theorem dL_fillTable_2 : decode cL_fillTable 2 = .ok (.aload_n 0, 1) := by decide +kernel
theorem dL_fillTable_3 : decode cL_fillTable 3 = .ok (.iload_n 1, 1) := by decide +kernel
theorem dL_fillTable_4 : decode cL_fillTable 4 = .ok (.iload_n 2, 1) := by decide +kernel
theorem dL_fillTable_5 : decode cL_fillTable 5 = .ok (.invokevirtual 21, 3) := by decide +kernel
theorem dL_fillTable_8 : decode cL_fillTable 8 = .ok (.i2l, 1) := by decide +kernel
theorem dL_fillTable_9 : decode cL_fillTable 9 = .ok (.lastore, 1) := by decide +kernel
theorem dL_fillTable_10 : decode cL_fillTable 10 = .ok (.goto 11, 3) := by decide +kernel
theorem dL_fillTable_13 : decode cL_fillTable 13 = .ok (.astore 4, 2) := by decide +kernel
theorem dL_fillTable_15 : decode cL_fillTable 15 = .ok (.iconst 1, 1) := by decide +kernel
theorem dL_fillTable_16 : decode cL_fillTable 16 = .ok (.ireturn, 1) := by decide +kernel
theorem dL_fillTable_17 : decode cL_fillTable 17 = .ok (.astore 4, 2) := by decide +kernel
theorem dL_fillTable_19 : decode cL_fillTable 19 = .ok (.iconst 2, 1) := by decide +kernel
theorem dL_fillTable_20 : decode cL_fillTable 20 = .ok (.ireturn, 1) := by decide +kernel
theorem dL_fillTable_21 : decode cL_fillTable 21 = .ok (.iconst 0, 1) := by decide +kernel
theorem dL_fillTable_22 : decode cL_fillTable 22 = .ok (.ireturn, 1) := by decide +kernel
theorem dL_capacity_0 : decode cL_capacity 0 = .ok (.aload 4, 2) := by decide +kernel
theorem dL_capacity_2 : decode cL_capacity 2 = .ok (.iconst 0, 1) := by decide +kernel
theorem dL_capacity_3 : decode cL_capacity 3 = .ok (.aload_n 0, 1) := by decide +kernel
theorem dL_capacity_4 : decode cL_capacity 4 = .ok (.iload_n 1, 1) := by decide +kernel
theorem dL_capacity_5 : decode cL_capacity 5 = .ok (.iload_n 2, 1) := by decide +kernel
theorem dL_capacity_6 : decode cL_capacity 6 = .ok (.iload_n 3, 1) := by decide +kernel
theorem dL_capacity_7 : decode cL_capacity 7 = .ok (.invokevirtual 24, 3) := by decide +kernel
theorem dL_capacity_10 : decode cL_capacity 10 = .ok (.i2l, 1) := by decide +kernel
theorem dL_capacity_11 : decode cL_capacity 11 = .ok (.lastore, 1) := by decide +kernel
theorem dL_capacity_12 : decode cL_capacity 12 = .ok (.goto 7, 3) := by decide +kernel
theorem dL_capacity_15 : decode cL_capacity 15 = .ok (.astore 5, 2) := by decide +kernel
theorem dL_capacity_17 : decode cL_capacity 17 = .ok (.iconst 1, 1) := by decide +kernel
theorem dL_capacity_18 : decode cL_capacity 18 = .ok (.ireturn, 1) := by decide +kernel
theorem dL_capacity_19 : decode cL_capacity 19 = .ok (.iconst 0, 1) := by decide +kernel
theorem dL_capacity_20 : decode cL_capacity 20 = .ok (.ireturn, 1) := by decide +kernel
theorem dL_addZone_0 : decode cL_addZone 0 = .ok (.aload 5, 2) := by decide +kernel
theorem dL_addZone_2 : decode cL_addZone 2 = .ok (.iconst 0, 1) := by decide +kernel
theorem dL_addZone_3 : decode cL_addZone 3 = .ok (.aload_n 0, 1) := by decide +kernel
theorem dL_addZone_4 : decode cL_addZone 4 = .ok (.iload_n 1, 1) := by decide +kernel
theorem dL_addZone_5 : decode cL_addZone 5 = .ok (.iload_n 2, 1) := by decide +kernel
theorem dL_addZone_6 : decode cL_addZone 6 = .ok (.iload_n 3, 1) := by decide +kernel
theorem dL_addZone_7 : decode cL_addZone 7 = .ok (.iload 4, 2) := by decide +kernel
theorem dL_addZone_9 : decode cL_addZone 9 = .ok (.invokevirtual 28, 3) := by decide +kernel
theorem dL_addZone_12 : decode cL_addZone 12 = .ok (.i2l, 1) := by decide +kernel
theorem dL_addZone_13 : decode cL_addZone 13 = .ok (.lastore, 1) := by decide +kernel
theorem dL_addZone_14 : decode cL_addZone 14 = .ok (.goto 11, 3) := by decide +kernel
theorem dL_addZone_17 : decode cL_addZone 17 = .ok (.astore 6, 2) := by decide +kernel
theorem dL_addZone_19 : decode cL_addZone 19 = .ok (.iconst 1, 1) := by decide +kernel
theorem dL_addZone_20 : decode cL_addZone 20 = .ok (.ireturn, 1) := by decide +kernel
theorem dL_addZone_21 : decode cL_addZone 21 = .ok (.astore 6, 2) := by decide +kernel
theorem dL_addZone_23 : decode cL_addZone 23 = .ok (.iconst 2, 1) := by decide +kernel
theorem dL_addZone_24 : decode cL_addZone 24 = .ok (.ireturn, 1) := by decide +kernel
theorem dL_addZone_25 : decode cL_addZone 25 = .ok (.iconst 0, 1) := by decide +kernel
theorem dL_addZone_26 : decode cL_addZone 26 = .ok (.ireturn, 1) := by decide +kernel
theorem dL_removeZone_0 : decode cL_removeZone 0 = .ok (.aload_n 2, 1) := by decide +kernel
theorem dL_removeZone_1 : decode cL_removeZone 1 = .ok (.iconst 0, 1) := by decide +kernel
theorem dL_removeZone_2 : decode cL_removeZone 2 = .ok (.aload_n 0, 1) := by decide +kernel
theorem dL_removeZone_3 : decode cL_removeZone 3 = .ok (.iload_n 1, 1) := by decide +kernel
theorem dL_removeZone_4 : decode cL_removeZone 4 = .ok (.invokevirtual 33, 3) := by decide +kernel
theorem dL_removeZone_7 : decode cL_removeZone 7 = .ok (.i2l, 1) := by decide +kernel
theorem dL_removeZone_8 : decode cL_removeZone 8 = .ok (.lastore, 1) := by decide +kernel
theorem dL_removeZone_9 : decode cL_removeZone 9 = .ok (.goto 6, 3) := by decide +kernel
theorem dL_removeZone_12 : decode cL_removeZone 12 = .ok (.astore_n 3, 1) := by decide +kernel
theorem dL_removeZone_13 : decode cL_removeZone 13 = .ok (.iconst 1, 1) := by decide +kernel
theorem dL_removeZone_14 : decode cL_removeZone 14 = .ok (.ireturn, 1) := by decide +kernel
theorem dL_removeZone_15 : decode cL_removeZone 15 = .ok (.iconst 0, 1) := by decide +kernel
theorem dL_removeZone_16 : decode cL_removeZone 16 = .ok (.ireturn, 1) := by decide +kernel
theorem dL_setBoom_0 : decode cL_setBoom 0 = .ok (.aload 4, 2) := by decide +kernel
theorem dL_setBoom_2 : decode cL_setBoom 2 = .ok (.iconst 0, 1) := by decide +kernel
theorem dL_setBoom_3 : decode cL_setBoom 3 = .ok (.aload_n 0, 1) := by decide +kernel
theorem dL_setBoom_4 : decode cL_setBoom 4 = .ok (.iload_n 1, 1) := by decide +kernel
theorem dL_setBoom_5 : decode cL_setBoom 5 = .ok (.iload_n 2, 1) := by decide +kernel
theorem dL_setBoom_6 : decode cL_setBoom 6 = .ok (.iload_n 3, 1) := by decide +kernel
theorem dL_setBoom_7 : decode cL_setBoom 7 = .ok (.invokevirtual 37, 3) := by decide +kernel
theorem dL_setBoom_10 : decode cL_setBoom 10 = .ok (.i2l, 1) := by decide +kernel
theorem dL_setBoom_11 : decode cL_setBoom 11 = .ok (.lastore, 1) := by decide +kernel
theorem dL_setBoom_12 : decode cL_setBoom 12 = .ok (.goto 11, 3) := by decide +kernel
theorem dL_setBoom_15 : decode cL_setBoom 15 = .ok (.astore 5, 2) := by decide +kernel
theorem dL_setBoom_17 : decode cL_setBoom 17 = .ok (.iconst 1, 1) := by decide +kernel
theorem dL_setBoom_18 : decode cL_setBoom 18 = .ok (.ireturn, 1) := by decide +kernel
theorem dL_setBoom_19 : decode cL_setBoom 19 = .ok (.astore 5, 2) := by decide +kernel
theorem dL_setBoom_21 : decode cL_setBoom 21 = .ok (.iconst 2, 1) := by decide +kernel
theorem dL_setBoom_22 : decode cL_setBoom 22 = .ok (.ireturn, 1) := by decide +kernel
theorem dL_setBoom_23 : decode cL_setBoom 23 = .ok (.iconst 0, 1) := by decide +kernel
theorem dL_setBoom_24 : decode cL_setBoom 24 = .ok (.ireturn, 1) := by decide +kernel
theorem dL_wind_0 : decode cL_wind 0 = .ok (.aload_n 2, 1) := by decide +kernel
theorem dL_wind_1 : decode cL_wind 1 = .ok (.iconst 0, 1) := by decide +kernel
theorem dL_wind_2 : decode cL_wind 2 = .ok (.aload_n 0, 1) := by decide +kernel
theorem dL_wind_3 : decode cL_wind 3 = .ok (.iload_n 1, 1) := by decide +kernel
theorem dL_wind_4 : decode cL_wind 4 = .ok (.invokevirtual 40, 3) := by decide +kernel
theorem dL_wind_7 : decode cL_wind 7 = .ok (.i2l, 1) := by decide +kernel
theorem dL_wind_8 : decode cL_wind 8 = .ok (.lastore, 1) := by decide +kernel
theorem dL_wind_9 : decode cL_wind 9 = .ok (.goto 6, 3) := by decide +kernel
theorem dL_wind_12 : decode cL_wind 12 = .ok (.astore_n 3, 1) := by decide +kernel
theorem dL_wind_13 : decode cL_wind 13 = .ok (.iconst 1, 1) := by decide +kernel
theorem dL_wind_14 : decode cL_wind 14 = .ok (.ireturn, 1) := by decide +kernel
theorem dL_wind_15 : decode cL_wind 15 = .ok (.iconst 0, 1) := by decide +kernel
theorem dL_wind_16 : decode cL_wind 16 = .ok (.ireturn, 1) := by decide +kernel
theorem dL_attach_0 : decode cL_attach 0 = .ok (.aload_n 2, 1) := by decide +kernel
theorem dL_attach_1 : decode cL_attach 1 = .ok (.iconst 0, 1) := by decide +kernel
theorem dL_attach_2 : decode cL_attach 2 = .ok (.aload_n 0, 1) := by decide +kernel
theorem dL_attach_3 : decode cL_attach 3 = .ok (.iload_n 1, 1) := by decide +kernel
theorem dL_attach_4 : decode cL_attach 4 = .ok (.invokevirtual 43, 3) := by decide +kernel
theorem dL_attach_7 : decode cL_attach 7 = .ok (.i2l, 1) := by decide +kernel
theorem dL_attach_8 : decode cL_attach 8 = .ok (.lastore, 1) := by decide +kernel
theorem dL_attach_9 : decode cL_attach 9 = .ok (.goto 9, 3) := by decide +kernel
theorem dL_attach_12 : decode cL_attach 12 = .ok (.astore_n 3, 1) := by decide +kernel
theorem dL_attach_13 : decode cL_attach 13 = .ok (.iconst 1, 1) := by decide +kernel
theorem dL_attach_14 : decode cL_attach 14 = .ok (.ireturn, 1) := by decide +kernel
theorem dL_attach_15 : decode cL_attach 15 = .ok (.astore_n 3, 1) := by decide +kernel
theorem dL_attach_16 : decode cL_attach 16 = .ok (.iconst 2, 1) := by decide +kernel
theorem dL_attach_17 : decode cL_attach 17 = .ok (.ireturn, 1) := by decide +kernel
theorem dL_attach_18 : decode cL_attach 18 = .ok (.iconst 0, 1) := by decide +kernel
theorem dL_attach_19 : decode cL_attach 19 = .ok (.ireturn, 1) := by decide +kernel
theorem dL_setTare_0 : decode cL_setTare 0 = .ok (.aload_n 2, 1) := by decide +kernel
theorem dL_setTare_1 : decode cL_setTare 1 = .ok (.iconst 0, 1) := by decide +kernel
theorem dL_setTare_2 : decode cL_setTare 2 = .ok (.aload_n 0, 1) := by decide +kernel
theorem dL_setTare_3 : decode cL_setTare 3 = .ok (.iload_n 1, 1) := by decide +kernel
theorem dL_setTare_4 : decode cL_setTare 4 = .ok (.invokevirtual 46, 3) := by decide +kernel
theorem dL_setTare_7 : decode cL_setTare 7 = .ok (.i2l, 1) := by decide +kernel
theorem dL_setTare_8 : decode cL_setTare 8 = .ok (.lastore, 1) := by decide +kernel
theorem dL_setTare_9 : decode cL_setTare 9 = .ok (.goto 6, 3) := by decide +kernel
theorem dL_setTare_12 : decode cL_setTare 12 = .ok (.astore_n 3, 1) := by decide +kernel
theorem dL_setTare_13 : decode cL_setTare 13 = .ok (.iconst 1, 1) := by decide +kernel
theorem dL_setTare_14 : decode cL_setTare 14 = .ok (.ireturn, 1) := by decide +kernel
theorem dL_setTare_15 : decode cL_setTare 15 = .ok (.iconst 0, 1) := by decide +kernel
theorem dL_setTare_16 : decode cL_setTare 16 = .ok (.ireturn, 1) := by decide +kernel
theorem dL_bypass_0 : decode cL_bypass 0 = .ok (.aload_n 2, 1) := by decide +kernel
theorem dL_bypass_1 : decode cL_bypass 1 = .ok (.iconst 0, 1) := by decide +kernel
theorem dL_bypass_2 : decode cL_bypass 2 = .ok (.aload_n 0, 1) := by decide +kernel
theorem dL_bypass_3 : decode cL_bypass 3 = .ok (.iload_n 1, 1) := by decide +kernel
theorem dL_bypass_4 : decode cL_bypass 4 = .ok (.invokevirtual 49, 3) := by decide +kernel
theorem dL_bypass_7 : decode cL_bypass 7 = .ok (.i2l, 1) := by decide +kernel
theorem dL_bypass_8 : decode cL_bypass 8 = .ok (.lastore, 1) := by decide +kernel
theorem dL_bypass_9 : decode cL_bypass 9 = .ok (.goto 6, 3) := by decide +kernel
theorem dL_bypass_12 : decode cL_bypass 12 = .ok (.astore_n 3, 1) := by decide +kernel
theorem dL_bypass_13 : decode cL_bypass 13 = .ok (.iconst 1, 1) := by decide +kernel
theorem dL_bypass_14 : decode cL_bypass 14 = .ok (.ireturn, 1) := by decide +kernel
theorem dL_bypass_15 : decode cL_bypass 15 = .ok (.iconst 0, 1) := by decide +kernel
theorem dL_bypass_16 : decode cL_bypass 16 = .ok (.ireturn, 1) := by decide +kernel
theorem dL_run_0 : decode cL_run 0 = .ok (.aload_n 3, 1) := by decide +kernel
theorem dL_run_1 : decode cL_run 1 = .ok (.iconst 0, 1) := by decide +kernel
theorem dL_run_2 : decode cL_run 2 = .ok (.aload_n 0, 1) := by decide +kernel
theorem dL_run_3 : decode cL_run 3 = .ok (.iload_n 1, 1) := by decide +kernel
theorem dL_run_4 : decode cL_run 4 = .ok (.iload_n 2, 1) := by decide +kernel
theorem dL_run_5 : decode cL_run 5 = .ok (.invokevirtual 52, 3) := by decide +kernel
theorem dL_run_8 : decode cL_run 8 = .ok (.i2l, 1) := by decide +kernel
theorem dL_run_9 : decode cL_run 9 = .ok (.lastore, 1) := by decide +kernel
theorem dL_run_10 : decode cL_run 10 = .ok (.goto 7, 3) := by decide +kernel
theorem dL_run_13 : decode cL_run 13 = .ok (.astore 4, 2) := by decide +kernel
theorem dL_run_15 : decode cL_run 15 = .ok (.iconst 1, 1) := by decide +kernel
theorem dL_run_16 : decode cL_run 16 = .ok (.ireturn, 1) := by decide +kernel
theorem dL_run_17 : decode cL_run 17 = .ok (.iconst 0, 1) := by decide +kernel
theorem dL_run_18 : decode cL_run 18 = .ok (.ireturn, 1) := by decide +kernel
theorem dL_predicted_0 : decode cL_predicted 0 = .ok (.aload_n 2, 1) := by decide +kernel
theorem dL_predicted_1 : decode cL_predicted 1 = .ok (.iconst 0, 1) := by decide +kernel
theorem dL_predicted_2 : decode cL_predicted 2 = .ok (.aload_n 0, 1) := by decide +kernel
theorem dL_predicted_3 : decode cL_predicted 3 = .ok (.iload_n 1, 1) := by decide +kernel
theorem dL_predicted_4 : decode cL_predicted 4 = .ok (.invokevirtual 55, 3) := by decide +kernel
theorem dL_predicted_7 : decode cL_predicted 7 = .ok (.i2l, 1) := by decide +kernel
theorem dL_predicted_8 : decode cL_predicted 8 = .ok (.lastore, 1) := by decide +kernel
theorem dL_predicted_9 : decode cL_predicted 9 = .ok (.goto 6, 3) := by decide +kernel
theorem dL_predicted_12 : decode cL_predicted 12 = .ok (.astore_n 3, 1) := by decide +kernel
theorem dL_predicted_13 : decode cL_predicted 13 = .ok (.iconst 1, 1) := by decide +kernel
theorem dL_predicted_14 : decode cL_predicted 14 = .ok (.ireturn, 1) := by decide +kernel
theorem dL_predicted_15 : decode cL_predicted 15 = .ok (.iconst 0, 1) := by decide +kernel
theorem dL_predicted_16 : decode cL_predicted 16 = .ok (.ireturn, 1) := by decide +kernel
theorem dL_boom_0 : decode cL_boom 0 = .ok (.aload_n 2, 1) := by decide +kernel
theorem dL_boom_1 : decode cL_boom 1 = .ok (.iconst 0, 1) := by decide +kernel
theorem dL_boom_2 : decode cL_boom 2 = .ok (.aload_n 0, 1) := by decide +kernel
theorem dL_boom_3 : decode cL_boom 3 = .ok (.iload_n 1, 1) := by decide +kernel
theorem dL_boom_4 : decode cL_boom 4 = .ok (.invokevirtual 58, 3) := by decide +kernel
theorem dL_boom_7 : decode cL_boom 7 = .ok (.i2l, 1) := by decide +kernel
theorem dL_boom_8 : decode cL_boom 8 = .ok (.lastore, 1) := by decide +kernel
theorem dL_boom_9 : decode cL_boom 9 = .ok (.goto 6, 3) := by decide +kernel
theorem dL_boom_12 : decode cL_boom 12 = .ok (.astore_n 3, 1) := by decide +kernel
theorem dL_boom_13 : decode cL_boom 13 = .ok (.iconst 1, 1) := by decide +kernel
theorem dL_boom_14 : decode cL_boom 14 = .ok (.ireturn, 1) := by decide +kernel
theorem dL_boom_15 : decode cL_boom 15 = .ok (.iconst 0, 1) := by decide +kernel
theorem dL_boom_16 : decode cL_boom 16 = .ok (.ireturn, 1) := by decide +kernel
theorem dL_limiter_0 : decode cL_limiter 0 = .ok (.aload_n 2, 1) := by decide +kernel
theorem dL_limiter_1 : decode cL_limiter 1 = .ok (.iconst 0, 1) := by decide +kernel
theorem dL_limiter_2 : decode cL_limiter 2 = .ok (.aload_n 0, 1) := by decide +kernel
theorem dL_limiter_3 : decode cL_limiter 3 = .ok (.iload_n 1, 1) := by decide +kernel
theorem dL_limiter_4 : decode cL_limiter 4 = .ok (.invokevirtual 61, 3) := by decide +kernel
theorem dL_limiter_7 : decode cL_limiter 7 = .ok (.i2l, 1) := by decide +kernel
theorem dL_limiter_8 : decode cL_limiter 8 = .ok (.lastore, 1) := by decide +kernel
theorem dL_limiter_9 : decode cL_limiter 9 = .ok (.goto 6, 3) := by decide +kernel
theorem dL_limiter_12 : decode cL_limiter 12 = .ok (.astore_n 3, 1) := by decide +kernel
theorem dL_limiter_13 : decode cL_limiter 13 = .ok (.iconst 1, 1) := by decide +kernel
theorem dL_limiter_14 : decode cL_limiter 14 = .ok (.ireturn, 1) := by decide +kernel
theorem dL_limiter_15 : decode cL_limiter 15 = .ok (.iconst 0, 1) := by decide +kernel
theorem dL_limiter_16 : decode cL_limiter 16 = .ok (.ireturn, 1) := by decide +kernel
theorem dL_rated_0 : decode cL_rated 0 = .ok (.aload 4, 2) := by decide +kernel
theorem dL_rated_2 : decode cL_rated 2 = .ok (.iconst 0, 1) := by decide +kernel
theorem dL_rated_3 : decode cL_rated 3 = .ok (.aload_n 0, 1) := by decide +kernel
theorem dL_rated_4 : decode cL_rated 4 = .ok (.iload_n 1, 1) := by decide +kernel
theorem dL_rated_5 : decode cL_rated 5 = .ok (.iload_n 2, 1) := by decide +kernel
theorem dL_rated_6 : decode cL_rated 6 = .ok (.iload_n 3, 1) := by decide +kernel
theorem dL_rated_7 : decode cL_rated 7 = .ok (.invokevirtual 64, 3) := by decide +kernel
theorem dL_rated_10 : decode cL_rated 10 = .ok (.i2l, 1) := by decide +kernel
theorem dL_rated_11 : decode cL_rated 11 = .ok (.lastore, 1) := by decide +kernel
theorem dL_rated_12 : decode cL_rated 12 = .ok (.goto 7, 3) := by decide +kernel
theorem dL_rated_15 : decode cL_rated 15 = .ok (.astore 5, 2) := by decide +kernel
theorem dL_rated_17 : decode cL_rated 17 = .ok (.iconst 1, 1) := by decide +kernel
theorem dL_rated_18 : decode cL_rated 18 = .ok (.ireturn, 1) := by decide +kernel
theorem dL_rated_19 : decode cL_rated 19 = .ok (.iconst 0, 1) := by decide +kernel
theorem dL_rated_20 : decode cL_rated 20 = .ok (.ireturn, 1) := by decide +kernel
theorem dL_maxRadius_0 : decode cL_maxRadius 0 = .ok (.aload_n 2, 1) := by decide +kernel
theorem dL_maxRadius_1 : decode cL_maxRadius 1 = .ok (.iconst 0, 1) := by decide +kernel
theorem dL_maxRadius_2 : decode cL_maxRadius 2 = .ok (.aload_n 0, 1) := by decide +kernel
theorem dL_maxRadius_3 : decode cL_maxRadius 3 = .ok (.iload_n 1, 1) := by decide +kernel
theorem dL_maxRadius_4 : decode cL_maxRadius 4 = .ok (.invokevirtual 67, 3) := by decide +kernel
theorem dL_maxRadius_7 : decode cL_maxRadius 7 = .ok (.i2l, 1) := by decide +kernel
theorem dL_maxRadius_8 : decode cL_maxRadius 8 = .ok (.lastore, 1) := by decide +kernel
theorem dL_maxRadius_9 : decode cL_maxRadius 9 = .ok (.goto 6, 3) := by decide +kernel
theorem dL_maxRadius_12 : decode cL_maxRadius 12 = .ok (.astore_n 3, 1) := by decide +kernel
theorem dL_maxRadius_13 : decode cL_maxRadius 13 = .ok (.iconst 1, 1) := by decide +kernel
theorem dL_maxRadius_14 : decode cL_maxRadius 14 = .ok (.ireturn, 1) := by decide +kernel
theorem dL_maxRadius_15 : decode cL_maxRadius 15 = .ok (.iconst 0, 1) := by decide +kernel
theorem dL_maxRadius_16 : decode cL_maxRadius 16 = .ok (.ireturn, 1) := by decide +kernel
theorem dL_worstSlew_0 : decode cL_worstSlew 0 = .ok (.aload 4, 2) := by decide +kernel
theorem dL_worstSlew_2 : decode cL_worstSlew 2 = .ok (.iconst 0, 1) := by decide +kernel
theorem dL_worstSlew_3 : decode cL_worstSlew 3 = .ok (.aload_n 0, 1) := by decide +kernel
theorem dL_worstSlew_4 : decode cL_worstSlew 4 = .ok (.iload_n 1, 1) := by decide +kernel
theorem dL_worstSlew_5 : decode cL_worstSlew 5 = .ok (.iload_n 2, 1) := by decide +kernel
theorem dL_worstSlew_6 : decode cL_worstSlew 6 = .ok (.iload_n 3, 1) := by decide +kernel
theorem dL_worstSlew_7 : decode cL_worstSlew 7 = .ok (.invokevirtual 70, 3) := by decide +kernel
theorem dL_worstSlew_10 : decode cL_worstSlew 10 = .ok (.i2l, 1) := by decide +kernel
theorem dL_worstSlew_11 : decode cL_worstSlew 11 = .ok (.lastore, 1) := by decide +kernel
theorem dL_worstSlew_12 : decode cL_worstSlew 12 = .ok (.goto 7, 3) := by decide +kernel
theorem dL_worstSlew_15 : decode cL_worstSlew 15 = .ok (.astore 5, 2) := by decide +kernel
theorem dL_worstSlew_17 : decode cL_worstSlew 17 = .ok (.iconst 1, 1) := by decide +kernel
theorem dL_worstSlew_18 : decode cL_worstSlew 18 = .ok (.ireturn, 1) := by decide +kernel
theorem dL_worstSlew_19 : decode cL_worstSlew 19 = .ok (.iconst 0, 1) := by decide +kernel
theorem dL_worstSlew_20 : decode cL_worstSlew 20 = .ok (.ireturn, 1) := by decide +kernel
theorem dL_event_0 : decode cL_event 0 = .ok (.aload_n 3, 1) := by decide +kernel
theorem dL_event_1 : decode cL_event 1 = .ok (.iconst 0, 1) := by decide +kernel
theorem dL_event_2 : decode cL_event 2 = .ok (.aload_n 0, 1) := by decide +kernel
theorem dL_event_3 : decode cL_event 3 = .ok (.iload_n 1, 1) := by decide +kernel
theorem dL_event_4 : decode cL_event 4 = .ok (.iload_n 2, 1) := by decide +kernel
theorem dL_event_5 : decode cL_event 5 = .ok (.invokevirtual 73, 3) := by decide +kernel
theorem dL_event_8 : decode cL_event 8 = .ok (.i2l, 1) := by decide +kernel
theorem dL_event_9 : decode cL_event 9 = .ok (.lastore, 1) := by decide +kernel
theorem dL_event_10 : decode cL_event 10 = .ok (.goto 11, 3) := by decide +kernel
theorem dL_event_13 : decode cL_event 13 = .ok (.astore 4, 2) := by decide +kernel
theorem dL_event_15 : decode cL_event 15 = .ok (.iconst 1, 1) := by decide +kernel
theorem dL_event_16 : decode cL_event 16 = .ok (.ireturn, 1) := by decide +kernel
theorem dL_event_17 : decode cL_event 17 = .ok (.astore 4, 2) := by decide +kernel
theorem dL_event_19 : decode cL_event 19 = .ok (.iconst 2, 1) := by decide +kernel
theorem dL_event_20 : decode cL_event 20 = .ok (.ireturn, 1) := by decide +kernel
theorem dL_event_21 : decode cL_event 21 = .ok (.iconst 0, 1) := by decide +kernel
theorem dL_event_22 : decode cL_event 22 = .ok (.ireturn, 1) := by decide +kernel
theorem dL_stateTime_0 : decode cL_stateTime 0 = .ok (.aload_n 2, 1) := by decide +kernel
theorem dL_stateTime_1 : decode cL_stateTime 1 = .ok (.iconst 0, 1) := by decide +kernel
theorem dL_stateTime_2 : decode cL_stateTime 2 = .ok (.aload_n 0, 1) := by decide +kernel
theorem dL_stateTime_3 : decode cL_stateTime 3 = .ok (.iload_n 1, 1) := by decide +kernel
theorem dL_stateTime_4 : decode cL_stateTime 4 = .ok (.invokevirtual 76, 3) := by decide +kernel
theorem dL_stateTime_7 : decode cL_stateTime 7 = .ok (.i2l, 1) := by decide +kernel
theorem dL_stateTime_8 : decode cL_stateTime 8 = .ok (.lastore, 1) := by decide +kernel
theorem dL_stateTime_9 : decode cL_stateTime 9 = .ok (.goto 6, 3) := by decide +kernel
theorem dL_stateTime_12 : decode cL_stateTime 12 = .ok (.astore_n 3, 1) := by decide +kernel
theorem dL_stateTime_13 : decode cL_stateTime 13 = .ok (.iconst 1, 1) := by decide +kernel
theorem dL_stateTime_14 : decode cL_stateTime 14 = .ok (.ireturn, 1) := by decide +kernel
theorem dL_stateTime_15 : decode cL_stateTime 15 = .ok (.iconst 0, 1) := by decide +kernel
theorem dL_stateTime_16 : decode cL_stateTime 16 = .ok (.ireturn, 1) := by decide +kernel
theorem dL_lifts_0 : decode cL_lifts 0 = .ok (.aload_n 2, 1) := by decide +kernel
theorem dL_lifts_1 : decode cL_lifts 1 = .ok (.iconst 0, 1) := by decide +kernel
theorem dL_lifts_2 : decode cL_lifts 2 = .ok (.aload_n 0, 1) := by decide +kernel
theorem dL_lifts_3 : decode cL_lifts 3 = .ok (.iload_n 1, 1) := by decide +kernel
theorem dL_lifts_4 : decode cL_lifts 4 = .ok (.invokevirtual 79, 3) := by decide +kernel
theorem dL_lifts_7 : decode cL_lifts 7 = .ok (.i2l, 1) := by decide +kernel
theorem dL_lifts_8 : decode cL_lifts 8 = .ok (.lastore, 1) := by decide +kernel
theorem dL_lifts_9 : decode cL_lifts 9 = .ok (.goto 6, 3) := by decide +kernel
theorem dL_lifts_12 : decode cL_lifts 12 = .ok (.astore_n 3, 1) := by decide +kernel
theorem dL_lifts_13 : decode cL_lifts 13 = .ok (.iconst 1, 1) := by decide +kernel
theorem dL_lifts_14 : decode cL_lifts 14 = .ok (.ireturn, 1) := by decide +kernel
theorem dL_lifts_15 : decode cL_lifts 15 = .ok (.iconst 0, 1) := by decide +kernel
theorem dL_lifts_16 : decode cL_lifts 16 = .ok (.ireturn, 1) := by decide +kernel
theorem dL_type_0 : decode cL_type 0 = .ok (.aload_n 2, 1) := by decide +kernel
theorem dL_type_1 : decode cL_type 1 = .ok (.iconst 0, 1) := by decide +kernel
theorem dL_type_2 : decode cL_type 2 = .ok (.aload_n 0, 1) := by decide +kernel
theorem dL_type_3 : decode cL_type 3 = .ok (.iload_n 1, 1) := by decide +kernel
theorem dL_type_4 : decode cL_type 4 = .ok (.invokevirtual 82, 3) := by decide +kernel
theorem dL_type_7 : decode cL_type 7 = .ok (.i2l, 1) := by decide +kernel
theorem dL_type_8 : decode cL_type 8 = .ok (.lastore, 1) := by decide +kernel
theorem dL_type_9 : decode cL_type 9 = .ok (.goto 9, 3) := by decide +kernel
theorem dL_type_12 : decode cL_type 12 = .ok (.astore_n 3, 1) := by decide +kernel
theorem dL_type_13 : decode cL_type 13 = .ok (.iconst 1, 1) := by decide +kernel
theorem dL_type_14 : decode cL_type 14 = .ok (.ireturn, 1) := by decide +kernel
theorem dL_type_15 : decode cL_type 15 = .ok (.astore_n 3, 1) := by decide +kernel
theorem dL_type_16 : decode cL_type 16 = .ok (.iconst 2, 1) := by decide +kernel
theorem dL_type_17 : decode cL_type 17 = .ok (.ireturn, 1) := by decide +kernel
theorem dL_type_18 : decode cL_type 18 = .ok (.iconst 0, 1) := by decide +kernel
theorem dL_type_19 : decode cL_type 19 = .ok (.ireturn, 1) := by decide +kernel
theorem dL_undo_0 : decode cL_undo 0 = .ok (.aload_n 1, 1) := by decide +kernel
theorem dL_undo_1 : decode cL_undo 1 = .ok (.iconst 0, 1) := by decide +kernel
theorem dL_undo_2 : decode cL_undo 2 = .ok (.aload_n 0, 1) := by decide +kernel
theorem dL_undo_3 : decode cL_undo 3 = .ok (.invokevirtual 85, 3) := by decide +kernel
theorem dL_undo_6 : decode cL_undo 6 = .ok (.i2l, 1) := by decide +kernel
theorem dL_undo_7 : decode cL_undo 7 = .ok (.lastore, 1) := by decide +kernel
theorem dL_undo_8 : decode cL_undo 8 = .ok (.goto 6, 3) := by decide +kernel
theorem dL_undo_11 : decode cL_undo 11 = .ok (.astore_n 2, 1) := by decide +kernel
theorem dL_undo_12 : decode cL_undo 12 = .ok (.iconst 1, 1) := by decide +kernel
theorem dL_undo_13 : decode cL_undo 13 = .ok (.ireturn, 1) := by decide +kernel
theorem dL_undo_14 : decode cL_undo 14 = .ok (.iconst 0, 1) := by decide +kernel
theorem dL_undo_15 : decode cL_undo 15 = .ok (.ireturn, 1) := by decide +kernel
theorem dL_law_0 : decode cL_law 0 = .ok (.new 8, 3) := by decide +kernel
theorem dL_law_3 : decode cL_law 3 = .ok (.dup, 1) := by decide +kernel
theorem dL_law_4 : decode cL_law 4 = .ok (.invokespecial 89, 3) := by decide +kernel
theorem dL_law_7 : decode cL_law 7 = .ok (.astore_n 1, 1) := by decide +kernel
theorem dL_law_8 : decode cL_law 8 = .ok (.new 90, 3) := by decide +kernel
theorem dL_law_11 : decode cL_law 11 = .ok (.dup, 1) := by decide +kernel
theorem dL_law_12 : decode cL_law 12 = .ok (.invokespecial 92, 3) := by decide +kernel
theorem dL_law_15 : decode cL_law 15 = .ok (.astore_n 2, 1) := by decide +kernel
theorem dL_law_16 : decode cL_law 16 = .ok (.iconst 1, 1) := by decide +kernel
theorem dL_law_17 : decode cL_law 17 = .ok (.newarray .long, 2) := by decide +kernel
theorem dL_law_19 : decode cL_law 19 = .ok (.astore_n 3, 1) := by decide +kernel
theorem dL_law_20 : decode cL_law 20 = .ok (.iconst 0, 1) := by decide +kernel
theorem dL_law_21 : decode cL_law 21 = .ok (.istore 4, 2) := by decide +kernel
theorem dL_law_23 : decode cL_law 23 = .ok (.iload 4, 2) := by decide +kernel
theorem dL_law_25 : decode cL_law 25 = .ok (.aload_n 0, 1) := by decide +kernel
theorem dL_law_26 : decode cL_law 26 = .ok (.arraylength, 1) := by decide +kernel
theorem dL_law_27 : decode cL_law 27 = .ok (.iconst 5, 1) := by decide +kernel
theorem dL_law_28 : decode cL_law 28 = .ok (.isub, 1) := by decide +kernel
theorem dL_law_29 : decode cL_law 29 = .ok (.if_icmp .gt 1761, 3) := by decide +kernel
theorem dL_law_32 : decode cL_law 32 = .ok (.aload_n 0, 1) := by decide +kernel
theorem dL_law_33 : decode cL_law 33 = .ok (.iload 4, 2) := by decide +kernel
theorem dL_law_35 : decode cL_law 35 = .ok (.iaload, 1) := by decide +kernel
theorem dL_law_36 : decode cL_law 36 = .ok (.bipush 31, 2) := by decide +kernel
theorem dL_law_38 : decode cL_law 38 = .ok (.iand, 1) := by decide +kernel
theorem dL_law_39 : decode cL_law 39 = .ok (.tableswitch 1745 0 29 #[133, 201, 242, 334, 402, 482, 574, 630, 710, 766, 822, 878, 934, 1002, 1015, 1071, 1127, 1183, 1263, 1319, 1399, 1412, 1480, 1536, 1592, 1605, 1661, 1674, 1687, 1731], 133) := by decide +kernel
theorem dL_law_172 : decode cL_law 172 = .ok (.aload_n 1, 1) := by decide +kernel
theorem dL_law_173 : decode cL_law 173 = .ok (.aload_n 0, 1) := by decide +kernel
theorem dL_law_174 : decode cL_law 174 = .ok (.iload 4, 2) := by decide +kernel
theorem dL_law_176 : decode cL_law 176 = .ok (.iconst 1, 1) := by decide +kernel
theorem dL_law_177 : decode cL_law 177 = .ok (.iadd, 1) := by decide +kernel
theorem dL_law_178 : decode cL_law 178 = .ok (.iaload, 1) := by decide +kernel
theorem dL_law_179 : decode cL_law 179 = .ok (.aload_n 0, 1) := by decide +kernel
theorem dL_law_180 : decode cL_law 180 = .ok (.iload 4, 2) := by decide +kernel
theorem dL_law_182 : decode cL_law 182 = .ok (.iconst 2, 1) := by decide +kernel
theorem dL_law_183 : decode cL_law 183 = .ok (.iadd, 1) := by decide +kernel
theorem dL_law_184 : decode cL_law 184 = .ok (.iaload, 1) := by decide +kernel
theorem dL_law_185 : decode cL_law 185 = .ok (.aload_n 3, 1) := by decide +kernel
theorem dL_law_186 : decode cL_law 186 = .ok (.invokestatic 93, 3) := by decide +kernel
theorem dL_law_189 : decode cL_law 189 = .ok (.istore 5, 2) := by decide +kernel
theorem dL_law_191 : decode cL_law 191 = .ok (.aload_n 2, 1) := by decide +kernel
theorem dL_law_192 : decode cL_law 192 = .ok (.aload_n 0, 1) := by decide +kernel
theorem dL_law_193 : decode cL_law 193 = .ok (.iload 4, 2) := by decide +kernel
theorem dL_law_195 : decode cL_law 195 = .ok (.iconst 1, 1) := by decide +kernel
theorem dL_law_196 : decode cL_law 196 = .ok (.iadd, 1) := by decide +kernel
theorem dL_law_197 : decode cL_law 197 = .ok (.iaload, 1) := by decide +kernel
theorem dL_law_198 : decode cL_law 198 = .ok (.aload_n 0, 1) := by decide +kernel
theorem dL_law_199 : decode cL_law 199 = .ok (.iload 4, 2) := by decide +kernel
theorem dL_law_201 : decode cL_law 201 = .ok (.iconst 2, 1) := by decide +kernel
theorem dL_law_202 : decode cL_law 202 = .ok (.iadd, 1) := by decide +kernel
theorem dL_law_203 : decode cL_law 203 = .ok (.iaload, 1) := by decide +kernel
theorem dL_law_204 : decode cL_law 204 = .ok (.invokevirtual 98, 3) := by decide +kernel
theorem dL_law_207 : decode cL_law 207 = .ok (.istore 6, 2) := by decide +kernel
theorem dL_law_209 : decode cL_law 209 = .ok (.aload_n 2, 1) := by decide +kernel
theorem dL_law_210 : decode cL_law 210 = .ok (.invokevirtual 99, 3) := by decide +kernel
theorem dL_law_213 : decode cL_law 213 = .ok (.iload 5, 2) := by decide +kernel
theorem dL_law_215 : decode cL_law 215 = .ok (.if_icmp .eq 5, 3) := by decide +kernel
theorem dL_law_218 : decode cL_law 218 = .ok (.iconst 0, 1) := by decide +kernel
theorem dL_law_219 : decode cL_law 219 = .ok (.ireturn, 1) := by decide +kernel
theorem dL_law_220 : decode cL_law 220 = .ok (.iload 5, 2) := by decide +kernel
theorem dL_law_222 : decode cL_law 222 = .ok (.ifCond .ne 15, 3) := by decide +kernel
theorem dL_law_225 : decode cL_law 225 = .ok (.aload_n 3, 1) := by decide +kernel
theorem dL_law_226 : decode cL_law 226 = .ok (.iconst 0, 1) := by decide +kernel
theorem dL_law_227 : decode cL_law 227 = .ok (.laload, 1) := by decide +kernel
theorem dL_law_228 : decode cL_law 228 = .ok (.iload 6, 2) := by decide +kernel
theorem dL_law_230 : decode cL_law 230 = .ok (.i2l, 1) := by decide +kernel
theorem dL_law_231 : decode cL_law 231 = .ok (.lcmp, 1) := by decide +kernel
theorem dL_law_232 : decode cL_law 232 = .ok (.ifCond .eq 5, 3) := by decide +kernel
theorem dL_law_235 : decode cL_law 235 = .ok (.iconst 0, 1) := by decide +kernel
theorem dL_law_236 : decode cL_law 236 = .ok (.ireturn, 1) := by decide +kernel
theorem dL_law_237 : decode cL_law 237 = .ok (.goto 1547, 3) := by decide +kernel
theorem dL_law_240 : decode cL_law 240 = .ok (.aload_n 1, 1) := by decide +kernel
theorem dL_law_241 : decode cL_law 241 = .ok (.aload_n 0, 1) := by decide +kernel
theorem dL_law_242 : decode cL_law 242 = .ok (.iload 4, 2) := by decide +kernel
theorem dL_law_244 : decode cL_law 244 = .ok (.iconst 1, 1) := by decide +kernel
theorem dL_law_245 : decode cL_law 245 = .ok (.iadd, 1) := by decide +kernel
theorem dL_law_246 : decode cL_law 246 = .ok (.iaload, 1) := by decide +kernel
theorem dL_law_247 : decode cL_law 247 = .ok (.ifCond .eq 7, 3) := by decide +kernel
theorem dL_law_250 : decode cL_law 250 = .ok (.iconst 1, 1) := by decide +kernel
theorem dL_law_251 : decode cL_law 251 = .ok (.goto 4, 3) := by decide +kernel
theorem dL_law_254 : decode cL_law 254 = .ok (.iconst 0, 1) := by decide +kernel
theorem dL_law_255 : decode cL_law 255 = .ok (.invokevirtual 102, 3) := by decide +kernel
theorem dL_law_258 : decode cL_law 258 = .ok (.aload_n 2, 1) := by decide +kernel
theorem dL_law_259 : decode cL_law 259 = .ok (.aload_n 0, 1) := by decide +kernel
theorem dL_law_260 : decode cL_law 260 = .ok (.iload 4, 2) := by decide +kernel
theorem dL_law_262 : decode cL_law 262 = .ok (.iconst 1, 1) := by decide +kernel
theorem dL_law_263 : decode cL_law 263 = .ok (.iadd, 1) := by decide +kernel
theorem dL_law_264 : decode cL_law 264 = .ok (.iaload, 1) := by decide +kernel
theorem dL_law_265 : decode cL_law 265 = .ok (.ifCond .eq 7, 3) := by decide +kernel
theorem dL_law_268 : decode cL_law 268 = .ok (.iconst 1, 1) := by decide +kernel
theorem dL_law_269 : decode cL_law 269 = .ok (.goto 4, 3) := by decide +kernel
theorem dL_law_272 : decode cL_law 272 = .ok (.iconst 0, 1) := by decide +kernel
theorem dL_law_273 : decode cL_law 273 = .ok (.invokevirtual 106, 3) := by decide +kernel
theorem dL_law_276 : decode cL_law 276 = .ok (.if_icmp .eq 1508, 3) := by decide +kernel
theorem dL_law_279 : decode cL_law 279 = .ok (.iconst 0, 1) := by decide +kernel
theorem dL_law_280 : decode cL_law 280 = .ok (.ireturn, 1) := by decide +kernel
theorem dL_law_281 : decode cL_law 281 = .ok (.aload_n 1, 1) := by decide +kernel
theorem dL_law_282 : decode cL_law 282 = .ok (.aload_n 0, 1) := by decide +kernel
theorem dL_law_283 : decode cL_law 283 = .ok (.iload 4, 2) := by decide +kernel
theorem dL_law_285 : decode cL_law 285 = .ok (.iconst 1, 1) := by decide +kernel
theorem dL_law_286 : decode cL_law 286 = .ok (.iadd, 1) := by decide +kernel
theorem dL_law_287 : decode cL_law 287 = .ok (.iaload, 1) := by decide +kernel
theorem dL_law_288 : decode cL_law 288 = .ok (.aload_n 0, 1) := by decide +kernel
theorem dL_law_289 : decode cL_law 289 = .ok (.iload 4, 2) := by decide +kernel
theorem dL_law_291 : decode cL_law 291 = .ok (.iconst 2, 1) := by decide +kernel
theorem dL_law_292 : decode cL_law 292 = .ok (.iadd, 1) := by decide +kernel
theorem dL_law_293 : decode cL_law 293 = .ok (.iaload, 1) := by decide +kernel
theorem dL_law_294 : decode cL_law 294 = .ok (.aload_n 0, 1) := by decide +kernel
theorem dL_law_295 : decode cL_law 295 = .ok (.iload 4, 2) := by decide +kernel
theorem dL_law_297 : decode cL_law 297 = .ok (.iconst 3, 1) := by decide +kernel
theorem dL_law_298 : decode cL_law 298 = .ok (.iadd, 1) := by decide +kernel
theorem dL_law_299 : decode cL_law 299 = .ok (.iaload, 1) := by decide +kernel
theorem dL_law_300 : decode cL_law 300 = .ok (.aload_n 0, 1) := by decide +kernel
theorem dL_law_301 : decode cL_law 301 = .ok (.iload 4, 2) := by decide +kernel
theorem dL_law_303 : decode cL_law 303 = .ok (.iconst 4, 1) := by decide +kernel
theorem dL_law_304 : decode cL_law 304 = .ok (.iadd, 1) := by decide +kernel
theorem dL_law_305 : decode cL_law 305 = .ok (.iaload, 1) := by decide +kernel
theorem dL_law_306 : decode cL_law 306 = .ok (.aload_n 3, 1) := by decide +kernel
theorem dL_law_307 : decode cL_law 307 = .ok (.invokestatic 107, 3) := by decide +kernel
theorem dL_law_310 : decode cL_law 310 = .ok (.istore 5, 2) := by decide +kernel
theorem dL_law_312 : decode cL_law 312 = .ok (.aload_n 2, 1) := by decide +kernel
theorem dL_law_313 : decode cL_law 313 = .ok (.aload_n 0, 1) := by decide +kernel
theorem dL_law_314 : decode cL_law 314 = .ok (.iload 4, 2) := by decide +kernel
theorem dL_law_316 : decode cL_law 316 = .ok (.iconst 1, 1) := by decide +kernel
theorem dL_law_317 : decode cL_law 317 = .ok (.iadd, 1) := by decide +kernel
theorem dL_law_318 : decode cL_law 318 = .ok (.iaload, 1) := by decide +kernel
theorem dL_law_319 : decode cL_law 319 = .ok (.aload_n 0, 1) := by decide +kernel
theorem dL_law_320 : decode cL_law 320 = .ok (.iload 4, 2) := by decide +kernel
theorem dL_law_322 : decode cL_law 322 = .ok (.iconst 2, 1) := by decide +kernel
theorem dL_law_323 : decode cL_law 323 = .ok (.iadd, 1) := by decide +kernel
theorem dL_law_324 : decode cL_law 324 = .ok (.iaload, 1) := by decide +kernel
theorem dL_law_325 : decode cL_law 325 = .ok (.aload_n 0, 1) := by decide +kernel
theorem dL_law_326 : decode cL_law 326 = .ok (.iload 4, 2) := by decide +kernel
theorem dL_law_328 : decode cL_law 328 = .ok (.iconst 3, 1) := by decide +kernel
theorem dL_law_329 : decode cL_law 329 = .ok (.iadd, 1) := by decide +kernel
theorem dL_law_330 : decode cL_law 330 = .ok (.iaload, 1) := by decide +kernel
theorem dL_law_331 : decode cL_law 331 = .ok (.aload_n 0, 1) := by decide +kernel
theorem dL_law_332 : decode cL_law 332 = .ok (.iload 4, 2) := by decide +kernel
theorem dL_law_334 : decode cL_law 334 = .ok (.iconst 4, 1) := by decide +kernel
theorem dL_law_335 : decode cL_law 335 = .ok (.iadd, 1) := by decide +kernel
theorem dL_law_336 : decode cL_law 336 = .ok (.iaload, 1) := by decide +kernel
theorem dL_law_337 : decode cL_law 337 = .ok (.invokevirtual 110, 3) := by decide +kernel
theorem dL_law_340 : decode cL_law 340 = .ok (.istore 6, 2) := by decide +kernel
theorem dL_law_342 : decode cL_law 342 = .ok (.aload_n 2, 1) := by decide +kernel
theorem dL_law_343 : decode cL_law 343 = .ok (.invokevirtual 99, 3) := by decide +kernel
theorem dL_law_346 : decode cL_law 346 = .ok (.iload 5, 2) := by decide +kernel
theorem dL_law_348 : decode cL_law 348 = .ok (.if_icmp .eq 5, 3) := by decide +kernel
theorem dL_law_351 : decode cL_law 351 = .ok (.iconst 0, 1) := by decide +kernel
theorem dL_law_352 : decode cL_law 352 = .ok (.ireturn, 1) := by decide +kernel
theorem dL_law_353 : decode cL_law 353 = .ok (.iload 5, 2) := by decide +kernel
theorem dL_law_355 : decode cL_law 355 = .ok (.ifCond .ne 15, 3) := by decide +kernel
theorem dL_law_358 : decode cL_law 358 = .ok (.aload_n 3, 1) := by decide +kernel
theorem dL_law_359 : decode cL_law 359 = .ok (.iconst 0, 1) := by decide +kernel
theorem dL_law_360 : decode cL_law 360 = .ok (.laload, 1) := by decide +kernel
theorem dL_law_361 : decode cL_law 361 = .ok (.iload 6, 2) := by decide +kernel
theorem dL_law_363 : decode cL_law 363 = .ok (.i2l, 1) := by decide +kernel
theorem dL_law_364 : decode cL_law 364 = .ok (.lcmp, 1) := by decide +kernel
theorem dL_law_365 : decode cL_law 365 = .ok (.ifCond .eq 5, 3) := by decide +kernel
theorem dL_law_368 : decode cL_law 368 = .ok (.iconst 0, 1) := by decide +kernel
theorem dL_law_369 : decode cL_law 369 = .ok (.ireturn, 1) := by decide +kernel
theorem dL_law_370 : decode cL_law 370 = .ok (.goto 1414, 3) := by decide +kernel
theorem dL_law_373 : decode cL_law 373 = .ok (.aload_n 1, 1) := by decide +kernel
theorem dL_law_374 : decode cL_law 374 = .ok (.aload_n 0, 1) := by decide +kernel
theorem dL_law_375 : decode cL_law 375 = .ok (.iload 4, 2) := by decide +kernel
theorem dL_law_377 : decode cL_law 377 = .ok (.iconst 1, 1) := by decide +kernel
theorem dL_law_378 : decode cL_law 378 = .ok (.iadd, 1) := by decide +kernel
theorem dL_law_379 : decode cL_law 379 = .ok (.iaload, 1) := by decide +kernel
theorem dL_law_380 : decode cL_law 380 = .ok (.aload_n 0, 1) := by decide +kernel
theorem dL_law_381 : decode cL_law 381 = .ok (.iload 4, 2) := by decide +kernel
theorem dL_law_383 : decode cL_law 383 = .ok (.iconst 2, 1) := by decide +kernel
theorem dL_law_384 : decode cL_law 384 = .ok (.iadd, 1) := by decide +kernel
theorem dL_law_385 : decode cL_law 385 = .ok (.iaload, 1) := by decide +kernel
theorem dL_law_386 : decode cL_law 386 = .ok (.aload_n 3, 1) := by decide +kernel
theorem dL_law_387 : decode cL_law 387 = .ok (.invokestatic 111, 3) := by decide +kernel
theorem dL_law_390 : decode cL_law 390 = .ok (.istore 5, 2) := by decide +kernel
theorem dL_law_392 : decode cL_law 392 = .ok (.aload_n 2, 1) := by decide +kernel
theorem dL_law_393 : decode cL_law 393 = .ok (.aload_n 0, 1) := by decide +kernel
theorem dL_law_394 : decode cL_law 394 = .ok (.iload 4, 2) := by decide +kernel
theorem dL_law_396 : decode cL_law 396 = .ok (.iconst 1, 1) := by decide +kernel
theorem dL_law_397 : decode cL_law 397 = .ok (.iadd, 1) := by decide +kernel
theorem dL_law_398 : decode cL_law 398 = .ok (.iaload, 1) := by decide +kernel
theorem dL_law_399 : decode cL_law 399 = .ok (.aload_n 0, 1) := by decide +kernel
theorem dL_law_400 : decode cL_law 400 = .ok (.iload 4, 2) := by decide +kernel
theorem dL_law_402 : decode cL_law 402 = .ok (.iconst 2, 1) := by decide +kernel
theorem dL_law_403 : decode cL_law 403 = .ok (.iadd, 1) := by decide +kernel
theorem dL_law_404 : decode cL_law 404 = .ok (.iaload, 1) := by decide +kernel
theorem dL_law_405 : decode cL_law 405 = .ok (.invokevirtual 113, 3) := by decide +kernel
theorem dL_law_408 : decode cL_law 408 = .ok (.istore 6, 2) := by decide +kernel
theorem dL_law_410 : decode cL_law 410 = .ok (.aload_n 2, 1) := by decide +kernel
theorem dL_law_411 : decode cL_law 411 = .ok (.invokevirtual 99, 3) := by decide +kernel
theorem dL_law_414 : decode cL_law 414 = .ok (.iload 5, 2) := by decide +kernel
theorem dL_law_416 : decode cL_law 416 = .ok (.if_icmp .eq 5, 3) := by decide +kernel
theorem dL_law_419 : decode cL_law 419 = .ok (.iconst 0, 1) := by decide +kernel
theorem dL_law_420 : decode cL_law 420 = .ok (.ireturn, 1) := by decide +kernel
theorem dL_law_421 : decode cL_law 421 = .ok (.iload 5, 2) := by decide +kernel
theorem dL_law_423 : decode cL_law 423 = .ok (.ifCond .ne 15, 3) := by decide +kernel
theorem dL_law_426 : decode cL_law 426 = .ok (.aload_n 3, 1) := by decide +kernel
theorem dL_law_427 : decode cL_law 427 = .ok (.iconst 0, 1) := by decide +kernel
theorem dL_law_428 : decode cL_law 428 = .ok (.laload, 1) := by decide +kernel
theorem dL_law_429 : decode cL_law 429 = .ok (.iload 6, 2) := by decide +kernel
theorem dL_law_431 : decode cL_law 431 = .ok (.i2l, 1) := by decide +kernel
theorem dL_law_432 : decode cL_law 432 = .ok (.lcmp, 1) := by decide +kernel
theorem dL_law_433 : decode cL_law 433 = .ok (.ifCond .eq 5, 3) := by decide +kernel
theorem dL_law_436 : decode cL_law 436 = .ok (.iconst 0, 1) := by decide +kernel
theorem dL_law_437 : decode cL_law 437 = .ok (.ireturn, 1) := by decide +kernel
theorem dL_law_438 : decode cL_law 438 = .ok (.goto 1346, 3) := by decide +kernel
theorem dL_law_441 : decode cL_law 441 = .ok (.aload_n 1, 1) := by decide +kernel
theorem dL_law_442 : decode cL_law 442 = .ok (.aload_n 0, 1) := by decide +kernel
theorem dL_law_443 : decode cL_law 443 = .ok (.iload 4, 2) := by decide +kernel
theorem dL_law_445 : decode cL_law 445 = .ok (.iconst 1, 1) := by decide +kernel
theorem dL_law_446 : decode cL_law 446 = .ok (.iadd, 1) := by decide +kernel
theorem dL_law_447 : decode cL_law 447 = .ok (.iaload, 1) := by decide +kernel
theorem dL_law_448 : decode cL_law 448 = .ok (.aload_n 0, 1) := by decide +kernel
theorem dL_law_449 : decode cL_law 449 = .ok (.iload 4, 2) := by decide +kernel
theorem dL_law_451 : decode cL_law 451 = .ok (.iconst 2, 1) := by decide +kernel
theorem dL_law_452 : decode cL_law 452 = .ok (.iadd, 1) := by decide +kernel
theorem dL_law_453 : decode cL_law 453 = .ok (.iaload, 1) := by decide +kernel
theorem dL_law_454 : decode cL_law 454 = .ok (.aload_n 0, 1) := by decide +kernel
theorem dL_law_455 : decode cL_law 455 = .ok (.iload 4, 2) := by decide +kernel
theorem dL_law_457 : decode cL_law 457 = .ok (.iconst 3, 1) := by decide +kernel
theorem dL_law_458 : decode cL_law 458 = .ok (.iadd, 1) := by decide +kernel
theorem dL_law_459 : decode cL_law 459 = .ok (.iaload, 1) := by decide +kernel
theorem dL_law_460 : decode cL_law 460 = .ok (.aload_n 3, 1) := by decide +kernel
theorem dL_law_461 : decode cL_law 461 = .ok (.invokestatic 114, 3) := by decide +kernel
theorem dL_law_464 : decode cL_law 464 = .ok (.istore 5, 2) := by decide +kernel
theorem dL_law_466 : decode cL_law 466 = .ok (.aload_n 2, 1) := by decide +kernel
theorem dL_law_467 : decode cL_law 467 = .ok (.aload_n 0, 1) := by decide +kernel
theorem dL_law_468 : decode cL_law 468 = .ok (.iload 4, 2) := by decide +kernel
theorem dL_law_470 : decode cL_law 470 = .ok (.iconst 1, 1) := by decide +kernel
theorem dL_law_471 : decode cL_law 471 = .ok (.iadd, 1) := by decide +kernel
theorem dL_law_472 : decode cL_law 472 = .ok (.iaload, 1) := by decide +kernel
theorem dL_law_473 : decode cL_law 473 = .ok (.aload_n 0, 1) := by decide +kernel
theorem dL_law_474 : decode cL_law 474 = .ok (.iload 4, 2) := by decide +kernel
theorem dL_law_476 : decode cL_law 476 = .ok (.iconst 2, 1) := by decide +kernel
theorem dL_law_477 : decode cL_law 477 = .ok (.iadd, 1) := by decide +kernel
theorem dL_law_478 : decode cL_law 478 = .ok (.iaload, 1) := by decide +kernel
theorem dL_law_479 : decode cL_law 479 = .ok (.aload_n 0, 1) := by decide +kernel
theorem dL_law_480 : decode cL_law 480 = .ok (.iload 4, 2) := by decide +kernel
theorem dL_law_482 : decode cL_law 482 = .ok (.iconst 3, 1) := by decide +kernel
theorem dL_law_483 : decode cL_law 483 = .ok (.iadd, 1) := by decide +kernel
theorem dL_law_484 : decode cL_law 484 = .ok (.iaload, 1) := by decide +kernel
theorem dL_law_485 : decode cL_law 485 = .ok (.invokevirtual 117, 3) := by decide +kernel
theorem dL_law_488 : decode cL_law 488 = .ok (.istore 6, 2) := by decide +kernel
theorem dL_law_490 : decode cL_law 490 = .ok (.aload_n 2, 1) := by decide +kernel
theorem dL_law_491 : decode cL_law 491 = .ok (.invokevirtual 99, 3) := by decide +kernel
theorem dL_law_494 : decode cL_law 494 = .ok (.iload 5, 2) := by decide +kernel
theorem dL_law_496 : decode cL_law 496 = .ok (.if_icmp .eq 5, 3) := by decide +kernel
theorem dL_law_499 : decode cL_law 499 = .ok (.iconst 0, 1) := by decide +kernel
theorem dL_law_500 : decode cL_law 500 = .ok (.ireturn, 1) := by decide +kernel
theorem dL_law_501 : decode cL_law 501 = .ok (.iload 5, 2) := by decide +kernel
theorem dL_law_503 : decode cL_law 503 = .ok (.ifCond .ne 15, 3) := by decide +kernel
theorem dL_law_506 : decode cL_law 506 = .ok (.aload_n 3, 1) := by decide +kernel
theorem dL_law_507 : decode cL_law 507 = .ok (.iconst 0, 1) := by decide +kernel
theorem dL_law_508 : decode cL_law 508 = .ok (.laload, 1) := by decide +kernel
theorem dL_law_509 : decode cL_law 509 = .ok (.iload 6, 2) := by decide +kernel
theorem dL_law_511 : decode cL_law 511 = .ok (.i2l, 1) := by decide +kernel
theorem dL_law_512 : decode cL_law 512 = .ok (.lcmp, 1) := by decide +kernel
theorem dL_law_513 : decode cL_law 513 = .ok (.ifCond .eq 5, 3) := by decide +kernel
theorem dL_law_516 : decode cL_law 516 = .ok (.iconst 0, 1) := by decide +kernel
theorem dL_law_517 : decode cL_law 517 = .ok (.ireturn, 1) := by decide +kernel
theorem dL_law_518 : decode cL_law 518 = .ok (.goto 1266, 3) := by decide +kernel
theorem dL_law_521 : decode cL_law 521 = .ok (.aload_n 1, 1) := by decide +kernel
theorem dL_law_522 : decode cL_law 522 = .ok (.aload_n 0, 1) := by decide +kernel
theorem dL_law_523 : decode cL_law 523 = .ok (.iload 4, 2) := by decide +kernel
theorem dL_law_525 : decode cL_law 525 = .ok (.iconst 1, 1) := by decide +kernel
theorem dL_law_526 : decode cL_law 526 = .ok (.iadd, 1) := by decide +kernel
theorem dL_law_527 : decode cL_law 527 = .ok (.iaload, 1) := by decide +kernel
theorem dL_law_528 : decode cL_law 528 = .ok (.aload_n 0, 1) := by decide +kernel
theorem dL_law_529 : decode cL_law 529 = .ok (.iload 4, 2) := by decide +kernel
theorem dL_law_531 : decode cL_law 531 = .ok (.iconst 2, 1) := by decide +kernel
theorem dL_law_532 : decode cL_law 532 = .ok (.iadd, 1) := by decide +kernel
theorem dL_law_533 : decode cL_law 533 = .ok (.iaload, 1) := by decide +kernel
theorem dL_law_534 : decode cL_law 534 = .ok (.aload_n 0, 1) := by decide +kernel
theorem dL_law_535 : decode cL_law 535 = .ok (.iload 4, 2) := by decide +kernel
theorem dL_law_537 : decode cL_law 537 = .ok (.iconst 3, 1) := by decide +kernel
theorem dL_law_538 : decode cL_law 538 = .ok (.iadd, 1) := by decide +kernel
theorem dL_law_539 : decode cL_law 539 = .ok (.iaload, 1) := by decide +kernel
theorem dL_law_540 : decode cL_law 540 = .ok (.aload_n 0, 1) := by decide +kernel
theorem dL_law_541 : decode cL_law 541 = .ok (.iload 4, 2) := by decide +kernel
theorem dL_law_543 : decode cL_law 543 = .ok (.iconst 4, 1) := by decide +kernel
theorem dL_law_544 : decode cL_law 544 = .ok (.iadd, 1) := by decide +kernel
theorem dL_law_545 : decode cL_law 545 = .ok (.iaload, 1) := by decide +kernel
theorem dL_law_546 : decode cL_law 546 = .ok (.aload_n 3, 1) := by decide +kernel
theorem dL_law_547 : decode cL_law 547 = .ok (.invokestatic 118, 3) := by decide +kernel
theorem dL_law_550 : decode cL_law 550 = .ok (.istore 5, 2) := by decide +kernel
theorem dL_law_552 : decode cL_law 552 = .ok (.aload_n 2, 1) := by decide +kernel
theorem dL_law_553 : decode cL_law 553 = .ok (.aload_n 0, 1) := by decide +kernel
theorem dL_law_554 : decode cL_law 554 = .ok (.iload 4, 2) := by decide +kernel
theorem dL_law_556 : decode cL_law 556 = .ok (.iconst 1, 1) := by decide +kernel
theorem dL_law_557 : decode cL_law 557 = .ok (.iadd, 1) := by decide +kernel
theorem dL_law_558 : decode cL_law 558 = .ok (.iaload, 1) := by decide +kernel
theorem dL_law_559 : decode cL_law 559 = .ok (.aload_n 0, 1) := by decide +kernel
theorem dL_law_560 : decode cL_law 560 = .ok (.iload 4, 2) := by decide +kernel
theorem dL_law_562 : decode cL_law 562 = .ok (.iconst 2, 1) := by decide +kernel
theorem dL_law_563 : decode cL_law 563 = .ok (.iadd, 1) := by decide +kernel
theorem dL_law_564 : decode cL_law 564 = .ok (.iaload, 1) := by decide +kernel
theorem dL_law_565 : decode cL_law 565 = .ok (.aload_n 0, 1) := by decide +kernel
theorem dL_law_566 : decode cL_law 566 = .ok (.iload 4, 2) := by decide +kernel
theorem dL_law_568 : decode cL_law 568 = .ok (.iconst 3, 1) := by decide +kernel
theorem dL_law_569 : decode cL_law 569 = .ok (.iadd, 1) := by decide +kernel
theorem dL_law_570 : decode cL_law 570 = .ok (.iaload, 1) := by decide +kernel
theorem dL_law_571 : decode cL_law 571 = .ok (.aload_n 0, 1) := by decide +kernel
theorem dL_law_572 : decode cL_law 572 = .ok (.iload 4, 2) := by decide +kernel
theorem dL_law_574 : decode cL_law 574 = .ok (.iconst 4, 1) := by decide +kernel
theorem dL_law_575 : decode cL_law 575 = .ok (.iadd, 1) := by decide +kernel
theorem dL_law_576 : decode cL_law 576 = .ok (.iaload, 1) := by decide +kernel
theorem dL_law_577 : decode cL_law 577 = .ok (.invokevirtual 120, 3) := by decide +kernel
theorem dL_law_580 : decode cL_law 580 = .ok (.istore 6, 2) := by decide +kernel
theorem dL_law_582 : decode cL_law 582 = .ok (.aload_n 2, 1) := by decide +kernel
theorem dL_law_583 : decode cL_law 583 = .ok (.invokevirtual 99, 3) := by decide +kernel
theorem dL_law_586 : decode cL_law 586 = .ok (.iload 5, 2) := by decide +kernel
theorem dL_law_588 : decode cL_law 588 = .ok (.if_icmp .eq 5, 3) := by decide +kernel
theorem dL_law_591 : decode cL_law 591 = .ok (.iconst 0, 1) := by decide +kernel
theorem dL_law_592 : decode cL_law 592 = .ok (.ireturn, 1) := by decide +kernel
theorem dL_law_593 : decode cL_law 593 = .ok (.iload 5, 2) := by decide +kernel
theorem dL_law_595 : decode cL_law 595 = .ok (.ifCond .ne 15, 3) := by decide +kernel
theorem dL_law_598 : decode cL_law 598 = .ok (.aload_n 3, 1) := by decide +kernel
theorem dL_law_599 : decode cL_law 599 = .ok (.iconst 0, 1) := by decide +kernel
theorem dL_law_600 : decode cL_law 600 = .ok (.laload, 1) := by decide +kernel
theorem dL_law_601 : decode cL_law 601 = .ok (.iload 6, 2) := by decide +kernel
theorem dL_law_603 : decode cL_law 603 = .ok (.i2l, 1) := by decide +kernel
theorem dL_law_604 : decode cL_law 604 = .ok (.lcmp, 1) := by decide +kernel
theorem dL_law_605 : decode cL_law 605 = .ok (.ifCond .eq 5, 3) := by decide +kernel
theorem dL_law_608 : decode cL_law 608 = .ok (.iconst 0, 1) := by decide +kernel
theorem dL_law_609 : decode cL_law 609 = .ok (.ireturn, 1) := by decide +kernel
theorem dL_law_610 : decode cL_law 610 = .ok (.goto 1174, 3) := by decide +kernel
theorem dL_law_613 : decode cL_law 613 = .ok (.aload_n 1, 1) := by decide +kernel
theorem dL_law_614 : decode cL_law 614 = .ok (.aload_n 0, 1) := by decide +kernel
theorem dL_law_615 : decode cL_law 615 = .ok (.iload 4, 2) := by decide +kernel
theorem dL_law_617 : decode cL_law 617 = .ok (.iconst 1, 1) := by decide +kernel
theorem dL_law_618 : decode cL_law 618 = .ok (.iadd, 1) := by decide +kernel
theorem dL_law_619 : decode cL_law 619 = .ok (.iaload, 1) := by decide +kernel
theorem dL_law_620 : decode cL_law 620 = .ok (.aload_n 3, 1) := by decide +kernel
theorem dL_law_621 : decode cL_law 621 = .ok (.invokestatic 121, 3) := by decide +kernel
theorem dL_law_624 : decode cL_law 624 = .ok (.istore 5, 2) := by decide +kernel
theorem dL_law_626 : decode cL_law 626 = .ok (.aload_n 2, 1) := by decide +kernel
theorem dL_law_627 : decode cL_law 627 = .ok (.aload_n 0, 1) := by decide +kernel
theorem dL_law_628 : decode cL_law 628 = .ok (.iload 4, 2) := by decide +kernel
theorem dL_law_630 : decode cL_law 630 = .ok (.iconst 1, 1) := by decide +kernel
theorem dL_law_631 : decode cL_law 631 = .ok (.iadd, 1) := by decide +kernel
theorem dL_law_632 : decode cL_law 632 = .ok (.iaload, 1) := by decide +kernel
theorem dL_law_633 : decode cL_law 633 = .ok (.invokevirtual 124, 3) := by decide +kernel
theorem dL_law_636 : decode cL_law 636 = .ok (.istore 6, 2) := by decide +kernel
theorem dL_law_638 : decode cL_law 638 = .ok (.aload_n 2, 1) := by decide +kernel
theorem dL_law_639 : decode cL_law 639 = .ok (.invokevirtual 99, 3) := by decide +kernel
theorem dL_law_642 : decode cL_law 642 = .ok (.iload 5, 2) := by decide +kernel
theorem dL_law_644 : decode cL_law 644 = .ok (.if_icmp .eq 5, 3) := by decide +kernel
theorem dL_law_647 : decode cL_law 647 = .ok (.iconst 0, 1) := by decide +kernel
theorem dL_law_648 : decode cL_law 648 = .ok (.ireturn, 1) := by decide +kernel
theorem dL_law_649 : decode cL_law 649 = .ok (.iload 5, 2) := by decide +kernel
theorem dL_law_651 : decode cL_law 651 = .ok (.ifCond .ne 15, 3) := by decide +kernel
theorem dL_law_654 : decode cL_law 654 = .ok (.aload_n 3, 1) := by decide +kernel
theorem dL_law_655 : decode cL_law 655 = .ok (.iconst 0, 1) := by decide +kernel
theorem dL_law_656 : decode cL_law 656 = .ok (.laload, 1) := by decide +kernel
theorem dL_law_657 : decode cL_law 657 = .ok (.iload 6, 2) := by decide +kernel
theorem dL_law_659 : decode cL_law 659 = .ok (.i2l, 1) := by decide +kernel
theorem dL_law_660 : decode cL_law 660 = .ok (.lcmp, 1) := by decide +kernel
theorem dL_law_661 : decode cL_law 661 = .ok (.ifCond .eq 5, 3) := by decide +kernel
theorem dL_law_664 : decode cL_law 664 = .ok (.iconst 0, 1) := by decide +kernel
theorem dL_law_665 : decode cL_law 665 = .ok (.ireturn, 1) := by decide +kernel
theorem dL_law_666 : decode cL_law 666 = .ok (.goto 1118, 3) := by decide +kernel
theorem dL_law_669 : decode cL_law 669 = .ok (.aload_n 1, 1) := by decide +kernel
theorem dL_law_670 : decode cL_law 670 = .ok (.aload_n 0, 1) := by decide +kernel
theorem dL_law_671 : decode cL_law 671 = .ok (.iload 4, 2) := by decide +kernel
theorem dL_law_673 : decode cL_law 673 = .ok (.iconst 1, 1) := by decide +kernel
theorem dL_law_674 : decode cL_law 674 = .ok (.iadd, 1) := by decide +kernel
theorem dL_law_675 : decode cL_law 675 = .ok (.iaload, 1) := by decide +kernel
theorem dL_law_676 : decode cL_law 676 = .ok (.aload_n 0, 1) := by decide +kernel
theorem dL_law_677 : decode cL_law 677 = .ok (.iload 4, 2) := by decide +kernel
theorem dL_law_679 : decode cL_law 679 = .ok (.iconst 2, 1) := by decide +kernel
theorem dL_law_680 : decode cL_law 680 = .ok (.iadd, 1) := by decide +kernel
theorem dL_law_681 : decode cL_law 681 = .ok (.iaload, 1) := by decide +kernel
theorem dL_law_682 : decode cL_law 682 = .ok (.aload_n 0, 1) := by decide +kernel
theorem dL_law_683 : decode cL_law 683 = .ok (.iload 4, 2) := by decide +kernel
theorem dL_law_685 : decode cL_law 685 = .ok (.iconst 3, 1) := by decide +kernel
theorem dL_law_686 : decode cL_law 686 = .ok (.iadd, 1) := by decide +kernel
theorem dL_law_687 : decode cL_law 687 = .ok (.iaload, 1) := by decide +kernel
theorem dL_law_688 : decode cL_law 688 = .ok (.aload_n 3, 1) := by decide +kernel
theorem dL_law_689 : decode cL_law 689 = .ok (.invokestatic 125, 3) := by decide +kernel
theorem dL_law_692 : decode cL_law 692 = .ok (.istore 5, 2) := by decide +kernel
theorem dL_law_694 : decode cL_law 694 = .ok (.aload_n 2, 1) := by decide +kernel
theorem dL_law_695 : decode cL_law 695 = .ok (.aload_n 0, 1) := by decide +kernel
theorem dL_law_696 : decode cL_law 696 = .ok (.iload 4, 2) := by decide +kernel
theorem dL_law_698 : decode cL_law 698 = .ok (.iconst 1, 1) := by decide +kernel
theorem dL_law_699 : decode cL_law 699 = .ok (.iadd, 1) := by decide +kernel
theorem dL_law_700 : decode cL_law 700 = .ok (.iaload, 1) := by decide +kernel
theorem dL_law_701 : decode cL_law 701 = .ok (.aload_n 0, 1) := by decide +kernel
theorem dL_law_702 : decode cL_law 702 = .ok (.iload 4, 2) := by decide +kernel
theorem dL_law_704 : decode cL_law 704 = .ok (.iconst 2, 1) := by decide +kernel
theorem dL_law_705 : decode cL_law 705 = .ok (.iadd, 1) := by decide +kernel
theorem dL_law_706 : decode cL_law 706 = .ok (.iaload, 1) := by decide +kernel
theorem dL_law_707 : decode cL_law 707 = .ok (.aload_n 0, 1) := by decide +kernel
theorem dL_law_708 : decode cL_law 708 = .ok (.iload 4, 2) := by decide +kernel
theorem dL_law_710 : decode cL_law 710 = .ok (.iconst 3, 1) := by decide +kernel
theorem dL_law_711 : decode cL_law 711 = .ok (.iadd, 1) := by decide +kernel
theorem dL_law_712 : decode cL_law 712 = .ok (.iaload, 1) := by decide +kernel
theorem dL_law_713 : decode cL_law 713 = .ok (.invokevirtual 127, 3) := by decide +kernel
theorem dL_law_716 : decode cL_law 716 = .ok (.istore 6, 2) := by decide +kernel
theorem dL_law_718 : decode cL_law 718 = .ok (.aload_n 2, 1) := by decide +kernel
theorem dL_law_719 : decode cL_law 719 = .ok (.invokevirtual 99, 3) := by decide +kernel
theorem dL_law_722 : decode cL_law 722 = .ok (.iload 5, 2) := by decide +kernel
theorem dL_law_724 : decode cL_law 724 = .ok (.if_icmp .eq 5, 3) := by decide +kernel
theorem dL_law_727 : decode cL_law 727 = .ok (.iconst 0, 1) := by decide +kernel
theorem dL_law_728 : decode cL_law 728 = .ok (.ireturn, 1) := by decide +kernel
theorem dL_law_729 : decode cL_law 729 = .ok (.iload 5, 2) := by decide +kernel
theorem dL_law_731 : decode cL_law 731 = .ok (.ifCond .ne 15, 3) := by decide +kernel
theorem dL_law_734 : decode cL_law 734 = .ok (.aload_n 3, 1) := by decide +kernel
theorem dL_law_735 : decode cL_law 735 = .ok (.iconst 0, 1) := by decide +kernel
theorem dL_law_736 : decode cL_law 736 = .ok (.laload, 1) := by decide +kernel
theorem dL_law_737 : decode cL_law 737 = .ok (.iload 6, 2) := by decide +kernel
theorem dL_law_739 : decode cL_law 739 = .ok (.i2l, 1) := by decide +kernel
theorem dL_law_740 : decode cL_law 740 = .ok (.lcmp, 1) := by decide +kernel
theorem dL_law_741 : decode cL_law 741 = .ok (.ifCond .eq 5, 3) := by decide +kernel
theorem dL_law_744 : decode cL_law 744 = .ok (.iconst 0, 1) := by decide +kernel
theorem dL_law_745 : decode cL_law 745 = .ok (.ireturn, 1) := by decide +kernel
theorem dL_law_746 : decode cL_law 746 = .ok (.goto 1038, 3) := by decide +kernel
theorem dL_law_749 : decode cL_law 749 = .ok (.aload_n 1, 1) := by decide +kernel
theorem dL_law_750 : decode cL_law 750 = .ok (.aload_n 0, 1) := by decide +kernel
theorem dL_law_751 : decode cL_law 751 = .ok (.iload 4, 2) := by decide +kernel
theorem dL_law_753 : decode cL_law 753 = .ok (.iconst 1, 1) := by decide +kernel
theorem dL_law_754 : decode cL_law 754 = .ok (.iadd, 1) := by decide +kernel
theorem dL_law_755 : decode cL_law 755 = .ok (.iaload, 1) := by decide +kernel
theorem dL_law_756 : decode cL_law 756 = .ok (.aload_n 3, 1) := by decide +kernel
theorem dL_law_757 : decode cL_law 757 = .ok (.invokestatic 128, 3) := by decide +kernel
theorem dL_law_760 : decode cL_law 760 = .ok (.istore 5, 2) := by decide +kernel
theorem dL_law_762 : decode cL_law 762 = .ok (.aload_n 2, 1) := by decide +kernel
theorem dL_law_763 : decode cL_law 763 = .ok (.aload_n 0, 1) := by decide +kernel
theorem dL_law_764 : decode cL_law 764 = .ok (.iload 4, 2) := by decide +kernel
theorem dL_law_766 : decode cL_law 766 = .ok (.iconst 1, 1) := by decide +kernel
theorem dL_law_767 : decode cL_law 767 = .ok (.iadd, 1) := by decide +kernel
theorem dL_law_768 : decode cL_law 768 = .ok (.iaload, 1) := by decide +kernel
theorem dL_law_769 : decode cL_law 769 = .ok (.invokevirtual 130, 3) := by decide +kernel
theorem dL_law_772 : decode cL_law 772 = .ok (.istore 6, 2) := by decide +kernel
theorem dL_law_774 : decode cL_law 774 = .ok (.aload_n 2, 1) := by decide +kernel
theorem dL_law_775 : decode cL_law 775 = .ok (.invokevirtual 99, 3) := by decide +kernel
theorem dL_law_778 : decode cL_law 778 = .ok (.iload 5, 2) := by decide +kernel
theorem dL_law_780 : decode cL_law 780 = .ok (.if_icmp .eq 5, 3) := by decide +kernel
theorem dL_law_783 : decode cL_law 783 = .ok (.iconst 0, 1) := by decide +kernel
theorem dL_law_784 : decode cL_law 784 = .ok (.ireturn, 1) := by decide +kernel
theorem dL_law_785 : decode cL_law 785 = .ok (.iload 5, 2) := by decide +kernel
theorem dL_law_787 : decode cL_law 787 = .ok (.ifCond .ne 15, 3) := by decide +kernel
theorem dL_law_790 : decode cL_law 790 = .ok (.aload_n 3, 1) := by decide +kernel
theorem dL_law_791 : decode cL_law 791 = .ok (.iconst 0, 1) := by decide +kernel
theorem dL_law_792 : decode cL_law 792 = .ok (.laload, 1) := by decide +kernel
theorem dL_law_793 : decode cL_law 793 = .ok (.iload 6, 2) := by decide +kernel
theorem dL_law_795 : decode cL_law 795 = .ok (.i2l, 1) := by decide +kernel
theorem dL_law_796 : decode cL_law 796 = .ok (.lcmp, 1) := by decide +kernel
theorem dL_law_797 : decode cL_law 797 = .ok (.ifCond .eq 5, 3) := by decide +kernel
theorem dL_law_800 : decode cL_law 800 = .ok (.iconst 0, 1) := by decide +kernel
theorem dL_law_801 : decode cL_law 801 = .ok (.ireturn, 1) := by decide +kernel
theorem dL_law_802 : decode cL_law 802 = .ok (.goto 982, 3) := by decide +kernel
theorem dL_law_805 : decode cL_law 805 = .ok (.aload_n 1, 1) := by decide +kernel
theorem dL_law_806 : decode cL_law 806 = .ok (.aload_n 0, 1) := by decide +kernel
theorem dL_law_807 : decode cL_law 807 = .ok (.iload 4, 2) := by decide +kernel
theorem dL_law_809 : decode cL_law 809 = .ok (.iconst 1, 1) := by decide +kernel
theorem dL_law_810 : decode cL_law 810 = .ok (.iadd, 1) := by decide +kernel
theorem dL_law_811 : decode cL_law 811 = .ok (.iaload, 1) := by decide +kernel
theorem dL_law_812 : decode cL_law 812 = .ok (.aload_n 3, 1) := by decide +kernel
theorem dL_law_813 : decode cL_law 813 = .ok (.invokestatic 131, 3) := by decide +kernel
theorem dL_law_816 : decode cL_law 816 = .ok (.istore 5, 2) := by decide +kernel
theorem dL_law_818 : decode cL_law 818 = .ok (.aload_n 2, 1) := by decide +kernel
theorem dL_law_819 : decode cL_law 819 = .ok (.aload_n 0, 1) := by decide +kernel
theorem dL_law_820 : decode cL_law 820 = .ok (.iload 4, 2) := by decide +kernel
theorem dL_law_822 : decode cL_law 822 = .ok (.iconst 1, 1) := by decide +kernel
theorem dL_law_823 : decode cL_law 823 = .ok (.iadd, 1) := by decide +kernel
theorem dL_law_824 : decode cL_law 824 = .ok (.iaload, 1) := by decide +kernel
theorem dL_law_825 : decode cL_law 825 = .ok (.invokevirtual 133, 3) := by decide +kernel
theorem dL_law_828 : decode cL_law 828 = .ok (.istore 6, 2) := by decide +kernel
theorem dL_law_830 : decode cL_law 830 = .ok (.aload_n 2, 1) := by decide +kernel
theorem dL_law_831 : decode cL_law 831 = .ok (.invokevirtual 99, 3) := by decide +kernel
theorem dL_law_834 : decode cL_law 834 = .ok (.iload 5, 2) := by decide +kernel
theorem dL_law_836 : decode cL_law 836 = .ok (.if_icmp .eq 5, 3) := by decide +kernel
theorem dL_law_839 : decode cL_law 839 = .ok (.iconst 0, 1) := by decide +kernel
theorem dL_law_840 : decode cL_law 840 = .ok (.ireturn, 1) := by decide +kernel
theorem dL_law_841 : decode cL_law 841 = .ok (.iload 5, 2) := by decide +kernel
theorem dL_law_843 : decode cL_law 843 = .ok (.ifCond .ne 15, 3) := by decide +kernel
theorem dL_law_846 : decode cL_law 846 = .ok (.aload_n 3, 1) := by decide +kernel
theorem dL_law_847 : decode cL_law 847 = .ok (.iconst 0, 1) := by decide +kernel
theorem dL_law_848 : decode cL_law 848 = .ok (.laload, 1) := by decide +kernel
theorem dL_law_849 : decode cL_law 849 = .ok (.iload 6, 2) := by decide +kernel
theorem dL_law_851 : decode cL_law 851 = .ok (.i2l, 1) := by decide +kernel
theorem dL_law_852 : decode cL_law 852 = .ok (.lcmp, 1) := by decide +kernel
theorem dL_law_853 : decode cL_law 853 = .ok (.ifCond .eq 5, 3) := by decide +kernel
theorem dL_law_856 : decode cL_law 856 = .ok (.iconst 0, 1) := by decide +kernel
theorem dL_law_857 : decode cL_law 857 = .ok (.ireturn, 1) := by decide +kernel
theorem dL_law_858 : decode cL_law 858 = .ok (.goto 926, 3) := by decide +kernel
theorem dL_law_861 : decode cL_law 861 = .ok (.aload_n 1, 1) := by decide +kernel
theorem dL_law_862 : decode cL_law 862 = .ok (.aload_n 0, 1) := by decide +kernel
theorem dL_law_863 : decode cL_law 863 = .ok (.iload 4, 2) := by decide +kernel
theorem dL_law_865 : decode cL_law 865 = .ok (.iconst 1, 1) := by decide +kernel
theorem dL_law_866 : decode cL_law 866 = .ok (.iadd, 1) := by decide +kernel
theorem dL_law_867 : decode cL_law 867 = .ok (.iaload, 1) := by decide +kernel
theorem dL_law_868 : decode cL_law 868 = .ok (.aload_n 3, 1) := by decide +kernel
theorem dL_law_869 : decode cL_law 869 = .ok (.invokestatic 134, 3) := by decide +kernel
theorem dL_law_872 : decode cL_law 872 = .ok (.istore 5, 2) := by decide +kernel
theorem dL_law_874 : decode cL_law 874 = .ok (.aload_n 2, 1) := by decide +kernel
theorem dL_law_875 : decode cL_law 875 = .ok (.aload_n 0, 1) := by decide +kernel
theorem dL_law_876 : decode cL_law 876 = .ok (.iload 4, 2) := by decide +kernel
theorem dL_law_878 : decode cL_law 878 = .ok (.iconst 1, 1) := by decide +kernel
theorem dL_law_879 : decode cL_law 879 = .ok (.iadd, 1) := by decide +kernel
theorem dL_law_880 : decode cL_law 880 = .ok (.iaload, 1) := by decide +kernel
theorem dL_law_881 : decode cL_law 881 = .ok (.invokevirtual 136, 3) := by decide +kernel
theorem dL_law_884 : decode cL_law 884 = .ok (.istore 6, 2) := by decide +kernel
theorem dL_law_886 : decode cL_law 886 = .ok (.aload_n 2, 1) := by decide +kernel
theorem dL_law_887 : decode cL_law 887 = .ok (.invokevirtual 99, 3) := by decide +kernel
theorem dL_law_890 : decode cL_law 890 = .ok (.iload 5, 2) := by decide +kernel
theorem dL_law_892 : decode cL_law 892 = .ok (.if_icmp .eq 5, 3) := by decide +kernel
theorem dL_law_895 : decode cL_law 895 = .ok (.iconst 0, 1) := by decide +kernel
theorem dL_law_896 : decode cL_law 896 = .ok (.ireturn, 1) := by decide +kernel
theorem dL_law_897 : decode cL_law 897 = .ok (.iload 5, 2) := by decide +kernel
theorem dL_law_899 : decode cL_law 899 = .ok (.ifCond .ne 15, 3) := by decide +kernel
theorem dL_law_902 : decode cL_law 902 = .ok (.aload_n 3, 1) := by decide +kernel
theorem dL_law_903 : decode cL_law 903 = .ok (.iconst 0, 1) := by decide +kernel
theorem dL_law_904 : decode cL_law 904 = .ok (.laload, 1) := by decide +kernel
theorem dL_law_905 : decode cL_law 905 = .ok (.iload 6, 2) := by decide +kernel
theorem dL_law_907 : decode cL_law 907 = .ok (.i2l, 1) := by decide +kernel
theorem dL_law_908 : decode cL_law 908 = .ok (.lcmp, 1) := by decide +kernel
theorem dL_law_909 : decode cL_law 909 = .ok (.ifCond .eq 5, 3) := by decide +kernel
theorem dL_law_912 : decode cL_law 912 = .ok (.iconst 0, 1) := by decide +kernel
theorem dL_law_913 : decode cL_law 913 = .ok (.ireturn, 1) := by decide +kernel
theorem dL_law_914 : decode cL_law 914 = .ok (.goto 870, 3) := by decide +kernel
theorem dL_law_917 : decode cL_law 917 = .ok (.aload_n 1, 1) := by decide +kernel
theorem dL_law_918 : decode cL_law 918 = .ok (.aload_n 0, 1) := by decide +kernel
theorem dL_law_919 : decode cL_law 919 = .ok (.iload 4, 2) := by decide +kernel
theorem dL_law_921 : decode cL_law 921 = .ok (.iconst 1, 1) := by decide +kernel
theorem dL_law_922 : decode cL_law 922 = .ok (.iadd, 1) := by decide +kernel
theorem dL_law_923 : decode cL_law 923 = .ok (.iaload, 1) := by decide +kernel
theorem dL_law_924 : decode cL_law 924 = .ok (.aload_n 3, 1) := by decide +kernel
theorem dL_law_925 : decode cL_law 925 = .ok (.invokestatic 137, 3) := by decide +kernel
theorem dL_law_928 : decode cL_law 928 = .ok (.istore 5, 2) := by decide +kernel
theorem dL_law_930 : decode cL_law 930 = .ok (.aload_n 2, 1) := by decide +kernel
theorem dL_law_931 : decode cL_law 931 = .ok (.aload_n 0, 1) := by decide +kernel
theorem dL_law_932 : decode cL_law 932 = .ok (.iload 4, 2) := by decide +kernel
theorem dL_law_934 : decode cL_law 934 = .ok (.iconst 1, 1) := by decide +kernel
theorem dL_law_935 : decode cL_law 935 = .ok (.iadd, 1) := by decide +kernel
theorem dL_law_936 : decode cL_law 936 = .ok (.iaload, 1) := by decide +kernel
theorem dL_law_937 : decode cL_law 937 = .ok (.invokevirtual 139, 3) := by decide +kernel
theorem dL_law_940 : decode cL_law 940 = .ok (.istore 6, 2) := by decide +kernel
theorem dL_law_942 : decode cL_law 942 = .ok (.aload_n 2, 1) := by decide +kernel
theorem dL_law_943 : decode cL_law 943 = .ok (.invokevirtual 99, 3) := by decide +kernel
theorem dL_law_946 : decode cL_law 946 = .ok (.iload 5, 2) := by decide +kernel
theorem dL_law_948 : decode cL_law 948 = .ok (.if_icmp .eq 5, 3) := by decide +kernel
theorem dL_law_951 : decode cL_law 951 = .ok (.iconst 0, 1) := by decide +kernel
theorem dL_law_952 : decode cL_law 952 = .ok (.ireturn, 1) := by decide +kernel
theorem dL_law_953 : decode cL_law 953 = .ok (.iload 5, 2) := by decide +kernel
theorem dL_law_955 : decode cL_law 955 = .ok (.ifCond .ne 15, 3) := by decide +kernel
theorem dL_law_958 : decode cL_law 958 = .ok (.aload_n 3, 1) := by decide +kernel
theorem dL_law_959 : decode cL_law 959 = .ok (.iconst 0, 1) := by decide +kernel
theorem dL_law_960 : decode cL_law 960 = .ok (.laload, 1) := by decide +kernel
theorem dL_law_961 : decode cL_law 961 = .ok (.iload 6, 2) := by decide +kernel
theorem dL_law_963 : decode cL_law 963 = .ok (.i2l, 1) := by decide +kernel
theorem dL_law_964 : decode cL_law 964 = .ok (.lcmp, 1) := by decide +kernel
theorem dL_law_965 : decode cL_law 965 = .ok (.ifCond .eq 5, 3) := by decide +kernel
theorem dL_law_968 : decode cL_law 968 = .ok (.iconst 0, 1) := by decide +kernel
theorem dL_law_969 : decode cL_law 969 = .ok (.ireturn, 1) := by decide +kernel
theorem dL_law_970 : decode cL_law 970 = .ok (.goto 814, 3) := by decide +kernel
theorem dL_law_973 : decode cL_law 973 = .ok (.aload_n 1, 1) := by decide +kernel
theorem dL_law_974 : decode cL_law 974 = .ok (.aload_n 0, 1) := by decide +kernel
theorem dL_law_975 : decode cL_law 975 = .ok (.iload 4, 2) := by decide +kernel
theorem dL_law_977 : decode cL_law 977 = .ok (.iconst 1, 1) := by decide +kernel
theorem dL_law_978 : decode cL_law 978 = .ok (.iadd, 1) := by decide +kernel
theorem dL_law_979 : decode cL_law 979 = .ok (.iaload, 1) := by decide +kernel
theorem dL_law_980 : decode cL_law 980 = .ok (.aload_n 0, 1) := by decide +kernel
theorem dL_law_981 : decode cL_law 981 = .ok (.iload 4, 2) := by decide +kernel
theorem dL_law_983 : decode cL_law 983 = .ok (.iconst 2, 1) := by decide +kernel
theorem dL_law_984 : decode cL_law 984 = .ok (.iadd, 1) := by decide +kernel
theorem dL_law_985 : decode cL_law 985 = .ok (.iaload, 1) := by decide +kernel
theorem dL_law_986 : decode cL_law 986 = .ok (.aload_n 3, 1) := by decide +kernel
theorem dL_law_987 : decode cL_law 987 = .ok (.invokestatic 140, 3) := by decide +kernel
theorem dL_law_990 : decode cL_law 990 = .ok (.istore 5, 2) := by decide +kernel
theorem dL_law_992 : decode cL_law 992 = .ok (.aload_n 2, 1) := by decide +kernel
theorem dL_law_993 : decode cL_law 993 = .ok (.aload_n 0, 1) := by decide +kernel
theorem dL_law_994 : decode cL_law 994 = .ok (.iload 4, 2) := by decide +kernel
theorem dL_law_996 : decode cL_law 996 = .ok (.iconst 1, 1) := by decide +kernel
theorem dL_law_997 : decode cL_law 997 = .ok (.iadd, 1) := by decide +kernel
theorem dL_law_998 : decode cL_law 998 = .ok (.iaload, 1) := by decide +kernel
theorem dL_law_999 : decode cL_law 999 = .ok (.aload_n 0, 1) := by decide +kernel
theorem dL_law_1000 : decode cL_law 1000 = .ok (.iload 4, 2) := by decide +kernel
theorem dL_law_1002 : decode cL_law 1002 = .ok (.iconst 2, 1) := by decide +kernel
theorem dL_law_1003 : decode cL_law 1003 = .ok (.iadd, 1) := by decide +kernel
theorem dL_law_1004 : decode cL_law 1004 = .ok (.iaload, 1) := by decide +kernel
theorem dL_law_1005 : decode cL_law 1005 = .ok (.invokevirtual 142, 3) := by decide +kernel
theorem dL_law_1008 : decode cL_law 1008 = .ok (.istore 6, 2) := by decide +kernel
theorem dL_law_1010 : decode cL_law 1010 = .ok (.aload_n 2, 1) := by decide +kernel
theorem dL_law_1011 : decode cL_law 1011 = .ok (.invokevirtual 99, 3) := by decide +kernel
theorem dL_law_1014 : decode cL_law 1014 = .ok (.iload 5, 2) := by decide +kernel
theorem dL_law_1016 : decode cL_law 1016 = .ok (.if_icmp .eq 5, 3) := by decide +kernel
theorem dL_law_1019 : decode cL_law 1019 = .ok (.iconst 0, 1) := by decide +kernel
theorem dL_law_1020 : decode cL_law 1020 = .ok (.ireturn, 1) := by decide +kernel
theorem dL_law_1021 : decode cL_law 1021 = .ok (.iload 5, 2) := by decide +kernel
theorem dL_law_1023 : decode cL_law 1023 = .ok (.ifCond .ne 15, 3) := by decide +kernel
theorem dL_law_1026 : decode cL_law 1026 = .ok (.aload_n 3, 1) := by decide +kernel
theorem dL_law_1027 : decode cL_law 1027 = .ok (.iconst 0, 1) := by decide +kernel
theorem dL_law_1028 : decode cL_law 1028 = .ok (.laload, 1) := by decide +kernel
theorem dL_law_1029 : decode cL_law 1029 = .ok (.iload 6, 2) := by decide +kernel
theorem dL_law_1031 : decode cL_law 1031 = .ok (.i2l, 1) := by decide +kernel
theorem dL_law_1032 : decode cL_law 1032 = .ok (.lcmp, 1) := by decide +kernel
theorem dL_law_1033 : decode cL_law 1033 = .ok (.ifCond .eq 5, 3) := by decide +kernel
theorem dL_law_1036 : decode cL_law 1036 = .ok (.iconst 0, 1) := by decide +kernel
theorem dL_law_1037 : decode cL_law 1037 = .ok (.ireturn, 1) := by decide +kernel
theorem dL_law_1038 : decode cL_law 1038 = .ok (.goto 746, 3) := by decide +kernel
theorem dL_law_1041 : decode cL_law 1041 = .ok (.aload_n 1, 1) := by decide +kernel
theorem dL_law_1042 : decode cL_law 1042 = .ok (.invokevirtual 143, 3) := by decide +kernel
theorem dL_law_1045 : decode cL_law 1045 = .ok (.aload_n 2, 1) := by decide +kernel
theorem dL_law_1046 : decode cL_law 1046 = .ok (.invokevirtual 146, 3) := by decide +kernel
theorem dL_law_1049 : decode cL_law 1049 = .ok (.if_icmp .eq 735, 3) := by decide +kernel
theorem dL_law_1052 : decode cL_law 1052 = .ok (.iconst 0, 1) := by decide +kernel
theorem dL_law_1053 : decode cL_law 1053 = .ok (.ireturn, 1) := by decide +kernel
theorem dL_law_1054 : decode cL_law 1054 = .ok (.aload_n 1, 1) := by decide +kernel
theorem dL_law_1055 : decode cL_law 1055 = .ok (.aload_n 0, 1) := by decide +kernel
theorem dL_law_1056 : decode cL_law 1056 = .ok (.iload 4, 2) := by decide +kernel
theorem dL_law_1058 : decode cL_law 1058 = .ok (.iconst 1, 1) := by decide +kernel
theorem dL_law_1059 : decode cL_law 1059 = .ok (.iadd, 1) := by decide +kernel
theorem dL_law_1060 : decode cL_law 1060 = .ok (.iaload, 1) := by decide +kernel
theorem dL_law_1061 : decode cL_law 1061 = .ok (.aload_n 3, 1) := by decide +kernel
theorem dL_law_1062 : decode cL_law 1062 = .ok (.invokestatic 147, 3) := by decide +kernel
theorem dL_law_1065 : decode cL_law 1065 = .ok (.istore 5, 2) := by decide +kernel
theorem dL_law_1067 : decode cL_law 1067 = .ok (.aload_n 2, 1) := by decide +kernel
theorem dL_law_1068 : decode cL_law 1068 = .ok (.aload_n 0, 1) := by decide +kernel
theorem dL_law_1069 : decode cL_law 1069 = .ok (.iload 4, 2) := by decide +kernel
theorem dL_law_1071 : decode cL_law 1071 = .ok (.iconst 1, 1) := by decide +kernel
theorem dL_law_1072 : decode cL_law 1072 = .ok (.iadd, 1) := by decide +kernel
theorem dL_law_1073 : decode cL_law 1073 = .ok (.iaload, 1) := by decide +kernel
theorem dL_law_1074 : decode cL_law 1074 = .ok (.invokevirtual 149, 3) := by decide +kernel
theorem dL_law_1077 : decode cL_law 1077 = .ok (.istore 6, 2) := by decide +kernel
theorem dL_law_1079 : decode cL_law 1079 = .ok (.aload_n 2, 1) := by decide +kernel
theorem dL_law_1080 : decode cL_law 1080 = .ok (.invokevirtual 99, 3) := by decide +kernel
theorem dL_law_1083 : decode cL_law 1083 = .ok (.iload 5, 2) := by decide +kernel
theorem dL_law_1085 : decode cL_law 1085 = .ok (.if_icmp .eq 5, 3) := by decide +kernel
theorem dL_law_1088 : decode cL_law 1088 = .ok (.iconst 0, 1) := by decide +kernel
theorem dL_law_1089 : decode cL_law 1089 = .ok (.ireturn, 1) := by decide +kernel
theorem dL_law_1090 : decode cL_law 1090 = .ok (.iload 5, 2) := by decide +kernel
theorem dL_law_1092 : decode cL_law 1092 = .ok (.ifCond .ne 15, 3) := by decide +kernel
theorem dL_law_1095 : decode cL_law 1095 = .ok (.aload_n 3, 1) := by decide +kernel
theorem dL_law_1096 : decode cL_law 1096 = .ok (.iconst 0, 1) := by decide +kernel
theorem dL_law_1097 : decode cL_law 1097 = .ok (.laload, 1) := by decide +kernel
theorem dL_law_1098 : decode cL_law 1098 = .ok (.iload 6, 2) := by decide +kernel
theorem dL_law_1100 : decode cL_law 1100 = .ok (.i2l, 1) := by decide +kernel
theorem dL_law_1101 : decode cL_law 1101 = .ok (.lcmp, 1) := by decide +kernel
theorem dL_law_1102 : decode cL_law 1102 = .ok (.ifCond .eq 5, 3) := by decide +kernel
theorem dL_law_1105 : decode cL_law 1105 = .ok (.iconst 0, 1) := by decide +kernel
theorem dL_law_1106 : decode cL_law 1106 = .ok (.ireturn, 1) := by decide +kernel
theorem dL_law_1107 : decode cL_law 1107 = .ok (.goto 677, 3) := by decide +kernel
theorem dL_law_1110 : decode cL_law 1110 = .ok (.aload_n 1, 1) := by decide +kernel
theorem dL_law_1111 : decode cL_law 1111 = .ok (.aload_n 0, 1) := by decide +kernel
theorem dL_law_1112 : decode cL_law 1112 = .ok (.iload 4, 2) := by decide +kernel
theorem dL_law_1114 : decode cL_law 1114 = .ok (.iconst 1, 1) := by decide +kernel
theorem dL_law_1115 : decode cL_law 1115 = .ok (.iadd, 1) := by decide +kernel
theorem dL_law_1116 : decode cL_law 1116 = .ok (.iaload, 1) := by decide +kernel
theorem dL_law_1117 : decode cL_law 1117 = .ok (.aload_n 3, 1) := by decide +kernel
theorem dL_law_1118 : decode cL_law 1118 = .ok (.invokestatic 150, 3) := by decide +kernel
theorem dL_law_1121 : decode cL_law 1121 = .ok (.istore 5, 2) := by decide +kernel
theorem dL_law_1123 : decode cL_law 1123 = .ok (.aload_n 2, 1) := by decide +kernel
theorem dL_law_1124 : decode cL_law 1124 = .ok (.aload_n 0, 1) := by decide +kernel
theorem dL_law_1125 : decode cL_law 1125 = .ok (.iload 4, 2) := by decide +kernel
theorem dL_law_1127 : decode cL_law 1127 = .ok (.iconst 1, 1) := by decide +kernel
theorem dL_law_1128 : decode cL_law 1128 = .ok (.iadd, 1) := by decide +kernel
theorem dL_law_1129 : decode cL_law 1129 = .ok (.iaload, 1) := by decide +kernel
theorem dL_law_1130 : decode cL_law 1130 = .ok (.invokevirtual 152, 3) := by decide +kernel
theorem dL_law_1133 : decode cL_law 1133 = .ok (.istore 6, 2) := by decide +kernel
theorem dL_law_1135 : decode cL_law 1135 = .ok (.aload_n 2, 1) := by decide +kernel
theorem dL_law_1136 : decode cL_law 1136 = .ok (.invokevirtual 99, 3) := by decide +kernel
theorem dL_law_1139 : decode cL_law 1139 = .ok (.iload 5, 2) := by decide +kernel
theorem dL_law_1141 : decode cL_law 1141 = .ok (.if_icmp .eq 5, 3) := by decide +kernel
theorem dL_law_1144 : decode cL_law 1144 = .ok (.iconst 0, 1) := by decide +kernel
theorem dL_law_1145 : decode cL_law 1145 = .ok (.ireturn, 1) := by decide +kernel
theorem dL_law_1146 : decode cL_law 1146 = .ok (.iload 5, 2) := by decide +kernel
theorem dL_law_1148 : decode cL_law 1148 = .ok (.ifCond .ne 15, 3) := by decide +kernel
theorem dL_law_1151 : decode cL_law 1151 = .ok (.aload_n 3, 1) := by decide +kernel
theorem dL_law_1152 : decode cL_law 1152 = .ok (.iconst 0, 1) := by decide +kernel
theorem dL_law_1153 : decode cL_law 1153 = .ok (.laload, 1) := by decide +kernel
theorem dL_law_1154 : decode cL_law 1154 = .ok (.iload 6, 2) := by decide +kernel
theorem dL_law_1156 : decode cL_law 1156 = .ok (.i2l, 1) := by decide +kernel
theorem dL_law_1157 : decode cL_law 1157 = .ok (.lcmp, 1) := by decide +kernel
theorem dL_law_1158 : decode cL_law 1158 = .ok (.ifCond .eq 5, 3) := by decide +kernel
theorem dL_law_1161 : decode cL_law 1161 = .ok (.iconst 0, 1) := by decide +kernel
theorem dL_law_1162 : decode cL_law 1162 = .ok (.ireturn, 1) := by decide +kernel
theorem dL_law_1163 : decode cL_law 1163 = .ok (.goto 621, 3) := by decide +kernel
theorem dL_law_1166 : decode cL_law 1166 = .ok (.aload_n 1, 1) := by decide +kernel
theorem dL_law_1167 : decode cL_law 1167 = .ok (.aload_n 0, 1) := by decide +kernel
theorem dL_law_1168 : decode cL_law 1168 = .ok (.iload 4, 2) := by decide +kernel
theorem dL_law_1170 : decode cL_law 1170 = .ok (.iconst 1, 1) := by decide +kernel
theorem dL_law_1171 : decode cL_law 1171 = .ok (.iadd, 1) := by decide +kernel
theorem dL_law_1172 : decode cL_law 1172 = .ok (.iaload, 1) := by decide +kernel
theorem dL_law_1173 : decode cL_law 1173 = .ok (.aload_n 3, 1) := by decide +kernel
theorem dL_law_1174 : decode cL_law 1174 = .ok (.invokestatic 153, 3) := by decide +kernel
theorem dL_law_1177 : decode cL_law 1177 = .ok (.istore 5, 2) := by decide +kernel
theorem dL_law_1179 : decode cL_law 1179 = .ok (.aload_n 2, 1) := by decide +kernel
theorem dL_law_1180 : decode cL_law 1180 = .ok (.aload_n 0, 1) := by decide +kernel
theorem dL_law_1181 : decode cL_law 1181 = .ok (.iload 4, 2) := by decide +kernel
theorem dL_law_1183 : decode cL_law 1183 = .ok (.iconst 1, 1) := by decide +kernel
theorem dL_law_1184 : decode cL_law 1184 = .ok (.iadd, 1) := by decide +kernel
theorem dL_law_1185 : decode cL_law 1185 = .ok (.iaload, 1) := by decide +kernel
theorem dL_law_1186 : decode cL_law 1186 = .ok (.invokevirtual 155, 3) := by decide +kernel
theorem dL_law_1189 : decode cL_law 1189 = .ok (.istore 6, 2) := by decide +kernel
theorem dL_law_1191 : decode cL_law 1191 = .ok (.aload_n 2, 1) := by decide +kernel
theorem dL_law_1192 : decode cL_law 1192 = .ok (.invokevirtual 99, 3) := by decide +kernel
theorem dL_law_1195 : decode cL_law 1195 = .ok (.iload 5, 2) := by decide +kernel
theorem dL_law_1197 : decode cL_law 1197 = .ok (.if_icmp .eq 5, 3) := by decide +kernel
theorem dL_law_1200 : decode cL_law 1200 = .ok (.iconst 0, 1) := by decide +kernel
theorem dL_law_1201 : decode cL_law 1201 = .ok (.ireturn, 1) := by decide +kernel
theorem dL_law_1202 : decode cL_law 1202 = .ok (.iload 5, 2) := by decide +kernel
theorem dL_law_1204 : decode cL_law 1204 = .ok (.ifCond .ne 15, 3) := by decide +kernel
theorem dL_law_1207 : decode cL_law 1207 = .ok (.aload_n 3, 1) := by decide +kernel
theorem dL_law_1208 : decode cL_law 1208 = .ok (.iconst 0, 1) := by decide +kernel
theorem dL_law_1209 : decode cL_law 1209 = .ok (.laload, 1) := by decide +kernel
theorem dL_law_1210 : decode cL_law 1210 = .ok (.iload 6, 2) := by decide +kernel
theorem dL_law_1212 : decode cL_law 1212 = .ok (.i2l, 1) := by decide +kernel
theorem dL_law_1213 : decode cL_law 1213 = .ok (.lcmp, 1) := by decide +kernel
theorem dL_law_1214 : decode cL_law 1214 = .ok (.ifCond .eq 5, 3) := by decide +kernel
theorem dL_law_1217 : decode cL_law 1217 = .ok (.iconst 0, 1) := by decide +kernel
theorem dL_law_1218 : decode cL_law 1218 = .ok (.ireturn, 1) := by decide +kernel
theorem dL_law_1219 : decode cL_law 1219 = .ok (.goto 565, 3) := by decide +kernel
theorem dL_law_1222 : decode cL_law 1222 = .ok (.aload_n 1, 1) := by decide +kernel
theorem dL_law_1223 : decode cL_law 1223 = .ok (.aload_n 0, 1) := by decide +kernel
theorem dL_law_1224 : decode cL_law 1224 = .ok (.iload 4, 2) := by decide +kernel
theorem dL_law_1226 : decode cL_law 1226 = .ok (.iconst 1, 1) := by decide +kernel
theorem dL_law_1227 : decode cL_law 1227 = .ok (.iadd, 1) := by decide +kernel
theorem dL_law_1228 : decode cL_law 1228 = .ok (.iaload, 1) := by decide +kernel
theorem dL_law_1229 : decode cL_law 1229 = .ok (.aload_n 0, 1) := by decide +kernel
theorem dL_law_1230 : decode cL_law 1230 = .ok (.iload 4, 2) := by decide +kernel
theorem dL_law_1232 : decode cL_law 1232 = .ok (.iconst 2, 1) := by decide +kernel
theorem dL_law_1233 : decode cL_law 1233 = .ok (.iadd, 1) := by decide +kernel
theorem dL_law_1234 : decode cL_law 1234 = .ok (.iaload, 1) := by decide +kernel
theorem dL_law_1235 : decode cL_law 1235 = .ok (.aload_n 0, 1) := by decide +kernel
theorem dL_law_1236 : decode cL_law 1236 = .ok (.iload 4, 2) := by decide +kernel
theorem dL_law_1238 : decode cL_law 1238 = .ok (.iconst 3, 1) := by decide +kernel
theorem dL_law_1239 : decode cL_law 1239 = .ok (.iadd, 1) := by decide +kernel
theorem dL_law_1240 : decode cL_law 1240 = .ok (.iaload, 1) := by decide +kernel
theorem dL_law_1241 : decode cL_law 1241 = .ok (.aload_n 3, 1) := by decide +kernel
theorem dL_law_1242 : decode cL_law 1242 = .ok (.invokestatic 156, 3) := by decide +kernel
theorem dL_law_1245 : decode cL_law 1245 = .ok (.istore 5, 2) := by decide +kernel
theorem dL_law_1247 : decode cL_law 1247 = .ok (.aload_n 2, 1) := by decide +kernel
theorem dL_law_1248 : decode cL_law 1248 = .ok (.aload_n 0, 1) := by decide +kernel
theorem dL_law_1249 : decode cL_law 1249 = .ok (.iload 4, 2) := by decide +kernel
theorem dL_law_1251 : decode cL_law 1251 = .ok (.iconst 1, 1) := by decide +kernel
theorem dL_law_1252 : decode cL_law 1252 = .ok (.iadd, 1) := by decide +kernel
theorem dL_law_1253 : decode cL_law 1253 = .ok (.iaload, 1) := by decide +kernel
theorem dL_law_1254 : decode cL_law 1254 = .ok (.aload_n 0, 1) := by decide +kernel
theorem dL_law_1255 : decode cL_law 1255 = .ok (.iload 4, 2) := by decide +kernel
theorem dL_law_1257 : decode cL_law 1257 = .ok (.iconst 2, 1) := by decide +kernel
theorem dL_law_1258 : decode cL_law 1258 = .ok (.iadd, 1) := by decide +kernel
theorem dL_law_1259 : decode cL_law 1259 = .ok (.iaload, 1) := by decide +kernel
theorem dL_law_1260 : decode cL_law 1260 = .ok (.aload_n 0, 1) := by decide +kernel
theorem dL_law_1261 : decode cL_law 1261 = .ok (.iload 4, 2) := by decide +kernel
theorem dL_law_1263 : decode cL_law 1263 = .ok (.iconst 3, 1) := by decide +kernel
theorem dL_law_1264 : decode cL_law 1264 = .ok (.iadd, 1) := by decide +kernel
theorem dL_law_1265 : decode cL_law 1265 = .ok (.iaload, 1) := by decide +kernel
theorem dL_law_1266 : decode cL_law 1266 = .ok (.invokevirtual 158, 3) := by decide +kernel
theorem dL_law_1269 : decode cL_law 1269 = .ok (.istore 6, 2) := by decide +kernel
theorem dL_law_1271 : decode cL_law 1271 = .ok (.aload_n 2, 1) := by decide +kernel
theorem dL_law_1272 : decode cL_law 1272 = .ok (.invokevirtual 99, 3) := by decide +kernel
theorem dL_law_1275 : decode cL_law 1275 = .ok (.iload 5, 2) := by decide +kernel
theorem dL_law_1277 : decode cL_law 1277 = .ok (.if_icmp .eq 5, 3) := by decide +kernel
theorem dL_law_1280 : decode cL_law 1280 = .ok (.iconst 0, 1) := by decide +kernel
theorem dL_law_1281 : decode cL_law 1281 = .ok (.ireturn, 1) := by decide +kernel
theorem dL_law_1282 : decode cL_law 1282 = .ok (.iload 5, 2) := by decide +kernel
theorem dL_law_1284 : decode cL_law 1284 = .ok (.ifCond .ne 15, 3) := by decide +kernel
theorem dL_law_1287 : decode cL_law 1287 = .ok (.aload_n 3, 1) := by decide +kernel
theorem dL_law_1288 : decode cL_law 1288 = .ok (.iconst 0, 1) := by decide +kernel
theorem dL_law_1289 : decode cL_law 1289 = .ok (.laload, 1) := by decide +kernel
theorem dL_law_1290 : decode cL_law 1290 = .ok (.iload 6, 2) := by decide +kernel
theorem dL_law_1292 : decode cL_law 1292 = .ok (.i2l, 1) := by decide +kernel
theorem dL_law_1293 : decode cL_law 1293 = .ok (.lcmp, 1) := by decide +kernel
theorem dL_law_1294 : decode cL_law 1294 = .ok (.ifCond .eq 5, 3) := by decide +kernel
theorem dL_law_1297 : decode cL_law 1297 = .ok (.iconst 0, 1) := by decide +kernel
theorem dL_law_1298 : decode cL_law 1298 = .ok (.ireturn, 1) := by decide +kernel
theorem dL_law_1299 : decode cL_law 1299 = .ok (.goto 485, 3) := by decide +kernel
theorem dL_law_1302 : decode cL_law 1302 = .ok (.aload_n 1, 1) := by decide +kernel
theorem dL_law_1303 : decode cL_law 1303 = .ok (.aload_n 0, 1) := by decide +kernel
theorem dL_law_1304 : decode cL_law 1304 = .ok (.iload 4, 2) := by decide +kernel
theorem dL_law_1306 : decode cL_law 1306 = .ok (.iconst 1, 1) := by decide +kernel
theorem dL_law_1307 : decode cL_law 1307 = .ok (.iadd, 1) := by decide +kernel
theorem dL_law_1308 : decode cL_law 1308 = .ok (.iaload, 1) := by decide +kernel
theorem dL_law_1309 : decode cL_law 1309 = .ok (.aload_n 3, 1) := by decide +kernel
theorem dL_law_1310 : decode cL_law 1310 = .ok (.invokestatic 159, 3) := by decide +kernel
theorem dL_law_1313 : decode cL_law 1313 = .ok (.istore 5, 2) := by decide +kernel
theorem dL_law_1315 : decode cL_law 1315 = .ok (.aload_n 2, 1) := by decide +kernel
theorem dL_law_1316 : decode cL_law 1316 = .ok (.aload_n 0, 1) := by decide +kernel
theorem dL_law_1317 : decode cL_law 1317 = .ok (.iload 4, 2) := by decide +kernel
theorem dL_law_1319 : decode cL_law 1319 = .ok (.iconst 1, 1) := by decide +kernel
theorem dL_law_1320 : decode cL_law 1320 = .ok (.iadd, 1) := by decide +kernel
theorem dL_law_1321 : decode cL_law 1321 = .ok (.iaload, 1) := by decide +kernel
theorem dL_law_1322 : decode cL_law 1322 = .ok (.invokevirtual 161, 3) := by decide +kernel
theorem dL_law_1325 : decode cL_law 1325 = .ok (.istore 6, 2) := by decide +kernel
theorem dL_law_1327 : decode cL_law 1327 = .ok (.aload_n 2, 1) := by decide +kernel
theorem dL_law_1328 : decode cL_law 1328 = .ok (.invokevirtual 99, 3) := by decide +kernel
theorem dL_law_1331 : decode cL_law 1331 = .ok (.iload 5, 2) := by decide +kernel
theorem dL_law_1333 : decode cL_law 1333 = .ok (.if_icmp .eq 5, 3) := by decide +kernel
theorem dL_law_1336 : decode cL_law 1336 = .ok (.iconst 0, 1) := by decide +kernel
theorem dL_law_1337 : decode cL_law 1337 = .ok (.ireturn, 1) := by decide +kernel
theorem dL_law_1338 : decode cL_law 1338 = .ok (.iload 5, 2) := by decide +kernel
theorem dL_law_1340 : decode cL_law 1340 = .ok (.ifCond .ne 15, 3) := by decide +kernel
theorem dL_law_1343 : decode cL_law 1343 = .ok (.aload_n 3, 1) := by decide +kernel
theorem dL_law_1344 : decode cL_law 1344 = .ok (.iconst 0, 1) := by decide +kernel
theorem dL_law_1345 : decode cL_law 1345 = .ok (.laload, 1) := by decide +kernel
theorem dL_law_1346 : decode cL_law 1346 = .ok (.iload 6, 2) := by decide +kernel
theorem dL_law_1348 : decode cL_law 1348 = .ok (.i2l, 1) := by decide +kernel
theorem dL_law_1349 : decode cL_law 1349 = .ok (.lcmp, 1) := by decide +kernel
theorem dL_law_1350 : decode cL_law 1350 = .ok (.ifCond .eq 5, 3) := by decide +kernel
theorem dL_law_1353 : decode cL_law 1353 = .ok (.iconst 0, 1) := by decide +kernel
theorem dL_law_1354 : decode cL_law 1354 = .ok (.ireturn, 1) := by decide +kernel
theorem dL_law_1355 : decode cL_law 1355 = .ok (.goto 429, 3) := by decide +kernel
theorem dL_law_1358 : decode cL_law 1358 = .ok (.aload_n 1, 1) := by decide +kernel
theorem dL_law_1359 : decode cL_law 1359 = .ok (.aload_n 0, 1) := by decide +kernel
theorem dL_law_1360 : decode cL_law 1360 = .ok (.iload 4, 2) := by decide +kernel
theorem dL_law_1362 : decode cL_law 1362 = .ok (.iconst 1, 1) := by decide +kernel
theorem dL_law_1363 : decode cL_law 1363 = .ok (.iadd, 1) := by decide +kernel
theorem dL_law_1364 : decode cL_law 1364 = .ok (.iaload, 1) := by decide +kernel
theorem dL_law_1365 : decode cL_law 1365 = .ok (.aload_n 0, 1) := by decide +kernel
theorem dL_law_1366 : decode cL_law 1366 = .ok (.iload 4, 2) := by decide +kernel
theorem dL_law_1368 : decode cL_law 1368 = .ok (.iconst 2, 1) := by decide +kernel
theorem dL_law_1369 : decode cL_law 1369 = .ok (.iadd, 1) := by decide +kernel
theorem dL_law_1370 : decode cL_law 1370 = .ok (.iaload, 1) := by decide +kernel
theorem dL_law_1371 : decode cL_law 1371 = .ok (.aload_n 0, 1) := by decide +kernel
theorem dL_law_1372 : decode cL_law 1372 = .ok (.iload 4, 2) := by decide +kernel
theorem dL_law_1374 : decode cL_law 1374 = .ok (.iconst 3, 1) := by decide +kernel
theorem dL_law_1375 : decode cL_law 1375 = .ok (.iadd, 1) := by decide +kernel
theorem dL_law_1376 : decode cL_law 1376 = .ok (.iaload, 1) := by decide +kernel
theorem dL_law_1377 : decode cL_law 1377 = .ok (.aload_n 3, 1) := by decide +kernel
theorem dL_law_1378 : decode cL_law 1378 = .ok (.invokestatic 162, 3) := by decide +kernel
theorem dL_law_1381 : decode cL_law 1381 = .ok (.istore 5, 2) := by decide +kernel

