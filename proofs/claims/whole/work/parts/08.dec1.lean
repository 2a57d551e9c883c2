theorem dX9_isAtEnd_57 : decode cX9_isAtEnd 57 = .ok (.ifCond .ne 24, 3) := by decide +kernel
theorem dX9_isAtEnd_60 : decode cX9_isAtEnd 60 = .ok (.aload_n 0, 1) := by decide +kernel
theorem dX9_isAtEnd_61 : decode cX9_isAtEnd 61 = .ok (.getfield 7, 3) := by decide +kernel
theorem dX9_isAtEnd_64 : decode cX9_isAtEnd 64 = .ok (.iconst 3, 1) := by decide +kernel
theorem dX9_isAtEnd_65 : decode cX9_isAtEnd 65 = .ok (.iaload, 1) := by decide +kernel
theorem dX9_isAtEnd_66 : decode cX9_isAtEnd 66 = .ok (.aload_n 0, 1) := by decide +kernel
theorem dX9_isAtEnd_67 : decode cX9_isAtEnd 67 = .ok (.invokevirtual 129, 3) := by decide +kernel
theorem dX9_isAtEnd_70 : decode cX9_isAtEnd 70 = .ok (.sipush 200, 3) := by decide +kernel
theorem dX9_isAtEnd_73 : decode cX9_isAtEnd 73 = .ok (.isub, 1) := by decide +kernel
theorem dX9_isAtEnd_74 : decode cX9_isAtEnd 74 = .ok (.if_icmp .ne 7, 3) := by decide +kernel
theorem dX9_isAtEnd_77 : decode cX9_isAtEnd 77 = .ok (.iconst 1, 1) := by decide +kernel
theorem dX9_isAtEnd_78 : decode cX9_isAtEnd 78 = .ok (.goto 4, 3) := by decide +kernel
theorem dX9_isAtEnd_81 : decode cX9_isAtEnd 81 = .ok (.iconst 0, 1) := by decide +kernel
theorem dX9_isAtEnd_82 : decode cX9_isAtEnd 82 = .ok (.ireturn, 1) := by decide +kernel
theorem dX9_isAtEnd_83 : decode cX9_isAtEnd 83 = .ok (.aload_n 0, 1) := by decide +kernel
theorem dX9_isAtEnd_84 : decode cX9_isAtEnd 84 = .ok (.getfield 7, 3) := by decide +kernel
theorem dX9_isAtEnd_87 : decode cX9_isAtEnd 87 = .ok (.iconst 3, 1) := by decide +kernel
theorem dX9_isAtEnd_88 : decode cX9_isAtEnd 88 = .ok (.iaload, 1) := by decide +kernel
theorem dX9_isAtEnd_89 : decode cX9_isAtEnd 89 = .ok (.ifCond .ne 16, 3) := by decide +kernel
theorem dX9_isAtEnd_92 : decode cX9_isAtEnd 92 = .ok (.aload_n 0, 1) := by decide +kernel
theorem dX9_isAtEnd_93 : decode cX9_isAtEnd 93 = .ok (.getfield 7, 3) := by decide +kernel
theorem dX9_isAtEnd_96 : decode cX9_isAtEnd 96 = .ok (.iconst 4, 1) := by decide +kernel
theorem dX9_isAtEnd_97 : decode cX9_isAtEnd 97 = .ok (.iaload, 1) := by decide +kernel
theorem dX9_isAtEnd_98 : decode cX9_isAtEnd 98 = .ok (.ifCond .ne 7, 3) := by decide +kernel
theorem dX9_isAtEnd_101 : decode cX9_isAtEnd 101 = .ok (.iconst 1, 1) := by decide +kernel
theorem dX9_isAtEnd_102 : decode cX9_isAtEnd 102 = .ok (.goto 4, 3) := by decide +kernel
theorem dX9_isAtEnd_105 : decode cX9_isAtEnd 105 = .ok (.iconst 0, 1) := by decide +kernel
theorem dX9_isAtEnd_106 : decode cX9_isAtEnd 106 = .ok (.ireturn, 1) := by decide +kernel
theorem dX9_isAtEnd_107 : decode cX9_isAtEnd 107 = .ok (.aload_n 0, 1) := by decide +kernel
theorem dX9_isAtEnd_108 : decode cX9_isAtEnd 108 = .ok (.getfield 7, 3) := by decide +kernel
theorem dX9_isAtEnd_111 : decode cX9_isAtEnd 111 = .ok (.iconst 1, 1) := by decide +kernel
theorem dX9_isAtEnd_112 : decode cX9_isAtEnd 112 = .ok (.iaload, 1) := by decide +kernel
theorem dX9_isAtEnd_113 : decode cX9_isAtEnd 113 = .ok (.sipush 850, 3) := by decide +kernel
theorem dX9_isAtEnd_116 : decode cX9_isAtEnd 116 = .ok (.if_icmp .ne 7, 3) := by decide +kernel
theorem dX9_isAtEnd_119 : decode cX9_isAtEnd 119 = .ok (.iconst 1, 1) := by decide +kernel
theorem dX9_isAtEnd_120 : decode cX9_isAtEnd 120 = .ok (.goto 4, 3) := by decide +kernel
theorem dX9_isAtEnd_123 : decode cX9_isAtEnd 123 = .ok (.iconst 0, 1) := by decide +kernel
theorem dX9_isAtEnd_124 : decode cX9_isAtEnd 124 = .ok (.ireturn, 1) := by decide +kernel
theorem dX9_isAtEnd_125 : decode cX9_isAtEnd 125 = .ok (.aload_n 0, 1) := by decide +kernel
theorem dX9_isAtEnd_126 : decode cX9_isAtEnd 126 = .ok (.getfield 7, 3) := by decide +kernel
theorem dX9_isAtEnd_129 : decode cX9_isAtEnd 129 = .ok (.iconst 1, 1) := by decide +kernel
theorem dX9_isAtEnd_130 : decode cX9_isAtEnd 130 = .ok (.iaload, 1) := by decide +kernel
theorem dX9_isAtEnd_131 : decode cX9_isAtEnd 131 = .ok (.ifCond .ne 7, 3) := by decide +kernel
theorem dX9_isAtEnd_134 : decode cX9_isAtEnd 134 = .ok (.iconst 1, 1) := by decide +kernel
theorem dX9_isAtEnd_135 : decode cX9_isAtEnd 135 = .ok (.goto 4, 3) := by decide +kernel
theorem dX9_isAtEnd_138 : decode cX9_isAtEnd 138 = .ok (.iconst 0, 1) := by decide +kernel
theorem dX9_isAtEnd_139 : decode cX9_isAtEnd 139 = .ok (.ireturn, 1) := by decide +kernel
theorem dX9_isAtEnd_140 : decode cX9_isAtEnd 140 = .ok (.aload_n 0, 1) := by decide +kernel
theorem dX9_isAtEnd_141 : decode cX9_isAtEnd 141 = .ok (.getfield 7, 3) := by decide +kernel
theorem dX9_isAtEnd_144 : decode cX9_isAtEnd 144 = .ok (.iconst 0, 1) := by decide +kernel
theorem dX9_isAtEnd_145 : decode cX9_isAtEnd 145 = .ok (.iaload, 1) := by decide +kernel
theorem dX9_isAtEnd_146 : decode cX9_isAtEnd 146 = .ok (.sipush 6000, 3) := by decide +kernel
theorem dX9_isAtEnd_149 : decode cX9_isAtEnd 149 = .ok (.if_icmp .ne 7, 3) := by decide +kernel
theorem dX9_isAtEnd_152 : decode cX9_isAtEnd 152 = .ok (.iconst 1, 1) := by decide +kernel
theorem dX9_isAtEnd_153 : decode cX9_isAtEnd 153 = .ok (.goto 4, 3) := by decide +kernel
theorem dX9_isAtEnd_156 : decode cX9_isAtEnd 156 = .ok (.iconst 0, 1) := by decide +kernel
theorem dX9_isAtEnd_157 : decode cX9_isAtEnd 157 = .ok (.ireturn, 1) := by decide +kernel
theorem dX9_isAtEnd_158 : decode cX9_isAtEnd 158 = .ok (.aload_n 0, 1) := by decide +kernel
theorem dX9_isAtEnd_159 : decode cX9_isAtEnd 159 = .ok (.getfield 7, 3) := by decide +kernel
theorem dX9_isAtEnd_162 : decode cX9_isAtEnd 162 = .ok (.iconst 0, 1) := by decide +kernel
theorem dX9_isAtEnd_163 : decode cX9_isAtEnd 163 = .ok (.iaload, 1) := by decide +kernel
theorem dX9_isAtEnd_164 : decode cX9_isAtEnd 164 = .ok (.sipush 1000, 3) := by decide +kernel
theorem dX9_isAtEnd_167 : decode cX9_isAtEnd 167 = .ok (.if_icmp .ne 7, 3) := by decide +kernel
theorem dX9_isAtEnd_170 : decode cX9_isAtEnd 170 = .ok (.iconst 1, 1) := by decide +kernel
theorem dX9_isAtEnd_171 : decode cX9_isAtEnd 171 = .ok (.goto 4, 3) := by decide +kernel
theorem dX9_isAtEnd_174 : decode cX9_isAtEnd 174 = .ok (.iconst 0, 1) := by decide +kernel
theorem dX9_isAtEnd_175 : decode cX9_isAtEnd 175 = .ok (.ireturn, 1) := by decide +kernel
theorem dX9_isAtEnd_176 : decode cX9_isAtEnd 176 = .ok (.iconst 0, 1) := by decide +kernel
theorem dX9_isAtEnd_177 : decode cX9_isAtEnd 177 = .ok (.ireturn, 1) := by decide +kernel
theorem dX9_isWorseZone_0 : decode cX9_isWorseZone 0 = .ok (.aload_n 0, 1) := by decide +kernel
theorem dX9_isWorseZone_1 : decode cX9_isWorseZone 1 = .ok (.invokevirtual 153, 3) := by decide +kernel
theorem dX9_isWorseZone_4 : decode cX9_isWorseZone 4 = .ok (.istore_n 2, 1) := by decide +kernel
theorem dX9_isWorseZone_5 : decode cX9_isWorseZone 5 = .ok (.aload_n 0, 1) := by decide +kernel
theorem dX9_isWorseZone_6 : decode cX9_isWorseZone 6 = .ok (.invokevirtual 159, 3) := by decide +kernel
theorem dX9_isWorseZone_9 : decode cX9_isWorseZone 9 = .ok (.aload_n 0, 1) := by decide +kernel
theorem dX9_isWorseZone_10 : decode cX9_isWorseZone 10 = .ok (.iload_n 1, 1) := by decide +kernel
theorem dX9_isWorseZone_11 : decode cX9_isWorseZone 11 = .ok (.invokevirtual 162, 3) := by decide +kernel
theorem dX9_isWorseZone_14 : decode cX9_isWorseZone 14 = .ok (.aload_n 0, 1) := by decide +kernel
theorem dX9_isWorseZone_15 : decode cX9_isWorseZone 15 = .ok (.invokevirtual 153, 3) := by decide +kernel
theorem dX9_isWorseZone_18 : decode cX9_isWorseZone 18 = .ok (.istore_n 3, 1) := by decide +kernel
theorem dX9_isWorseZone_19 : decode cX9_isWorseZone 19 = .ok (.aload_n 0, 1) := by decide +kernel
theorem dX9_isWorseZone_20 : decode cX9_isWorseZone 20 = .ok (.invokevirtual 166, 3) := by decide +kernel
theorem dX9_isWorseZone_23 : decode cX9_isWorseZone 23 = .ok (.iload_n 3, 1) := by decide +kernel
theorem dX9_isWorseZone_24 : decode cX9_isWorseZone 24 = .ok (.iload_n 2, 1) := by decide +kernel
theorem dX9_isWorseZone_25 : decode cX9_isWorseZone 25 = .ok (.if_icmp .le 7, 3) := by decide +kernel
theorem dX9_isWorseZone_28 : decode cX9_isWorseZone 28 = .ok (.iconst 1, 1) := by decide +kernel
theorem dX9_isWorseZone_29 : decode cX9_isWorseZone 29 = .ok (.goto 4, 3) := by decide +kernel
theorem dX9_isWorseZone_32 : decode cX9_isWorseZone 32 = .ok (.iconst 0, 1) := by decide +kernel
theorem dX9_isWorseZone_33 : decode cX9_isWorseZone 33 = .ok (.ireturn, 1) := by decide +kernel
theorem dX9_isOverloadAhead_0 : decode cX9_isOverloadAhead 0 = .ok (.iload_n 1, 1) := by decide +kernel
theorem dX9_isOverloadAhead_1 : decode cX9_isOverloadAhead 1 = .ok (.bipush 6, 2) := by decide +kernel
theorem dX9_isOverloadAhead_3 : decode cX9_isOverloadAhead 3 = .ok (.if_icmp .lt 14, 3) := by decide +kernel
theorem dX9_isOverloadAhead_6 : decode cX9_isOverloadAhead 6 = .ok (.aload_n 0, 1) := by decide +kernel
theorem dX9_isOverloadAhead_7 : decode cX9_isOverloadAhead 7 = .ok (.getfield 7, 3) := by decide +kernel
theorem dX9_isOverloadAhead_10 : decode cX9_isOverloadAhead 10 = .ok (.bipush 7, 2) := by decide +kernel
theorem dX9_isOverloadAhead_12 : decode cX9_isOverloadAhead 12 = .ok (.iaload, 1) := by decide +kernel
theorem dX9_isOverloadAhead_13 : decode cX9_isOverloadAhead 13 = .ok (.iconst 3, 1) := by decide +kernel
theorem dX9_isOverloadAhead_14 : decode cX9_isOverloadAhead 14 = .ok (.if_icmp .ne 5, 3) := by decide +kernel
theorem dX9_isOverloadAhead_17 : decode cX9_isOverloadAhead 17 = .ok (.iconst 0, 1) := by decide +kernel
theorem dX9_isOverloadAhead_18 : decode cX9_isOverloadAhead 18 = .ok (.ireturn, 1) := by decide +kernel
theorem dX9_isOverloadAhead_19 : decode cX9_isOverloadAhead 19 = .ok (.aload_n 0, 1) := by decide +kernel
theorem dX9_isOverloadAhead_20 : decode cX9_isOverloadAhead 20 = .ok (.invokevirtual 169, 3) := by decide +kernel
theorem dX9_isOverloadAhead_23 : decode cX9_isOverloadAhead 23 = .ok (.istore_n 2, 1) := by decide +kernel
theorem dX9_isOverloadAhead_24 : decode cX9_isOverloadAhead 24 = .ok (.aload_n 0, 1) := by decide +kernel
theorem dX9_isOverloadAhead_25 : decode cX9_isOverloadAhead 25 = .ok (.aload_n 0, 1) := by decide +kernel
theorem dX9_isOverloadAhead_26 : decode cX9_isOverloadAhead 26 = .ok (.getfield 7, 3) := by decide +kernel
theorem dX9_isOverloadAhead_29 : decode cX9_isOverloadAhead 29 = .ok (.iconst 2, 1) := by decide +kernel
theorem dX9_isOverloadAhead_30 : decode cX9_isOverloadAhead 30 = .ok (.iaload, 1) := by decide +kernel
theorem dX9_isOverloadAhead_31 : decode cX9_isOverloadAhead 31 = .ok (.iload_n 1, 1) := by decide +kernel
theorem dX9_isOverloadAhead_32 : decode cX9_isOverloadAhead 32 = .ok (.bipush 6, 2) := by decide +kernel
theorem dX9_isOverloadAhead_34 : decode cX9_isOverloadAhead 34 = .ok (.if_icmp .ne 8, 3) := by decide +kernel
theorem dX9_isOverloadAhead_37 : decode cX9_isOverloadAhead 37 = .ok (.bipush 50, 2) := by decide +kernel
theorem dX9_isOverloadAhead_39 : decode cX9_isOverloadAhead 39 = .ok (.goto 6, 3) := by decide +kernel
theorem dX9_isOverloadAhead_42 : decode cX9_isOverloadAhead 42 = .ok (.sipush 3550, 3) := by decide +kernel
theorem dX9_isOverloadAhead_45 : decode cX9_isOverloadAhead 45 = .ok (.iadd, 1) := by decide +kernel
theorem dX9_isOverloadAhead_46 : decode cX9_isOverloadAhead 46 = .ok (.sipush 3600, 3) := by decide +kernel
theorem dX9_isOverloadAhead_49 : decode cX9_isOverloadAhead 49 = .ok (.irem, 1) := by decide +kernel
theorem dX9_isOverloadAhead_50 : decode cX9_isOverloadAhead 50 = .ok (.invokevirtual 126, 3) := by decide +kernel
theorem dX9_isOverloadAhead_53 : decode cX9_isOverloadAhead 53 = .ok (.istore_n 3, 1) := by decide +kernel
theorem dX9_isOverloadAhead_54 : decode cX9_isOverloadAhead 54 = .ok (.iload_n 3, 1) := by decide +kernel
theorem dX9_isOverloadAhead_55 : decode cX9_isOverloadAhead 55 = .ok (.sipush 1000, 3) := by decide +kernel
theorem dX9_isOverloadAhead_58 : decode cX9_isOverloadAhead 58 = .ok (.if_icmp .lt 12, 3) := by decide +kernel
theorem dX9_isOverloadAhead_61 : decode cX9_isOverloadAhead 61 = .ok (.iload_n 3, 1) := by decide +kernel
theorem dX9_isOverloadAhead_62 : decode cX9_isOverloadAhead 62 = .ok (.iload_n 2, 1) := by decide +kernel
theorem dX9_isOverloadAhead_63 : decode cX9_isOverloadAhead 63 = .ok (.if_icmp .le 7, 3) := by decide +kernel
theorem dX9_isOverloadAhead_66 : decode cX9_isOverloadAhead 66 = .ok (.iconst 1, 1) := by decide +kernel
theorem dX9_isOverloadAhead_67 : decode cX9_isOverloadAhead 67 = .ok (.goto 4, 3) := by decide +kernel
theorem dX9_isOverloadAhead_70 : decode cX9_isOverloadAhead 70 = .ok (.iconst 0, 1) := by decide +kernel
theorem dX9_isOverloadAhead_71 : decode cX9_isOverloadAhead 71 = .ok (.ireturn, 1) := by decide +kernel
theorem dX9_isPermitted_0 : decode cX9_isPermitted 0 = .ok (.aload_n 0, 1) := by decide +kernel
theorem dX9_isPermitted_1 : decode cX9_isPermitted 1 = .ok (.getfield 7, 3) := by decide +kernel
theorem dX9_isPermitted_4 : decode cX9_isPermitted 4 = .ok (.bipush 7, 2) := by decide +kernel
theorem dX9_isPermitted_6 : decode cX9_isPermitted 6 = .ok (.iaload, 1) := by decide +kernel
theorem dX9_isPermitted_7 : decode cX9_isPermitted 7 = .ok (.iconst 2, 1) := by decide +kernel
theorem dX9_isPermitted_8 : decode cX9_isPermitted 8 = .ok (.if_icmp .ne 21, 3) := by decide +kernel
theorem dX9_isPermitted_11 : decode cX9_isPermitted 11 = .ok (.iload_n 1, 1) := by decide +kernel
theorem dX9_isPermitted_12 : decode cX9_isPermitted 12 = .ok (.ifCond .eq 13, 3) := by decide +kernel
theorem dX9_isPermitted_15 : decode cX9_isPermitted 15 = .ok (.iload_n 1, 1) := by decide +kernel
theorem dX9_isPermitted_16 : decode cX9_isPermitted 16 = .ok (.iconst 3, 1) := by decide +kernel
theorem dX9_isPermitted_17 : decode cX9_isPermitted 17 = .ok (.if_icmp .eq 8, 3) := by decide +kernel
theorem dX9_isPermitted_20 : decode cX9_isPermitted 20 = .ok (.iload_n 1, 1) := by decide +kernel
theorem dX9_isPermitted_21 : decode cX9_isPermitted 21 = .ok (.iconst 4, 1) := by decide +kernel
theorem dX9_isPermitted_22 : decode cX9_isPermitted 22 = .ok (.if_icmp .ne 7, 3) := by decide +kernel
theorem dX9_isPermitted_25 : decode cX9_isPermitted 25 = .ok (.iconst 1, 1) := by decide +kernel
theorem dX9_isPermitted_26 : decode cX9_isPermitted 26 = .ok (.goto 4, 3) := by decide +kernel
theorem dX9_isPermitted_29 : decode cX9_isPermitted 29 = .ok (.iconst 0, 1) := by decide +kernel
theorem dX9_isPermitted_30 : decode cX9_isPermitted 30 = .ok (.istore_n 2, 1) := by decide +kernel
theorem dX9_isPermitted_31 : decode cX9_isPermitted 31 = .ok (.aload_n 0, 1) := by decide +kernel
theorem dX9_isPermitted_32 : decode cX9_isPermitted 32 = .ok (.iload_n 1, 1) := by decide +kernel
theorem dX9_isPermitted_33 : decode cX9_isPermitted 33 = .ok (.invokevirtual 172, 3) := by decide +kernel
theorem dX9_isPermitted_36 : decode cX9_isPermitted 36 = .ok (.ifCond .ne 27, 3) := by decide +kernel
theorem dX9_isPermitted_39 : decode cX9_isPermitted 39 = .ok (.iload_n 2, 1) := by decide +kernel
theorem dX9_isPermitted_40 : decode cX9_isPermitted 40 = .ok (.ifCond .ne 23, 3) := by decide +kernel
theorem dX9_isPermitted_43 : decode cX9_isPermitted 43 = .ok (.aload_n 0, 1) := by decide +kernel
theorem dX9_isPermitted_44 : decode cX9_isPermitted 44 = .ok (.iload_n 1, 1) := by decide +kernel
theorem dX9_isPermitted_45 : decode cX9_isPermitted 45 = .ok (.invokevirtual 176, 3) := by decide +kernel
theorem dX9_isPermitted_48 : decode cX9_isPermitted 48 = .ok (.ifCond .ne 15, 3) := by decide +kernel
theorem dX9_isPermitted_51 : decode cX9_isPermitted 51 = .ok (.aload_n 0, 1) := by decide +kernel
theorem dX9_isPermitted_52 : decode cX9_isPermitted 52 = .ok (.iload_n 1, 1) := by decide +kernel
theorem dX9_isPermitted_53 : decode cX9_isPermitted 53 = .ok (.invokevirtual 179, 3) := by decide +kernel
theorem dX9_isPermitted_56 : decode cX9_isPermitted 56 = .ok (.ifCond .ne 7, 3) := by decide +kernel
theorem dX9_isPermitted_59 : decode cX9_isPermitted 59 = .ok (.iconst 1, 1) := by decide +kernel
theorem dX9_isPermitted_60 : decode cX9_isPermitted 60 = .ok (.goto 4, 3) := by decide +kernel
theorem dX9_isPermitted_63 : decode cX9_isPermitted 63 = .ok (.iconst 0, 1) := by decide +kernel
theorem dX9_isPermitted_64 : decode cX9_isPermitted 64 = .ok (.ireturn, 1) := by decide +kernel
theorem dX9_log_0 : decode cX9_log 0 = .ok (.aload_n 0, 1) := by decide +kernel
theorem dX9_log_1 : decode cX9_log 1 = .ok (.getfield 7, 3) := by decide +kernel
theorem dX9_log_4 : decode cX9_log 4 = .ok (.sipush 143, 3) := by decide +kernel
theorem dX9_log_7 : decode cX9_log 7 = .ok (.iaload, 1) := by decide +kernel
theorem dX9_log_8 : decode cX9_log 8 = .ok (.bipush 30, 2) := by decide +kernel
theorem dX9_log_10 : decode cX9_log 10 = .ok (.if_icmp .ne 51, 3) := by decide +kernel
theorem dX9_log_13 : decode cX9_log 13 = .ok (.iconst 0, 1) := by decide +kernel
theorem dX9_log_14 : decode cX9_log 14 = .ok (.istore_n 3, 1) := by decide +kernel
theorem dX9_log_15 : decode cX9_log 15 = .ok (.iload_n 3, 1) := by decide +kernel
theorem dX9_log_16 : decode cX9_log 16 = .ok (.bipush 87, 2) := by decide +kernel
theorem dX9_log_18 : decode cX9_log 18 = .ok (.if_icmp .ge 31, 3) := by decide +kernel
theorem dX9_log_21 : decode cX9_log 21 = .ok (.aload_n 0, 1) := by decide +kernel
theorem dX9_log_22 : decode cX9_log 22 = .ok (.getfield 7, 3) := by decide +kernel
theorem dX9_log_25 : decode cX9_log 25 = .ok (.sipush 144, 3) := by decide +kernel
theorem dX9_log_28 : decode cX9_log 28 = .ok (.iload_n 3, 1) := by decide +kernel
theorem dX9_log_29 : decode cX9_log 29 = .ok (.iadd, 1) := by decide +kernel
theorem dX9_log_30 : decode cX9_log 30 = .ok (.aload_n 0, 1) := by decide +kernel
theorem dX9_log_31 : decode cX9_log 31 = .ok (.getfield 7, 3) := by decide +kernel
theorem dX9_log_34 : decode cX9_log 34 = .ok (.sipush 144, 3) := by decide +kernel
theorem dX9_log_37 : decode cX9_log 37 = .ok (.iload_n 3, 1) := by decide +kernel
theorem dX9_log_38 : decode cX9_log 38 = .ok (.iadd, 1) := by decide +kernel
theorem dX9_log_39 : decode cX9_log 39 = .ok (.iconst 3, 1) := by decide +kernel
theorem dX9_log_40 : decode cX9_log 40 = .ok (.iadd, 1) := by decide +kernel
theorem dX9_log_41 : decode cX9_log 41 = .ok (.iaload, 1) := by decide +kernel
theorem dX9_log_42 : decode cX9_log 42 = .ok (.iastore, 1) := by decide +kernel
theorem dX9_log_43 : decode cX9_log 43 = .ok (.iinc 3 1, 3) := by decide +kernel
theorem dX9_log_46 : decode cX9_log 46 = .ok (.goto (-31), 3) := by decide +kernel
theorem dX9_log_49 : decode cX9_log 49 = .ok (.aload_n 0, 1) := by decide +kernel
theorem dX9_log_50 : decode cX9_log 50 = .ok (.getfield 7, 3) := by decide +kernel
theorem dX9_log_53 : decode cX9_log 53 = .ok (.sipush 143, 3) := by decide +kernel
theorem dX9_log_56 : decode cX9_log 56 = .ok (.dup2, 1) := by decide +kernel
theorem dX9_log_57 : decode cX9_log 57 = .ok (.iaload, 1) := by decide +kernel
theorem dX9_log_58 : decode cX9_log 58 = .ok (.iconst 1, 1) := by decide +kernel
theorem dX9_log_59 : decode cX9_log 59 = .ok (.isub, 1) := by decide +kernel
theorem dX9_log_60 : decode cX9_log 60 = .ok (.iastore, 1) := by decide +kernel
theorem dX9_log_61 : decode cX9_log 61 = .ok (.sipush 144, 3) := by decide +kernel
theorem dX9_log_64 : decode cX9_log 64 = .ok (.iconst 3, 1) := by decide +kernel
theorem dX9_log_65 : decode cX9_log 65 = .ok (.aload_n 0, 1) := by decide +kernel
theorem dX9_log_66 : decode cX9_log 66 = .ok (.getfield 7, 3) := by decide +kernel
theorem dX9_log_69 : decode cX9_log 69 = .ok (.sipush 143, 3) := by decide +kernel
theorem dX9_log_72 : decode cX9_log 72 = .ok (.iaload, 1) := by decide +kernel
theorem dX9_log_73 : decode cX9_log 73 = .ok (.imul, 1) := by decide +kernel
theorem dX9_log_74 : decode cX9_log 74 = .ok (.iadd, 1) := by decide +kernel
theorem dX9_log_75 : decode cX9_log 75 = .ok (.istore_n 3, 1) := by decide +kernel
theorem dX9_log_76 : decode cX9_log 76 = .ok (.aload_n 0, 1) := by decide +kernel
theorem dX9_log_77 : decode cX9_log 77 = .ok (.getfield 7, 3) := by decide +kernel
theorem dX9_log_80 : decode cX9_log 80 = .ok (.iload_n 3, 1) := by decide +kernel
theorem dX9_log_81 : decode cX9_log 81 = .ok (.aload_n 0, 1) := by decide +kernel
theorem dX9_log_82 : decode cX9_log 82 = .ok (.getfield 7, 3) := by decide +kernel
theorem dX9_log_85 : decode cX9_log 85 = .ok (.bipush 8, 2) := by decide +kernel
theorem dX9_log_87 : decode cX9_log 87 = .ok (.iaload, 1) := by decide +kernel
theorem dX9_log_88 : decode cX9_log 88 = .ok (.iastore, 1) := by decide +kernel
theorem dX9_log_89 : decode cX9_log 89 = .ok (.aload_n 0, 1) := by decide +kernel
theorem dX9_log_90 : decode cX9_log 90 = .ok (.getfield 7, 3) := by decide +kernel
theorem dX9_log_93 : decode cX9_log 93 = .ok (.iload_n 3, 1) := by decide +kernel
theorem dX9_log_94 : decode cX9_log 94 = .ok (.iconst 1, 1) := by decide +kernel
theorem dX9_log_95 : decode cX9_log 95 = .ok (.iadd, 1) := by decide +kernel
theorem dX9_log_96 : decode cX9_log 96 = .ok (.iload_n 1, 1) := by decide +kernel
theorem dX9_log_97 : decode cX9_log 97 = .ok (.iastore, 1) := by decide +kernel
theorem dX9_log_98 : decode cX9_log 98 = .ok (.aload_n 0, 1) := by decide +kernel
theorem dX9_log_99 : decode cX9_log 99 = .ok (.getfield 7, 3) := by decide +kernel
theorem dX9_log_102 : decode cX9_log 102 = .ok (.iload_n 3, 1) := by decide +kernel
theorem dX9_log_103 : decode cX9_log 103 = .ok (.iconst 2, 1) := by decide +kernel
theorem dX9_log_104 : decode cX9_log 104 = .ok (.iadd, 1) := by decide +kernel
theorem dX9_log_105 : decode cX9_log 105 = .ok (.iload_n 2, 1) := by decide +kernel
theorem dX9_log_106 : decode cX9_log 106 = .ok (.iastore, 1) := by decide +kernel
theorem dX9_log_107 : decode cX9_log 107 = .ok (.aload_n 0, 1) := by decide +kernel
theorem dX9_log_108 : decode cX9_log 108 = .ok (.getfield 7, 3) := by decide +kernel
theorem dX9_log_111 : decode cX9_log 111 = .ok (.sipush 143, 3) := by decide +kernel
theorem dX9_log_114 : decode cX9_log 114 = .ok (.dup2, 1) := by decide +kernel
theorem dX9_log_115 : decode cX9_log 115 = .ok (.iaload, 1) := by decide +kernel
theorem dX9_log_116 : decode cX9_log 116 = .ok (.iconst 1, 1) := by decide +kernel
theorem dX9_log_117 : decode cX9_log 117 = .ok (.iadd, 1) := by decide +kernel
theorem dX9_log_118 : decode cX9_log 118 = .ok (.iastore, 1) := by decide +kernel
theorem dX9_log_119 : decode cX9_log 119 = .ok (.return_, 1) := by decide +kernel
theorem dX9_move_0 : decode cX9_move 0 = .ok (.iconst 0, 1) := by decide +kernel
theorem dX9_move_1 : decode cX9_move 1 = .ok (.istore_n 2, 1) := by decide +kernel
theorem dX9_move_2 : decode cX9_move 2 = .ok (.iconst 0, 1) := by decide +kernel
theorem dX9_move_3 : decode cX9_move 3 = .ok (.istore_n 3, 1) := by decide +kernel
theorem dX9_move_4 : decode cX9_move 4 = .ok (.iload_n 3, 1) := by decide +kernel
theorem dX9_move_5 : decode cX9_move 5 = .ok (.bipush 8, 2) := by decide +kernel
theorem dX9_move_7 : decode cX9_move 7 = .ok (.if_icmp .ge 60, 3) := by decide +kernel
theorem dX9_move_10 : decode cX9_move 10 = .ok (.iload_n 1, 1) := by decide +kernel
theorem dX9_move_11 : decode cX9_move 11 = .ok (.iload_n 3, 1) := by decide +kernel
theorem dX9_move_12 : decode cX9_move 12 = .ok (.ishr, 1) := by decide +kernel
theorem dX9_move_13 : decode cX9_move 13 = .ok (.iconst 1, 1) := by decide +kernel
theorem dX9_move_14 : decode cX9_move 14 = .ok (.iand, 1) := by decide +kernel
theorem dX9_move_15 : decode cX9_move 15 = .ok (.iconst 1, 1) := by decide +kernel
theorem dX9_move_16 : decode cX9_move 16 = .ok (.if_icmp .ne 45, 3) := by decide +kernel
theorem dX9_move_19 : decode cX9_move 19 = .ok (.aload_n 0, 1) := by decide +kernel
theorem dX9_move_20 : decode cX9_move 20 = .ok (.iload_n 3, 1) := by decide +kernel
theorem dX9_move_21 : decode cX9_move 21 = .ok (.invokevirtual 182, 3) := by decide +kernel
theorem dX9_move_24 : decode cX9_move 24 = .ok (.ifCond .eq 11, 3) := by decide +kernel
theorem dX9_move_27 : decode cX9_move 27 = .ok (.aload_n 0, 1) := by decide +kernel
theorem dX9_move_28 : decode cX9_move 28 = .ok (.iload_n 3, 1) := by decide +kernel
theorem dX9_move_29 : decode cX9_move 29 = .ok (.invokevirtual 162, 3) := by decide +kernel
theorem dX9_move_32 : decode cX9_move 32 = .ok (.goto 29, 3) := by decide +kernel
theorem dX9_move_35 : decode cX9_move 35 = .ok (.iload_n 2, 1) := by decide +kernel
theorem dX9_move_36 : decode cX9_move 36 = .ok (.iconst 1, 1) := by decide +kernel
theorem dX9_move_37 : decode cX9_move 37 = .ok (.iload_n 3, 1) := by decide +kernel
theorem dX9_move_38 : decode cX9_move 38 = .ok (.ishl, 1) := by decide +kernel
theorem dX9_move_39 : decode cX9_move 39 = .ok (.ior, 1) := by decide +kernel
theorem dX9_move_40 : decode cX9_move 40 = .ok (.istore_n 2, 1) := by decide +kernel
theorem dX9_move_41 : decode cX9_move 41 = .ok (.aload_n 0, 1) := by decide +kernel
theorem dX9_move_42 : decode cX9_move 42 = .ok (.getfield 7, 3) := by decide +kernel
theorem dX9_move_45 : decode cX9_move 45 = .ok (.bipush 11, 2) := by decide +kernel
theorem dX9_move_47 : decode cX9_move 47 = .ok (.iaload, 1) := by decide +kernel
theorem dX9_move_48 : decode cX9_move 48 = .ok (.iload_n 3, 1) := by decide +kernel
theorem dX9_move_49 : decode cX9_move 49 = .ok (.ishr, 1) := by decide +kernel
theorem dX9_move_50 : decode cX9_move 50 = .ok (.iconst 1, 1) := by decide +kernel
theorem dX9_move_51 : decode cX9_move 51 = .ok (.iand, 1) := by decide +kernel
theorem dX9_move_52 : decode cX9_move 52 = .ok (.ifCond .ne 9, 3) := by decide +kernel
theorem dX9_move_55 : decode cX9_move 55 = .ok (.aload_n 0, 1) := by decide +kernel
theorem dX9_move_56 : decode cX9_move 56 = .ok (.iconst 0, 1) := by decide +kernel
theorem dX9_move_57 : decode cX9_move 57 = .ok (.iload_n 3, 1) := by decide +kernel
theorem dX9_move_58 : decode cX9_move 58 = .ok (.invokevirtual 185, 3) := by decide +kernel
theorem dX9_move_61 : decode cX9_move 61 = .ok (.iinc 3 1, 3) := by decide +kernel
theorem dX9_move_64 : decode cX9_move 64 = .ok (.goto (-60), 3) := by decide +kernel
theorem dX9_move_67 : decode cX9_move 67 = .ok (.iload_n 2, 1) := by decide +kernel
theorem dX9_move_68 : decode cX9_move 68 = .ok (.ireturn, 1) := by decide +kernel
theorem dX9_nextState_0 : decode cX9_nextState 0 = .ok (.aload_n 0, 1) := by decide +kernel
theorem dX9_nextState_1 : decode cX9_nextState 1 = .ok (.getfield 7, 3) := by decide +kernel
theorem dX9_nextState_4 : decode cX9_nextState 4 = .ok (.bipush 9, 2) := by decide +kernel
theorem dX9_nextState_6 : decode cX9_nextState 6 = .ok (.iaload, 1) := by decide +kernel
theorem dX9_nextState_7 : decode cX9_nextState 7 = .ok (.ifCond .le 5, 3) := by decide +kernel
theorem dX9_nextState_10 : decode cX9_nextState 10 = .ok (.iconst 3, 1) := by decide +kernel
theorem dX9_nextState_11 : decode cX9_nextState 11 = .ok (.ireturn, 1) := by decide +kernel
theorem dX9_nextState_12 : decode cX9_nextState 12 = .ok (.iload_n 1, 1) := by decide +kernel
theorem dX9_nextState_13 : decode cX9_nextState 13 = .ok (.sipush 1000, 3) := by decide +kernel
theorem dX9_nextState_16 : decode cX9_nextState 16 = .ok (.if_icmp .ge 21, 3) := by decide +kernel
theorem dX9_nextState_19 : decode cX9_nextState 19 = .ok (.aload_n 0, 1) := by decide +kernel
theorem dX9_nextState_20 : decode cX9_nextState 20 = .ok (.getfield 7, 3) := by decide +kernel
theorem dX9_nextState_23 : decode cX9_nextState 23 = .ok (.bipush 7, 2) := by decide +kernel
theorem dX9_nextState_25 : decode cX9_nextState 25 = .ok (.iaload, 1) := by decide +kernel
theorem dX9_nextState_26 : decode cX9_nextState 26 = .ok (.iconst 2, 1) := by decide +kernel
theorem dX9_nextState_27 : decode cX9_nextState 27 = .ok (.if_icmp .ne 12, 3) := by decide +kernel
theorem dX9_nextState_30 : decode cX9_nextState 30 = .ok (.iload_n 1, 1) := by decide +kernel
theorem dX9_nextState_31 : decode cX9_nextState 31 = .ok (.sipush 950, 3) := by decide +kernel
theorem dX9_nextState_34 : decode cX9_nextState 34 = .ok (.if_icmp .lt 5, 3) := by decide +kernel
theorem dX9_nextState_37 : decode cX9_nextState 37 = .ok (.iconst 2, 1) := by decide +kernel
theorem dX9_nextState_38 : decode cX9_nextState 38 = .ok (.ireturn, 1) := by decide +kernel
theorem dX9_nextState_39 : decode cX9_nextState 39 = .ok (.aload_n 0, 1) := by decide +kernel
theorem dX9_nextState_40 : decode cX9_nextState 40 = .ok (.getfield 7, 3) := by decide +kernel
theorem dX9_nextState_43 : decode cX9_nextState 43 = .ok (.bipush 7, 2) := by decide +kernel
theorem dX9_nextState_45 : decode cX9_nextState 45 = .ok (.iaload, 1) := by decide +kernel
theorem dX9_nextState_46 : decode cX9_nextState 46 = .ok (.iconst 1, 1) := by decide +kernel
theorem dX9_nextState_47 : decode cX9_nextState 47 = .ok (.if_icmp .eq 14, 3) := by decide +kernel
theorem dX9_nextState_50 : decode cX9_nextState 50 = .ok (.aload_n 0, 1) := by decide +kernel
theorem dX9_nextState_51 : decode cX9_nextState 51 = .ok (.getfield 7, 3) := by decide +kernel
theorem dX9_nextState_54 : decode cX9_nextState 54 = .ok (.bipush 7, 2) := by decide +kernel
theorem dX9_nextState_56 : decode cX9_nextState 56 = .ok (.iaload, 1) := by decide +kernel
theorem dX9_nextState_57 : decode cX9_nextState 57 = .ok (.iconst 2, 1) := by decide +kernel
theorem dX9_nextState_58 : decode cX9_nextState 58 = .ok (.if_icmp .ne 7, 3) := by decide +kernel
theorem dX9_nextState_61 : decode cX9_nextState 61 = .ok (.iconst 1, 1) := by decide +kernel
theorem dX9_nextState_62 : decode cX9_nextState 62 = .ok (.goto 4, 3) := by decide +kernel
theorem dX9_nextState_65 : decode cX9_nextState 65 = .ok (.iconst 0, 1) := by decide +kernel
theorem dX9_nextState_66 : decode cX9_nextState 66 = .ok (.istore_n 2, 1) := by decide +kernel
theorem dX9_nextState_67 : decode cX9_nextState 67 = .ok (.iload_n 1, 1) := by decide +kernel
theorem dX9_nextState_68 : decode cX9_nextState 68 = .ok (.sipush 900, 3) := by decide +kernel
theorem dX9_nextState_71 : decode cX9_nextState 71 = .ok (.if_icmp .ge 14, 3) := by decide +kernel
theorem dX9_nextState_74 : decode cX9_nextState 74 = .ok (.iload_n 2, 1) := by decide +kernel
theorem dX9_nextState_75 : decode cX9_nextState 75 = .ok (.ifCond .eq 14, 3) := by decide +kernel
theorem dX9_nextState_78 : decode cX9_nextState 78 = .ok (.iload_n 1, 1) := by decide +kernel
theorem dX9_nextState_79 : decode cX9_nextState 79 = .ok (.sipush 850, 3) := by decide +kernel
theorem dX9_nextState_82 : decode cX9_nextState 82 = .ok (.if_icmp .lt 7, 3) := by decide +kernel
theorem dX9_nextState_85 : decode cX9_nextState 85 = .ok (.iconst 1, 1) := by decide +kernel
theorem dX9_nextState_86 : decode cX9_nextState 86 = .ok (.goto 4, 3) := by decide +kernel
theorem dX9_nextState_89 : decode cX9_nextState 89 = .ok (.iconst 0, 1) := by decide +kernel
theorem dX9_nextState_90 : decode cX9_nextState 90 = .ok (.ireturn, 1) := by decide +kernel
theorem dX9_follow_0 : decode cX9_follow 0 = .ok (.iload_n 1, 1) := by decide +kernel
theorem dX9_follow_1 : decode cX9_follow 1 = .ok (.iconst 4, 1) := by decide +kernel
theorem dX9_follow_2 : decode cX9_follow 2 = .ok (.if_icmp .ge 39, 3) := by decide +kernel
theorem dX9_follow_5 : decode cX9_follow 5 = .ok (.aload_n 0, 1) := by decide +kernel
theorem dX9_follow_6 : decode cX9_follow 6 = .ok (.getfield 7, 3) := by decide +kernel
theorem dX9_follow_9 : decode cX9_follow 9 = .ok (.iconst 4, 1) := by decide +kernel
theorem dX9_follow_10 : decode cX9_follow 10 = .ok (.iaload, 1) := by decide +kernel
theorem dX9_follow_11 : decode cX9_follow 11 = .ok (.iconst 4, 1) := by decide +kernel
theorem dX9_follow_12 : decode cX9_follow 12 = .ok (.if_icmp .ne 29, 3) := by decide +kernel
theorem dX9_follow_15 : decode cX9_follow 15 = .ok (.aload_n 0, 1) := by decide +kernel
theorem dX9_follow_16 : decode cX9_follow 16 = .ok (.getfield 7, 3) := by decide +kernel
theorem dX9_follow_19 : decode cX9_follow 19 = .ok (.bipush 12, 2) := by decide +kernel
theorem dX9_follow_21 : decode cX9_follow 21 = .ok (.iaload, 1) := by decide +kernel
theorem dX9_follow_22 : decode cX9_follow 22 = .ok (.ifCond .ne 19, 3) := by decide +kernel
theorem dX9_follow_25 : decode cX9_follow 25 = .ok (.aload_n 0, 1) := by decide +kernel
theorem dX9_follow_26 : decode cX9_follow 26 = .ok (.getfield 7, 3) := by decide +kernel
theorem dX9_follow_29 : decode cX9_follow 29 = .ok (.bipush 12, 2) := by decide +kernel
theorem dX9_follow_31 : decode cX9_follow 31 = .ok (.iconst 1, 1) := by decide +kernel
theorem dX9_follow_32 : decode cX9_follow 32 = .ok (.iastore, 1) := by decide +kernel
theorem dX9_follow_33 : decode cX9_follow 33 = .ok (.aload_n 0, 1) := by decide +kernel
theorem dX9_follow_34 : decode cX9_follow 34 = .ok (.getfield 7, 3) := by decide +kernel
theorem dX9_follow_37 : decode cX9_follow 37 = .ok (.bipush 13, 2) := by decide +kernel
theorem dX9_follow_39 : decode cX9_follow 39 = .ok (.iconst 0, 1) := by decide +kernel
theorem dX9_follow_40 : decode cX9_follow 40 = .ok (.iastore, 1) := by decide +kernel
theorem dX9_follow_41 : decode cX9_follow 41 = .ok (.aload_n 0, 1) := by decide +kernel
theorem dX9_follow_42 : decode cX9_follow 42 = .ok (.getfield 7, 3) := by decide +kernel
theorem dX9_follow_45 : decode cX9_follow 45 = .ok (.bipush 12, 2) := by decide +kernel
theorem dX9_follow_47 : decode cX9_follow 47 = .ok (.iaload, 1) := by decide +kernel
theorem dX9_follow_48 : decode cX9_follow 48 = .ok (.iconst 1, 1) := by decide +kernel
theorem dX9_follow_49 : decode cX9_follow 49 = .ok (.if_icmp .ne 82, 3) := by decide +kernel
theorem dX9_follow_52 : decode cX9_follow 52 = .ok (.aload_n 0, 1) := by decide +kernel
theorem dX9_follow_53 : decode cX9_follow 53 = .ok (.getfield 7, 3) := by decide +kernel
theorem dX9_follow_56 : decode cX9_follow 56 = .ok (.bipush 13, 2) := by decide +kernel
theorem dX9_follow_58 : decode cX9_follow 58 = .ok (.aload_n 0, 1) := by decide +kernel
theorem dX9_follow_59 : decode cX9_follow 59 = .ok (.getfield 7, 3) := by decide +kernel
theorem dX9_follow_62 : decode cX9_follow 62 = .ok (.bipush 13, 2) := by decide +kernel
theorem dX9_follow_64 : decode cX9_follow 64 = .ok (.iaload, 1) := by decide +kernel
theorem dX9_follow_65 : decode cX9_follow 65 = .ok (.iload_n 2, 1) := by decide +kernel
theorem dX9_follow_66 : decode cX9_follow 66 = .ok (.invokestatic 45, 3) := by decide +kernel
theorem dX9_follow_69 : decode cX9_follow 69 = .ok (.iastore, 1) := by decide +kernel
theorem dX9_follow_70 : decode cX9_follow 70 = .ok (.aload_n 0, 1) := by decide +kernel
theorem dX9_follow_71 : decode cX9_follow 71 = .ok (.getfield 7, 3) := by decide +kernel
theorem dX9_follow_74 : decode cX9_follow 74 = .ok (.iconst 4, 1) := by decide +kernel
theorem dX9_follow_75 : decode cX9_follow 75 = .ok (.iaload, 1) := by decide +kernel
theorem dX9_follow_76 : decode cX9_follow 76 = .ok (.ifCond .ne 55, 3) := by decide +kernel
theorem dX9_follow_79 : decode cX9_follow 79 = .ok (.bipush 7, 2) := by decide +kernel
theorem dX9_follow_81 : decode cX9_follow 81 = .ok (.aload_n 0, 1) := by decide +kernel
theorem dX9_follow_82 : decode cX9_follow 82 = .ok (.getfield 7, 3) := by decide +kernel
theorem dX9_follow_85 : decode cX9_follow 85 = .ok (.bipush 13, 2) := by decide +kernel
theorem dX9_follow_87 : decode cX9_follow 87 = .ok (.iaload, 1) := by decide +kernel
theorem dX9_follow_88 : decode cX9_follow 88 = .ok (.bipush 125, 2) := by decide +kernel
theorem dX9_follow_90 : decode cX9_follow 90 = .ok (.idiv, 1) := by decide +kernel
theorem dX9_follow_91 : decode cX9_follow 91 = .ok (.invokestatic 94, 3) := by decide +kernel
theorem dX9_follow_94 : decode cX9_follow 94 = .ok (.istore_n 3, 1) := by decide +kernel
theorem dX9_follow_95 : decode cX9_follow 95 = .ok (.aload_n 0, 1) := by decide +kernel
theorem dX9_follow_96 : decode cX9_follow 96 = .ok (.getfield 7, 3) := by decide +kernel
theorem dX9_follow_99 : decode cX9_follow 99 = .ok (.bipush 12, 2) := by decide +kernel
theorem dX9_follow_101 : decode cX9_follow 101 = .ok (.iconst 0, 1) := by decide +kernel
theorem dX9_follow_102 : decode cX9_follow 102 = .ok (.iastore, 1) := by decide +kernel
theorem dX9_follow_103 : decode cX9_follow 103 = .ok (.aload_n 0, 1) := by decide +kernel
theorem dX9_follow_104 : decode cX9_follow 104 = .ok (.getfield 7, 3) := by decide +kernel
theorem dX9_follow_107 : decode cX9_follow 107 = .ok (.bipush 13, 2) := by decide +kernel
theorem dX9_follow_109 : decode cX9_follow 109 = .ok (.iconst 0, 1) := by decide +kernel
theorem dX9_follow_110 : decode cX9_follow 110 = .ok (.iastore, 1) := by decide +kernel
theorem dX9_follow_111 : decode cX9_follow 111 = .ok (.aload_n 0, 1) := by decide +kernel
theorem dX9_follow_112 : decode cX9_follow 112 = .ok (.getfield 7, 3) := by decide +kernel
theorem dX9_follow_115 : decode cX9_follow 115 = .ok (.sipush 238, 3) := by decide +kernel
theorem dX9_follow_118 : decode cX9_follow 118 = .ok (.iload_n 3, 1) := by decide +kernel
theorem dX9_follow_119 : decode cX9_follow 119 = .ok (.iadd, 1) := by decide +kernel
theorem dX9_follow_120 : decode cX9_follow 120 = .ok (.dup2, 1) := by decide +kernel
theorem dX9_follow_121 : decode cX9_follow 121 = .ok (.iaload, 1) := by decide +kernel
theorem dX9_follow_122 : decode cX9_follow 122 = .ok (.iconst 1, 1) := by decide +kernel
theorem dX9_follow_123 : decode cX9_follow 123 = .ok (.iadd, 1) := by decide +kernel
theorem dX9_follow_124 : decode cX9_follow 124 = .ok (.iastore, 1) := by decide +kernel
theorem dX9_follow_125 : decode cX9_follow 125 = .ok (.aload_n 0, 1) := by decide +kernel
theorem dX9_follow_126 : decode cX9_follow 126 = .ok (.iconst 3, 1) := by decide +kernel
theorem dX9_follow_127 : decode cX9_follow 127 = .ok (.iload_n 3, 1) := by decide +kernel
theorem dX9_follow_128 : decode cX9_follow 128 = .ok (.invokevirtual 185, 3) := by decide +kernel
theorem dX9_follow_131 : decode cX9_follow 131 = .ok (.return_, 1) := by decide +kernel
theorem dX9_tick_0 : decode cX9_tick 0 = .ok (.aload_n 0, 1) := by decide +kernel
theorem dX9_tick_1 : decode cX9_tick 1 = .ok (.getfield 7, 3) := by decide +kernel
theorem dX9_tick_4 : decode cX9_tick 4 = .ok (.iconst 4, 1) := by decide +kernel
theorem dX9_tick_5 : decode cX9_tick 5 = .ok (.iaload, 1) := by decide +kernel
theorem dX9_tick_6 : decode cX9_tick 6 = .ok (.istore_n 2, 1) := by decide +kernel
theorem dX9_tick_7 : decode cX9_tick 7 = .ok (.aload_n 0, 1) := by decide +kernel
theorem dX9_tick_8 : decode cX9_tick 8 = .ok (.getfield 7, 3) := by decide +kernel
theorem dX9_tick_11 : decode cX9_tick 11 = .ok (.bipush 8, 2) := by decide +kernel
theorem dX9_tick_13 : decode cX9_tick 13 = .ok (.dup2, 1) := by decide +kernel
theorem dX9_tick_14 : decode cX9_tick 14 = .ok (.iaload, 1) := by decide +kernel
theorem dX9_tick_15 : decode cX9_tick 15 = .ok (.iconst 1, 1) := by decide +kernel
theorem dX9_tick_16 : decode cX9_tick 16 = .ok (.iadd, 1) := by decide +kernel
theorem dX9_tick_17 : decode cX9_tick 17 = .ok (.iastore, 1) := by decide +kernel
theorem dX9_tick_18 : decode cX9_tick 18 = .ok (.aload_n 0, 1) := by decide +kernel
theorem dX9_tick_19 : decode cX9_tick 19 = .ok (.getfield 7, 3) := by decide +kernel
theorem dX9_tick_22 : decode cX9_tick 22 = .ok (.bipush 9, 2) := by decide +kernel
theorem dX9_tick_24 : decode cX9_tick 24 = .ok (.iconst 0, 1) := by decide +kernel
theorem dX9_tick_25 : decode cX9_tick 25 = .ok (.aload_n 0, 1) := by decide +kernel
theorem dX9_tick_26 : decode cX9_tick 26 = .ok (.getfield 7, 3) := by decide +kernel
theorem dX9_tick_29 : decode cX9_tick 29 = .ok (.bipush 9, 2) := by decide +kernel
theorem dX9_tick_31 : decode cX9_tick 31 = .ok (.iaload, 1) := by decide +kernel
theorem dX9_tick_32 : decode cX9_tick 32 = .ok (.iconst 1, 1) := by decide +kernel
theorem dX9_tick_33 : decode cX9_tick 33 = .ok (.isub, 1) := by decide +kernel
theorem dX9_tick_34 : decode cX9_tick 34 = .ok (.invokestatic 45, 3) := by decide +kernel
theorem dX9_tick_37 : decode cX9_tick 37 = .ok (.iastore, 1) := by decide +kernel
theorem dX9_tick_38 : decode cX9_tick 38 = .ok (.aload_n 0, 1) := by decide +kernel
theorem dX9_tick_39 : decode cX9_tick 39 = .ok (.iload_n 1, 1) := by decide +kernel
theorem dX9_tick_40 : decode cX9_tick 40 = .ok (.invokevirtual 189, 3) := by decide +kernel
theorem dX9_tick_43 : decode cX9_tick 43 = .ok (.istore_n 3, 1) := by decide +kernel
theorem dX9_tick_44 : decode cX9_tick 44 = .ok (.aload_n 0, 1) := by decide +kernel
theorem dX9_tick_45 : decode cX9_tick 45 = .ok (.getfield 7, 3) := by decide +kernel
theorem dX9_tick_48 : decode cX9_tick 48 = .ok (.bipush 11, 2) := by decide +kernel
theorem dX9_tick_50 : decode cX9_tick 50 = .ok (.iload_n 3, 1) := by decide +kernel
theorem dX9_tick_51 : decode cX9_tick 51 = .ok (.iastore, 1) := by decide +kernel
theorem dX9_tick_52 : decode cX9_tick 52 = .ok (.aload_n 0, 1) := by decide +kernel
theorem dX9_tick_53 : decode cX9_tick 53 = .ok (.invokevirtual 169, 3) := by decide +kernel
theorem dX9_tick_56 : decode cX9_tick 56 = .ok (.istore 4, 2) := by decide +kernel
theorem dX9_tick_58 : decode cX9_tick 58 = .ok (.aload_n 0, 1) := by decide +kernel
theorem dX9_tick_59 : decode cX9_tick 59 = .ok (.iload 4, 2) := by decide +kernel
theorem dX9_tick_61 : decode cX9_tick 61 = .ok (.invokevirtual 192, 3) := by decide +kernel
theorem dX9_tick_64 : decode cX9_tick 64 = .ok (.istore 5, 2) := by decide +kernel
theorem dX9_tick_66 : decode cX9_tick 66 = .ok (.iload 5, 2) := by decide +kernel
theorem dX9_tick_68 : decode cX9_tick 68 = .ok (.aload_n 0, 1) := by decide +kernel
theorem dX9_tick_69 : decode cX9_tick 69 = .ok (.getfield 7, 3) := by decide +kernel
theorem dX9_tick_72 : decode cX9_tick 72 = .ok (.bipush 7, 2) := by decide +kernel
theorem dX9_tick_74 : decode cX9_tick 74 = .ok (.iaload, 1) := by decide +kernel
theorem dX9_tick_75 : decode cX9_tick 75 = .ok (.if_icmp .eq 7, 3) := by decide +kernel
theorem dX9_tick_78 : decode cX9_tick 78 = .ok (.iconst 1, 1) := by decide +kernel
theorem dX9_tick_79 : decode cX9_tick 79 = .ok (.goto 4, 3) := by decide +kernel
theorem dX9_tick_82 : decode cX9_tick 82 = .ok (.iconst 0, 1) := by decide +kernel
theorem dX9_tick_83 : decode cX9_tick 83 = .ok (.istore 6, 2) := by decide +kernel
theorem dX9_tick_85 : decode cX9_tick 85 = .ok (.aload_n 0, 1) := by decide +kernel
theorem dX9_tick_86 : decode cX9_tick 86 = .ok (.getfield 7, 3) := by decide +kernel
theorem dX9_tick_89 : decode cX9_tick 89 = .ok (.bipush 7, 2) := by decide +kernel
theorem dX9_tick_91 : decode cX9_tick 91 = .ok (.iload 5, 2) := by decide +kernel
theorem dX9_tick_93 : decode cX9_tick 93 = .ok (.iastore, 1) := by decide +kernel
theorem dX9_tick_94 : decode cX9_tick 94 = .ok (.iload 6, 2) := by decide +kernel
theorem dX9_tick_96 : decode cX9_tick 96 = .ok (.ifCond .eq 10, 3) := by decide +kernel
theorem dX9_tick_99 : decode cX9_tick 99 = .ok (.aload_n 0, 1) := by decide +kernel
theorem dX9_tick_100 : decode cX9_tick 100 = .ok (.iconst 1, 1) := by decide +kernel
theorem dX9_tick_101 : decode cX9_tick 101 = .ok (.iload 5, 2) := by decide +kernel
theorem dX9_tick_103 : decode cX9_tick 103 = .ok (.invokevirtual 185, 3) := by decide +kernel
theorem dX9_tick_106 : decode cX9_tick 106 = .ok (.iload 6, 2) := by decide +kernel
theorem dX9_tick_108 : decode cX9_tick 108 = .ok (.ifCond .eq 16, 3) := by decide +kernel
theorem dX9_tick_111 : decode cX9_tick 111 = .ok (.iload 5, 2) := by decide +kernel
theorem dX9_tick_113 : decode cX9_tick 113 = .ok (.iconst 2, 1) := by decide +kernel
theorem dX9_tick_114 : decode cX9_tick 114 = .ok (.if_icmp .ne 10, 3) := by decide +kernel
theorem dX9_tick_117 : decode cX9_tick 117 = .ok (.aload_n 0, 1) := by decide +kernel
theorem dX9_tick_118 : decode cX9_tick 118 = .ok (.iconst 2, 1) := by decide +kernel
theorem dX9_tick_119 : decode cX9_tick 119 = .ok (.iload 4, 2) := by decide +kernel
theorem dX9_tick_121 : decode cX9_tick 121 = .ok (.invokevirtual 185, 3) := by decide +kernel
theorem dX9_tick_124 : decode cX9_tick 124 = .ok (.aload_n 0, 1) := by decide +kernel
theorem dX9_tick_125 : decode cX9_tick 125 = .ok (.getfield 7, 3) := by decide +kernel
theorem dX9_tick_128 : decode cX9_tick 128 = .ok (.sipush 234, 3) := by decide +kernel
theorem dX9_tick_131 : decode cX9_tick 131 = .ok (.iload 5, 2) := by decide +kernel
theorem dX9_tick_133 : decode cX9_tick 133 = .ok (.iadd, 1) := by decide +kernel
theorem dX9_tick_134 : decode cX9_tick 134 = .ok (.dup2, 1) := by decide +kernel
theorem dX9_tick_135 : decode cX9_tick 135 = .ok (.iaload, 1) := by decide +kernel
theorem dX9_tick_136 : decode cX9_tick 136 = .ok (.iconst 1, 1) := by decide +kernel
theorem dX9_tick_137 : decode cX9_tick 137 = .ok (.iadd, 1) := by decide +kernel
theorem dX9_tick_138 : decode cX9_tick 138 = .ok (.iastore, 1) := by decide +kernel
theorem dX9_tick_139 : decode cX9_tick 139 = .ok (.aload_n 0, 1) := by decide +kernel
theorem dX9_tick_140 : decode cX9_tick 140 = .ok (.iload_n 2, 1) := by decide +kernel
theorem dX9_tick_141 : decode cX9_tick 141 = .ok (.iload 4, 2) := by decide +kernel
theorem dX9_tick_143 : decode cX9_tick 143 = .ok (.invokevirtual 195, 3) := by decide +kernel
theorem dX9_tick_146 : decode cX9_tick 146 = .ok (.iload_n 3, 1) := by decide +kernel
theorem dX9_tick_147 : decode cX9_tick 147 = .ok (.ifCond .ne 7, 3) := by decide +kernel
theorem dX9_tick_150 : decode cX9_tick 150 = .ok (.iconst 1, 1) := by decide +kernel
theorem dX9_tick_151 : decode cX9_tick 151 = .ok (.goto 4, 3) := by decide +kernel
theorem dX9_tick_154 : decode cX9_tick 154 = .ok (.iconst 0, 1) := by decide +kernel
theorem dX9_tick_155 : decode cX9_tick 155 = .ok (.ireturn, 1) := by decide +kernel
theorem dX9_isMotions_0 : decode cX9_isMotions 0 = .ok (.iload_n 0, 1) := by decide +kernel
theorem dX9_isMotions_1 : decode cX9_isMotions 1 = .ok (.iconst 0, 1) := by decide +kernel
theorem dX9_isMotions_2 : decode cX9_isMotions 2 = .ok (.sipush 255, 3) := by decide +kernel
theorem dX9_isMotions_5 : decode cX9_isMotions 5 = .ok (.invokestatic 132, 3) := by decide +kernel
theorem dX9_isMotions_8 : decode cX9_isMotions 8 = .ok (.ifCond .eq 18, 3) := by decide +kernel
theorem dX9_isMotions_11 : decode cX9_isMotions 11 = .ok (.iload_n 0, 1) := by decide +kernel
theorem dX9_isMotions_12 : decode cX9_isMotions 12 = .ok (.iload_n 0, 1) := by decide +kernel
theorem dX9_isMotions_13 : decode cX9_isMotions 13 = .ok (.iconst 1, 1) := by decide +kernel
theorem dX9_isMotions_14 : decode cX9_isMotions 14 = .ok (.ishr, 1) := by decide +kernel
theorem dX9_isMotions_15 : decode cX9_isMotions 15 = .ok (.iand, 1) := by decide +kernel
theorem dX9_isMotions_16 : decode cX9_isMotions 16 = .ok (.bipush 85, 2) := by decide +kernel
theorem dX9_isMotions_18 : decode cX9_isMotions 18 = .ok (.iand, 1) := by decide +kernel
theorem dX9_isMotions_19 : decode cX9_isMotions 19 = .ok (.ifCond .ne 7, 3) := by decide +kernel
theorem dX9_isMotions_22 : decode cX9_isMotions 22 = .ok (.iconst 1, 1) := by decide +kernel
theorem dX9_isMotions_23 : decode cX9_isMotions 23 = .ok (.goto 4, 3) := by decide +kernel
theorem dX9_isMotions_26 : decode cX9_isMotions 26 = .ok (.iconst 0, 1) := by decide +kernel
theorem dX9_isMotions_27 : decode cX9_isMotions 27 = .ok (.ireturn, 1) := by decide +kernel
theorem dX9_run_0 : decode cX9_run 0 = .ok (.aload_n 0, 1) := by decide +kernel
theorem dX9_run_1 : decode cX9_run 1 = .ok (.iconst 0, 1) := by decide +kernel
theorem dX9_run_2 : decode cX9_run 2 = .ok (.putfield 28, 3) := by decide +kernel
theorem dX9_run_5 : decode cX9_run 5 = .ok (.iload_n 1, 1) := by decide +kernel
theorem dX9_run_6 : decode cX9_run 6 = .ok (.invokestatic 198, 3) := by decide +kernel
theorem dX9_run_9 : decode cX9_run 9 = .ok (.ifCond .eq 13, 3) := by decide +kernel
theorem dX9_run_12 : decode cX9_run 12 = .ok (.iload_n 2, 1) := by decide +kernel
theorem dX9_run_13 : decode cX9_run 13 = .ok (.iconst 1, 1) := by decide +kernel
theorem dX9_run_14 : decode cX9_run 14 = .ok (.bipush 100, 2) := by decide +kernel
theorem dX9_run_16 : decode cX9_run 16 = .ok (.invokestatic 132, 3) := by decide +kernel
theorem dX9_run_19 : decode cX9_run 19 = .ok (.ifCond .ne 9, 3) := by decide +kernel
theorem dX9_run_22 : decode cX9_run 22 = .ok (.aload_n 0, 1) := by decide +kernel
theorem dX9_run_23 : decode cX9_run 23 = .ok (.iconst 1, 1) := by decide +kernel
theorem dX9_run_24 : decode cX9_run 24 = .ok (.invokevirtual 136, 3) := by decide +kernel
theorem dX9_run_27 : decode cX9_run 27 = .ok (.ireturn, 1) := by decide +kernel
theorem dX9_run_28 : decode cX9_run 28 = .ok (.aload_n 0, 1) := by decide +kernel
theorem dX9_run_29 : decode cX9_run 29 = .ok (.invokevirtual 35, 3) := by decide +kernel
theorem dX9_run_32 : decode cX9_run 32 = .ok (.iconst 0, 1) := by decide +kernel
theorem dX9_run_33 : decode cX9_run 33 = .ok (.istore_n 3, 1) := by decide +kernel
theorem dX9_run_34 : decode cX9_run 34 = .ok (.iconst 0, 1) := by decide +kernel
theorem dX9_run_35 : decode cX9_run 35 = .ok (.istore 4, 2) := by decide +kernel
theorem dX9_run_37 : decode cX9_run 37 = .ok (.iload 4, 2) := by decide +kernel
theorem dX9_run_39 : decode cX9_run 39 = .ok (.iload_n 2, 1) := by decide +kernel
theorem dX9_run_40 : decode cX9_run 40 = .ok (.if_icmp .ge 25, 3) := by decide +kernel
theorem dX9_run_43 : decode cX9_run 43 = .ok (.iload_n 3, 1) := by decide +kernel
theorem dX9_run_44 : decode cX9_run 44 = .ok (.aload_n 0, 1) := by decide +kernel
theorem dX9_run_45 : decode cX9_run 45 = .ok (.iload_n 1, 1) := by decide +kernel
theorem dX9_run_46 : decode cX9_run 46 = .ok (.invokevirtual 201, 3) := by decide +kernel
theorem dX9_run_49 : decode cX9_run 49 = .ok (.ifCond .eq 7, 3) := by decide +kernel
theorem dX9_run_52 : decode cX9_run 52 = .ok (.iconst 1, 1) := by decide +kernel
theorem dX9_run_53 : decode cX9_run 53 = .ok (.goto 4, 3) := by decide +kernel
theorem dX9_run_56 : decode cX9_run 56 = .ok (.iconst 0, 1) := by decide +kernel
theorem dX9_run_57 : decode cX9_run 57 = .ok (.iadd, 1) := by decide +kernel
theorem dX9_run_58 : decode cX9_run 58 = .ok (.istore_n 3, 1) := by decide +kernel
theorem dX9_run_59 : decode cX9_run 59 = .ok (.iinc 4 1, 3) := by decide +kernel
theorem dX9_run_62 : decode cX9_run 62 = .ok (.goto (-25), 3) := by decide +kernel
theorem dX9_run_65 : decode cX9_run 65 = .ok (.iload_n 3, 1) := by decide +kernel
theorem dX9_run_66 : decode cX9_run 66 = .ok (.ireturn, 1) := by decide +kernel
theorem dX9_permittedNow_0 : decode cX9_permittedNow 0 = .ok (.iconst 0, 1) := by decide +kernel
theorem dX9_permittedNow_1 : decode cX9_permittedNow 1 = .ok (.istore_n 1, 1) := by decide +kernel
theorem dX9_permittedNow_2 : decode cX9_permittedNow 2 = .ok (.iconst 0, 1) := by decide +kernel
theorem dX9_permittedNow_3 : decode cX9_permittedNow 3 = .ok (.istore_n 2, 1) := by decide +kernel
theorem dX9_permittedNow_4 : decode cX9_permittedNow 4 = .ok (.iload_n 2, 1) := by decide +kernel
theorem dX9_permittedNow_5 : decode cX9_permittedNow 5 = .ok (.bipush 8, 2) := by decide +kernel
theorem dX9_permittedNow_7 : decode cX9_permittedNow 7 = .ok (.if_icmp .ge 27, 3) := by decide +kernel
theorem dX9_permittedNow_10 : decode cX9_permittedNow 10 = .ok (.iload_n 1, 1) := by decide +kernel
theorem dX9_permittedNow_11 : decode cX9_permittedNow 11 = .ok (.aload_n 0, 1) := by decide +kernel
theorem dX9_permittedNow_12 : decode cX9_permittedNow 12 = .ok (.iload_n 2, 1) := by decide +kernel
theorem dX9_permittedNow_13 : decode cX9_permittedNow 13 = .ok (.invokevirtual 182, 3) := by decide +kernel
theorem dX9_permittedNow_16 : decode cX9_permittedNow 16 = .ok (.ifCond .eq 9, 3) := by decide +kernel
theorem dX9_permittedNow_19 : decode cX9_permittedNow 19 = .ok (.iconst 1, 1) := by decide +kernel
theorem dX9_permittedNow_20 : decode cX9_permittedNow 20 = .ok (.iload_n 2, 1) := by decide +kernel
theorem dX9_permittedNow_21 : decode cX9_permittedNow 21 = .ok (.ishl, 1) := by decide +kernel
theorem dX9_permittedNow_22 : decode cX9_permittedNow 22 = .ok (.goto 4, 3) := by decide +kernel
theorem dX9_permittedNow_25 : decode cX9_permittedNow 25 = .ok (.iconst 0, 1) := by decide +kernel
theorem dX9_permittedNow_26 : decode cX9_permittedNow 26 = .ok (.ior, 1) := by decide +kernel
theorem dX9_permittedNow_27 : decode cX9_permittedNow 27 = .ok (.istore_n 1, 1) := by decide +kernel
theorem dX9_permittedNow_28 : decode cX9_permittedNow 28 = .ok (.iinc 2 1, 3) := by decide +kernel
theorem dX9_permittedNow_31 : decode cX9_permittedNow 31 = .ok (.goto (-27), 3) := by decide +kernel
theorem dX9_permittedNow_34 : decode cX9_permittedNow 34 = .ok (.iload_n 1, 1) := by decide +kernel
theorem dX9_permittedNow_35 : decode cX9_permittedNow 35 = .ok (.ireturn, 1) := by decide +kernel
theorem dX9_permitted_0 : decode cX9_permitted 0 = .ok (.aload_n 0, 1) := by decide +kernel
theorem dX9_permitted_1 : decode cX9_permitted 1 = .ok (.iconst 0, 1) := by decide +kernel
theorem dX9_permitted_2 : decode cX9_permitted 2 = .ok (.putfield 28, 3) := by decide +kernel
theorem dX9_permitted_5 : decode cX9_permitted 5 = .ok (.aload_n 0, 1) := by decide +kernel
theorem dX9_permitted_6 : decode cX9_permitted 6 = .ok (.invokevirtual 204, 3) := by decide +kernel
theorem dX9_permitted_9 : decode cX9_permitted 9 = .ok (.ireturn, 1) := by decide +kernel
theorem dX9_predicted_0 : decode cX9_predicted 0 = .ok (.aload_n 0, 1) := by decide +kernel
theorem dX9_predicted_1 : decode cX9_predicted 1 = .ok (.iconst 0, 1) := by decide +kernel
theorem dX9_predicted_2 : decode cX9_predicted 2 = .ok (.putfield 28, 3) := by decide +kernel
theorem dX9_predicted_5 : decode cX9_predicted 5 = .ok (.iload_n 1, 1) := by decide +kernel
theorem dX9_predicted_6 : decode cX9_predicted 6 = .ok (.iconst 0, 1) := by decide +kernel
theorem dX9_predicted_7 : decode cX9_predicted 7 = .ok (.bipush 7, 2) := by decide +kernel
theorem dX9_predicted_9 : decode cX9_predicted 9 = .ok (.invokestatic 132, 3) := by decide +kernel
theorem dX9_predicted_12 : decode cX9_predicted 12 = .ok (.ifCond .ne 9, 3) := by decide +kernel
theorem dX9_predicted_15 : decode cX9_predicted 15 = .ok (.aload_n 0, 1) := by decide +kernel
theorem dX9_predicted_16 : decode cX9_predicted 16 = .ok (.iconst 1, 1) := by decide +kernel
theorem dX9_predicted_17 : decode cX9_predicted 17 = .ok (.invokevirtual 136, 3) := by decide +kernel
theorem dX9_predicted_20 : decode cX9_predicted 20 = .ok (.ireturn, 1) := by decide +kernel
theorem dX9_predicted_21 : decode cX9_predicted 21 = .ok (.aload_n 0, 1) := by decide +kernel
theorem dX9_predicted_22 : decode cX9_predicted 22 = .ok (.invokevirtual 159, 3) := by decide +kernel
theorem dX9_predicted_25 : decode cX9_predicted 25 = .ok (.aload_n 0, 1) := by decide +kernel
theorem dX9_predicted_26 : decode cX9_predicted 26 = .ok (.iload_n 1, 1) := by decide +kernel
theorem dX9_predicted_27 : decode cX9_predicted 27 = .ok (.invokevirtual 162, 3) := by decide +kernel
theorem dX9_predicted_30 : decode cX9_predicted 30 = .ok (.aload_n 0, 1) := by decide +kernel
theorem dX9_predicted_31 : decode cX9_predicted 31 = .ok (.invokevirtual 169, 3) := by decide +kernel
theorem dX9_predicted_34 : decode cX9_predicted 34 = .ok (.istore_n 2, 1) := by decide +kernel
theorem dX9_predicted_35 : decode cX9_predicted 35 = .ok (.aload_n 0, 1) := by decide +kernel
theorem dX9_predicted_36 : decode cX9_predicted 36 = .ok (.invokevirtual 166, 3) := by decide +kernel
theorem dX9_predicted_39 : decode cX9_predicted 39 = .ok (.iload_n 2, 1) := by decide +kernel
theorem dX9_predicted_40 : decode cX9_predicted 40 = .ok (.ireturn, 1) := by decide +kernel
theorem dX9_boomValue_0 : decode cX9_boomValue 0 = .ok (.iload_n 1, 1) := by decide +kernel
theorem dX9_boomValue_1 : decode cX9_boomValue 1 = .ok (.tableswitch 130 0 10 #[59, 66, 73, 80, 85, 90, 97, 104, 112, 117, 122], 59) := by decide +kernel
theorem dX9_boomValue_60 : decode cX9_boomValue 60 = .ok (.aload_n 0, 1) := by decide +kernel
theorem dX9_boomValue_61 : decode cX9_boomValue 61 = .ok (.getfield 7, 3) := by decide +kernel
theorem dX9_boomValue_64 : decode cX9_boomValue 64 = .ok (.iconst 0, 1) := by decide +kernel
theorem dX9_boomValue_65 : decode cX9_boomValue 65 = .ok (.iaload, 1) := by decide +kernel
theorem dX9_boomValue_66 : decode cX9_boomValue 66 = .ok (.ireturn, 1) := by decide +kernel
theorem dX9_boomValue_67 : decode cX9_boomValue 67 = .ok (.aload_n 0, 1) := by decide +kernel
theorem dX9_boomValue_68 : decode cX9_boomValue 68 = .ok (.getfield 7, 3) := by decide +kernel
theorem dX9_boomValue_71 : decode cX9_boomValue 71 = .ok (.iconst 1, 1) := by decide +kernel
theorem dX9_boomValue_72 : decode cX9_boomValue 72 = .ok (.iaload, 1) := by decide +kernel
theorem dX9_boomValue_73 : decode cX9_boomValue 73 = .ok (.ireturn, 1) := by decide +kernel
theorem dX9_boomValue_74 : decode cX9_boomValue 74 = .ok (.aload_n 0, 1) := by decide +kernel
theorem dX9_boomValue_75 : decode cX9_boomValue 75 = .ok (.getfield 7, 3) := by decide +kernel
theorem dX9_boomValue_78 : decode cX9_boomValue 78 = .ok (.iconst 2, 1) := by decide +kernel
theorem dX9_boomValue_79 : decode cX9_boomValue 79 = .ok (.iaload, 1) := by decide +kernel
theorem dX9_boomValue_80 : decode cX9_boomValue 80 = .ok (.ireturn, 1) := by decide +kernel
theorem dX9_boomValue_81 : decode cX9_boomValue 81 = .ok (.aload_n 0, 1) := by decide +kernel
theorem dX9_boomValue_82 : decode cX9_boomValue 82 = .ok (.invokevirtual 55, 3) := by decide +kernel
theorem dX9_boomValue_85 : decode cX9_boomValue 85 = .ok (.ireturn, 1) := by decide +kernel
theorem dX9_boomValue_86 : decode cX9_boomValue 86 = .ok (.aload_n 0, 1) := by decide +kernel
theorem dX9_boomValue_87 : decode cX9_boomValue 87 = .ok (.invokevirtual 129, 3) := by decide +kernel
theorem dX9_boomValue_90 : decode cX9_boomValue 90 = .ok (.ireturn, 1) := by decide +kernel
theorem dX9_boomValue_91 : decode cX9_boomValue 91 = .ok (.aload_n 0, 1) := by decide +kernel
theorem dX9_boomValue_92 : decode cX9_boomValue 92 = .ok (.getfield 7, 3) := by decide +kernel
theorem dX9_boomValue_95 : decode cX9_boomValue 95 = .ok (.iconst 3, 1) := by decide +kernel
theorem dX9_boomValue_96 : decode cX9_boomValue 96 = .ok (.iaload, 1) := by decide +kernel
theorem dX9_boomValue_97 : decode cX9_boomValue 97 = .ok (.ireturn, 1) := by decide +kernel
theorem dX9_boomValue_98 : decode cX9_boomValue 98 = .ok (.aload_n 0, 1) := by decide +kernel
theorem dX9_boomValue_99 : decode cX9_boomValue 99 = .ok (.getfield 7, 3) := by decide +kernel
theorem dX9_boomValue_102 : decode cX9_boomValue 102 = .ok (.iconst 4, 1) := by decide +kernel
theorem dX9_boomValue_103 : decode cX9_boomValue 103 = .ok (.iaload, 1) := by decide +kernel
theorem dX9_boomValue_104 : decode cX9_boomValue 104 = .ok (.ireturn, 1) := by decide +kernel
theorem dX9_boomValue_105 : decode cX9_boomValue 105 = .ok (.aload_n 0, 1) := by decide +kernel
theorem dX9_boomValue_106 : decode cX9_boomValue 106 = .ok (.getfield 7, 3) := by decide +kernel
theorem dX9_boomValue_109 : decode cX9_boomValue 109 = .ok (.bipush 6, 2) := by decide +kernel
theorem dX9_boomValue_111 : decode cX9_boomValue 111 = .ok (.iaload, 1) := by decide +kernel
theorem dX9_boomValue_112 : decode cX9_boomValue 112 = .ok (.ireturn, 1) := by decide +kernel
theorem dX9_boomValue_113 : decode cX9_boomValue 113 = .ok (.aload_n 0, 1) := by decide +kernel
theorem dX9_boomValue_114 : decode cX9_boomValue 114 = .ok (.invokevirtual 71, 3) := by decide +kernel
theorem dX9_boomValue_117 : decode cX9_boomValue 117 = .ok (.ireturn, 1) := by decide +kernel
theorem dX9_boomValue_118 : decode cX9_boomValue 118 = .ok (.aload_n 0, 1) := by decide +kernel
theorem dX9_boomValue_119 : decode cX9_boomValue 119 = .ok (.invokevirtual 153, 3) := by decide +kernel
theorem dX9_boomValue_122 : decode cX9_boomValue 122 = .ok (.ireturn, 1) := by decide +kernel
theorem dX9_boomValue_123 : decode cX9_boomValue 123 = .ok (.aload_n 0, 1) := by decide +kernel
theorem dX9_boomValue_124 : decode cX9_boomValue 124 = .ok (.getfield 7, 3) := by decide +kernel
theorem dX9_boomValue_127 : decode cX9_boomValue 127 = .ok (.bipush 8, 2) := by decide +kernel
theorem dX9_boomValue_129 : decode cX9_boomValue 129 = .ok (.iaload, 1) := by decide +kernel
theorem dX9_boomValue_130 : decode cX9_boomValue 130 = .ok (.ireturn, 1) := by decide +kernel
theorem dX9_boomValue_131 : decode cX9_boomValue 131 = .ok (.aload_n 0, 1) := by decide +kernel
theorem dX9_boomValue_132 : decode cX9_boomValue 132 = .ok (.getfield 7, 3) := by decide +kernel
theorem dX9_boomValue_135 : decode cX9_boomValue 135 = .ok (.bipush 9, 2) := by decide +kernel
theorem dX9_boomValue_137 : decode cX9_boomValue 137 = .ok (.iaload, 1) := by decide +kernel
theorem dX9_boomValue_138 : decode cX9_boomValue 138 = .ok (.ireturn, 1) := by decide +kernel
theorem dX9_boom_0 : decode cX9_boom 0 = .ok (.aload_n 0, 1) := by decide +kernel
theorem dX9_boom_1 : decode cX9_boom 1 = .ok (.iconst 0, 1) := by decide +kernel
theorem dX9_boom_2 : decode cX9_boom 2 = .ok (.putfield 28, 3) := by decide +kernel
theorem dX9_boom_5 : decode cX9_boom 5 = .ok (.iload_n 1, 1) := by decide +kernel
theorem dX9_boom_6 : decode cX9_boom 6 = .ok (.iconst 0, 1) := by decide +kernel
theorem dX9_boom_7 : decode cX9_boom 7 = .ok (.bipush 11, 2) := by decide +kernel
theorem dX9_boom_9 : decode cX9_boom 9 = .ok (.invokestatic 132, 3) := by decide +kernel
theorem dX9_boom_12 : decode cX9_boom 12 = .ok (.ifCond .eq 11, 3) := by decide +kernel
theorem dX9_boom_15 : decode cX9_boom 15 = .ok (.aload_n 0, 1) := by decide +kernel
theorem dX9_boom_16 : decode cX9_boom 16 = .ok (.iload_n 1, 1) := by decide +kernel
theorem dX9_boom_17 : decode cX9_boom 17 = .ok (.invokevirtual 207, 3) := by decide +kernel
theorem dX9_boom_20 : decode cX9_boom 20 = .ok (.goto 8, 3) := by decide +kernel
theorem dX9_boom_23 : decode cX9_boom 23 = .ok (.aload_n 0, 1) := by decide +kernel
theorem dX9_boom_24 : decode cX9_boom 24 = .ok (.iconst 1, 1) := by decide +kernel
theorem dX9_boom_25 : decode cX9_boom 25 = .ok (.invokevirtual 136, 3) := by decide +kernel
theorem dX9_boom_28 : decode cX9_boom 28 = .ok (.ireturn, 1) := by decide +kernel
theorem dX9_limiterValue_0 : decode cX9_limiterValue 0 = .ok (.aload_n 0, 1) := by decide +kernel
theorem dX9_limiterValue_1 : decode cX9_limiterValue 1 = .ok (.invokevirtual 123, 3) := by decide +kernel
theorem dX9_limiterValue_4 : decode cX9_limiterValue 4 = .ok (.iload_n 1, 1) := by decide +kernel
theorem dX9_limiterValue_5 : decode cX9_limiterValue 5 = .ok (.tableswitch 106 0 6 #[43, 48, 53, 58, 69, 74, 95], 43) := by decide +kernel
theorem dX9_limiterValue_48 : decode cX9_limiterValue 48 = .ok (.aload_n 0, 1) := by decide +kernel
theorem dX9_limiterValue_49 : decode cX9_limiterValue 49 = .ok (.getfield 78, 3) := by decide +kernel
theorem dX9_limiterValue_52 : decode cX9_limiterValue 52 = .ok (.ireturn, 1) := by decide +kernel
theorem dX9_limiterValue_53 : decode cX9_limiterValue 53 = .ok (.aload_n 0, 1) := by decide +kernel
theorem dX9_limiterValue_54 : decode cX9_limiterValue 54 = .ok (.getfield 81, 3) := by decide +kernel
theorem dX9_limiterValue_57 : decode cX9_limiterValue 57 = .ok (.ireturn, 1) := by decide +kernel
theorem dX9_limiterValue_58 : decode cX9_limiterValue 58 = .ok (.aload_n 0, 1) := by decide +kernel
theorem dX9_limiterValue_59 : decode cX9_limiterValue 59 = .ok (.invokevirtual 114, 3) := by decide +kernel
theorem dX9_limiterValue_62 : decode cX9_limiterValue 62 = .ok (.ireturn, 1) := by decide +kernel
theorem dX9_limiterValue_63 : decode cX9_limiterValue 63 = .ok (.aload_n 0, 1) := by decide +kernel
theorem dX9_limiterValue_64 : decode cX9_limiterValue 64 = .ok (.aload_n 0, 1) := by decide +kernel
theorem dX9_limiterValue_65 : decode cX9_limiterValue 65 = .ok (.getfield 7, 3) := by decide +kernel
theorem dX9_limiterValue_68 : decode cX9_limiterValue 68 = .ok (.iconst 2, 1) := by decide +kernel
theorem dX9_limiterValue_69 : decode cX9_limiterValue 69 = .ok (.iaload, 1) := by decide +kernel
theorem dX9_limiterValue_70 : decode cX9_limiterValue 70 = .ok (.invokevirtual 103, 3) := by decide +kernel
theorem dX9_limiterValue_73 : decode cX9_limiterValue 73 = .ok (.ireturn, 1) := by decide +kernel
theorem dX9_limiterValue_74 : decode cX9_limiterValue 74 = .ok (.aload_n 0, 1) := by decide +kernel
theorem dX9_limiterValue_75 : decode cX9_limiterValue 75 = .ok (.invokevirtual 100, 3) := by decide +kernel
theorem dX9_limiterValue_78 : decode cX9_limiterValue 78 = .ok (.ireturn, 1) := by decide +kernel
theorem dX9_limiterValue_79 : decode cX9_limiterValue 79 = .ok (.aload_n 0, 1) := by decide +kernel
theorem dX9_limiterValue_80 : decode cX9_limiterValue 80 = .ok (.aload_n 0, 1) := by decide +kernel
theorem dX9_limiterValue_81 : decode cX9_limiterValue 81 = .ok (.getfield 7, 3) := by decide +kernel
theorem dX9_limiterValue_84 : decode cX9_limiterValue 84 = .ok (.iconst 0, 1) := by decide +kernel
theorem dX9_limiterValue_85 : decode cX9_limiterValue 85 = .ok (.iaload, 1) := by decide +kernel
theorem dX9_limiterValue_86 : decode cX9_limiterValue 86 = .ok (.aload_n 0, 1) := by decide +kernel
theorem dX9_limiterValue_87 : decode cX9_limiterValue 87 = .ok (.getfield 81, 3) := by decide +kernel
theorem dX9_limiterValue_90 : decode cX9_limiterValue 90 = .ok (.aload_n 0, 1) := by decide +kernel
theorem dX9_limiterValue_91 : decode cX9_limiterValue 91 = .ok (.getfield 7, 3) := by decide +kernel
theorem dX9_limiterValue_94 : decode cX9_limiterValue 94 = .ok (.iconst 2, 1) := by decide +kernel
theorem dX9_limiterValue_95 : decode cX9_limiterValue 95 = .ok (.iaload, 1) := by decide +kernel
theorem dX9_limiterValue_96 : decode cX9_limiterValue 96 = .ok (.invokevirtual 117, 3) := by decide +kernel
theorem dX9_limiterValue_99 : decode cX9_limiterValue 99 = .ok (.ireturn, 1) := by decide +kernel
theorem dX9_limiterValue_100 : decode cX9_limiterValue 100 = .ok (.aload_n 0, 1) := by decide +kernel
theorem dX9_limiterValue_101 : decode cX9_limiterValue 101 = .ok (.aload_n 0, 1) := by decide +kernel
theorem dX9_limiterValue_102 : decode cX9_limiterValue 102 = .ok (.getfield 7, 3) := by decide +kernel
theorem dX9_limiterValue_105 : decode cX9_limiterValue 105 = .ok (.iconst 2, 1) := by decide +kernel
theorem dX9_limiterValue_106 : decode cX9_limiterValue 106 = .ok (.iaload, 1) := by decide +kernel
theorem dX9_limiterValue_107 : decode cX9_limiterValue 107 = .ok (.invokevirtual 126, 3) := by decide +kernel
theorem dX9_limiterValue_110 : decode cX9_limiterValue 110 = .ok (.ireturn, 1) := by decide +kernel
theorem dX9_limiterValue_111 : decode cX9_limiterValue 111 = .ok (.aload_n 0, 1) := by decide +kernel
theorem dX9_limiterValue_112 : decode cX9_limiterValue 112 = .ok (.getfield 7, 3) := by decide +kernel
theorem dX9_limiterValue_115 : decode cX9_limiterValue 115 = .ok (.bipush 7, 2) := by decide +kernel
theorem dX9_limiterValue_117 : decode cX9_limiterValue 117 = .ok (.iaload, 1) := by decide +kernel
theorem dX9_limiterValue_118 : decode cX9_limiterValue 118 = .ok (.ireturn, 1) := by decide +kernel
theorem dX9_limiter_0 : decode cX9_limiter 0 = .ok (.aload_n 0, 1) := by decide +kernel
theorem dX9_limiter_1 : decode cX9_limiter 1 = .ok (.iconst 0, 1) := by decide +kernel
theorem dX9_limiter_2 : decode cX9_limiter 2 = .ok (.putfield 28, 3) := by decide +kernel
theorem dX9_limiter_5 : decode cX9_limiter 5 = .ok (.iload_n 1, 1) := by decide +kernel
theorem dX9_limiter_6 : decode cX9_limiter 6 = .ok (.iconst 0, 1) := by decide +kernel
theorem dX9_limiter_7 : decode cX9_limiter 7 = .ok (.bipush 7, 2) := by decide +kernel
theorem dX9_limiter_9 : decode cX9_limiter 9 = .ok (.invokestatic 132, 3) := by decide +kernel
theorem dX9_limiter_12 : decode cX9_limiter 12 = .ok (.ifCond .eq 11, 3) := by decide +kernel
theorem dX9_limiter_15 : decode cX9_limiter 15 = .ok (.aload_n 0, 1) := by decide +kernel
theorem dX9_limiter_16 : decode cX9_limiter 16 = .ok (.iload_n 1, 1) := by decide +kernel
theorem dX9_limiter_17 : decode cX9_limiter 17 = .ok (.invokevirtual 210, 3) := by decide +kernel
theorem dX9_limiter_20 : decode cX9_limiter 20 = .ok (.goto 8, 3) := by decide +kernel
theorem dX9_limiter_23 : decode cX9_limiter 23 = .ok (.aload_n 0, 1) := by decide +kernel
theorem dX9_limiter_24 : decode cX9_limiter 24 = .ok (.iconst 1, 1) := by decide +kernel
theorem dX9_limiter_25 : decode cX9_limiter 25 = .ok (.invokevirtual 136, 3) := by decide +kernel
theorem dX9_limiter_28 : decode cX9_limiter 28 = .ok (.ireturn, 1) := by decide +kernel
theorem dX9_rated_0 : decode cX9_rated 0 = .ok (.aload_n 0, 1) := by decide +kernel
theorem dX9_rated_1 : decode cX9_rated 1 = .ok (.iconst 0, 1) := by decide +kernel
theorem dX9_rated_2 : decode cX9_rated 2 = .ok (.putfield 28, 3) := by decide +kernel
theorem dX9_rated_5 : decode cX9_rated 5 = .ok (.iload_n 1, 1) := by decide +kernel
theorem dX9_rated_6 : decode cX9_rated 6 = .ok (.iload_n 2, 1) := by decide +kernel
theorem dX9_rated_7 : decode cX9_rated 7 = .ok (.iload_n 3, 1) := by decide +kernel
theorem dX9_rated_8 : decode cX9_rated 8 = .ok (.invokestatic 150, 3) := by decide +kernel
theorem dX9_rated_11 : decode cX9_rated 11 = .ok (.ifCond .eq 17, 3) := by decide +kernel
theorem dX9_rated_14 : decode cX9_rated 14 = .ok (.aload_n 0, 1) := by decide +kernel
theorem dX9_rated_15 : decode cX9_rated 15 = .ok (.iload_n 1, 1) := by decide +kernel
theorem dX9_rated_16 : decode cX9_rated 16 = .ok (.iload_n 1, 1) := by decide +kernel
theorem dX9_rated_17 : decode cX9_rated 17 = .ok (.iload_n 2, 1) := by decide +kernel
theorem dX9_rated_18 : decode cX9_rated 18 = .ok (.invokestatic 49, 3) := by decide +kernel
theorem dX9_rated_21 : decode cX9_rated 21 = .ok (.iload_n 3, 1) := by decide +kernel
theorem dX9_rated_22 : decode cX9_rated 22 = .ok (.invokevirtual 117, 3) := by decide +kernel
theorem dX9_rated_25 : decode cX9_rated 25 = .ok (.goto 8, 3) := by decide +kernel
theorem dX9_rated_28 : decode cX9_rated 28 = .ok (.aload_n 0, 1) := by decide +kernel
theorem dX9_rated_29 : decode cX9_rated 29 = .ok (.iconst 1, 1) := by decide +kernel
theorem dX9_rated_30 : decode cX9_rated 30 = .ok (.invokevirtual 136, 3) := by decide +kernel
theorem dX9_rated_33 : decode cX9_rated 33 = .ok (.ireturn, 1) := by decide +kernel
theorem dX9_maxRadius_0 : decode cX9_maxRadius 0 = .ok (.aload_n 0, 1) := by decide +kernel
theorem dX9_maxRadius_1 : decode cX9_maxRadius 1 = .ok (.iconst 0, 1) := by decide +kernel
theorem dX9_maxRadius_2 : decode cX9_maxRadius 2 = .ok (.putfield 28, 3) := by decide +kernel
theorem dX9_maxRadius_5 : decode cX9_maxRadius 5 = .ok (.iload_n 1, 1) := by decide +kernel
theorem dX9_maxRadius_6 : decode cX9_maxRadius 6 = .ok (.iconst 1, 1) := by decide +kernel
theorem dX9_maxRadius_7 : decode cX9_maxRadius 7 = .ok (.ldc 145, 2) := by decide +kernel
theorem dX9_maxRadius_9 : decode cX9_maxRadius 9 = .ok (.invokestatic 132, 3) := by decide +kernel
theorem dX9_maxRadius_12 : decode cX9_maxRadius 12 = .ok (.ifCond .ne 9, 3) := by decide +kernel
theorem dX9_maxRadius_15 : decode cX9_maxRadius 15 = .ok (.aload_n 0, 1) := by decide +kernel
theorem dX9_maxRadius_16 : decode cX9_maxRadius 16 = .ok (.iconst 1, 1) := by decide +kernel
theorem dX9_maxRadius_17 : decode cX9_maxRadius 17 = .ok (.invokevirtual 136, 3) := by decide +kernel
theorem dX9_maxRadius_20 : decode cX9_maxRadius 20 = .ok (.ireturn, 1) := by decide +kernel
theorem dX9_maxRadius_21 : decode cX9_maxRadius 21 = .ok (.sipush 3000, 3) := by decide +kernel
theorem dX9_maxRadius_24 : decode cX9_maxRadius 24 = .ok (.istore_n 2, 1) := by decide +kernel
theorem dX9_maxRadius_25 : decode cX9_maxRadius 25 = .ok (.iload_n 2, 1) := by decide +kernel
theorem dX9_maxRadius_26 : decode cX9_maxRadius 26 = .ok (.sipush 300, 3) := by decide +kernel
theorem dX9_maxRadius_29 : decode cX9_maxRadius 29 = .ok (.if_icmp .lt 30, 3) := by decide +kernel
theorem dX9_maxRadius_32 : decode cX9_maxRadius 32 = .ok (.aload_n 0, 1) := by decide +kernel
theorem dX9_maxRadius_33 : decode cX9_maxRadius 33 = .ok (.aload_n 0, 1) := by decide +kernel
theorem dX9_maxRadius_34 : decode cX9_maxRadius 34 = .ok (.getfield 7, 3) := by decide +kernel
theorem dX9_maxRadius_37 : decode cX9_maxRadius 37 = .ok (.iconst 0, 1) := by decide +kernel
theorem dX9_maxRadius_38 : decode cX9_maxRadius 38 = .ok (.iaload, 1) := by decide +kernel
theorem dX9_maxRadius_39 : decode cX9_maxRadius 39 = .ok (.iload_n 2, 1) := by decide +kernel
theorem dX9_maxRadius_40 : decode cX9_maxRadius 40 = .ok (.aload_n 0, 1) := by decide +kernel
theorem dX9_maxRadius_41 : decode cX9_maxRadius 41 = .ok (.getfield 7, 3) := by decide +kernel
theorem dX9_maxRadius_44 : decode cX9_maxRadius 44 = .ok (.iconst 2, 1) := by decide +kernel
theorem dX9_maxRadius_45 : decode cX9_maxRadius 45 = .ok (.iaload, 1) := by decide +kernel
theorem dX9_maxRadius_46 : decode cX9_maxRadius 46 = .ok (.invokevirtual 117, 3) := by decide +kernel
theorem dX9_maxRadius_49 : decode cX9_maxRadius 49 = .ok (.iload_n 1, 1) := by decide +kernel
theorem dX9_maxRadius_50 : decode cX9_maxRadius 50 = .ok (.if_icmp .ge 9, 3) := by decide +kernel
theorem dX9_maxRadius_53 : decode cX9_maxRadius 53 = .ok (.iinc 2 (-1), 3) := by decide +kernel
theorem dX9_maxRadius_56 : decode cX9_maxRadius 56 = .ok (.goto (-31), 3) := by decide +kernel
theorem dX9_maxRadius_59 : decode cX9_maxRadius 59 = .ok (.iload_n 2, 1) := by decide +kernel
theorem dX9_maxRadius_60 : decode cX9_maxRadius 60 = .ok (.sipush 300, 3) := by decide +kernel
theorem dX9_maxRadius_63 : decode cX9_maxRadius 63 = .ok (.if_icmp .ge 7, 3) := by decide +kernel
theorem dX9_maxRadius_66 : decode cX9_maxRadius 66 = .ok (.iconst (-1), 1) := by decide +kernel
theorem dX9_maxRadius_67 : decode cX9_maxRadius 67 = .ok (.goto 4, 3) := by decide +kernel
theorem dX9_maxRadius_70 : decode cX9_maxRadius 70 = .ok (.iload_n 2, 1) := by decide +kernel
theorem dX9_maxRadius_71 : decode cX9_maxRadius 71 = .ok (.ireturn, 1) := by decide +kernel
theorem dX9_worstSlew_0 : decode cX9_worstSlew 0 = .ok (.aload_n 0, 1) := by decide +kernel
theorem dX9_worstSlew_1 : decode cX9_worstSlew 1 = .ok (.iconst 0, 1) := by decide +kernel
theorem dX9_worstSlew_2 : decode cX9_worstSlew 2 = .ok (.putfield 28, 3) := by decide +kernel
theorem dX9_worstSlew_5 : decode cX9_worstSlew 5 = .ok (.iload_n 1, 1) := by decide +kernel
theorem dX9_worstSlew_6 : decode cX9_worstSlew 6 = .ok (.iconst 0, 1) := by decide +kernel
theorem dX9_worstSlew_7 : decode cX9_worstSlew 7 = .ok (.sipush 3599, 3) := by decide +kernel
theorem dX9_worstSlew_10 : decode cX9_worstSlew 10 = .ok (.invokestatic 132, 3) := by decide +kernel
theorem dX9_worstSlew_13 : decode cX9_worstSlew 13 = .ok (.ifCond .eq 23, 3) := by decide +kernel
theorem dX9_worstSlew_16 : decode cX9_worstSlew 16 = .ok (.iload_n 2, 1) := by decide +kernel
theorem dX9_worstSlew_17 : decode cX9_worstSlew 17 = .ok (.iconst 0, 1) := by decide +kernel
theorem dX9_worstSlew_18 : decode cX9_worstSlew 18 = .ok (.sipush 3599, 3) := by decide +kernel
theorem dX9_worstSlew_21 : decode cX9_worstSlew 21 = .ok (.invokestatic 132, 3) := by decide +kernel
theorem dX9_worstSlew_24 : decode cX9_worstSlew 24 = .ok (.ifCond .eq 12, 3) := by decide +kernel
theorem dX9_worstSlew_27 : decode cX9_worstSlew 27 = .ok (.iload_n 3, 1) := by decide +kernel
theorem dX9_worstSlew_28 : decode cX9_worstSlew 28 = .ok (.iconst 0, 1) := by decide +kernel
theorem dX9_worstSlew_29 : decode cX9_worstSlew 29 = .ok (.iconst 1, 1) := by decide +kernel
theorem dX9_worstSlew_30 : decode cX9_worstSlew 30 = .ok (.invokestatic 132, 3) := by decide +kernel
theorem dX9_worstSlew_33 : decode cX9_worstSlew 33 = .ok (.ifCond .ne 9, 3) := by decide +kernel
theorem dX9_worstSlew_36 : decode cX9_worstSlew 36 = .ok (.aload_n 0, 1) := by decide +kernel
theorem dX9_worstSlew_37 : decode cX9_worstSlew 37 = .ok (.iconst 1, 1) := by decide +kernel
theorem dX9_worstSlew_38 : decode cX9_worstSlew 38 = .ok (.invokevirtual 136, 3) := by decide +kernel
theorem dX9_worstSlew_41 : decode cX9_worstSlew 41 = .ok (.ireturn, 1) := by decide +kernel
theorem dX9_worstSlew_42 : decode cX9_worstSlew 42 = .ok (.iload_n 2, 1) := by decide +kernel
theorem dX9_worstSlew_43 : decode cX9_worstSlew 43 = .ok (.iload_n 1, 1) := by decide +kernel
theorem dX9_worstSlew_44 : decode cX9_worstSlew 44 = .ok (.isub, 1) := by decide +kernel
theorem dX9_worstSlew_45 : decode cX9_worstSlew 45 = .ok (.sipush 3600, 3) := by decide +kernel
theorem dX9_worstSlew_48 : decode cX9_worstSlew 48 = .ok (.iadd, 1) := by decide +kernel
theorem dX9_worstSlew_49 : decode cX9_worstSlew 49 = .ok (.sipush 3600, 3) := by decide +kernel
theorem dX9_worstSlew_52 : decode cX9_worstSlew 52 = .ok (.irem, 1) := by decide +kernel
theorem dX9_worstSlew_53 : decode cX9_worstSlew 53 = .ok (.istore 4, 2) := by decide +kernel
theorem dX9_worstSlew_55 : decode cX9_worstSlew 55 = .ok (.iconst (-1), 1) := by decide +kernel
theorem dX9_worstSlew_56 : decode cX9_worstSlew 56 = .ok (.istore 5, 2) := by decide +kernel
theorem dX9_worstSlew_58 : decode cX9_worstSlew 58 = .ok (.iconst (-1), 1) := by decide +kernel
theorem dX9_worstSlew_59 : decode cX9_worstSlew 59 = .ok (.istore 6, 2) := by decide +kernel
theorem dX9_worstSlew_61 : decode cX9_worstSlew 61 = .ok (.aload_n 0, 1) := by decide +kernel
theorem dX9_worstSlew_62 : decode cX9_worstSlew 62 = .ok (.invokevirtual 123, 3) := by decide +kernel
theorem dX9_worstSlew_65 : decode cX9_worstSlew 65 = .ok (.iconst 0, 1) := by decide +kernel
theorem dX9_worstSlew_66 : decode cX9_worstSlew 66 = .ok (.istore 7, 2) := by decide +kernel
theorem dX9_worstSlew_68 : decode cX9_worstSlew 68 = .ok (.iload 7, 2) := by decide +kernel
theorem dX9_worstSlew_70 : decode cX9_worstSlew 70 = .ok (.iload 4, 2) := by decide +kernel
theorem dX9_worstSlew_72 : decode cX9_worstSlew 72 = .ok (.if_icmp .gt 52, 3) := by decide +kernel
theorem dX9_worstSlew_75 : decode cX9_worstSlew 75 = .ok (.iload_n 1, 1) := by decide +kernel
theorem dX9_worstSlew_76 : decode cX9_worstSlew 76 = .ok (.iload 7, 2) := by decide +kernel
theorem dX9_worstSlew_78 : decode cX9_worstSlew 78 = .ok (.iadd, 1) := by decide +kernel
theorem dX9_worstSlew_79 : decode cX9_worstSlew 79 = .ok (.sipush 3600, 3) := by decide +kernel
theorem dX9_worstSlew_82 : decode cX9_worstSlew 82 = .ok (.irem, 1) := by decide +kernel
theorem dX9_worstSlew_83 : decode cX9_worstSlew 83 = .ok (.istore 8, 2) := by decide +kernel
theorem dX9_worstSlew_85 : decode cX9_worstSlew 85 = .ok (.aload_n 0, 1) := by decide +kernel
theorem dX9_worstSlew_86 : decode cX9_worstSlew 86 = .ok (.iload 8, 2) := by decide +kernel
theorem dX9_worstSlew_88 : decode cX9_worstSlew 88 = .ok (.invokevirtual 126, 3) := by decide +kernel
theorem dX9_worstSlew_91 : decode cX9_worstSlew 91 = .ok (.istore 9, 2) := by decide +kernel
theorem dX9_worstSlew_93 : decode cX9_worstSlew 93 = .ok (.iload 9, 2) := by decide +kernel
theorem dX9_worstSlew_95 : decode cX9_worstSlew 95 = .ok (.iload 5, 2) := by decide +kernel
theorem dX9_worstSlew_97 : decode cX9_worstSlew 97 = .ok (.if_icmp .le 8, 3) := by decide +kernel
theorem dX9_worstSlew_100 : decode cX9_worstSlew 100 = .ok (.iload 8, 2) := by decide +kernel
theorem dX9_worstSlew_102 : decode cX9_worstSlew 102 = .ok (.goto 5, 3) := by decide +kernel
theorem dX9_worstSlew_105 : decode cX9_worstSlew 105 = .ok (.iload 6, 2) := by decide +kernel
theorem dX9_worstSlew_107 : decode cX9_worstSlew 107 = .ok (.istore 6, 2) := by decide +kernel
theorem dX9_worstSlew_109 : decode cX9_worstSlew 109 = .ok (.iload 5, 2) := by decide +kernel
theorem dX9_worstSlew_111 : decode cX9_worstSlew 111 = .ok (.iload 9, 2) := by decide +kernel
theorem dX9_worstSlew_113 : decode cX9_worstSlew 113 = .ok (.invokestatic 45, 3) := by decide +kernel
theorem dX9_worstSlew_116 : decode cX9_worstSlew 116 = .ok (.istore 5, 2) := by decide +kernel
theorem dX9_worstSlew_118 : decode cX9_worstSlew 118 = .ok (.iinc 7 50, 3) := by decide +kernel
theorem dX9_worstSlew_121 : decode cX9_worstSlew 121 = .ok (.goto (-53), 3) := by decide +kernel
theorem dX9_worstSlew_124 : decode cX9_worstSlew 124 = .ok (.iload_n 3, 1) := by decide +kernel
theorem dX9_worstSlew_125 : decode cX9_worstSlew 125 = .ok (.ifCond .ne 8, 3) := by decide +kernel
theorem dX9_worstSlew_128 : decode cX9_worstSlew 128 = .ok (.iload 5, 2) := by decide +kernel
theorem dX9_worstSlew_130 : decode cX9_worstSlew 130 = .ok (.goto 5, 3) := by decide +kernel
theorem dX9_worstSlew_133 : decode cX9_worstSlew 133 = .ok (.iload 6, 2) := by decide +kernel
theorem dX9_worstSlew_135 : decode cX9_worstSlew 135 = .ok (.ireturn, 1) := by decide +kernel
theorem dX9_events_0 : decode cX9_events 0 = .ok (.aload_n 0, 1) := by decide +kernel
theorem dX9_events_1 : decode cX9_events 1 = .ok (.iconst 0, 1) := by decide +kernel
theorem dX9_events_2 : decode cX9_events 2 = .ok (.putfield 28, 3) := by decide +kernel
theorem dX9_events_5 : decode cX9_events 5 = .ok (.aload_n 0, 1) := by decide +kernel
theorem dX9_events_6 : decode cX9_events 6 = .ok (.getfield 7, 3) := by decide +kernel
theorem dX9_events_9 : decode cX9_events 9 = .ok (.sipush 143, 3) := by decide +kernel
theorem dX9_events_12 : decode cX9_events 12 = .ok (.iaload, 1) := by decide +kernel
theorem dX9_events_13 : decode cX9_events 13 = .ok (.ireturn, 1) := by decide +kernel
theorem dX9_event_0 : decode cX9_event 0 = .ok (.aload_n 0, 1) := by decide +kernel
theorem dX9_event_1 : decode cX9_event 1 = .ok (.iconst 0, 1) := by decide +kernel
theorem dX9_event_2 : decode cX9_event 2 = .ok (.putfield 28, 3) := by decide +kernel
theorem dX9_event_5 : decode cX9_event 5 = .ok (.iload_n 1, 1) := by decide +kernel
theorem dX9_event_6 : decode cX9_event 6 = .ok (.iconst 0, 1) := by decide +kernel
theorem dX9_event_7 : decode cX9_event 7 = .ok (.aload_n 0, 1) := by decide +kernel
theorem dX9_event_8 : decode cX9_event 8 = .ok (.getfield 7, 3) := by decide +kernel
theorem dX9_event_11 : decode cX9_event 11 = .ok (.sipush 143, 3) := by decide +kernel
theorem dX9_event_14 : decode cX9_event 14 = .ok (.iaload, 1) := by decide +kernel
theorem dX9_event_15 : decode cX9_event 15 = .ok (.iconst 1, 1) := by decide +kernel
theorem dX9_event_16 : decode cX9_event 16 = .ok (.isub, 1) := by decide +kernel
theorem dX9_event_17 : decode cX9_event 17 = .ok (.invokestatic 132, 3) := by decide +kernel
theorem dX9_event_20 : decode cX9_event 20 = .ok (.ifCond .ne 9, 3) := by decide +kernel
theorem dX9_event_23 : decode cX9_event 23 = .ok (.aload_n 0, 1) := by decide +kernel
theorem dX9_event_24 : decode cX9_event 24 = .ok (.iconst 1, 1) := by decide +kernel
theorem dX9_event_25 : decode cX9_event 25 = .ok (.invokevirtual 136, 3) := by decide +kernel
theorem dX9_event_28 : decode cX9_event 28 = .ok (.ireturn, 1) := by decide +kernel
theorem dX9_event_29 : decode cX9_event 29 = .ok (.iload_n 2, 1) := by decide +kernel
theorem dX9_event_30 : decode cX9_event 30 = .ok (.iconst 0, 1) := by decide +kernel
theorem dX9_event_31 : decode cX9_event 31 = .ok (.iconst 2, 1) := by decide +kernel
theorem dX9_event_32 : decode cX9_event 32 = .ok (.invokestatic 132, 3) := by decide +kernel
theorem dX9_event_35 : decode cX9_event 35 = .ok (.ifCond .eq 20, 3) := by decide +kernel
theorem dX9_event_38 : decode cX9_event 38 = .ok (.aload_n 0, 1) := by decide +kernel
theorem dX9_event_39 : decode cX9_event 39 = .ok (.getfield 7, 3) := by decide +kernel
theorem dX9_event_42 : decode cX9_event 42 = .ok (.sipush 144, 3) := by decide +kernel
theorem dX9_event_45 : decode cX9_event 45 = .ok (.iconst 3, 1) := by decide +kernel
theorem dX9_event_46 : decode cX9_event 46 = .ok (.iload_n 1, 1) := by decide +kernel
theorem dX9_event_47 : decode cX9_event 47 = .ok (.imul, 1) := by decide +kernel
theorem dX9_event_48 : decode cX9_event 48 = .ok (.iadd, 1) := by decide +kernel
theorem dX9_event_49 : decode cX9_event 49 = .ok (.iload_n 2, 1) := by decide +kernel
theorem dX9_event_50 : decode cX9_event 50 = .ok (.iadd, 1) := by decide +kernel
theorem dX9_event_51 : decode cX9_event 51 = .ok (.iaload, 1) := by decide +kernel
theorem dX9_event_52 : decode cX9_event 52 = .ok (.goto 8, 3) := by decide +kernel
theorem dX9_event_55 : decode cX9_event 55 = .ok (.aload_n 0, 1) := by decide +kernel
theorem dX9_event_56 : decode cX9_event 56 = .ok (.iconst 2, 1) := by decide +kernel
theorem dX9_event_57 : decode cX9_event 57 = .ok (.invokevirtual 136, 3) := by decide +kernel
theorem dX9_event_60 : decode cX9_event 60 = .ok (.ireturn, 1) := by decide +kernel
theorem dX9_stateTime_0 : decode cX9_stateTime 0 = .ok (.aload_n 0, 1) := by decide +kernel
theorem dX9_stateTime_1 : decode cX9_stateTime 1 = .ok (.iconst 0, 1) := by decide +kernel
theorem dX9_stateTime_2 : decode cX9_stateTime 2 = .ok (.putfield 28, 3) := by decide +kernel
theorem dX9_stateTime_5 : decode cX9_stateTime 5 = .ok (.iload_n 1, 1) := by decide +kernel
theorem dX9_stateTime_6 : decode cX9_stateTime 6 = .ok (.iconst 0, 1) := by decide +kernel
theorem dX9_stateTime_7 : decode cX9_stateTime 7 = .ok (.iconst 3, 1) := by decide +kernel
theorem dX9_stateTime_8 : decode cX9_stateTime 8 = .ok (.invokestatic 132, 3) := by decide +kernel
theorem dX9_stateTime_11 : decode cX9_stateTime 11 = .ok (.ifCond .eq 16, 3) := by decide +kernel
theorem dX9_stateTime_14 : decode cX9_stateTime 14 = .ok (.aload_n 0, 1) := by decide +kernel
theorem dX9_stateTime_15 : decode cX9_stateTime 15 = .ok (.getfield 7, 3) := by decide +kernel
theorem dX9_stateTime_18 : decode cX9_stateTime 18 = .ok (.sipush 234, 3) := by decide +kernel
theorem dX9_stateTime_21 : decode cX9_stateTime 21 = .ok (.iload_n 1, 1) := by decide +kernel
theorem dX9_stateTime_22 : decode cX9_stateTime 22 = .ok (.iadd, 1) := by decide +kernel
theorem dX9_stateTime_23 : decode cX9_stateTime 23 = .ok (.iaload, 1) := by decide +kernel
theorem dX9_stateTime_24 : decode cX9_stateTime 24 = .ok (.goto 8, 3) := by decide +kernel
theorem dX9_stateTime_27 : decode cX9_stateTime 27 = .ok (.aload_n 0, 1) := by decide +kernel
theorem dX9_stateTime_28 : decode cX9_stateTime 28 = .ok (.iconst 1, 1) := by decide +kernel
theorem dX9_stateTime_29 : decode cX9_stateTime 29 = .ok (.invokevirtual 136, 3) := by decide +kernel
theorem dX9_stateTime_32 : decode cX9_stateTime 32 = .ok (.ireturn, 1) := by decide +kernel
theorem dX9_lifts_0 : decode cX9_lifts 0 = .ok (.aload_n 0, 1) := by decide +kernel
theorem dX9_lifts_1 : decode cX9_lifts 1 = .ok (.iconst 0, 1) := by decide +kernel
theorem dX9_lifts_2 : decode cX9_lifts 2 = .ok (.putfield 28, 3) := by decide +kernel
theorem dX9_lifts_5 : decode cX9_lifts 5 = .ok (.iload_n 1, 1) := by decide +kernel
theorem dX9_lifts_6 : decode cX9_lifts 6 = .ok (.iconst 0, 1) := by decide +kernel
theorem dX9_lifts_7 : decode cX9_lifts 7 = .ok (.bipush 7, 2) := by decide +kernel
theorem dX9_lifts_9 : decode cX9_lifts 9 = .ok (.invokestatic 132, 3) := by decide +kernel
theorem dX9_lifts_12 : decode cX9_lifts 12 = .ok (.ifCond .eq 16, 3) := by decide +kernel
theorem dX9_lifts_15 : decode cX9_lifts 15 = .ok (.aload_n 0, 1) := by decide +kernel
theorem dX9_lifts_16 : decode cX9_lifts 16 = .ok (.getfield 7, 3) := by decide +kernel
theorem dX9_lifts_19 : decode cX9_lifts 19 = .ok (.sipush 238, 3) := by decide +kernel
theorem dX9_lifts_22 : decode cX9_lifts 22 = .ok (.iload_n 1, 1) := by decide +kernel
theorem dX9_lifts_23 : decode cX9_lifts 23 = .ok (.iadd, 1) := by decide +kernel
theorem dX9_lifts_24 : decode cX9_lifts 24 = .ok (.iaload, 1) := by decide +kernel
theorem dX9_lifts_25 : decode cX9_lifts 25 = .ok (.goto 8, 3) := by decide +kernel
theorem dX9_lifts_28 : decode cX9_lifts 28 = .ok (.aload_n 0, 1) := by decide +kernel
theorem dX9_lifts_29 : decode cX9_lifts 29 = .ok (.iconst 1, 1) := by decide +kernel
theorem dX9_lifts_30 : decode cX9_lifts 30 = .ok (.invokevirtual 136, 3) := by decide +kernel
theorem dX9_lifts_33 : decode cX9_lifts 33 = .ok (.ireturn, 1) := by decide +kernel
theorem dX9_spectrum_0 : decode cX9_spectrum 0 = .ok (.aload_n 0, 1) := by decide +kernel
theorem dX9_spectrum_1 : decode cX9_spectrum 1 = .ok (.iconst 0, 1) := by decide +kernel
theorem dX9_spectrum_2 : decode cX9_spectrum 2 = .ok (.putfield 28, 3) := by decide +kernel
theorem dX9_spectrum_5 : decode cX9_spectrum 5 = .ok (.lconst 0, 1) := by decide +kernel
theorem dX9_spectrum_6 : decode cX9_spectrum 6 = .ok (.lstore_n 1, 1) := by decide +kernel
theorem dX9_spectrum_7 : decode cX9_spectrum 7 = .ok (.lconst 0, 1) := by decide +kernel
theorem dX9_spectrum_8 : decode cX9_spectrum 8 = .ok (.lstore_n 3, 1) := by decide +kernel
theorem dX9_spectrum_9 : decode cX9_spectrum 9 = .ok (.iconst 0, 1) := by decide +kernel
theorem dX9_spectrum_10 : decode cX9_spectrum 10 = .ok (.istore 5, 2) := by decide +kernel
theorem dX9_spectrum_12 : decode cX9_spectrum 12 = .ok (.iload 5, 2) := by decide +kernel
theorem dX9_spectrum_14 : decode cX9_spectrum 14 = .ok (.bipush 8, 2) := by decide +kernel
theorem dX9_spectrum_16 : decode cX9_spectrum 16 = .ok (.if_icmp .ge 57, 3) := by decide +kernel
theorem dX9_spectrum_19 : decode cX9_spectrum 19 = .ok (.lload_n 1, 1) := by decide +kernel
theorem dX9_spectrum_20 : decode cX9_spectrum 20 = .ok (.aload_n 0, 1) := by decide +kernel
theorem dX9_spectrum_21 : decode cX9_spectrum 21 = .ok (.getfield 7, 3) := by decide +kernel
theorem dX9_spectrum_24 : decode cX9_spectrum 24 = .ok (.sipush 238, 3) := by decide +kernel
theorem dX9_spectrum_27 : decode cX9_spectrum 27 = .ok (.iload 5, 2) := by decide +kernel
theorem dX9_spectrum_29 : decode cX9_spectrum 29 = .ok (.iadd, 1) := by decide +kernel
theorem dX9_spectrum_30 : decode cX9_spectrum 30 = .ok (.iaload, 1) := by decide +kernel
theorem dX9_spectrum_31 : decode cX9_spectrum 31 = .ok (.i2l, 1) := by decide +kernel
theorem dX9_spectrum_32 : decode cX9_spectrum 32 = .ok (.iload 5, 2) := by decide +kernel
theorem dX9_spectrum_34 : decode cX9_spectrum 34 = .ok (.iconst 1, 1) := by decide +kernel
theorem dX9_spectrum_35 : decode cX9_spectrum 35 = .ok (.iadd, 1) := by decide +kernel
theorem dX9_spectrum_36 : decode cX9_spectrum 36 = .ok (.i2l, 1) := by decide +kernel
theorem dX9_spectrum_37 : decode cX9_spectrum 37 = .ok (.lmul, 1) := by decide +kernel
theorem dX9_spectrum_38 : decode cX9_spectrum 38 = .ok (.iload 5, 2) := by decide +kernel
theorem dX9_spectrum_40 : decode cX9_spectrum 40 = .ok (.iconst 1, 1) := by decide +kernel
theorem dX9_spectrum_41 : decode cX9_spectrum 41 = .ok (.iadd, 1) := by decide +kernel
theorem dX9_spectrum_42 : decode cX9_spectrum 42 = .ok (.i2l, 1) := by decide +kernel
theorem dX9_spectrum_43 : decode cX9_spectrum 43 = .ok (.lmul, 1) := by decide +kernel
theorem dX9_spectrum_44 : decode cX9_spectrum 44 = .ok (.iload 5, 2) := by decide +kernel
theorem dX9_spectrum_46 : decode cX9_spectrum 46 = .ok (.iconst 1, 1) := by decide +kernel
theorem dX9_spectrum_47 : decode cX9_spectrum 47 = .ok (.iadd, 1) := by decide +kernel
theorem dX9_spectrum_48 : decode cX9_spectrum 48 = .ok (.i2l, 1) := by decide +kernel
theorem dX9_spectrum_49 : decode cX9_spectrum 49 = .ok (.lmul, 1) := by decide +kernel
theorem dX9_spectrum_50 : decode cX9_spectrum 50 = .ok (.ladd, 1) := by decide +kernel
theorem dX9_spectrum_51 : decode cX9_spectrum 51 = .ok (.lstore_n 1, 1) := by decide +kernel
theorem dX9_spectrum_52 : decode cX9_spectrum 52 = .ok (.lload_n 3, 1) := by decide +kernel
theorem dX9_spectrum_53 : decode cX9_spectrum 53 = .ok (.aload_n 0, 1) := by decide +kernel
theorem dX9_spectrum_54 : decode cX9_spectrum 54 = .ok (.getfield 7, 3) := by decide +kernel
theorem dX9_spectrum_57 : decode cX9_spectrum 57 = .ok (.sipush 238, 3) := by decide +kernel
theorem dX9_spectrum_60 : decode cX9_spectrum 60 = .ok (.iload 5, 2) := by decide +kernel
theorem dX9_spectrum_62 : decode cX9_spectrum 62 = .ok (.iadd, 1) := by decide +kernel
theorem dX9_spectrum_63 : decode cX9_spectrum 63 = .ok (.iaload, 1) := by decide +kernel
theorem dX9_spectrum_64 : decode cX9_spectrum 64 = .ok (.i2l, 1) := by decide +kernel
theorem dX9_spectrum_65 : decode cX9_spectrum 65 = .ok (.ladd, 1) := by decide +kernel
theorem dX9_spectrum_66 : decode cX9_spectrum 66 = .ok (.lstore_n 3, 1) := by decide +kernel
theorem dX9_spectrum_67 : decode cX9_spectrum 67 = .ok (.iinc 5 1, 3) := by decide +kernel
theorem dX9_spectrum_70 : decode cX9_spectrum 70 = .ok (.goto (-58), 3) := by decide +kernel
theorem dX9_spectrum_73 : decode cX9_spectrum 73 = .ok (.lload_n 3, 1) := by decide +kernel
theorem dX9_spectrum_74 : decode cX9_spectrum 74 = .ok (.lconst 0, 1) := by decide +kernel
theorem dX9_spectrum_75 : decode cX9_spectrum 75 = .ok (.lcmp, 1) := by decide +kernel
theorem dX9_spectrum_76 : decode cX9_spectrum 76 = .ok (.ifCond .ne 7, 3) := by decide +kernel
theorem dX9_spectrum_79 : decode cX9_spectrum 79 = .ok (.iconst (-1), 1) := by decide +kernel
theorem dX9_spectrum_80 : decode cX9_spectrum 80 = .ok (.goto 15, 3) := by decide +kernel
theorem dX9_spectrum_83 : decode cX9_spectrum 83 = .ok (.ldc2_w 110, 3) := by decide +kernel
theorem dX9_spectrum_86 : decode cX9_spectrum 86 = .ok (.lload_n 1, 1) := by decide +kernel
theorem dX9_spectrum_87 : decode cX9_spectrum 87 = .ok (.lmul, 1) := by decide +kernel
theorem dX9_spectrum_88 : decode cX9_spectrum 88 = .ok (.ldc2_w 213, 3) := by decide +kernel
theorem dX9_spectrum_91 : decode cX9_spectrum 91 = .ok (.lload_n 3, 1) := by decide +kernel
theorem dX9_spectrum_92 : decode cX9_spectrum 92 = .ok (.lmul, 1) := by decide +kernel
theorem dX9_spectrum_93 : decode cX9_spectrum 93 = .ok (.ldiv, 1) := by decide +kernel
theorem dX9_spectrum_94 : decode cX9_spectrum 94 = .ok (.l2i, 1) := by decide +kernel
theorem dX9_spectrum_95 : decode cX9_spectrum 95 = .ok (.ireturn, 1) := by decide +kernel
theorem dX9_type_0 : decode cX9_type 0 = .ok (.aload_n 0, 1) := by decide +kernel
theorem dX9_type_1 : decode cX9_type 1 = .ok (.iconst 0, 1) := by decide +kernel
theorem dX9_type_2 : decode cX9_type 2 = .ok (.putfield 28, 3) := by decide +kernel
theorem dX9_type_5 : decode cX9_type 5 = .ok (.iload_n 1, 1) := by decide +kernel
theorem dX9_type_6 : decode cX9_type 6 = .ok (.iconst 0, 1) := by decide +kernel
theorem dX9_type_7 : decode cX9_type 7 = .ok (.bipush 127, 2) := by decide +kernel
theorem dX9_type_9 : decode cX9_type 9 = .ok (.invokestatic 132, 3) := by decide +kernel
theorem dX9_type_12 : decode cX9_type 12 = .ok (.ifCond .ne 9, 3) := by decide +kernel
theorem dX9_type_15 : decode cX9_type 15 = .ok (.aload_n 0, 1) := by decide +kernel
theorem dX9_type_16 : decode cX9_type 16 = .ok (.iconst 1, 1) := by decide +kernel
theorem dX9_type_17 : decode cX9_type 17 = .ok (.invokevirtual 136, 3) := by decide +kernel
theorem dX9_type_20 : decode cX9_type 20 = .ok (.ireturn, 1) := by decide +kernel
theorem dX9_type_21 : decode cX9_type 21 = .ok (.aload_n 0, 1) := by decide +kernel
theorem dX9_type_22 : decode cX9_type 22 = .ok (.getfield 215, 3) := by decide +kernel
theorem dX9_type_25 : decode cX9_type 25 = .ok (.bipush 80, 2) := by decide +kernel
theorem dX9_type_27 : decode cX9_type 27 = .ok (.if_icmp .ne 9, 3) := by decide +kernel
theorem dX9_type_30 : decode cX9_type 30 = .ok (.aload_n 0, 1) := by decide +kernel
theorem dX9_type_31 : decode cX9_type 31 = .ok (.iconst 2, 1) := by decide +kernel
theorem dX9_type_32 : decode cX9_type 32 = .ok (.invokevirtual 136, 3) := by decide +kernel
theorem dX9_type_35 : decode cX9_type 35 = .ok (.ireturn, 1) := by decide +kernel
theorem dX9_type_36 : decode cX9_type 36 = .ok (.aload_n 0, 1) := by decide +kernel
theorem dX9_type_37 : decode cX9_type 37 = .ok (.getfield 16, 3) := by decide +kernel
theorem dX9_type_40 : decode cX9_type 40 = .ok (.aload_n 0, 1) := by decide +kernel
theorem dX9_type_41 : decode cX9_type 41 = .ok (.getfield 215, 3) := by decide +kernel
theorem dX9_type_44 : decode cX9_type 44 = .ok (.iload_n 1, 1) := by decide +kernel
theorem dX9_type_45 : decode cX9_type 45 = .ok (.iastore, 1) := by decide +kernel
theorem dX9_type_46 : decode cX9_type 46 = .ok (.aload_n 0, 1) := by decide +kernel
theorem dX9_type_47 : decode cX9_type 47 = .ok (.dup, 1) := by decide +kernel
theorem dX9_type_48 : decode cX9_type 48 = .ok (.getfield 215, 3) := by decide +kernel
theorem dX9_type_51 : decode cX9_type 51 = .ok (.iconst 1, 1) := by decide +kernel
theorem dX9_type_52 : decode cX9_type 52 = .ok (.iadd, 1) := by decide +kernel
theorem dX9_type_53 : decode cX9_type 53 = .ok (.putfield 215, 3) := by decide +kernel
theorem dX9_type_56 : decode cX9_type 56 = .ok (.aload_n 0, 1) := by decide +kernel
theorem dX9_type_57 : decode cX9_type 57 = .ok (.getfield 215, 3) := by decide +kernel
theorem dX9_type_60 : decode cX9_type 60 = .ok (.ireturn, 1) := by decide +kernel
theorem dX9_clearText_0 : decode cX9_clearText 0 = .ok (.aload_n 0, 1) := by decide +kernel
theorem dX9_clearText_1 : decode cX9_clearText 1 = .ok (.iconst 0, 1) := by decide +kernel
theorem dX9_clearText_2 : decode cX9_clearText 2 = .ok (.putfield 28, 3) := by decide +kernel
theorem dX9_clearText_5 : decode cX9_clearText 5 = .ok (.aload_n 0, 1) := by decide +kernel
theorem dX9_clearText_6 : decode cX9_clearText 6 = .ok (.getfield 215, 3) := by decide +kernel
theorem dX9_clearText_9 : decode cX9_clearText 9 = .ok (.istore_n 1, 1) := by decide +kernel
theorem dX9_clearText_10 : decode cX9_clearText 10 = .ok (.aload_n 0, 1) := by decide +kernel
theorem dX9_clearText_11 : decode cX9_clearText 11 = .ok (.iconst 0, 1) := by decide +kernel
theorem dX9_clearText_12 : decode cX9_clearText 12 = .ok (.putfield 215, 3) := by decide +kernel
theorem dX9_clearText_15 : decode cX9_clearText 15 = .ok (.iload_n 1, 1) := by decide +kernel
theorem dX9_clearText_16 : decode cX9_clearText 16 = .ok (.ireturn, 1) := by decide +kernel
theorem dX9_here_0 : decode cX9_here 0 = .ok (.aload_n 0, 1) := by decide +kernel
theorem dX9_here_1 : decode cX9_here 1 = .ok (.getfield 218, 3) := by decide +kernel
theorem dX9_here_4 : decode cX9_here 4 = .ok (.aload_n 0, 1) := by decide +kernel
theorem dX9_here_5 : decode cX9_here 5 = .ok (.getfield 215, 3) := by decide +kernel
theorem dX9_here_8 : decode cX9_here 8 = .ok (.if_icmp .ge 15, 3) := by decide +kernel
theorem dX9_here_11 : decode cX9_here 11 = .ok (.aload_n 0, 1) := by decide +kernel
theorem dX9_here_12 : decode cX9_here 12 = .ok (.getfield 16, 3) := by decide +kernel
theorem dX9_here_15 : decode cX9_here 15 = .ok (.aload_n 0, 1) := by decide +kernel
theorem dX9_here_16 : decode cX9_here 16 = .ok (.getfield 218, 3) := by decide +kernel
theorem dX9_here_19 : decode cX9_here 19 = .ok (.iaload, 1) := by decide +kernel
theorem dX9_here_20 : decode cX9_here 20 = .ok (.goto 4, 3) := by decide +kernel
theorem dX9_here_23 : decode cX9_here 23 = .ok (.iconst (-1), 1) := by decide +kernel
theorem dX9_here_24 : decode cX9_here 24 = .ok (.ireturn, 1) := by decide +kernel
theorem dX9_sign_0 : decode cX9_sign 0 = .ok (.aload_n 0, 1) := by decide +kernel
theorem dX9_sign_1 : decode cX9_sign 1 = .ok (.invokevirtual 221, 3) := by decide +kernel
theorem dX9_sign_4 : decode cX9_sign 4 = .ok (.bipush 32, 2) := by decide +kernel
theorem dX9_sign_6 : decode cX9_sign 6 = .ok (.if_icmp .ne 16, 3) := by decide +kernel
theorem dX9_sign_9 : decode cX9_sign 9 = .ok (.aload_n 0, 1) := by decide +kernel
theorem dX9_sign_10 : decode cX9_sign 10 = .ok (.dup, 1) := by decide +kernel
theorem dX9_sign_11 : decode cX9_sign 11 = .ok (.getfield 218, 3) := by decide +kernel
theorem dX9_sign_14 : decode cX9_sign 14 = .ok (.iconst 1, 1) := by decide +kernel
theorem dX9_sign_15 : decode cX9_sign 15 = .ok (.iadd, 1) := by decide +kernel
theorem dX9_sign_16 : decode cX9_sign 16 = .ok (.putfield 218, 3) := by decide +kernel
theorem dX9_sign_19 : decode cX9_sign 19 = .ok (.goto (-19), 3) := by decide +kernel
theorem dX9_sign_22 : decode cX9_sign 22 = .ok (.aload_n 0, 1) := by decide +kernel
theorem dX9_sign_23 : decode cX9_sign 23 = .ok (.invokevirtual 221, 3) := by decide +kernel
theorem dX9_sign_26 : decode cX9_sign 26 = .ok (.ireturn, 1) := by decide +kernel
theorem dX9_firstMotion_0 : decode cX9_firstMotion 0 = .ok (.iload_n 0, 1) := by decide +kernel
theorem dX9_firstMotion_1 : decode cX9_firstMotion 1 = .ok (.bipush 104, 2) := by decide +kernel
theorem dX9_firstMotion_3 : decode cX9_firstMotion 3 = .ok (.if_icmp .ne 7, 3) := by decide +kernel
theorem dX9_firstMotion_6 : decode cX9_firstMotion 6 = .ok (.iconst 0, 1) := by decide +kernel
theorem dX9_firstMotion_7 : decode cX9_firstMotion 7 = .ok (.goto 35, 3) := by decide +kernel
theorem dX9_firstMotion_10 : decode cX9_firstMotion 10 = .ok (.iload_n 0, 1) := by decide +kernel
theorem dX9_firstMotion_11 : decode cX9_firstMotion 11 = .ok (.bipush 98, 2) := by decide +kernel
theorem dX9_firstMotion_13 : decode cX9_firstMotion 13 = .ok (.if_icmp .ne 7, 3) := by decide +kernel
theorem dX9_firstMotion_16 : decode cX9_firstMotion 16 = .ok (.iconst 2, 1) := by decide +kernel
theorem dX9_firstMotion_17 : decode cX9_firstMotion 17 = .ok (.goto 25, 3) := by decide +kernel
theorem dX9_firstMotion_20 : decode cX9_firstMotion 20 = .ok (.iload_n 0, 1) := by decide +kernel
theorem dX9_firstMotion_21 : decode cX9_firstMotion 21 = .ok (.bipush 101, 2) := by decide +kernel
theorem dX9_firstMotion_23 : decode cX9_firstMotion 23 = .ok (.if_icmp .ne 7, 3) := by decide +kernel
theorem dX9_firstMotion_26 : decode cX9_firstMotion 26 = .ok (.iconst 4, 1) := by decide +kernel
theorem dX9_firstMotion_27 : decode cX9_firstMotion 27 = .ok (.goto 15, 3) := by decide +kernel
theorem dX9_firstMotion_30 : decode cX9_firstMotion 30 = .ok (.iload_n 0, 1) := by decide +kernel
theorem dX9_firstMotion_31 : decode cX9_firstMotion 31 = .ok (.bipush 115, 2) := by decide +kernel
theorem dX9_firstMotion_33 : decode cX9_firstMotion 33 = .ok (.if_icmp .ne 8, 3) := by decide +kernel
theorem dX9_firstMotion_36 : decode cX9_firstMotion 36 = .ok (.bipush 6, 2) := by decide +kernel
theorem dX9_firstMotion_38 : decode cX9_firstMotion 38 = .ok (.goto 4, 3) := by decide +kernel
theorem dX9_firstMotion_41 : decode cX9_firstMotion 41 = .ok (.iconst (-1), 1) := by decide +kernel
theorem dX9_firstMotion_42 : decode cX9_firstMotion 42 = .ok (.ireturn, 1) := by decide +kernel
theorem dX9_number_0 : decode cX9_number 0 = .ok (.iconst 0, 1) := by decide +kernel
theorem dX9_number_1 : decode cX9_number 1 = .ok (.istore_n 1, 1) := by decide +kernel
theorem dX9_number_2 : decode cX9_number 2 = .ok (.aload_n 0, 1) := by decide +kernel
theorem dX9_number_3 : decode cX9_number 3 = .ok (.invokevirtual 224, 3) := by decide +kernel
theorem dX9_number_6 : decode cX9_number 6 = .ok (.bipush 48, 2) := by decide +kernel
theorem dX9_number_8 : decode cX9_number 8 = .ok (.bipush 57, 2) := by decide +kernel
theorem dX9_number_10 : decode cX9_number 10 = .ok (.invokestatic 132, 3) := by decide +kernel
theorem dX9_number_13 : decode cX9_number 13 = .ok (.ifCond .ne 5, 3) := by decide +kernel
theorem dX9_number_16 : decode cX9_number 16 = .ok (.iconst 0, 1) := by decide +kernel
theorem dX9_number_17 : decode cX9_number 17 = .ok (.ireturn, 1) := by decide +kernel
theorem dX9_number_18 : decode cX9_number 18 = .ok (.iconst 0, 1) := by decide +kernel
theorem dX9_number_19 : decode cX9_number 19 = .ok (.istore_n 2, 1) := by decide +kernel
theorem dX9_number_20 : decode cX9_number 20 = .ok (.iload_n 2, 1) := by decide +kernel
theorem dX9_number_21 : decode cX9_number 21 = .ok (.iconst 2, 1) := by decide +kernel
theorem dX9_number_22 : decode cX9_number 22 = .ok (.if_icmp .ge 46, 3) := by decide +kernel
theorem dX9_number_25 : decode cX9_number 25 = .ok (.aload_n 0, 1) := by decide +kernel
theorem dX9_number_26 : decode cX9_number 26 = .ok (.invokevirtual 221, 3) := by decide +kernel
theorem dX9_number_29 : decode cX9_number 29 = .ok (.bipush 48, 2) := by decide +kernel
theorem dX9_number_31 : decode cX9_number 31 = .ok (.bipush 57, 2) := by decide +kernel
theorem dX9_number_33 : decode cX9_number 33 = .ok (.invokestatic 132, 3) := by decide +kernel
theorem dX9_number_36 : decode cX9_number 36 = .ok (.ifCond .eq 32, 3) := by decide +kernel
theorem dX9_number_39 : decode cX9_number 39 = .ok (.bipush 10, 2) := by decide +kernel
theorem dX9_number_41 : decode cX9_number 41 = .ok (.iload_n 1, 1) := by decide +kernel
theorem dX9_number_42 : decode cX9_number 42 = .ok (.imul, 1) := by decide +kernel
theorem dX9_number_43 : decode cX9_number 43 = .ok (.aload_n 0, 1) := by decide +kernel
theorem dX9_number_44 : decode cX9_number 44 = .ok (.invokevirtual 221, 3) := by decide +kernel
theorem dX9_number_47 : decode cX9_number 47 = .ok (.iadd, 1) := by decide +kernel
theorem dX9_number_48 : decode cX9_number 48 = .ok (.bipush 48, 2) := by decide +kernel
theorem dX9_number_50 : decode cX9_number 50 = .ok (.isub, 1) := by decide +kernel
theorem dX9_number_51 : decode cX9_number 51 = .ok (.istore_n 1, 1) := by decide +kernel
theorem dX9_number_52 : decode cX9_number 52 = .ok (.aload_n 0, 1) := by decide +kernel
theorem dX9_number_53 : decode cX9_number 53 = .ok (.dup, 1) := by decide +kernel
theorem dX9_number_54 : decode cX9_number 54 = .ok (.getfield 218, 3) := by decide +kernel
theorem dX9_number_57 : decode cX9_number 57 = .ok (.iconst 1, 1) := by decide +kernel
theorem dX9_number_58 : decode cX9_number 58 = .ok (.iadd, 1) := by decide +kernel
theorem dX9_number_59 : decode cX9_number 59 = .ok (.putfield 218, 3) := by decide +kernel
theorem dX9_number_62 : decode cX9_number 62 = .ok (.iinc 2 1, 3) := by decide +kernel
theorem dX9_number_65 : decode cX9_number 65 = .ok (.goto (-45), 3) := by decide +kernel
theorem dX9_number_68 : decode cX9_number 68 = .ok (.aload_n 0, 1) := by decide +kernel
theorem dX9_number_69 : decode cX9_number 69 = .ok (.invokevirtual 221, 3) := by decide +kernel
theorem dX9_number_72 : decode cX9_number 72 = .ok (.bipush 48, 2) := by decide +kernel
theorem dX9_number_74 : decode cX9_number 74 = .ok (.bipush 57, 2) := by decide +kernel
theorem dX9_number_76 : decode cX9_number 76 = .ok (.invokestatic 132, 3) := by decide +kernel
theorem dX9_number_79 : decode cX9_number 79 = .ok (.ifCond .eq 7, 3) := by decide +kernel
theorem dX9_number_82 : decode cX9_number 82 = .ok (.iconst 0, 1) := by decide +kernel
theorem dX9_number_83 : decode cX9_number 83 = .ok (.goto 4, 3) := by decide +kernel
theorem dX9_number_86 : decode cX9_number 86 = .ok (.iload_n 1, 1) := by decide +kernel
theorem dX9_number_87 : decode cX9_number 87 = .ok (.ireturn, 1) := by decide +kernel
theorem dX9_readsOrder_0 : decode cX9_readsOrder 0 = .ok (.aload_n 0, 1) := by decide +kernel
theorem dX9_readsOrder_1 : decode cX9_readsOrder 1 = .ok (.invokevirtual 224, 3) := by decide +kernel
theorem dX9_readsOrder_4 : decode cX9_readsOrder 4 = .ok (.istore_n 1, 1) := by decide +kernel
theorem dX9_readsOrder_5 : decode cX9_readsOrder 5 = .ok (.iload_n 1, 1) := by decide +kernel
theorem dX9_readsOrder_6 : decode cX9_readsOrder 6 = .ok (.invokestatic 227, 3) := by decide +kernel
theorem dX9_readsOrder_9 : decode cX9_readsOrder 9 = .ok (.istore_n 2, 1) := by decide +kernel
theorem dX9_readsOrder_10 : decode cX9_readsOrder 10 = .ok (.iload_n 2, 1) := by decide +kernel
theorem dX9_readsOrder_11 : decode cX9_readsOrder 11 = .ok (.iconst (-1), 1) := by decide +kernel
theorem dX9_readsOrder_12 : decode cX9_readsOrder 12 = .ok (.if_icmp .ne 11, 3) := by decide +kernel
theorem dX9_readsOrder_15 : decode cX9_readsOrder 15 = .ok (.iload_n 1, 1) := by decide +kernel
theorem dX9_readsOrder_16 : decode cX9_readsOrder 16 = .ok (.bipush 119, 2) := by decide +kernel
theorem dX9_readsOrder_18 : decode cX9_readsOrder 18 = .ok (.if_icmp .eq 5, 3) := by decide +kernel
theorem dX9_readsOrder_21 : decode cX9_readsOrder 21 = .ok (.iconst 0, 1) := by decide +kernel
theorem dX9_readsOrder_22 : decode cX9_readsOrder 22 = .ok (.ireturn, 1) := by decide +kernel
theorem dX9_readsOrder_23 : decode cX9_readsOrder 23 = .ok (.aload_n 0, 1) := by decide +kernel
theorem dX9_readsOrder_24 : decode cX9_readsOrder 24 = .ok (.dup, 1) := by decide +kernel
theorem dX9_readsOrder_25 : decode cX9_readsOrder 25 = .ok (.getfield 218, 3) := by decide +kernel
theorem dX9_readsOrder_28 : decode cX9_readsOrder 28 = .ok (.iconst 1, 1) := by decide +kernel
theorem dX9_readsOrder_29 : decode cX9_readsOrder 29 = .ok (.iadd, 1) := by decide +kernel
theorem dX9_readsOrder_30 : decode cX9_readsOrder 30 = .ok (.putfield 218, 3) := by decide +kernel
theorem dX9_readsOrder_33 : decode cX9_readsOrder 33 = .ok (.iload_n 2, 1) := by decide +kernel
theorem dX9_readsOrder_34 : decode cX9_readsOrder 34 = .ok (.iconst (-1), 1) := by decide +kernel
theorem dX9_readsOrder_35 : decode cX9_readsOrder 35 = .ok (.if_icmp .eq 46, 3) := by decide +kernel
theorem dX9_readsOrder_38 : decode cX9_readsOrder 38 = .ok (.aload_n 0, 1) := by decide +kernel
theorem dX9_readsOrder_39 : decode cX9_readsOrder 39 = .ok (.invokevirtual 224, 3) := by decide +kernel
theorem dX9_readsOrder_42 : decode cX9_readsOrder 42 = .ok (.istore_n 3, 1) := by decide +kernel
theorem dX9_readsOrder_43 : decode cX9_readsOrder 43 = .ok (.iload_n 3, 1) := by decide +kernel
theorem dX9_readsOrder_44 : decode cX9_readsOrder 44 = .ok (.bipush 43, 2) := by decide +kernel
theorem dX9_readsOrder_46 : decode cX9_readsOrder 46 = .ok (.if_icmp .eq 11, 3) := by decide +kernel
theorem dX9_readsOrder_49 : decode cX9_readsOrder 49 = .ok (.iload_n 3, 1) := by decide +kernel
theorem dX9_readsOrder_50 : decode cX9_readsOrder 50 = .ok (.bipush 45, 2) := by decide +kernel
theorem dX9_readsOrder_52 : decode cX9_readsOrder 52 = .ok (.if_icmp .eq 5, 3) := by decide +kernel
theorem dX9_readsOrder_55 : decode cX9_readsOrder 55 = .ok (.iconst 0, 1) := by decide +kernel
theorem dX9_readsOrder_56 : decode cX9_readsOrder 56 = .ok (.ireturn, 1) := by decide +kernel
theorem dX9_readsOrder_57 : decode cX9_readsOrder 57 = .ok (.iload_n 2, 1) := by decide +kernel
theorem dX9_readsOrder_58 : decode cX9_readsOrder 58 = .ok (.iload_n 3, 1) := by decide +kernel
theorem dX9_readsOrder_59 : decode cX9_readsOrder 59 = .ok (.bipush 45, 2) := by decide +kernel
theorem dX9_readsOrder_61 : decode cX9_readsOrder 61 = .ok (.if_icmp .ne 7, 3) := by decide +kernel
theorem dX9_readsOrder_64 : decode cX9_readsOrder 64 = .ok (.iconst 1, 1) := by decide +kernel
theorem dX9_readsOrder_65 : decode cX9_readsOrder 65 = .ok (.goto 4, 3) := by decide +kernel
theorem dX9_readsOrder_68 : decode cX9_readsOrder 68 = .ok (.iconst 0, 1) := by decide +kernel
theorem dX9_readsOrder_69 : decode cX9_readsOrder 69 = .ok (.iadd, 1) := by decide +kernel
theorem dX9_readsOrder_70 : decode cX9_readsOrder 70 = .ok (.istore_n 2, 1) := by decide +kernel
theorem dX9_readsOrder_71 : decode cX9_readsOrder 71 = .ok (.aload_n 0, 1) := by decide +kernel
theorem dX9_readsOrder_72 : decode cX9_readsOrder 72 = .ok (.dup, 1) := by decide +kernel
theorem dX9_readsOrder_73 : decode cX9_readsOrder 73 = .ok (.getfield 218, 3) := by decide +kernel
theorem dX9_readsOrder_76 : decode cX9_readsOrder 76 = .ok (.iconst 1, 1) := by decide +kernel
theorem dX9_readsOrder_77 : decode cX9_readsOrder 77 = .ok (.iadd, 1) := by decide +kernel
theorem dX9_readsOrder_78 : decode cX9_readsOrder 78 = .ok (.putfield 218, 3) := by decide +kernel
theorem dX9_readsOrder_81 : decode cX9_readsOrder 81 = .ok (.aload_n 0, 1) := by decide +kernel
theorem dX9_readsOrder_82 : decode cX9_readsOrder 82 = .ok (.invokevirtual 230, 3) := by decide +kernel
theorem dX9_readsOrder_85 : decode cX9_readsOrder 85 = .ok (.istore_n 3, 1) := by decide +kernel
theorem dX9_readsOrder_86 : decode cX9_readsOrder 86 = .ok (.iload_n 3, 1) := by decide +kernel
theorem dX9_readsOrder_87 : decode cX9_readsOrder 87 = .ok (.ifCond .eq 12, 3) := by decide +kernel
theorem dX9_readsOrder_90 : decode cX9_readsOrder 90 = .ok (.aload_n 0, 1) := by decide +kernel
theorem dX9_readsOrder_91 : decode cX9_readsOrder 91 = .ok (.invokevirtual 224, 3) := by decide +kernel
theorem dX9_readsOrder_94 : decode cX9_readsOrder 94 = .ok (.bipush 59, 2) := by decide +kernel
theorem dX9_readsOrder_96 : decode cX9_readsOrder 96 = .ok (.if_icmp .eq 5, 3) := by decide +kernel
theorem dX9_readsOrder_99 : decode cX9_readsOrder 99 = .ok (.iconst 0, 1) := by decide +kernel
theorem dX9_readsOrder_100 : decode cX9_readsOrder 100 = .ok (.ireturn, 1) := by decide +kernel
theorem dX9_readsOrder_101 : decode cX9_readsOrder 101 = .ok (.aload_n 0, 1) := by decide +kernel
theorem dX9_readsOrder_102 : decode cX9_readsOrder 102 = .ok (.dup, 1) := by decide +kernel
theorem dX9_readsOrder_103 : decode cX9_readsOrder 103 = .ok (.getfield 218, 3) := by decide +kernel
theorem dX9_readsOrder_106 : decode cX9_readsOrder 106 = .ok (.iconst 1, 1) := by decide +kernel
theorem dX9_readsOrder_107 : decode cX9_readsOrder 107 = .ok (.iadd, 1) := by decide +kernel
theorem dX9_readsOrder_108 : decode cX9_readsOrder 108 = .ok (.putfield 218, 3) := by decide +kernel
theorem dX9_readsOrder_111 : decode cX9_readsOrder 111 = .ok (.aload_n 0, 1) := by decide +kernel
theorem dX9_readsOrder_112 : decode cX9_readsOrder 112 = .ok (.getfield 22, 3) := by decide +kernel
theorem dX9_readsOrder_115 : decode cX9_readsOrder 115 = .ok (.aload_n 0, 1) := by decide +kernel
theorem dX9_readsOrder_116 : decode cX9_readsOrder 116 = .ok (.getfield 233, 3) := by decide +kernel
theorem dX9_readsOrder_119 : decode cX9_readsOrder 119 = .ok (.iload_n 2, 1) := by decide +kernel
theorem dX9_readsOrder_120 : decode cX9_readsOrder 120 = .ok (.iconst (-1), 1) := by decide +kernel
theorem dX9_readsOrder_121 : decode cX9_readsOrder 121 = .ok (.if_icmp .ne 7, 3) := by decide +kernel
theorem dX9_readsOrder_124 : decode cX9_readsOrder 124 = .ok (.iconst 0, 1) := by decide +kernel
theorem dX9_readsOrder_125 : decode cX9_readsOrder 125 = .ok (.goto 6, 3) := by decide +kernel
theorem dX9_readsOrder_128 : decode cX9_readsOrder 128 = .ok (.iconst 1, 1) := by decide +kernel
theorem dX9_readsOrder_129 : decode cX9_readsOrder 129 = .ok (.iload_n 2, 1) := by decide +kernel
theorem dX9_readsOrder_130 : decode cX9_readsOrder 130 = .ok (.ishl, 1) := by decide +kernel
theorem dX9_readsOrder_131 : decode cX9_readsOrder 131 = .ok (.iastore, 1) := by decide +kernel
theorem dX9_readsOrder_132 : decode cX9_readsOrder 132 = .ok (.aload_n 0, 1) := by decide +kernel
theorem dX9_readsOrder_133 : decode cX9_readsOrder 133 = .ok (.getfield 25, 3) := by decide +kernel
theorem dX9_readsOrder_136 : decode cX9_readsOrder 136 = .ok (.aload_n 0, 1) := by decide +kernel
theorem dX9_readsOrder_137 : decode cX9_readsOrder 137 = .ok (.getfield 233, 3) := by decide +kernel
theorem dX9_readsOrder_140 : decode cX9_readsOrder 140 = .ok (.iload_n 3, 1) := by decide +kernel
theorem dX9_readsOrder_141 : decode cX9_readsOrder 141 = .ok (.iastore, 1) := by decide +kernel
theorem dX9_readsOrder_142 : decode cX9_readsOrder 142 = .ok (.aload_n 0, 1) := by decide +kernel
theorem dX9_readsOrder_143 : decode cX9_readsOrder 143 = .ok (.dup, 1) := by decide +kernel
theorem dX9_readsOrder_144 : decode cX9_readsOrder 144 = .ok (.getfield 233, 3) := by decide +kernel
theorem dX9_readsOrder_147 : decode cX9_readsOrder 147 = .ok (.iconst 1, 1) := by decide +kernel
theorem dX9_readsOrder_148 : decode cX9_readsOrder 148 = .ok (.iadd, 1) := by decide +kernel
theorem dX9_readsOrder_149 : decode cX9_readsOrder 149 = .ok (.putfield 233, 3) := by decide +kernel
theorem dX9_readsOrder_152 : decode cX9_readsOrder 152 = .ok (.iconst 1, 1) := by decide +kernel
theorem dX9_readsOrder_153 : decode cX9_readsOrder 153 = .ok (.ireturn, 1) := by decide +kernel
theorem dX9_readsAll_0 : decode cX9_readsAll 0 = .ok (.aload_n 0, 1) := by decide +kernel
theorem dX9_readsAll_1 : decode cX9_readsAll 1 = .ok (.iconst 0, 1) := by decide +kernel
theorem dX9_readsAll_2 : decode cX9_readsAll 2 = .ok (.putfield 218, 3) := by decide +kernel
theorem dX9_readsAll_5 : decode cX9_readsAll 5 = .ok (.aload_n 0, 1) := by decide +kernel
theorem dX9_readsAll_6 : decode cX9_readsAll 6 = .ok (.iconst 0, 1) := by decide +kernel
theorem dX9_readsAll_7 : decode cX9_readsAll 7 = .ok (.putfield 233, 3) := by decide +kernel
theorem dX9_readsAll_10 : decode cX9_readsAll 10 = .ok (.iconst 1, 1) := by decide +kernel
theorem dX9_readsAll_11 : decode cX9_readsAll 11 = .ok (.istore_n 1, 1) := by decide +kernel
theorem dX9_readsAll_12 : decode cX9_readsAll 12 = .ok (.iload_n 1, 1) := by decide +kernel
theorem dX9_readsAll_13 : decode cX9_readsAll 13 = .ok (.ifCond .eq 19, 3) := by decide +kernel
theorem dX9_readsAll_16 : decode cX9_readsAll 16 = .ok (.aload_n 0, 1) := by decide +kernel
theorem dX9_readsAll_17 : decode cX9_readsAll 17 = .ok (.invokevirtual 224, 3) := by decide +kernel
theorem dX9_readsAll_20 : decode cX9_readsAll 20 = .ok (.iconst (-1), 1) := by decide +kernel
theorem dX9_readsAll_21 : decode cX9_readsAll 21 = .ok (.if_icmp .eq 11, 3) := by decide +kernel
theorem dX9_readsAll_24 : decode cX9_readsAll 24 = .ok (.aload_n 0, 1) := by decide +kernel
theorem dX9_readsAll_25 : decode cX9_readsAll 25 = .ok (.invokevirtual 236, 3) := by decide +kernel
theorem dX9_readsAll_28 : decode cX9_readsAll 28 = .ok (.istore_n 1, 1) := by decide +kernel
theorem dX9_readsAll_29 : decode cX9_readsAll 29 = .ok (.goto (-17), 3) := by decide +kernel
theorem dX9_readsAll_32 : decode cX9_readsAll 32 = .ok (.iload_n 1, 1) := by decide +kernel
theorem dX9_readsAll_33 : decode cX9_readsAll 33 = .ok (.ireturn, 1) := by decide +kernel
theorem dX9_runScript_0 : decode cX9_runScript 0 = .ok (.aload_n 0, 1) := by decide +kernel
theorem dX9_runScript_1 : decode cX9_runScript 1 = .ok (.iconst 0, 1) := by decide +kernel
theorem dX9_runScript_2 : decode cX9_runScript 2 = .ok (.putfield 28, 3) := by decide +kernel
theorem dX9_runScript_5 : decode cX9_runScript 5 = .ok (.aload_n 0, 1) := by decide +kernel
theorem dX9_runScript_6 : decode cX9_runScript 6 = .ok (.invokevirtual 240, 3) := by decide +kernel
theorem dX9_runScript_9 : decode cX9_runScript 9 = .ok (.ifCond .ne 11, 3) := by decide +kernel
theorem dX9_runScript_12 : decode cX9_runScript 12 = .ok (.bipush (-10), 2) := by decide +kernel
theorem dX9_runScript_14 : decode cX9_runScript 14 = .ok (.aload_n 0, 1) := by decide +kernel
theorem dX9_runScript_15 : decode cX9_runScript 15 = .ok (.getfield 218, 3) := by decide +kernel
theorem dX9_runScript_18 : decode cX9_runScript 18 = .ok (.isub, 1) := by decide +kernel
theorem dX9_runScript_19 : decode cX9_runScript 19 = .ok (.ireturn, 1) := by decide +kernel
theorem dX9_runScript_20 : decode cX9_runScript 20 = .ok (.aload_n 0, 1) := by decide +kernel
theorem dX9_runScript_21 : decode cX9_runScript 21 = .ok (.invokevirtual 35, 3) := by decide +kernel
theorem dX9_runScript_24 : decode cX9_runScript 24 = .ok (.iconst 0, 1) := by decide +kernel
theorem dX9_runScript_25 : decode cX9_runScript 25 = .ok (.istore_n 1, 1) := by decide +kernel
theorem dX9_runScript_26 : decode cX9_runScript 26 = .ok (.iconst 0, 1) := by decide +kernel
theorem dX9_runScript_27 : decode cX9_runScript 27 = .ok (.istore_n 2, 1) := by decide +kernel
theorem dX9_runScript_28 : decode cX9_runScript 28 = .ok (.iload_n 2, 1) := by decide +kernel
theorem dX9_runScript_29 : decode cX9_runScript 29 = .ok (.aload_n 0, 1) := by decide +kernel
theorem dX9_runScript_30 : decode cX9_runScript 30 = .ok (.getfield 233, 3) := by decide +kernel
theorem dX9_runScript_33 : decode cX9_runScript 33 = .ok (.if_icmp .ge 41, 3) := by decide +kernel
theorem dX9_runScript_36 : decode cX9_runScript 36 = .ok (.iconst 0, 1) := by decide +kernel
theorem dX9_runScript_37 : decode cX9_runScript 37 = .ok (.istore_n 3, 1) := by decide +kernel
theorem dX9_runScript_38 : decode cX9_runScript 38 = .ok (.iload_n 3, 1) := by decide +kernel
theorem dX9_runScript_39 : decode cX9_runScript 39 = .ok (.aload_n 0, 1) := by decide +kernel
theorem dX9_runScript_40 : decode cX9_runScript 40 = .ok (.getfield 25, 3) := by decide +kernel
theorem dX9_runScript_43 : decode cX9_runScript 43 = .ok (.iload_n 2, 1) := by decide +kernel
theorem dX9_runScript_44 : decode cX9_runScript 44 = .ok (.iaload, 1) := by decide +kernel
theorem dX9_runScript_45 : decode cX9_runScript 45 = .ok (.if_icmp .ge 23, 3) := by decide +kernel
theorem dX9_runScript_48 : decode cX9_runScript 48 = .ok (.aload_n 0, 1) := by decide +kernel
theorem dX9_runScript_49 : decode cX9_runScript 49 = .ok (.aload_n 0, 1) := by decide +kernel
theorem dX9_runScript_50 : decode cX9_runScript 50 = .ok (.getfield 22, 3) := by decide +kernel
theorem dX9_runScript_53 : decode cX9_runScript 53 = .ok (.iload_n 2, 1) := by decide +kernel
theorem dX9_runScript_54 : decode cX9_runScript 54 = .ok (.iaload, 1) := by decide +kernel
theorem dX9_runScript_55 : decode cX9_runScript 55 = .ok (.invokevirtual 201, 3) := by decide +kernel
theorem dX9_runScript_58 : decode cX9_runScript 58 = .ok (.pop, 1) := by decide +kernel
theorem dX9_runScript_59 : decode cX9_runScript 59 = .ok (.iinc 1 1, 3) := by decide +kernel
theorem dX9_runScript_62 : decode cX9_runScript 62 = .ok (.iinc 3 1, 3) := by decide +kernel
theorem dX9_runScript_65 : decode cX9_runScript 65 = .ok (.goto (-27), 3) := by decide +kernel
theorem dX9_runScript_68 : decode cX9_runScript 68 = .ok (.iinc 2 1, 3) := by decide +kernel
theorem dX9_runScript_71 : decode cX9_runScript 71 = .ok (.goto (-43), 3) := by decide +kernel
theorem dX9_runScript_74 : decode cX9_runScript 74 = .ok (.iload_n 1, 1) := by decide +kernel
theorem dX9_runScript_75 : decode cX9_runScript 75 = .ok (.ireturn, 1) := by decide +kernel
theorem dX9_undo_0 : decode cX9_undo 0 = .ok (.aload_n 0, 1) := by decide +kernel
theorem dX9_undo_1 : decode cX9_undo 1 = .ok (.iconst 0, 1) := by decide +kernel
theorem dX9_undo_2 : decode cX9_undo 2 = .ok (.putfield 28, 3) := by decide +kernel
theorem dX9_undo_5 : decode cX9_undo 5 = .ok (.aload_n 0, 1) := by decide +kernel
theorem dX9_undo_6 : decode cX9_undo 6 = .ok (.getfield 32, 3) := by decide +kernel
theorem dX9_undo_9 : decode cX9_undo 9 = .ok (.ifCond .ne 9, 3) := by decide +kernel
theorem dX9_undo_12 : decode cX9_undo 12 = .ok (.aload_n 0, 1) := by decide +kernel
theorem dX9_undo_13 : decode cX9_undo 13 = .ok (.iconst 1, 1) := by decide +kernel
theorem dX9_undo_14 : decode cX9_undo 14 = .ok (.invokevirtual 136, 3) := by decide +kernel
theorem dX9_undo_17 : decode cX9_undo 17 = .ok (.ireturn, 1) := by decide +kernel
theorem dX9_undo_18 : decode cX9_undo 18 = .ok (.aload_n 0, 1) := by decide +kernel
theorem dX9_undo_19 : decode cX9_undo 19 = .ok (.dup, 1) := by decide +kernel
theorem dX9_undo_20 : decode cX9_undo 20 = .ok (.getfield 32, 3) := by decide +kernel
theorem dX9_undo_23 : decode cX9_undo 23 = .ok (.iconst 1, 1) := by decide +kernel
theorem dX9_undo_24 : decode cX9_undo 24 = .ok (.isub, 1) := by decide +kernel
theorem dX9_undo_25 : decode cX9_undo 25 = .ok (.putfield 32, 3) := by decide +kernel
theorem dX9_undo_28 : decode cX9_undo 28 = .ok (.iconst 0, 1) := by decide +kernel
theorem dX9_undo_29 : decode cX9_undo 29 = .ok (.istore_n 1, 1) := by decide +kernel
theorem dX9_undo_30 : decode cX9_undo 30 = .ok (.iload_n 1, 1) := by decide +kernel
theorem dX9_undo_31 : decode cX9_undo 31 = .ok (.sipush 246, 3) := by decide +kernel
theorem dX9_undo_34 : decode cX9_undo 34 = .ok (.if_icmp .ge 30, 3) := by decide +kernel
theorem dX9_undo_37 : decode cX9_undo 37 = .ok (.aload_n 0, 1) := by decide +kernel
theorem dX9_undo_38 : decode cX9_undo 38 = .ok (.getfield 7, 3) := by decide +kernel
theorem dX9_undo_41 : decode cX9_undo 41 = .ok (.iload_n 1, 1) := by decide +kernel
theorem dX9_undo_42 : decode cX9_undo 42 = .ok (.aload_n 0, 1) := by decide +kernel
theorem dX9_undo_43 : decode cX9_undo 43 = .ok (.getfield 13, 3) := by decide +kernel
theorem dX9_undo_46 : decode cX9_undo 46 = .ok (.sipush 246, 3) := by decide +kernel
theorem dX9_undo_49 : decode cX9_undo 49 = .ok (.aload_n 0, 1) := by decide +kernel
theorem dX9_undo_50 : decode cX9_undo 50 = .ok (.getfield 32, 3) := by decide +kernel
theorem dX9_undo_53 : decode cX9_undo 53 = .ok (.imul, 1) := by decide +kernel
theorem dX9_undo_54 : decode cX9_undo 54 = .ok (.iload_n 1, 1) := by decide +kernel
theorem dX9_undo_55 : decode cX9_undo 55 = .ok (.iadd, 1) := by decide +kernel
theorem dX9_undo_56 : decode cX9_undo 56 = .ok (.iaload, 1) := by decide +kernel
theorem dX9_undo_57 : decode cX9_undo 57 = .ok (.iastore, 1) := by decide +kernel
theorem dX9_undo_58 : decode cX9_undo 58 = .ok (.iinc 1 1, 3) := by decide +kernel
theorem dX9_undo_61 : decode cX9_undo 61 = .ok (.goto (-31), 3) := by decide +kernel
theorem dX9_undo_64 : decode cX9_undo 64 = .ok (.aload_n 0, 1) := by decide +kernel
theorem dX9_undo_65 : decode cX9_undo 65 = .ok (.getfield 32, 3) := by decide +kernel
theorem dX9_undo_68 : decode cX9_undo 68 = .ok (.ireturn, 1) := by decide +kernel
theorem dX9_digest_0 : decode cX9_digest 0 = .ok (.aload_n 0, 1) := by decide +kernel
theorem dX9_digest_1 : decode cX9_digest 1 = .ok (.iconst 0, 1) := by decide +kernel
theorem dX9_digest_2 : decode cX9_digest 2 = .ok (.putfield 28, 3) := by decide +kernel
theorem dX9_digest_5 : decode cX9_digest 5 = .ok (.ldc2_w 243, 3) := by decide +kernel
theorem dX9_digest_8 : decode cX9_digest 8 = .ok (.ldc2_w 245, 3) := by decide +kernel
theorem dX9_digest_11 : decode cX9_digest 11 = .ok (.aload_n 0, 1) := by decide +kernel
theorem dX9_digest_12 : decode cX9_digest 12 = .ok (.getfield 32, 3) := by decide +kernel
theorem dX9_digest_15 : decode cX9_digest 15 = .ok (.i2l, 1) := by decide +kernel
theorem dX9_digest_16 : decode cX9_digest 16 = .ok (.ladd, 1) := by decide +kernel
theorem dX9_digest_17 : decode cX9_digest 17 = .ok (.lmul, 1) := by decide +kernel
theorem dX9_digest_18 : decode cX9_digest 18 = .ok (.aload_n 0, 1) := by decide +kernel
theorem dX9_digest_19 : decode cX9_digest 19 = .ok (.getfield 215, 3) := by decide +kernel
theorem dX9_digest_22 : decode cX9_digest 22 = .ok (.i2l, 1) := by decide +kernel
theorem dX9_digest_23 : decode cX9_digest 23 = .ok (.ladd, 1) := by decide +kernel
theorem dX9_digest_24 : decode cX9_digest 24 = .ok (.lstore_n 1, 1) := by decide +kernel
theorem dX9_digest_25 : decode cX9_digest 25 = .ok (.iconst 0, 1) := by decide +kernel
theorem dX9_digest_26 : decode cX9_digest 26 = .ok (.istore_n 3, 1) := by decide +kernel
theorem dX9_digest_27 : decode cX9_digest 27 = .ok (.iload_n 3, 1) := by decide +kernel
theorem dX9_digest_28 : decode cX9_digest 28 = .ok (.bipush 12, 2) := by decide +kernel
theorem dX9_digest_30 : decode cX9_digest 30 = .ok (.if_icmp .ge 22, 3) := by decide +kernel
theorem dX9_digest_33 : decode cX9_digest 33 = .ok (.ldc2_w 243, 3) := by decide +kernel
theorem dX9_digest_36 : decode cX9_digest 36 = .ok (.lload_n 1, 1) := by decide +kernel
theorem dX9_digest_37 : decode cX9_digest 37 = .ok (.lmul, 1) := by decide +kernel
theorem dX9_digest_38 : decode cX9_digest 38 = .ok (.aload_n 0, 1) := by decide +kernel
theorem dX9_digest_39 : decode cX9_digest 39 = .ok (.iload_n 3, 1) := by decide +kernel
theorem dX9_digest_40 : decode cX9_digest 40 = .ok (.invokevirtual 207, 3) := by decide +kernel
theorem dX9_digest_43 : decode cX9_digest 43 = .ok (.i2l, 1) := by decide +kernel
theorem dX9_digest_44 : decode cX9_digest 44 = .ok (.ladd, 1) := by decide +kernel
theorem dX9_digest_45 : decode cX9_digest 45 = .ok (.lstore_n 1, 1) := by decide +kernel
theorem dX9_digest_46 : decode cX9_digest 46 = .ok (.iinc 3 1, 3) := by decide +kernel
theorem dX9_digest_49 : decode cX9_digest 49 = .ok (.goto (-22), 3) := by decide +kernel
theorem dX9_digest_52 : decode cX9_digest 52 = .ok (.iconst 0, 1) := by decide +kernel
theorem dX9_digest_53 : decode cX9_digest 53 = .ok (.istore_n 3, 1) := by decide +kernel
theorem dX9_digest_54 : decode cX9_digest 54 = .ok (.iload_n 3, 1) := by decide +kernel
theorem dX9_digest_55 : decode cX9_digest 55 = .ok (.bipush 8, 2) := by decide +kernel
theorem dX9_digest_57 : decode cX9_digest 57 = .ok (.if_icmp .ge 22, 3) := by decide +kernel
theorem dX9_digest_60 : decode cX9_digest 60 = .ok (.ldc2_w 243, 3) := by decide +kernel
theorem dX9_digest_63 : decode cX9_digest 63 = .ok (.lload_n 1, 1) := by decide +kernel
theorem dX9_digest_64 : decode cX9_digest 64 = .ok (.lmul, 1) := by decide +kernel
theorem dX9_digest_65 : decode cX9_digest 65 = .ok (.aload_n 0, 1) := by decide +kernel
theorem dX9_digest_66 : decode cX9_digest 66 = .ok (.iload_n 3, 1) := by decide +kernel
theorem dX9_digest_67 : decode cX9_digest 67 = .ok (.invokevirtual 210, 3) := by decide +kernel
theorem dX9_digest_70 : decode cX9_digest 70 = .ok (.i2l, 1) := by decide +kernel
theorem dX9_digest_71 : decode cX9_digest 71 = .ok (.ladd, 1) := by decide +kernel
theorem dX9_digest_72 : decode cX9_digest 72 = .ok (.lstore_n 1, 1) := by decide +kernel
theorem dX9_digest_73 : decode cX9_digest 73 = .ok (.iinc 3 1, 3) := by decide +kernel
theorem dX9_digest_76 : decode cX9_digest 76 = .ok (.goto (-22), 3) := by decide +kernel
theorem dX9_digest_79 : decode cX9_digest 79 = .ok (.ldc2_w 243, 3) := by decide +kernel
theorem dX9_digest_82 : decode cX9_digest 82 = .ok (.ldc2_w 243, 3) := by decide +kernel
theorem dX9_digest_85 : decode cX9_digest 85 = .ok (.lload_n 1, 1) := by decide +kernel
theorem dX9_digest_86 : decode cX9_digest 86 = .ok (.lmul, 1) := by decide +kernel
theorem dX9_digest_87 : decode cX9_digest 87 = .ok (.aload_n 0, 1) := by decide +kernel
theorem dX9_digest_88 : decode cX9_digest 88 = .ok (.invokevirtual 204, 3) := by decide +kernel
theorem dX9_digest_91 : decode cX9_digest 91 = .ok (.i2l, 1) := by decide +kernel
theorem dX9_digest_92 : decode cX9_digest 92 = .ok (.ladd, 1) := by decide +kernel
theorem dX9_digest_93 : decode cX9_digest 93 = .ok (.lmul, 1) := by decide +kernel
theorem dX9_digest_94 : decode cX9_digest 94 = .ok (.aload_n 0, 1) := by decide +kernel
theorem dX9_digest_95 : decode cX9_digest 95 = .ok (.getfield 7, 3) := by decide +kernel
theorem dX9_digest_98 : decode cX9_digest 98 = .ok (.iconst 5, 1) := by decide +kernel
theorem dX9_digest_99 : decode cX9_digest 99 = .ok (.iaload, 1) := by decide +kernel
theorem dX9_digest_100 : decode cX9_digest 100 = .ok (.i2l, 1) := by decide +kernel
theorem dX9_digest_101 : decode cX9_digest 101 = .ok (.ladd, 1) := by decide +kernel
theorem dX9_digest_102 : decode cX9_digest 102 = .ok (.lstore_n 1, 1) := by decide +kernel
theorem dX9_digest_103 : decode cX9_digest 103 = .ok (.iconst 0, 1) := by decide +kernel
theorem dX9_digest_104 : decode cX9_digest 104 = .ok (.istore_n 3, 1) := by decide +kernel
theorem dX9_digest_105 : decode cX9_digest 105 = .ok (.iload_n 3, 1) := by decide +kernel
theorem dX9_digest_106 : decode cX9_digest 106 = .ok (.iconst 4, 1) := by decide +kernel
theorem dX9_digest_107 : decode cX9_digest 107 = .ok (.if_icmp .ge 26, 3) := by decide +kernel
theorem dX9_digest_110 : decode cX9_digest 110 = .ok (.ldc2_w 243, 3) := by decide +kernel
theorem dX9_digest_113 : decode cX9_digest 113 = .ok (.lload_n 1, 1) := by decide +kernel
theorem dX9_digest_114 : decode cX9_digest 114 = .ok (.lmul, 1) := by decide +kernel
theorem dX9_digest_115 : decode cX9_digest 115 = .ok (.aload_n 0, 1) := by decide +kernel
theorem dX9_digest_116 : decode cX9_digest 116 = .ok (.getfield 7, 3) := by decide +kernel
theorem dX9_digest_119 : decode cX9_digest 119 = .ok (.bipush 43, 2) := by decide +kernel
theorem dX9_digest_121 : decode cX9_digest 121 = .ok (.iload_n 3, 1) := by decide +kernel
theorem dX9_digest_122 : decode cX9_digest 122 = .ok (.iadd, 1) := by decide +kernel
theorem dX9_digest_123 : decode cX9_digest 123 = .ok (.iaload, 1) := by decide +kernel
theorem dX9_digest_124 : decode cX9_digest 124 = .ok (.i2l, 1) := by decide +kernel
theorem dX9_digest_125 : decode cX9_digest 125 = .ok (.ladd, 1) := by decide +kernel
theorem dX9_digest_126 : decode cX9_digest 126 = .ok (.lstore_n 1, 1) := by decide +kernel
theorem dX9_digest_127 : decode cX9_digest 127 = .ok (.iinc 3 1, 3) := by decide +kernel
theorem dX9_digest_130 : decode cX9_digest 130 = .ok (.goto (-25), 3) := by decide +kernel
theorem dX9_digest_133 : decode cX9_digest 133 = .ok (.ldc2_w 243, 3) := by decide +kernel
theorem dX9_digest_136 : decode cX9_digest 136 = .ok (.lload_n 1, 1) := by decide +kernel
theorem dX9_digest_137 : decode cX9_digest 137 = .ok (.lmul, 1) := by decide +kernel
theorem dX9_digest_138 : decode cX9_digest 138 = .ok (.aload_n 0, 1) := by decide +kernel
theorem dX9_digest_139 : decode cX9_digest 139 = .ok (.getfield 7, 3) := by decide +kernel
theorem dX9_digest_142 : decode cX9_digest 142 = .ok (.bipush 10, 2) := by decide +kernel
theorem dX9_digest_144 : decode cX9_digest 144 = .ok (.iaload, 1) := by decide +kernel
theorem dX9_digest_145 : decode cX9_digest 145 = .ok (.i2l, 1) := by decide +kernel
theorem dX9_digest_146 : decode cX9_digest 146 = .ok (.ladd, 1) := by decide +kernel
theorem dX9_digest_147 : decode cX9_digest 147 = .ok (.lstore_n 1, 1) := by decide +kernel
theorem dX9_digest_148 : decode cX9_digest 148 = .ok (.iconst 0, 1) := by decide +kernel
theorem dX9_digest_149 : decode cX9_digest 149 = .ok (.istore_n 3, 1) := by decide +kernel
theorem dX9_digest_150 : decode cX9_digest 150 = .ok (.iload_n 3, 1) := by decide +kernel
theorem dX9_digest_151 : decode cX9_digest 151 = .ok (.iconst 4, 1) := by decide +kernel
theorem dX9_digest_152 : decode cX9_digest 152 = .ok (.if_icmp .ge 22, 3) := by decide +kernel
theorem dX9_digest_155 : decode cX9_digest 155 = .ok (.ldc2_w 243, 3) := by decide +kernel
theorem dX9_digest_158 : decode cX9_digest 158 = .ok (.lload_n 1, 1) := by decide +kernel
theorem dX9_digest_159 : decode cX9_digest 159 = .ok (.lmul, 1) := by decide +kernel
theorem dX9_digest_160 : decode cX9_digest 160 = .ok (.aload_n 0, 1) := by decide +kernel
theorem dX9_digest_161 : decode cX9_digest 161 = .ok (.iload_n 3, 1) := by decide +kernel
theorem dX9_digest_162 : decode cX9_digest 162 = .ok (.invokevirtual 147, 3) := by decide +kernel
theorem dX9_digest_165 : decode cX9_digest 165 = .ok (.i2l, 1) := by decide +kernel
theorem dX9_digest_166 : decode cX9_digest 166 = .ok (.ladd, 1) := by decide +kernel
theorem dX9_digest_167 : decode cX9_digest 167 = .ok (.lstore_n 1, 1) := by decide +kernel
theorem dX9_digest_168 : decode cX9_digest 168 = .ok (.iinc 3 1, 3) := by decide +kernel
theorem dX9_digest_171 : decode cX9_digest 171 = .ok (.goto (-21), 3) := by decide +kernel
theorem dX9_digest_174 : decode cX9_digest 174 = .ok (.iconst 0, 1) := by decide +kernel
theorem dX9_digest_175 : decode cX9_digest 175 = .ok (.istore_n 3, 1) := by decide +kernel
theorem dX9_digest_176 : decode cX9_digest 176 = .ok (.iload_n 3, 1) := by decide +kernel
theorem dX9_digest_177 : decode cX9_digest 177 = .ok (.iconst 4, 1) := by decide +kernel
theorem dX9_digest_178 : decode cX9_digest 178 = .ok (.aload_n 0, 1) := by decide +kernel
theorem dX9_digest_179 : decode cX9_digest 179 = .ok (.getfield 7, 3) := by decide +kernel
theorem dX9_digest_182 : decode cX9_digest 182 = .ok (.bipush 18, 2) := by decide +kernel
theorem dX9_digest_184 : decode cX9_digest 184 = .ok (.iaload, 1) := by decide +kernel
theorem dX9_digest_185 : decode cX9_digest 185 = .ok (.imul, 1) := by decide +kernel
theorem dX9_digest_186 : decode cX9_digest 186 = .ok (.if_icmp .gt 26, 3) := by decide +kernel
theorem dX9_digest_189 : decode cX9_digest 189 = .ok (.ldc2_w 243, 3) := by decide +kernel
theorem dX9_digest_192 : decode cX9_digest 192 = .ok (.lload_n 1, 1) := by decide +kernel
theorem dX9_digest_193 : decode cX9_digest 193 = .ok (.lmul, 1) := by decide +kernel
theorem dX9_digest_194 : decode cX9_digest 194 = .ok (.aload_n 0, 1) := by decide +kernel
theorem dX9_digest_195 : decode cX9_digest 195 = .ok (.getfield 7, 3) := by decide +kernel
theorem dX9_digest_198 : decode cX9_digest 198 = .ok (.bipush 18, 2) := by decide +kernel
theorem dX9_digest_200 : decode cX9_digest 200 = .ok (.iload_n 3, 1) := by decide +kernel
theorem dX9_digest_201 : decode cX9_digest 201 = .ok (.iadd, 1) := by decide +kernel
theorem dX9_digest_202 : decode cX9_digest 202 = .ok (.iaload, 1) := by decide +kernel
theorem dX9_digest_203 : decode cX9_digest 203 = .ok (.i2l, 1) := by decide +kernel
theorem dX9_digest_204 : decode cX9_digest 204 = .ok (.ladd, 1) := by decide +kernel
theorem dX9_digest_205 : decode cX9_digest 205 = .ok (.lstore_n 1, 1) := by decide +kernel
theorem dX9_digest_206 : decode cX9_digest 206 = .ok (.iinc 3 1, 3) := by decide +kernel
theorem dX9_digest_209 : decode cX9_digest 209 = .ok (.goto (-33), 3) := by decide +kernel
theorem dX9_digest_212 : decode cX9_digest 212 = .ok (.iconst 0, 1) := by decide +kernel
theorem dX9_digest_213 : decode cX9_digest 213 = .ok (.istore_n 3, 1) := by decide +kernel
theorem dX9_digest_214 : decode cX9_digest 214 = .ok (.iload_n 3, 1) := by decide +kernel
theorem dX9_digest_215 : decode cX9_digest 215 = .ok (.iconst 3, 1) := by decide +kernel
theorem dX9_digest_216 : decode cX9_digest 216 = .ok (.aload_n 0, 1) := by decide +kernel
theorem dX9_digest_217 : decode cX9_digest 217 = .ok (.getfield 7, 3) := by decide +kernel
theorem dX9_digest_220 : decode cX9_digest 220 = .ok (.sipush 143, 3) := by decide +kernel
theorem dX9_digest_223 : decode cX9_digest 223 = .ok (.iaload, 1) := by decide +kernel
theorem dX9_digest_224 : decode cX9_digest 224 = .ok (.imul, 1) := by decide +kernel
theorem dX9_digest_225 : decode cX9_digest 225 = .ok (.if_icmp .gt 27, 3) := by decide +kernel
theorem dX9_digest_228 : decode cX9_digest 228 = .ok (.ldc2_w 243, 3) := by decide +kernel
theorem dX9_digest_231 : decode cX9_digest 231 = .ok (.lload_n 1, 1) := by decide +kernel
theorem dX9_digest_232 : decode cX9_digest 232 = .ok (.lmul, 1) := by decide +kernel
theorem dX9_digest_233 : decode cX9_digest 233 = .ok (.aload_n 0, 1) := by decide +kernel
theorem dX9_digest_234 : decode cX9_digest 234 = .ok (.getfield 7, 3) := by decide +kernel
theorem dX9_digest_237 : decode cX9_digest 237 = .ok (.sipush 143, 3) := by decide +kernel
theorem dX9_digest_240 : decode cX9_digest 240 = .ok (.iload_n 3, 1) := by decide +kernel
theorem dX9_digest_241 : decode cX9_digest 241 = .ok (.iadd, 1) := by decide +kernel
theorem dX9_digest_242 : decode cX9_digest 242 = .ok (.iaload, 1) := by decide +kernel
theorem dX9_digest_243 : decode cX9_digest 243 = .ok (.i2l, 1) := by decide +kernel
theorem dX9_digest_244 : decode cX9_digest 244 = .ok (.ladd, 1) := by decide +kernel
theorem dX9_digest_245 : decode cX9_digest 245 = .ok (.lstore_n 1, 1) := by decide +kernel
theorem dX9_digest_246 : decode cX9_digest 246 = .ok (.iinc 3 1, 3) := by decide +kernel
theorem dX9_digest_249 : decode cX9_digest 249 = .ok (.goto (-35), 3) := by decide +kernel
theorem dX9_digest_252 : decode cX9_digest 252 = .ok (.iconst 0, 1) := by decide +kernel
theorem dX9_digest_253 : decode cX9_digest 253 = .ok (.istore_n 3, 1) := by decide +kernel
theorem dX9_digest_254 : decode cX9_digest 254 = .ok (.iload_n 3, 1) := by decide +kernel
theorem dX9_digest_255 : decode cX9_digest 255 = .ok (.bipush 12, 2) := by decide +kernel
theorem dX9_digest_257 : decode cX9_digest 257 = .ok (.if_icmp .ge 27, 3) := by decide +kernel
theorem dX9_digest_260 : decode cX9_digest 260 = .ok (.ldc2_w 243, 3) := by decide +kernel
theorem dX9_digest_263 : decode cX9_digest 263 = .ok (.lload_n 1, 1) := by decide +kernel
theorem dX9_digest_264 : decode cX9_digest 264 = .ok (.lmul, 1) := by decide +kernel
theorem dX9_digest_265 : decode cX9_digest 265 = .ok (.aload_n 0, 1) := by decide +kernel
theorem dX9_digest_266 : decode cX9_digest 266 = .ok (.getfield 7, 3) := by decide +kernel
theorem dX9_digest_269 : decode cX9_digest 269 = .ok (.sipush 234, 3) := by decide +kernel
theorem dX9_digest_272 : decode cX9_digest 272 = .ok (.iload_n 3, 1) := by decide +kernel
theorem dX9_digest_273 : decode cX9_digest 273 = .ok (.iadd, 1) := by decide +kernel
theorem dX9_digest_274 : decode cX9_digest 274 = .ok (.iaload, 1) := by decide +kernel
theorem dX9_digest_275 : decode cX9_digest 275 = .ok (.i2l, 1) := by decide +kernel
theorem dX9_digest_276 : decode cX9_digest 276 = .ok (.ladd, 1) := by decide +kernel
theorem dX9_digest_277 : decode cX9_digest 277 = .ok (.lstore_n 1, 1) := by decide +kernel
theorem dX9_digest_278 : decode cX9_digest 278 = .ok (.iinc 3 1, 3) := by decide +kernel
theorem dX9_digest_281 : decode cX9_digest 281 = .ok (.goto (-27), 3) := by decide +kernel
theorem dX9_digest_284 : decode cX9_digest 284 = .ok (.lload_n 1, 1) := by decide +kernel
theorem dX9_digest_285 : decode cX9_digest 285 = .ok (.lreturn, 1) := by decide +kernel
