theorem dX9_init_0 : decode cX9_init 0 = .ok (.aload_n 0, 1) := by decide +kernel
theorem dX9_init_1 : decode cX9_init 1 = .ok (.invokespecial 1, 3) := by decide +kernel
theorem dX9_init_4 : decode cX9_init 4 = .ok (.aload_n 0, 1) := by decide +kernel
theorem dX9_init_5 : decode cX9_init 5 = .ok (.sipush 246, 3) := by decide +kernel
theorem dX9_init_8 : decode cX9_init 8 = .ok (.newarray .int, 2) := by decide +kernel
theorem dX9_init_10 : decode cX9_init 10 = .ok (.putfield 7, 3) := by decide +kernel
theorem dX9_init_13 : decode cX9_init 13 = .ok (.aload_n 0, 1) := by decide +kernel
theorem dX9_init_14 : decode cX9_init 14 = .ok (.sipush 984, 3) := by decide +kernel
theorem dX9_init_17 : decode cX9_init 17 = .ok (.newarray .int, 2) := by decide +kernel
theorem dX9_init_19 : decode cX9_init 19 = .ok (.putfield 13, 3) := by decide +kernel
theorem dX9_init_22 : decode cX9_init 22 = .ok (.aload_n 0, 1) := by decide +kernel
theorem dX9_init_23 : decode cX9_init 23 = .ok (.bipush 80, 2) := by decide +kernel
theorem dX9_init_25 : decode cX9_init 25 = .ok (.newarray .int, 2) := by decide +kernel
theorem dX9_init_27 : decode cX9_init 27 = .ok (.putfield 16, 3) := by decide +kernel
theorem dX9_init_30 : decode cX9_init 30 = .ok (.aload_n 0, 1) := by decide +kernel
theorem dX9_init_31 : decode cX9_init 31 = .ok (.iconst 5, 1) := by decide +kernel
theorem dX9_init_32 : decode cX9_init 32 = .ok (.newarray .int, 2) := by decide +kernel
theorem dX9_init_34 : decode cX9_init 34 = .ok (.putfield 19, 3) := by decide +kernel
theorem dX9_init_37 : decode cX9_init 37 = .ok (.aload_n 0, 1) := by decide +kernel
theorem dX9_init_38 : decode cX9_init 38 = .ok (.bipush 40, 2) := by decide +kernel
theorem dX9_init_40 : decode cX9_init 40 = .ok (.newarray .int, 2) := by decide +kernel
theorem dX9_init_42 : decode cX9_init 42 = .ok (.putfield 22, 3) := by decide +kernel
theorem dX9_init_45 : decode cX9_init 45 = .ok (.aload_n 0, 1) := by decide +kernel
theorem dX9_init_46 : decode cX9_init 46 = .ok (.bipush 40, 2) := by decide +kernel
theorem dX9_init_48 : decode cX9_init 48 = .ok (.newarray .int, 2) := by decide +kernel
theorem dX9_init_50 : decode cX9_init 50 = .ok (.putfield 25, 3) := by decide +kernel
theorem dX9_init_53 : decode cX9_init 53 = .ok (.aload_n 0, 1) := by decide +kernel
theorem dX9_init_54 : decode cX9_init 54 = .ok (.getfield 7, 3) := by decide +kernel
theorem dX9_init_57 : decode cX9_init 57 = .ok (.iconst 0, 1) := by decide +kernel
theorem dX9_init_58 : decode cX9_init 58 = .ok (.sipush 1500, 3) := by decide +kernel
theorem dX9_init_61 : decode cX9_init 61 = .ok (.iastore, 1) := by decide +kernel
theorem dX9_init_62 : decode cX9_init 62 = .ok (.aload_n 0, 1) := by decide +kernel
theorem dX9_init_63 : decode cX9_init 63 = .ok (.getfield 7, 3) := by decide +kernel
theorem dX9_init_66 : decode cX9_init 66 = .ok (.iconst 1, 1) := by decide +kernel
theorem dX9_init_67 : decode cX9_init 67 = .ok (.sipush 600, 3) := by decide +kernel
theorem dX9_init_70 : decode cX9_init 70 = .ok (.iastore, 1) := by decide +kernel
theorem dX9_init_71 : decode cX9_init 71 = .ok (.aload_n 0, 1) := by decide +kernel
theorem dX9_init_72 : decode cX9_init 72 = .ok (.getfield 7, 3) := by decide +kernel
theorem dX9_init_75 : decode cX9_init 75 = .ok (.iconst 5, 1) := by decide +kernel
theorem dX9_init_76 : decode cX9_init 76 = .ok (.sipush 200, 3) := by decide +kernel
theorem dX9_init_79 : decode cX9_init 79 = .ok (.iastore, 1) := by decide +kernel
theorem dX9_init_80 : decode cX9_init 80 = .ok (.iconst 0, 1) := by decide +kernel
theorem dX9_init_81 : decode cX9_init 81 = .ok (.istore_n 1, 1) := by decide +kernel
theorem dX9_init_82 : decode cX9_init 82 = .ok (.iload_n 1, 1) := by decide +kernel
theorem dX9_init_83 : decode cX9_init 83 = .ok (.iconst 4, 1) := by decide +kernel
theorem dX9_init_84 : decode cX9_init 84 = .ok (.if_icmp .ge 19, 3) := by decide +kernel
theorem dX9_init_87 : decode cX9_init 87 = .ok (.aload_n 0, 1) := by decide +kernel
theorem dX9_init_88 : decode cX9_init 88 = .ok (.getfield 7, 3) := by decide +kernel
theorem dX9_init_91 : decode cX9_init 91 = .ok (.bipush 43, 2) := by decide +kernel
theorem dX9_init_93 : decode cX9_init 93 = .ok (.iload_n 1, 1) := by decide +kernel
theorem dX9_init_94 : decode cX9_init 94 = .ok (.iadd, 1) := by decide +kernel
theorem dX9_init_95 : decode cX9_init 95 = .ok (.iconst 2, 1) := by decide +kernel
theorem dX9_init_96 : decode cX9_init 96 = .ok (.iastore, 1) := by decide +kernel
theorem dX9_init_97 : decode cX9_init 97 = .ok (.iinc 1 1, 3) := by decide +kernel
theorem dX9_init_100 : decode cX9_init 100 = .ok (.goto (-18), 3) := by decide +kernel
theorem dX9_init_103 : decode cX9_init 103 = .ok (.return_, 1) := by decide +kernel
theorem dX9_thrown_0 : decode cX9_thrown 0 = .ok (.aload_n 0, 1) := by decide +kernel
theorem dX9_thrown_1 : decode cX9_thrown 1 = .ok (.getfield 28, 3) := by decide +kernel
theorem dX9_thrown_4 : decode cX9_thrown 4 = .ok (.ireturn, 1) := by decide +kernel
theorem dX9_fails_0 : decode cX9_fails 0 = .ok (.aload_n 0, 1) := by decide +kernel
theorem dX9_fails_1 : decode cX9_fails 1 = .ok (.iload_n 1, 1) := by decide +kernel
theorem dX9_fails_2 : decode cX9_fails 2 = .ok (.putfield 28, 3) := by decide +kernel
theorem dX9_fails_5 : decode cX9_fails 5 = .ok (.iconst 0, 1) := by decide +kernel
theorem dX9_fails_6 : decode cX9_fails 6 = .ok (.ireturn, 1) := by decide +kernel
theorem dX9_in_0 : decode cX9_in 0 = .ok (.iload_n 0, 1) := by decide +kernel
theorem dX9_in_1 : decode cX9_in 1 = .ok (.iload_n 1, 1) := by decide +kernel
theorem dX9_in_2 : decode cX9_in 2 = .ok (.if_icmp .lt 12, 3) := by decide +kernel
theorem dX9_in_5 : decode cX9_in 5 = .ok (.iload_n 0, 1) := by decide +kernel
theorem dX9_in_6 : decode cX9_in 6 = .ok (.iload_n 2, 1) := by decide +kernel
theorem dX9_in_7 : decode cX9_in 7 = .ok (.if_icmp .gt 7, 3) := by decide +kernel
theorem dX9_in_10 : decode cX9_in 10 = .ok (.iconst 1, 1) := by decide +kernel
theorem dX9_in_11 : decode cX9_in 11 = .ok (.goto 4, 3) := by decide +kernel
theorem dX9_in_14 : decode cX9_in 14 = .ok (.iconst 0, 1) := by decide +kernel
theorem dX9_in_15 : decode cX9_in 15 = .ok (.ireturn, 1) := by decide +kernel
theorem dX9_greater_0 : decode cX9_greater 0 = .ok (.iload_n 0, 1) := by decide +kernel
theorem dX9_greater_1 : decode cX9_greater 1 = .ok (.iload_n 1, 1) := by decide +kernel
theorem dX9_greater_2 : decode cX9_greater 2 = .ok (.if_icmp .le 7, 3) := by decide +kernel
theorem dX9_greater_5 : decode cX9_greater 5 = .ok (.iload_n 0, 1) := by decide +kernel
theorem dX9_greater_6 : decode cX9_greater 6 = .ok (.goto 4, 3) := by decide +kernel
theorem dX9_greater_9 : decode cX9_greater 9 = .ok (.iload_n 1, 1) := by decide +kernel
theorem dX9_greater_10 : decode cX9_greater 10 = .ok (.ireturn, 1) := by decide +kernel
theorem dX9_lesser_0 : decode cX9_lesser 0 = .ok (.iload_n 0, 1) := by decide +kernel
theorem dX9_lesser_1 : decode cX9_lesser 1 = .ok (.iload_n 1, 1) := by decide +kernel
theorem dX9_lesser_2 : decode cX9_lesser 2 = .ok (.if_icmp .ge 7, 3) := by decide +kernel
theorem dX9_lesser_5 : decode cX9_lesser 5 = .ok (.iload_n 0, 1) := by decide +kernel
theorem dX9_lesser_6 : decode cX9_lesser 6 = .ok (.goto 4, 3) := by decide +kernel
theorem dX9_lesser_9 : decode cX9_lesser 9 = .ok (.iload_n 1, 1) := by decide +kernel
theorem dX9_lesser_10 : decode cX9_lesser 10 = .ok (.ireturn, 1) := by decide +kernel
theorem dX9_keep_0 : decode cX9_keep 0 = .ok (.aload_n 0, 1) := by decide +kernel
theorem dX9_keep_1 : decode cX9_keep 1 = .ok (.getfield 32, 3) := by decide +kernel
theorem dX9_keep_4 : decode cX9_keep 4 = .ok (.iconst 4, 1) := by decide +kernel
theorem dX9_keep_5 : decode cX9_keep 5 = .ok (.if_icmp .ne 44, 3) := by decide +kernel
theorem dX9_keep_8 : decode cX9_keep 8 = .ok (.iconst 0, 1) := by decide +kernel
theorem dX9_keep_9 : decode cX9_keep 9 = .ok (.istore_n 1, 1) := by decide +kernel
theorem dX9_keep_10 : decode cX9_keep 10 = .ok (.iload_n 1, 1) := by decide +kernel
theorem dX9_keep_11 : decode cX9_keep 11 = .ok (.sipush 738, 3) := by decide +kernel
theorem dX9_keep_14 : decode cX9_keep 14 = .ok (.if_icmp .ge 25, 3) := by decide +kernel
theorem dX9_keep_17 : decode cX9_keep 17 = .ok (.aload_n 0, 1) := by decide +kernel
theorem dX9_keep_18 : decode cX9_keep 18 = .ok (.getfield 13, 3) := by decide +kernel
theorem dX9_keep_21 : decode cX9_keep 21 = .ok (.iload_n 1, 1) := by decide +kernel
theorem dX9_keep_22 : decode cX9_keep 22 = .ok (.aload_n 0, 1) := by decide +kernel
theorem dX9_keep_23 : decode cX9_keep 23 = .ok (.getfield 13, 3) := by decide +kernel
theorem dX9_keep_26 : decode cX9_keep 26 = .ok (.iload_n 1, 1) := by decide +kernel
theorem dX9_keep_27 : decode cX9_keep 27 = .ok (.sipush 246, 3) := by decide +kernel
theorem dX9_keep_30 : decode cX9_keep 30 = .ok (.iadd, 1) := by decide +kernel
theorem dX9_keep_31 : decode cX9_keep 31 = .ok (.iaload, 1) := by decide +kernel
theorem dX9_keep_32 : decode cX9_keep 32 = .ok (.iastore, 1) := by decide +kernel
theorem dX9_keep_33 : decode cX9_keep 33 = .ok (.iinc 1 1, 3) := by decide +kernel
theorem dX9_keep_36 : decode cX9_keep 36 = .ok (.goto (-26), 3) := by decide +kernel
theorem dX9_keep_39 : decode cX9_keep 39 = .ok (.aload_n 0, 1) := by decide +kernel
theorem dX9_keep_40 : decode cX9_keep 40 = .ok (.dup, 1) := by decide +kernel
theorem dX9_keep_41 : decode cX9_keep 41 = .ok (.getfield 32, 3) := by decide +kernel
theorem dX9_keep_44 : decode cX9_keep 44 = .ok (.iconst 1, 1) := by decide +kernel
theorem dX9_keep_45 : decode cX9_keep 45 = .ok (.isub, 1) := by decide +kernel
theorem dX9_keep_46 : decode cX9_keep 46 = .ok (.putfield 32, 3) := by decide +kernel
theorem dX9_keep_49 : decode cX9_keep 49 = .ok (.iconst 0, 1) := by decide +kernel
theorem dX9_keep_50 : decode cX9_keep 50 = .ok (.istore_n 1, 1) := by decide +kernel
theorem dX9_keep_51 : decode cX9_keep 51 = .ok (.iload_n 1, 1) := by decide +kernel
theorem dX9_keep_52 : decode cX9_keep 52 = .ok (.sipush 246, 3) := by decide +kernel
theorem dX9_keep_55 : decode cX9_keep 55 = .ok (.if_icmp .ge 30, 3) := by decide +kernel
theorem dX9_keep_58 : decode cX9_keep 58 = .ok (.aload_n 0, 1) := by decide +kernel
theorem dX9_keep_59 : decode cX9_keep 59 = .ok (.getfield 13, 3) := by decide +kernel
theorem dX9_keep_62 : decode cX9_keep 62 = .ok (.sipush 246, 3) := by decide +kernel
theorem dX9_keep_65 : decode cX9_keep 65 = .ok (.aload_n 0, 1) := by decide +kernel
theorem dX9_keep_66 : decode cX9_keep 66 = .ok (.getfield 32, 3) := by decide +kernel
theorem dX9_keep_69 : decode cX9_keep 69 = .ok (.imul, 1) := by decide +kernel
theorem dX9_keep_70 : decode cX9_keep 70 = .ok (.iload_n 1, 1) := by decide +kernel
theorem dX9_keep_71 : decode cX9_keep 71 = .ok (.iadd, 1) := by decide +kernel
theorem dX9_keep_72 : decode cX9_keep 72 = .ok (.aload_n 0, 1) := by decide +kernel
theorem dX9_keep_73 : decode cX9_keep 73 = .ok (.getfield 7, 3) := by decide +kernel
theorem dX9_keep_76 : decode cX9_keep 76 = .ok (.iload_n 1, 1) := by decide +kernel
theorem dX9_keep_77 : decode cX9_keep 77 = .ok (.iaload, 1) := by decide +kernel
theorem dX9_keep_78 : decode cX9_keep 78 = .ok (.iastore, 1) := by decide +kernel
theorem dX9_keep_79 : decode cX9_keep 79 = .ok (.iinc 1 1, 3) := by decide +kernel
theorem dX9_keep_82 : decode cX9_keep 82 = .ok (.goto (-31), 3) := by decide +kernel
theorem dX9_keep_85 : decode cX9_keep 85 = .ok (.aload_n 0, 1) := by decide +kernel
theorem dX9_keep_86 : decode cX9_keep 86 = .ok (.dup, 1) := by decide +kernel
theorem dX9_keep_87 : decode cX9_keep 87 = .ok (.getfield 32, 3) := by decide +kernel
theorem dX9_keep_90 : decode cX9_keep 90 = .ok (.iconst 1, 1) := by decide +kernel
theorem dX9_keep_91 : decode cX9_keep 91 = .ok (.iadd, 1) := by decide +kernel
theorem dX9_keep_92 : decode cX9_keep 92 = .ok (.putfield 32, 3) := by decide +kernel
theorem dX9_keep_95 : decode cX9_keep 95 = .ok (.return_, 1) := by decide +kernel
theorem dX9_change_0 : decode cX9_change 0 = .ok (.aload_n 0, 1) := by decide +kernel
theorem dX9_change_1 : decode cX9_change 1 = .ok (.invokevirtual 35, 3) := by decide +kernel
theorem dX9_change_4 : decode cX9_change 4 = .ok (.aload_n 0, 1) := by decide +kernel
theorem dX9_change_5 : decode cX9_change 5 = .ok (.getfield 7, 3) := by decide +kernel
theorem dX9_change_8 : decode cX9_change 8 = .ok (.iload_n 1, 1) := by decide +kernel
theorem dX9_change_9 : decode cX9_change 9 = .ok (.iaload, 1) := by decide +kernel
theorem dX9_change_10 : decode cX9_change 10 = .ok (.istore_n 3, 1) := by decide +kernel
theorem dX9_change_11 : decode cX9_change 11 = .ok (.aload_n 0, 1) := by decide +kernel
theorem dX9_change_12 : decode cX9_change 12 = .ok (.getfield 7, 3) := by decide +kernel
theorem dX9_change_15 : decode cX9_change 15 = .ok (.iload_n 1, 1) := by decide +kernel
theorem dX9_change_16 : decode cX9_change 16 = .ok (.iload_n 2, 1) := by decide +kernel
theorem dX9_change_17 : decode cX9_change 17 = .ok (.iastore, 1) := by decide +kernel
theorem dX9_change_18 : decode cX9_change 18 = .ok (.iload_n 3, 1) := by decide +kernel
theorem dX9_change_19 : decode cX9_change 19 = .ok (.ireturn, 1) := by decide +kernel
theorem dX9_cosineAt_0 : decode cX9_cosineAt 0 = .ok (.iload_n 0, 1) := by decide +kernel
theorem dX9_cosineAt_1 : decode cX9_cosineAt 1 = .ok (.tableswitch 87 0 8 #[51, 55, 59, 63, 67, 71, 75, 79, 83], 51) := by decide +kernel
theorem dX9_cosineAt_52 : decode cX9_cosineAt 52 = .ok (.sipush 10000, 3) := by decide +kernel
theorem dX9_cosineAt_55 : decode cX9_cosineAt 55 = .ok (.ireturn, 1) := by decide +kernel
theorem dX9_cosineAt_56 : decode cX9_cosineAt 56 = .ok (.sipush 9848, 3) := by decide +kernel
theorem dX9_cosineAt_59 : decode cX9_cosineAt 59 = .ok (.ireturn, 1) := by decide +kernel
theorem dX9_cosineAt_60 : decode cX9_cosineAt 60 = .ok (.sipush 9397, 3) := by decide +kernel
theorem dX9_cosineAt_63 : decode cX9_cosineAt 63 = .ok (.ireturn, 1) := by decide +kernel
theorem dX9_cosineAt_64 : decode cX9_cosineAt 64 = .ok (.sipush 8660, 3) := by decide +kernel
theorem dX9_cosineAt_67 : decode cX9_cosineAt 67 = .ok (.ireturn, 1) := by decide +kernel
theorem dX9_cosineAt_68 : decode cX9_cosineAt 68 = .ok (.sipush 7660, 3) := by decide +kernel
theorem dX9_cosineAt_71 : decode cX9_cosineAt 71 = .ok (.ireturn, 1) := by decide +kernel
theorem dX9_cosineAt_72 : decode cX9_cosineAt 72 = .ok (.sipush 6428, 3) := by decide +kernel
theorem dX9_cosineAt_75 : decode cX9_cosineAt 75 = .ok (.ireturn, 1) := by decide +kernel
theorem dX9_cosineAt_76 : decode cX9_cosineAt 76 = .ok (.sipush 5000, 3) := by decide +kernel
theorem dX9_cosineAt_79 : decode cX9_cosineAt 79 = .ok (.ireturn, 1) := by decide +kernel
theorem dX9_cosineAt_80 : decode cX9_cosineAt 80 = .ok (.sipush 3420, 3) := by decide +kernel
theorem dX9_cosineAt_83 : decode cX9_cosineAt 83 = .ok (.ireturn, 1) := by decide +kernel
theorem dX9_cosineAt_84 : decode cX9_cosineAt 84 = .ok (.sipush 1736, 3) := by decide +kernel
theorem dX9_cosineAt_87 : decode cX9_cosineAt 87 = .ok (.ireturn, 1) := by decide +kernel
theorem dX9_cosineAt_88 : decode cX9_cosineAt 88 = .ok (.iconst 0, 1) := by decide +kernel
theorem dX9_cosineAt_89 : decode cX9_cosineAt 89 = .ok (.ireturn, 1) := by decide +kernel
theorem dX9_cosine_0 : decode cX9_cosine 0 = .ok (.iload_n 0, 1) := by decide +kernel
theorem dX9_cosine_1 : decode cX9_cosine 1 = .ok (.bipush 100, 2) := by decide +kernel
theorem dX9_cosine_3 : decode cX9_cosine 3 = .ok (.idiv, 1) := by decide +kernel
theorem dX9_cosine_4 : decode cX9_cosine 4 = .ok (.istore_n 1, 1) := by decide +kernel
theorem dX9_cosine_5 : decode cX9_cosine 5 = .ok (.iload_n 1, 1) := by decide +kernel
theorem dX9_cosine_6 : decode cX9_cosine 6 = .ok (.invokestatic 38, 3) := by decide +kernel
theorem dX9_cosine_9 : decode cX9_cosine 9 = .ok (.iload_n 1, 1) := by decide +kernel
theorem dX9_cosine_10 : decode cX9_cosine 10 = .ok (.iconst 1, 1) := by decide +kernel
theorem dX9_cosine_11 : decode cX9_cosine 11 = .ok (.iadd, 1) := by decide +kernel
theorem dX9_cosine_12 : decode cX9_cosine 12 = .ok (.invokestatic 38, 3) := by decide +kernel
theorem dX9_cosine_15 : decode cX9_cosine 15 = .ok (.isub, 1) := by decide +kernel
theorem dX9_cosine_16 : decode cX9_cosine 16 = .ok (.istore_n 2, 1) := by decide +kernel
theorem dX9_cosine_17 : decode cX9_cosine 17 = .ok (.iload_n 1, 1) := by decide +kernel
theorem dX9_cosine_18 : decode cX9_cosine 18 = .ok (.invokestatic 38, 3) := by decide +kernel
theorem dX9_cosine_21 : decode cX9_cosine 21 = .ok (.iload_n 2, 1) := by decide +kernel
theorem dX9_cosine_22 : decode cX9_cosine 22 = .ok (.iload_n 0, 1) := by decide +kernel
theorem dX9_cosine_23 : decode cX9_cosine 23 = .ok (.bipush 100, 2) := by decide +kernel
theorem dX9_cosine_25 : decode cX9_cosine 25 = .ok (.irem, 1) := by decide +kernel
theorem dX9_cosine_26 : decode cX9_cosine 26 = .ok (.imul, 1) := by decide +kernel
theorem dX9_cosine_27 : decode cX9_cosine 27 = .ok (.bipush 100, 2) := by decide +kernel
theorem dX9_cosine_29 : decode cX9_cosine 29 = .ok (.idiv, 1) := by decide +kernel
theorem dX9_cosine_30 : decode cX9_cosine 30 = .ok (.isub, 1) := by decide +kernel
theorem dX9_cosine_31 : decode cX9_cosine 31 = .ok (.ireturn, 1) := by decide +kernel
theorem dX9_radiusOf_0 : decode cX9_radiusOf 0 = .ok (.bipush 100, 2) := by decide +kernel
theorem dX9_radiusOf_2 : decode cX9_radiusOf 2 = .ok (.iload_n 0, 1) := by decide +kernel
theorem dX9_radiusOf_3 : decode cX9_radiusOf 3 = .ok (.iload_n 1, 1) := by decide +kernel
theorem dX9_radiusOf_4 : decode cX9_radiusOf 4 = .ok (.invokestatic 42, 3) := by decide +kernel
theorem dX9_radiusOf_7 : decode cX9_radiusOf 7 = .ok (.imul, 1) := by decide +kernel
theorem dX9_radiusOf_8 : decode cX9_radiusOf 8 = .ok (.sipush 10000, 3) := by decide +kernel
theorem dX9_radiusOf_11 : decode cX9_radiusOf 11 = .ok (.idiv, 1) := by decide +kernel
theorem dX9_radiusOf_12 : decode cX9_radiusOf 12 = .ok (.sipush 150, 3) := by decide +kernel
theorem dX9_radiusOf_15 : decode cX9_radiusOf 15 = .ok (.isub, 1) := by decide +kernel
theorem dX9_radiusOf_16 : decode cX9_radiusOf 16 = .ok (.invokestatic 45, 3) := by decide +kernel
theorem dX9_radiusOf_19 : decode cX9_radiusOf 19 = .ok (.ireturn, 1) := by decide +kernel
theorem dX9_heightOf_0 : decode cX9_heightOf 0 = .ok (.iload_n 0, 1) := by decide +kernel
theorem dX9_heightOf_1 : decode cX9_heightOf 1 = .ok (.sipush 900, 3) := by decide +kernel
theorem dX9_heightOf_4 : decode cX9_heightOf 4 = .ok (.iload_n 1, 1) := by decide +kernel
theorem dX9_heightOf_5 : decode cX9_heightOf 5 = .ok (.isub, 1) := by decide +kernel
theorem dX9_heightOf_6 : decode cX9_heightOf 6 = .ok (.invokestatic 42, 3) := by decide +kernel
theorem dX9_heightOf_9 : decode cX9_heightOf 9 = .ok (.imul, 1) := by decide +kernel
theorem dX9_heightOf_10 : decode cX9_heightOf 10 = .ok (.sipush 10000, 3) := by decide +kernel
theorem dX9_heightOf_13 : decode cX9_heightOf 13 = .ok (.idiv, 1) := by decide +kernel
theorem dX9_heightOf_14 : decode cX9_heightOf 14 = .ok (.sipush 250, 3) := by decide +kernel
theorem dX9_heightOf_17 : decode cX9_heightOf 17 = .ok (.iadd, 1) := by decide +kernel
theorem dX9_heightOf_18 : decode cX9_heightOf 18 = .ok (.ireturn, 1) := by decide +kernel
theorem dX9_radius_0 : decode cX9_radius 0 = .ok (.aload_n 0, 1) := by decide +kernel
theorem dX9_radius_1 : decode cX9_radius 1 = .ok (.getfield 7, 3) := by decide +kernel
theorem dX9_radius_4 : decode cX9_radius 4 = .ok (.iconst 0, 1) := by decide +kernel
theorem dX9_radius_5 : decode cX9_radius 5 = .ok (.iaload, 1) := by decide +kernel
theorem dX9_radius_6 : decode cX9_radius 6 = .ok (.aload_n 0, 1) := by decide +kernel
theorem dX9_radius_7 : decode cX9_radius 7 = .ok (.getfield 7, 3) := by decide +kernel
theorem dX9_radius_10 : decode cX9_radius 10 = .ok (.iconst 1, 1) := by decide +kernel
theorem dX9_radius_11 : decode cX9_radius 11 = .ok (.iaload, 1) := by decide +kernel
theorem dX9_radius_12 : decode cX9_radius 12 = .ok (.invokestatic 49, 3) := by decide +kernel
theorem dX9_radius_15 : decode cX9_radius 15 = .ok (.ireturn, 1) := by decide +kernel
theorem dX9_height_0 : decode cX9_height 0 = .ok (.aload_n 0, 1) := by decide +kernel
theorem dX9_height_1 : decode cX9_height 1 = .ok (.getfield 7, 3) := by decide +kernel
theorem dX9_height_4 : decode cX9_height 4 = .ok (.iconst 0, 1) := by decide +kernel
theorem dX9_height_5 : decode cX9_height 5 = .ok (.iaload, 1) := by decide +kernel
theorem dX9_height_6 : decode cX9_height 6 = .ok (.aload_n 0, 1) := by decide +kernel
theorem dX9_height_7 : decode cX9_height 7 = .ok (.getfield 7, 3) := by decide +kernel
theorem dX9_height_10 : decode cX9_height 10 = .ok (.iconst 1, 1) := by decide +kernel
theorem dX9_height_11 : decode cX9_height 11 = .ok (.iaload, 1) := by decide +kernel
theorem dX9_height_12 : decode cX9_height 12 = .ok (.invokestatic 52, 3) := by decide +kernel
theorem dX9_height_15 : decode cX9_height 15 = .ok (.ireturn, 1) := by decide +kernel
theorem dX9_moment_0 : decode cX9_moment 0 = .ok (.iconst 4, 1) := by decide +kernel
theorem dX9_moment_1 : decode cX9_moment 1 = .ok (.aload_n 0, 1) := by decide +kernel
theorem dX9_moment_2 : decode cX9_moment 2 = .ok (.getfield 7, 3) := by decide +kernel
theorem dX9_moment_5 : decode cX9_moment 5 = .ok (.iconst 0, 1) := by decide +kernel
theorem dX9_moment_6 : decode cX9_moment 6 = .ok (.iaload, 1) := by decide +kernel
theorem dX9_moment_7 : decode cX9_moment 7 = .ok (.imul, 1) := by decide +kernel
theorem dX9_moment_8 : decode cX9_moment 8 = .ok (.iconst 5, 1) := by decide +kernel
theorem dX9_moment_9 : decode cX9_moment 9 = .ok (.idiv, 1) := by decide +kernel
theorem dX9_moment_10 : decode cX9_moment 10 = .ok (.i2l, 1) := by decide +kernel
theorem dX9_moment_11 : decode cX9_moment 11 = .ok (.aload_n 0, 1) := by decide +kernel
theorem dX9_moment_12 : decode cX9_moment 12 = .ok (.invokevirtual 55, 3) := by decide +kernel
theorem dX9_moment_15 : decode cX9_moment 15 = .ok (.sipush 150, 3) := by decide +kernel
theorem dX9_moment_18 : decode cX9_moment 18 = .ok (.iadd, 1) := by decide +kernel
theorem dX9_moment_19 : decode cX9_moment 19 = .ok (.iconst 2, 1) := by decide +kernel
theorem dX9_moment_20 : decode cX9_moment 20 = .ok (.idiv, 1) := by decide +kernel
theorem dX9_moment_21 : decode cX9_moment 21 = .ok (.i2l, 1) := by decide +kernel
theorem dX9_moment_22 : decode cX9_moment 22 = .ok (.lmul, 1) := by decide +kernel
theorem dX9_moment_23 : decode cX9_moment 23 = .ok (.lreturn, 1) := by decide +kernel
theorem dX9_deflection_0 : decode cX9_deflection 0 = .ok (.lload_n 1, 1) := by decide +kernel
theorem dX9_deflection_1 : decode cX9_deflection 1 = .ok (.aload_n 0, 1) := by decide +kernel
theorem dX9_deflection_2 : decode cX9_deflection 2 = .ok (.getfield 7, 3) := by decide +kernel
theorem dX9_deflection_5 : decode cX9_deflection 5 = .ok (.iconst 0, 1) := by decide +kernel
theorem dX9_deflection_6 : decode cX9_deflection 6 = .ok (.iaload, 1) := by decide +kernel
theorem dX9_deflection_7 : decode cX9_deflection 7 = .ok (.i2l, 1) := by decide +kernel
theorem dX9_deflection_8 : decode cX9_deflection 8 = .ok (.lmul, 1) := by decide +kernel
theorem dX9_deflection_9 : decode cX9_deflection 9 = .ok (.aload_n 0, 1) := by decide +kernel
theorem dX9_deflection_10 : decode cX9_deflection 10 = .ok (.getfield 7, 3) := by decide +kernel
theorem dX9_deflection_13 : decode cX9_deflection 13 = .ok (.iconst 0, 1) := by decide +kernel
theorem dX9_deflection_14 : decode cX9_deflection 14 = .ok (.iaload, 1) := by decide +kernel
theorem dX9_deflection_15 : decode cX9_deflection 15 = .ok (.i2l, 1) := by decide +kernel
theorem dX9_deflection_16 : decode cX9_deflection 16 = .ok (.lmul, 1) := by decide +kernel
theorem dX9_deflection_17 : decode cX9_deflection 17 = .ok (.ldc2_w 59, 3) := by decide +kernel
theorem dX9_deflection_20 : decode cX9_deflection 20 = .ok (.ldiv, 1) := by decide +kernel
theorem dX9_deflection_21 : decode cX9_deflection 21 = .ok (.l2i, 1) := by decide +kernel
theorem dX9_deflection_22 : decode cX9_deflection 22 = .ok (.ireturn, 1) := by decide +kernel
theorem dX9_pressure_0 : decode cX9_pressure 0 = .ok (.aload_n 0, 1) := by decide +kernel
theorem dX9_pressure_1 : decode cX9_pressure 1 = .ok (.getfield 7, 3) := by decide +kernel
theorem dX9_pressure_4 : decode cX9_pressure 4 = .ok (.bipush 6, 2) := by decide +kernel
theorem dX9_pressure_6 : decode cX9_pressure 6 = .ok (.iaload, 1) := by decide +kernel
theorem dX9_pressure_7 : decode cX9_pressure 7 = .ok (.aload_n 0, 1) := by decide +kernel
theorem dX9_pressure_8 : decode cX9_pressure 8 = .ok (.getfield 7, 3) := by decide +kernel
theorem dX9_pressure_11 : decode cX9_pressure 11 = .ok (.iconst 4, 1) := by decide +kernel
theorem dX9_pressure_12 : decode cX9_pressure 12 = .ok (.iaload, 1) := by decide +kernel
theorem dX9_pressure_13 : decode cX9_pressure 13 = .ok (.imul, 1) := by decide +kernel
theorem dX9_pressure_14 : decode cX9_pressure 14 = .ok (.iconst 4, 1) := by decide +kernel
theorem dX9_pressure_15 : decode cX9_pressure 15 = .ok (.idiv, 1) := by decide +kernel
theorem dX9_pressure_16 : decode cX9_pressure 16 = .ok (.aload_n 0, 1) := by decide +kernel
theorem dX9_pressure_17 : decode cX9_pressure 17 = .ok (.getfield 7, 3) := by decide +kernel
theorem dX9_pressure_20 : decode cX9_pressure 20 = .ok (.iconst 5, 1) := by decide +kernel
theorem dX9_pressure_21 : decode cX9_pressure 21 = .ok (.iaload, 1) := by decide +kernel
theorem dX9_pressure_22 : decode cX9_pressure 22 = .ok (.iadd, 1) := by decide +kernel
theorem dX9_pressure_23 : decode cX9_pressure 23 = .ok (.i2l, 1) := by decide +kernel
theorem dX9_pressure_24 : decode cX9_pressure 24 = .ok (.lstore_n 1, 1) := by decide +kernel
theorem dX9_pressure_25 : decode cX9_pressure 25 = .ok (.lload_n 1, 1) := by decide +kernel
theorem dX9_pressure_26 : decode cX9_pressure 26 = .ok (.aload_n 0, 1) := by decide +kernel
theorem dX9_pressure_27 : decode cX9_pressure 27 = .ok (.invokevirtual 55, 3) := by decide +kernel
theorem dX9_pressure_30 : decode cX9_pressure 30 = .ok (.aload_n 0, 1) := by decide +kernel
theorem dX9_pressure_31 : decode cX9_pressure 31 = .ok (.lload_n 1, 1) := by decide +kernel
theorem dX9_pressure_32 : decode cX9_pressure 32 = .ok (.invokevirtual 61, 3) := by decide +kernel
theorem dX9_pressure_35 : decode cX9_pressure 35 = .ok (.iadd, 1) := by decide +kernel
theorem dX9_pressure_36 : decode cX9_pressure 36 = .ok (.sipush 150, 3) := by decide +kernel
theorem dX9_pressure_39 : decode cX9_pressure 39 = .ok (.iadd, 1) := by decide +kernel
theorem dX9_pressure_40 : decode cX9_pressure 40 = .ok (.i2l, 1) := by decide +kernel
theorem dX9_pressure_41 : decode cX9_pressure 41 = .ok (.lmul, 1) := by decide +kernel
theorem dX9_pressure_42 : decode cX9_pressure 42 = .ok (.aload_n 0, 1) := by decide +kernel
theorem dX9_pressure_43 : decode cX9_pressure 43 = .ok (.invokevirtual 65, 3) := by decide +kernel
theorem dX9_pressure_46 : decode cX9_pressure 46 = .ok (.ladd, 1) := by decide +kernel
theorem dX9_pressure_47 : decode cX9_pressure 47 = .ok (.ldc2_w 69, 3) := by decide +kernel
theorem dX9_pressure_50 : decode cX9_pressure 50 = .ok (.ldiv, 1) := by decide +kernel
theorem dX9_pressure_51 : decode cX9_pressure 51 = .ok (.l2i, 1) := by decide +kernel
theorem dX9_pressure_52 : decode cX9_pressure 52 = .ok (.ireturn, 1) := by decide +kernel
theorem dX9_massBy_0 : decode cX9_massBy 0 = .ok (.lload_n 1, 1) := by decide +kernel
theorem dX9_massBy_1 : decode cX9_massBy 1 = .ok (.lconst 0, 1) := by decide +kernel
theorem dX9_massBy_2 : decode cX9_massBy 2 = .ok (.lcmp, 1) := by decide +kernel
theorem dX9_massBy_3 : decode cX9_massBy 3 = .ok (.ifCond .ge 7, 3) := by decide +kernel
theorem dX9_massBy_6 : decode cX9_massBy 6 = .ok (.iconst 0, 1) := by decide +kernel
theorem dX9_massBy_7 : decode cX9_massBy 7 = .ok (.goto 8, 3) := by decide +kernel
theorem dX9_massBy_10 : decode cX9_massBy 10 = .ok (.lload_n 1, 1) := by decide +kernel
theorem dX9_massBy_11 : decode cX9_massBy 11 = .ok (.iload_n 3, 1) := by decide +kernel
theorem dX9_massBy_12 : decode cX9_massBy 12 = .ok (.i2l, 1) := by decide +kernel
theorem dX9_massBy_13 : decode cX9_massBy 13 = .ok (.ldiv, 1) := by decide +kernel
theorem dX9_massBy_14 : decode cX9_massBy 14 = .ok (.l2i, 1) := by decide +kernel
theorem dX9_massBy_15 : decode cX9_massBy 15 = .ok (.ireturn, 1) := by decide +kernel
theorem dX9_measure_0 : decode cX9_measure 0 = .ok (.ldc2_w 69, 3) := by decide +kernel
theorem dX9_measure_3 : decode cX9_measure 3 = .ok (.aload_n 0, 1) := by decide +kernel
theorem dX9_measure_4 : decode cX9_measure 4 = .ok (.invokevirtual 71, 3) := by decide +kernel
theorem dX9_measure_7 : decode cX9_measure 7 = .ok (.i2l, 1) := by decide +kernel
theorem dX9_measure_8 : decode cX9_measure 8 = .ok (.lmul, 1) := by decide +kernel
theorem dX9_measure_9 : decode cX9_measure 9 = .ok (.aload_n 0, 1) := by decide +kernel
theorem dX9_measure_10 : decode cX9_measure 10 = .ok (.invokevirtual 65, 3) := by decide +kernel
theorem dX9_measure_13 : decode cX9_measure 13 = .ok (.lsub, 1) := by decide +kernel
theorem dX9_measure_14 : decode cX9_measure 14 = .ok (.lstore_n 1, 1) := by decide +kernel
theorem dX9_measure_15 : decode cX9_measure 15 = .ok (.aload_n 0, 1) := by decide +kernel
theorem dX9_measure_16 : decode cX9_measure 16 = .ok (.invokevirtual 55, 3) := by decide +kernel
theorem dX9_measure_19 : decode cX9_measure 19 = .ok (.istore_n 3, 1) := by decide +kernel
theorem dX9_measure_20 : decode cX9_measure 20 = .ok (.aload_n 0, 1) := by decide +kernel
theorem dX9_measure_21 : decode cX9_measure 21 = .ok (.aload_n 0, 1) := by decide +kernel
theorem dX9_measure_22 : decode cX9_measure 22 = .ok (.lload_n 1, 1) := by decide +kernel
theorem dX9_measure_23 : decode cX9_measure 23 = .ok (.iload_n 3, 1) := by decide +kernel
theorem dX9_measure_24 : decode cX9_measure 24 = .ok (.sipush 150, 3) := by decide +kernel
theorem dX9_measure_27 : decode cX9_measure 27 = .ok (.iadd, 1) := by decide +kernel
theorem dX9_measure_28 : decode cX9_measure 28 = .ok (.invokevirtual 74, 3) := by decide +kernel
theorem dX9_measure_31 : decode cX9_measure 31 = .ok (.putfield 78, 3) := by decide +kernel
theorem dX9_measure_34 : decode cX9_measure 34 = .ok (.iconst 0, 1) := by decide +kernel
theorem dX9_measure_35 : decode cX9_measure 35 = .ok (.istore 4, 2) := by decide +kernel
theorem dX9_measure_37 : decode cX9_measure 37 = .ok (.iload 4, 2) := by decide +kernel
theorem dX9_measure_39 : decode cX9_measure 39 = .ok (.iconst 3, 1) := by decide +kernel
theorem dX9_measure_40 : decode cX9_measure 40 = .ok (.if_icmp .ge 41, 3) := by decide +kernel
theorem dX9_measure_43 : decode cX9_measure 43 = .ok (.aload_n 0, 1) := by decide +kernel
theorem dX9_measure_44 : decode cX9_measure 44 = .ok (.iload_n 3, 1) := by decide +kernel
theorem dX9_measure_45 : decode cX9_measure 45 = .ok (.aload_n 0, 1) := by decide +kernel
theorem dX9_measure_46 : decode cX9_measure 46 = .ok (.aload_n 0, 1) := by decide +kernel
theorem dX9_measure_47 : decode cX9_measure 47 = .ok (.getfield 78, 3) := by decide +kernel
theorem dX9_measure_50 : decode cX9_measure 50 = .ok (.i2l, 1) := by decide +kernel
theorem dX9_measure_51 : decode cX9_measure 51 = .ok (.invokevirtual 61, 3) := by decide +kernel
theorem dX9_measure_54 : decode cX9_measure 54 = .ok (.iadd, 1) := by decide +kernel
theorem dX9_measure_55 : decode cX9_measure 55 = .ok (.putfield 81, 3) := by decide +kernel
theorem dX9_measure_58 : decode cX9_measure 58 = .ok (.aload_n 0, 1) := by decide +kernel
theorem dX9_measure_59 : decode cX9_measure 59 = .ok (.aload_n 0, 1) := by decide +kernel
theorem dX9_measure_60 : decode cX9_measure 60 = .ok (.lload_n 1, 1) := by decide +kernel
theorem dX9_measure_61 : decode cX9_measure 61 = .ok (.aload_n 0, 1) := by decide +kernel
theorem dX9_measure_62 : decode cX9_measure 62 = .ok (.getfield 81, 3) := by decide +kernel
theorem dX9_measure_65 : decode cX9_measure 65 = .ok (.sipush 150, 3) := by decide +kernel
theorem dX9_measure_68 : decode cX9_measure 68 = .ok (.iadd, 1) := by decide +kernel
theorem dX9_measure_69 : decode cX9_measure 69 = .ok (.invokevirtual 74, 3) := by decide +kernel
theorem dX9_measure_72 : decode cX9_measure 72 = .ok (.putfield 78, 3) := by decide +kernel
theorem dX9_measure_75 : decode cX9_measure 75 = .ok (.iinc 4 1, 3) := by decide +kernel
theorem dX9_measure_78 : decode cX9_measure 78 = .ok (.goto (-41), 3) := by decide +kernel
theorem dX9_measure_81 : decode cX9_measure 81 = .ok (.return_, 1) := by decide +kernel
theorem dX9_netLoad_0 : decode cX9_netLoad 0 = .ok (.iconst 0, 1) := by decide +kernel
theorem dX9_netLoad_1 : decode cX9_netLoad 1 = .ok (.aload_n 0, 1) := by decide +kernel
theorem dX9_netLoad_2 : decode cX9_netLoad 2 = .ok (.getfield 78, 3) := by decide +kernel
theorem dX9_netLoad_5 : decode cX9_netLoad 5 = .ok (.aload_n 0, 1) := by decide +kernel
theorem dX9_netLoad_6 : decode cX9_netLoad 6 = .ok (.getfield 7, 3) := by decide +kernel
theorem dX9_netLoad_9 : decode cX9_netLoad 9 = .ok (.iconst 5, 1) := by decide +kernel
theorem dX9_netLoad_10 : decode cX9_netLoad 10 = .ok (.iaload, 1) := by decide +kernel
theorem dX9_netLoad_11 : decode cX9_netLoad 11 = .ok (.isub, 1) := by decide +kernel
theorem dX9_netLoad_12 : decode cX9_netLoad 12 = .ok (.invokestatic 45, 3) := by decide +kernel
theorem dX9_netLoad_15 : decode cX9_netLoad 15 = .ok (.ireturn, 1) := by decide +kernel
theorem dX9_rowLength_0 : decode cX9_rowLength 0 = .ok (.iload_n 0, 1) := by decide +kernel
theorem dX9_rowLength_1 : decode cX9_rowLength 1 = .ok (.ifCond .ne 9, 3) := by decide +kernel
theorem dX9_rowLength_4 : decode cX9_rowLength 4 = .ok (.sipush 1000, 3) := by decide +kernel
theorem dX9_rowLength_7 : decode cX9_rowLength 7 = .ok (.goto 28, 3) := by decide +kernel
theorem dX9_rowLength_10 : decode cX9_rowLength 10 = .ok (.iload_n 0, 1) := by decide +kernel
theorem dX9_rowLength_11 : decode cX9_rowLength 11 = .ok (.iconst 1, 1) := by decide +kernel
theorem dX9_rowLength_12 : decode cX9_rowLength 12 = .ok (.if_icmp .ne 9, 3) := by decide +kernel
theorem dX9_rowLength_15 : decode cX9_rowLength 15 = .ok (.sipush 2000, 3) := by decide +kernel
theorem dX9_rowLength_18 : decode cX9_rowLength 18 = .ok (.goto 17, 3) := by decide +kernel
theorem dX9_rowLength_21 : decode cX9_rowLength 21 = .ok (.iload_n 0, 1) := by decide +kernel
theorem dX9_rowLength_22 : decode cX9_rowLength 22 = .ok (.iconst 2, 1) := by decide +kernel
theorem dX9_rowLength_23 : decode cX9_rowLength 23 = .ok (.if_icmp .ne 9, 3) := by decide +kernel
theorem dX9_rowLength_26 : decode cX9_rowLength 26 = .ok (.sipush 3500, 3) := by decide +kernel
theorem dX9_rowLength_29 : decode cX9_rowLength 29 = .ok (.goto 6, 3) := by decide +kernel
theorem dX9_rowLength_32 : decode cX9_rowLength 32 = .ok (.sipush 6000, 3) := by decide +kernel
theorem dX9_rowLength_35 : decode cX9_rowLength 35 = .ok (.ireturn, 1) := by decide +kernel
theorem dX9_columnRadius_0 : decode cX9_columnRadius 0 = .ok (.iload_n 0, 1) := by decide +kernel
theorem dX9_columnRadius_1 : decode cX9_columnRadius 1 = .ok (.tableswitch 55 0 4 #[35, 39, 43, 47, 51], 35) := by decide +kernel
theorem dX9_columnRadius_36 : decode cX9_columnRadius 36 = .ok (.sipush 300, 3) := by decide +kernel
theorem dX9_columnRadius_39 : decode cX9_columnRadius 39 = .ok (.ireturn, 1) := by decide +kernel
theorem dX9_columnRadius_40 : decode cX9_columnRadius 40 = .ok (.sipush 600, 3) := by decide +kernel
theorem dX9_columnRadius_43 : decode cX9_columnRadius 43 = .ok (.ireturn, 1) := by decide +kernel
theorem dX9_columnRadius_44 : decode cX9_columnRadius 44 = .ok (.sipush 1000, 3) := by decide +kernel
theorem dX9_columnRadius_47 : decode cX9_columnRadius 47 = .ok (.ireturn, 1) := by decide +kernel
theorem dX9_columnRadius_48 : decode cX9_columnRadius 48 = .ok (.sipush 1500, 3) := by decide +kernel
theorem dX9_columnRadius_51 : decode cX9_columnRadius 51 = .ok (.ireturn, 1) := by decide +kernel
theorem dX9_columnRadius_52 : decode cX9_columnRadius 52 = .ok (.sipush 2200, 3) := by decide +kernel
theorem dX9_columnRadius_55 : decode cX9_columnRadius 55 = .ok (.ireturn, 1) := by decide +kernel
theorem dX9_columnRadius_56 : decode cX9_columnRadius 56 = .ok (.sipush 3000, 3) := by decide +kernel
theorem dX9_columnRadius_59 : decode cX9_columnRadius 59 = .ok (.ireturn, 1) := by decide +kernel
theorem dX9_valueAt_0 : decode cX9_valueAt 0 = .ok (.aload_n 0, 1) := by decide +kernel
theorem dX9_valueAt_1 : decode cX9_valueAt 1 = .ok (.getfield 7, 3) := by decide +kernel
theorem dX9_valueAt_4 : decode cX9_valueAt 4 = .ok (.bipush 47, 2) := by decide +kernel
theorem dX9_valueAt_6 : decode cX9_valueAt 6 = .ok (.bipush 24, 2) := by decide +kernel
theorem dX9_valueAt_8 : decode cX9_valueAt 8 = .ok (.iload_n 1, 1) := by decide +kernel
theorem dX9_valueAt_9 : decode cX9_valueAt 9 = .ok (.imul, 1) := by decide +kernel
theorem dX9_valueAt_10 : decode cX9_valueAt 10 = .ok (.iadd, 1) := by decide +kernel
theorem dX9_valueAt_11 : decode cX9_valueAt 11 = .ok (.bipush 6, 2) := by decide +kernel
theorem dX9_valueAt_13 : decode cX9_valueAt 13 = .ok (.iload_n 2, 1) := by decide +kernel
theorem dX9_valueAt_14 : decode cX9_valueAt 14 = .ok (.imul, 1) := by decide +kernel
theorem dX9_valueAt_15 : decode cX9_valueAt 15 = .ok (.iadd, 1) := by decide +kernel
theorem dX9_valueAt_16 : decode cX9_valueAt 16 = .ok (.iload_n 3, 1) := by decide +kernel
theorem dX9_valueAt_17 : decode cX9_valueAt 17 = .ok (.iadd, 1) := by decide +kernel
theorem dX9_valueAt_18 : decode cX9_valueAt 18 = .ok (.iaload, 1) := by decide +kernel
theorem dX9_valueAt_19 : decode cX9_valueAt 19 = .ok (.i2l, 1) := by decide +kernel
theorem dX9_valueAt_20 : decode cX9_valueAt 20 = .ok (.lreturn, 1) := by decide +kernel
theorem dX9_capacityOf_0 : decode cX9_capacityOf 0 = .ok (.iload_n 3, 1) := by decide +kernel
theorem dX9_capacityOf_1 : decode cX9_capacityOf 1 = .ok (.sipush 3000, 3) := by decide +kernel
theorem dX9_capacityOf_4 : decode cX9_capacityOf 4 = .ok (.if_icmp .le 5, 3) := by decide +kernel
theorem dX9_capacityOf_7 : decode cX9_capacityOf 7 = .ok (.iconst 0, 1) := by decide +kernel
theorem dX9_capacityOf_8 : decode cX9_capacityOf 8 = .ok (.ireturn, 1) := by decide +kernel
theorem dX9_capacityOf_9 : decode cX9_capacityOf 9 = .ok (.sipush 300, 3) := by decide +kernel
theorem dX9_capacityOf_12 : decode cX9_capacityOf 12 = .ok (.iload_n 3, 1) := by decide +kernel
theorem dX9_capacityOf_13 : decode cX9_capacityOf 13 = .ok (.invokestatic 45, 3) := by decide +kernel
theorem dX9_capacityOf_16 : decode cX9_capacityOf 16 = .ok (.istore 4, 2) := by decide +kernel
theorem dX9_capacityOf_18 : decode cX9_capacityOf 18 = .ok (.iconst 0, 1) := by decide +kernel
theorem dX9_capacityOf_19 : decode cX9_capacityOf 19 = .ok (.istore 5, 2) := by decide +kernel
theorem dX9_capacityOf_21 : decode cX9_capacityOf 21 = .ok (.iload 5, 2) := by decide +kernel
theorem dX9_capacityOf_23 : decode cX9_capacityOf 23 = .ok (.iconst 2, 1) := by decide +kernel
theorem dX9_capacityOf_24 : decode cX9_capacityOf 24 = .ok (.if_icmp .ge 20, 3) := by decide +kernel
theorem dX9_capacityOf_27 : decode cX9_capacityOf 27 = .ok (.iload 5, 2) := by decide +kernel
theorem dX9_capacityOf_29 : decode cX9_capacityOf 29 = .ok (.iconst 1, 1) := by decide +kernel
theorem dX9_capacityOf_30 : decode cX9_capacityOf 30 = .ok (.iadd, 1) := by decide +kernel
theorem dX9_capacityOf_31 : decode cX9_capacityOf 31 = .ok (.invokestatic 84, 3) := by decide +kernel
theorem dX9_capacityOf_34 : decode cX9_capacityOf 34 = .ok (.iload_n 2, 1) := by decide +kernel
theorem dX9_capacityOf_35 : decode cX9_capacityOf 35 = .ok (.if_icmp .ge 9, 3) := by decide +kernel
theorem dX9_capacityOf_38 : decode cX9_capacityOf 38 = .ok (.iinc 5 1, 3) := by decide +kernel
theorem dX9_capacityOf_41 : decode cX9_capacityOf 41 = .ok (.goto (-20), 3) := by decide +kernel
theorem dX9_capacityOf_44 : decode cX9_capacityOf 44 = .ok (.iconst 0, 1) := by decide +kernel
theorem dX9_capacityOf_45 : decode cX9_capacityOf 45 = .ok (.istore 6, 2) := by decide +kernel
theorem dX9_capacityOf_47 : decode cX9_capacityOf 47 = .ok (.iload 6, 2) := by decide +kernel
theorem dX9_capacityOf_49 : decode cX9_capacityOf 49 = .ok (.iconst 4, 1) := by decide +kernel
theorem dX9_capacityOf_50 : decode cX9_capacityOf 50 = .ok (.if_icmp .ge 21, 3) := by decide +kernel
theorem dX9_capacityOf_53 : decode cX9_capacityOf 53 = .ok (.iload 6, 2) := by decide +kernel
theorem dX9_capacityOf_55 : decode cX9_capacityOf 55 = .ok (.iconst 1, 1) := by decide +kernel
theorem dX9_capacityOf_56 : decode cX9_capacityOf 56 = .ok (.iadd, 1) := by decide +kernel
theorem dX9_capacityOf_57 : decode cX9_capacityOf 57 = .ok (.invokestatic 87, 3) := by decide +kernel
theorem dX9_capacityOf_60 : decode cX9_capacityOf 60 = .ok (.iload 4, 2) := by decide +kernel
theorem dX9_capacityOf_62 : decode cX9_capacityOf 62 = .ok (.if_icmp .ge 9, 3) := by decide +kernel
theorem dX9_capacityOf_65 : decode cX9_capacityOf 65 = .ok (.iinc 6 1, 3) := by decide +kernel
theorem dX9_capacityOf_68 : decode cX9_capacityOf 68 = .ok (.goto (-21), 3) := by decide +kernel
theorem dX9_capacityOf_71 : decode cX9_capacityOf 71 = .ok (.iload 6, 2) := by decide +kernel
theorem dX9_capacityOf_73 : decode cX9_capacityOf 73 = .ok (.iconst 1, 1) := by decide +kernel
theorem dX9_capacityOf_74 : decode cX9_capacityOf 74 = .ok (.iadd, 1) := by decide +kernel
theorem dX9_capacityOf_75 : decode cX9_capacityOf 75 = .ok (.invokestatic 87, 3) := by decide +kernel
theorem dX9_capacityOf_78 : decode cX9_capacityOf 78 = .ok (.iload 4, 2) := by decide +kernel
theorem dX9_capacityOf_80 : decode cX9_capacityOf 80 = .ok (.isub, 1) := by decide +kernel
theorem dX9_capacityOf_81 : decode cX9_capacityOf 81 = .ok (.i2l, 1) := by decide +kernel
theorem dX9_capacityOf_82 : decode cX9_capacityOf 82 = .ok (.lstore 7, 2) := by decide +kernel
theorem dX9_capacityOf_84 : decode cX9_capacityOf 84 = .ok (.iload 4, 2) := by decide +kernel
theorem dX9_capacityOf_86 : decode cX9_capacityOf 86 = .ok (.iload 6, 2) := by decide +kernel
theorem dX9_capacityOf_88 : decode cX9_capacityOf 88 = .ok (.invokestatic 87, 3) := by decide +kernel
theorem dX9_capacityOf_91 : decode cX9_capacityOf 91 = .ok (.isub, 1) := by decide +kernel
theorem dX9_capacityOf_92 : decode cX9_capacityOf 92 = .ok (.i2l, 1) := by decide +kernel
theorem dX9_capacityOf_93 : decode cX9_capacityOf 93 = .ok (.lstore 9, 2) := by decide +kernel
theorem dX9_capacityOf_95 : decode cX9_capacityOf 95 = .ok (.aload_n 0, 1) := by decide +kernel
theorem dX9_capacityOf_96 : decode cX9_capacityOf 96 = .ok (.iload_n 1, 1) := by decide +kernel
theorem dX9_capacityOf_97 : decode cX9_capacityOf 97 = .ok (.iload 5, 2) := by decide +kernel
theorem dX9_capacityOf_99 : decode cX9_capacityOf 99 = .ok (.iload 6, 2) := by decide +kernel
theorem dX9_capacityOf_101 : decode cX9_capacityOf 101 = .ok (.invokevirtual 90, 3) := by decide +kernel
theorem dX9_capacityOf_104 : decode cX9_capacityOf 104 = .ok (.lload 7, 2) := by decide +kernel
theorem dX9_capacityOf_106 : decode cX9_capacityOf 106 = .ok (.lmul, 1) := by decide +kernel
theorem dX9_capacityOf_107 : decode cX9_capacityOf 107 = .ok (.aload_n 0, 1) := by decide +kernel
theorem dX9_capacityOf_108 : decode cX9_capacityOf 108 = .ok (.iload_n 1, 1) := by decide +kernel
theorem dX9_capacityOf_109 : decode cX9_capacityOf 109 = .ok (.iload 5, 2) := by decide +kernel
theorem dX9_capacityOf_111 : decode cX9_capacityOf 111 = .ok (.iload 6, 2) := by decide +kernel
theorem dX9_capacityOf_113 : decode cX9_capacityOf 113 = .ok (.iconst 1, 1) := by decide +kernel
theorem dX9_capacityOf_114 : decode cX9_capacityOf 114 = .ok (.iadd, 1) := by decide +kernel
theorem dX9_capacityOf_115 : decode cX9_capacityOf 115 = .ok (.invokevirtual 90, 3) := by decide +kernel
theorem dX9_capacityOf_118 : decode cX9_capacityOf 118 = .ok (.lload 9, 2) := by decide +kernel
theorem dX9_capacityOf_120 : decode cX9_capacityOf 120 = .ok (.lmul, 1) := by decide +kernel
theorem dX9_capacityOf_121 : decode cX9_capacityOf 121 = .ok (.ladd, 1) := by decide +kernel
theorem dX9_capacityOf_122 : decode cX9_capacityOf 122 = .ok (.lstore 11, 2) := by decide +kernel
theorem dX9_capacityOf_124 : decode cX9_capacityOf 124 = .ok (.aload_n 0, 1) := by decide +kernel
theorem dX9_capacityOf_125 : decode cX9_capacityOf 125 = .ok (.iload_n 1, 1) := by decide +kernel
theorem dX9_capacityOf_126 : decode cX9_capacityOf 126 = .ok (.iload 5, 2) := by decide +kernel
theorem dX9_capacityOf_128 : decode cX9_capacityOf 128 = .ok (.iconst 1, 1) := by decide +kernel
theorem dX9_capacityOf_129 : decode cX9_capacityOf 129 = .ok (.iadd, 1) := by decide +kernel
theorem dX9_capacityOf_130 : decode cX9_capacityOf 130 = .ok (.iload 6, 2) := by decide +kernel
theorem dX9_capacityOf_132 : decode cX9_capacityOf 132 = .ok (.invokevirtual 90, 3) := by decide +kernel
theorem dX9_capacityOf_135 : decode cX9_capacityOf 135 = .ok (.lload 7, 2) := by decide +kernel
theorem dX9_capacityOf_137 : decode cX9_capacityOf 137 = .ok (.lmul, 1) := by decide +kernel
theorem dX9_capacityOf_138 : decode cX9_capacityOf 138 = .ok (.aload_n 0, 1) := by decide +kernel
theorem dX9_capacityOf_139 : decode cX9_capacityOf 139 = .ok (.iload_n 1, 1) := by decide +kernel
theorem dX9_capacityOf_140 : decode cX9_capacityOf 140 = .ok (.iload 5, 2) := by decide +kernel
theorem dX9_capacityOf_142 : decode cX9_capacityOf 142 = .ok (.iconst 1, 1) := by decide +kernel
theorem dX9_capacityOf_143 : decode cX9_capacityOf 143 = .ok (.iadd, 1) := by decide +kernel
theorem dX9_capacityOf_144 : decode cX9_capacityOf 144 = .ok (.iload 6, 2) := by decide +kernel
theorem dX9_capacityOf_146 : decode cX9_capacityOf 146 = .ok (.iconst 1, 1) := by decide +kernel
theorem dX9_capacityOf_147 : decode cX9_capacityOf 147 = .ok (.iadd, 1) := by decide +kernel
theorem dX9_capacityOf_148 : decode cX9_capacityOf 148 = .ok (.invokevirtual 90, 3) := by decide +kernel
theorem dX9_capacityOf_151 : decode cX9_capacityOf 151 = .ok (.lload 9, 2) := by decide +kernel
theorem dX9_capacityOf_153 : decode cX9_capacityOf 153 = .ok (.lmul, 1) := by decide +kernel
theorem dX9_capacityOf_154 : decode cX9_capacityOf 154 = .ok (.ladd, 1) := by decide +kernel
theorem dX9_capacityOf_155 : decode cX9_capacityOf 155 = .ok (.lstore 13, 2) := by decide +kernel
theorem dX9_capacityOf_157 : decode cX9_capacityOf 157 = .ok (.iload 6, 2) := by decide +kernel
theorem dX9_capacityOf_159 : decode cX9_capacityOf 159 = .ok (.iconst 1, 1) := by decide +kernel
theorem dX9_capacityOf_160 : decode cX9_capacityOf 160 = .ok (.iadd, 1) := by decide +kernel
theorem dX9_capacityOf_161 : decode cX9_capacityOf 161 = .ok (.invokestatic 87, 3) := by decide +kernel
theorem dX9_capacityOf_164 : decode cX9_capacityOf 164 = .ok (.iload 6, 2) := by decide +kernel
theorem dX9_capacityOf_166 : decode cX9_capacityOf 166 = .ok (.invokestatic 87, 3) := by decide +kernel
theorem dX9_capacityOf_169 : decode cX9_capacityOf 169 = .ok (.isub, 1) := by decide +kernel
theorem dX9_capacityOf_170 : decode cX9_capacityOf 170 = .ok (.i2l, 1) := by decide +kernel
theorem dX9_capacityOf_171 : decode cX9_capacityOf 171 = .ok (.iload 5, 2) := by decide +kernel
theorem dX9_capacityOf_173 : decode cX9_capacityOf 173 = .ok (.iconst 1, 1) := by decide +kernel
theorem dX9_capacityOf_174 : decode cX9_capacityOf 174 = .ok (.iadd, 1) := by decide +kernel
theorem dX9_capacityOf_175 : decode cX9_capacityOf 175 = .ok (.invokestatic 84, 3) := by decide +kernel
theorem dX9_capacityOf_178 : decode cX9_capacityOf 178 = .ok (.iload 5, 2) := by decide +kernel
theorem dX9_capacityOf_180 : decode cX9_capacityOf 180 = .ok (.invokestatic 84, 3) := by decide +kernel
theorem dX9_capacityOf_183 : decode cX9_capacityOf 183 = .ok (.isub, 1) := by decide +kernel
theorem dX9_capacityOf_184 : decode cX9_capacityOf 184 = .ok (.i2l, 1) := by decide +kernel
theorem dX9_capacityOf_185 : decode cX9_capacityOf 185 = .ok (.lmul, 1) := by decide +kernel
theorem dX9_capacityOf_186 : decode cX9_capacityOf 186 = .ok (.lstore 15, 2) := by decide +kernel
theorem dX9_capacityOf_188 : decode cX9_capacityOf 188 = .ok (.lload 11, 2) := by decide +kernel
theorem dX9_capacityOf_190 : decode cX9_capacityOf 190 = .ok (.iload 5, 2) := by decide +kernel
theorem dX9_capacityOf_192 : decode cX9_capacityOf 192 = .ok (.iconst 1, 1) := by decide +kernel
theorem dX9_capacityOf_193 : decode cX9_capacityOf 193 = .ok (.iadd, 1) := by decide +kernel
theorem dX9_capacityOf_194 : decode cX9_capacityOf 194 = .ok (.invokestatic 84, 3) := by decide +kernel
theorem dX9_capacityOf_197 : decode cX9_capacityOf 197 = .ok (.iload_n 2, 1) := by decide +kernel
theorem dX9_capacityOf_198 : decode cX9_capacityOf 198 = .ok (.isub, 1) := by decide +kernel
theorem dX9_capacityOf_199 : decode cX9_capacityOf 199 = .ok (.i2l, 1) := by decide +kernel
theorem dX9_capacityOf_200 : decode cX9_capacityOf 200 = .ok (.lmul, 1) := by decide +kernel
theorem dX9_capacityOf_201 : decode cX9_capacityOf 201 = .ok (.lload 13, 2) := by decide +kernel
theorem dX9_capacityOf_203 : decode cX9_capacityOf 203 = .ok (.iload_n 2, 1) := by decide +kernel
theorem dX9_capacityOf_204 : decode cX9_capacityOf 204 = .ok (.iload 5, 2) := by decide +kernel
theorem dX9_capacityOf_206 : decode cX9_capacityOf 206 = .ok (.invokestatic 84, 3) := by decide +kernel
theorem dX9_capacityOf_209 : decode cX9_capacityOf 209 = .ok (.isub, 1) := by decide +kernel
theorem dX9_capacityOf_210 : decode cX9_capacityOf 210 = .ok (.i2l, 1) := by decide +kernel
theorem dX9_capacityOf_211 : decode cX9_capacityOf 211 = .ok (.lmul, 1) := by decide +kernel
theorem dX9_capacityOf_212 : decode cX9_capacityOf 212 = .ok (.ladd, 1) := by decide +kernel
theorem dX9_capacityOf_213 : decode cX9_capacityOf 213 = .ok (.lload 15, 2) := by decide +kernel
theorem dX9_capacityOf_215 : decode cX9_capacityOf 215 = .ok (.ldiv, 1) := by decide +kernel
theorem dX9_capacityOf_216 : decode cX9_capacityOf 216 = .ok (.l2i, 1) := by decide +kernel
theorem dX9_capacityOf_217 : decode cX9_capacityOf 217 = .ok (.ireturn, 1) := by decide +kernel
theorem dX9_apart_0 : decode cX9_apart 0 = .ok (.iload_n 0, 1) := by decide +kernel
theorem dX9_apart_1 : decode cX9_apart 1 = .ok (.iload_n 1, 1) := by decide +kernel
theorem dX9_apart_2 : decode cX9_apart 2 = .ok (.isub, 1) := by decide +kernel
theorem dX9_apart_3 : decode cX9_apart 3 = .ok (.sipush 3600, 3) := by decide +kernel
theorem dX9_apart_6 : decode cX9_apart 6 = .ok (.iadd, 1) := by decide +kernel
theorem dX9_apart_7 : decode cX9_apart 7 = .ok (.sipush 3600, 3) := by decide +kernel
theorem dX9_apart_10 : decode cX9_apart 10 = .ok (.irem, 1) := by decide +kernel
theorem dX9_apart_11 : decode cX9_apart 11 = .ok (.istore_n 2, 1) := by decide +kernel
theorem dX9_apart_12 : decode cX9_apart 12 = .ok (.iload_n 2, 1) := by decide +kernel
theorem dX9_apart_13 : decode cX9_apart 13 = .ok (.sipush 3600, 3) := by decide +kernel
theorem dX9_apart_16 : decode cX9_apart 16 = .ok (.iload_n 2, 1) := by decide +kernel
theorem dX9_apart_17 : decode cX9_apart 17 = .ok (.isub, 1) := by decide +kernel
theorem dX9_apart_18 : decode cX9_apart 18 = .ok (.invokestatic 94, 3) := by decide +kernel
theorem dX9_apart_21 : decode cX9_apart 21 = .ok (.ireturn, 1) := by decide +kernel
theorem dX9_tableAt_0 : decode cX9_tableAt 0 = .ok (.iconst 3, 1) := by decide +kernel
theorem dX9_tableAt_1 : decode cX9_tableAt 1 = .ok (.istore_n 2, 1) := by decide +kernel
theorem dX9_tableAt_2 : decode cX9_tableAt 2 = .ok (.iconst 0, 1) := by decide +kernel
theorem dX9_tableAt_3 : decode cX9_tableAt 3 = .ok (.istore_n 3, 1) := by decide +kernel
theorem dX9_tableAt_4 : decode cX9_tableAt 4 = .ok (.iload_n 3, 1) := by decide +kernel
theorem dX9_tableAt_5 : decode cX9_tableAt 5 = .ok (.iconst 4, 1) := by decide +kernel
theorem dX9_tableAt_6 : decode cX9_tableAt 6 = .ok (.if_icmp .ge 56, 3) := by decide +kernel
theorem dX9_tableAt_9 : decode cX9_tableAt 9 = .ok (.aload_n 0, 1) := by decide +kernel
theorem dX9_tableAt_10 : decode cX9_tableAt 10 = .ok (.getfield 7, 3) := by decide +kernel
theorem dX9_tableAt_13 : decode cX9_tableAt 13 = .ok (.bipush 10, 2) := by decide +kernel
theorem dX9_tableAt_15 : decode cX9_tableAt 15 = .ok (.iaload, 1) := by decide +kernel
theorem dX9_tableAt_16 : decode cX9_tableAt 16 = .ok (.ifCond .ne 46, 3) := by decide +kernel
theorem dX9_tableAt_19 : decode cX9_tableAt 19 = .ok (.iload_n 1, 1) := by decide +kernel
theorem dX9_tableAt_20 : decode cX9_tableAt 20 = .ok (.sipush 450, 3) := by decide +kernel
theorem dX9_tableAt_23 : decode cX9_tableAt 23 = .ok (.sipush 900, 3) := by decide +kernel
theorem dX9_tableAt_26 : decode cX9_tableAt 26 = .ok (.iload_n 3, 1) := by decide +kernel
theorem dX9_tableAt_27 : decode cX9_tableAt 27 = .ok (.imul, 1) := by decide +kernel
theorem dX9_tableAt_28 : decode cX9_tableAt 28 = .ok (.iadd, 1) := by decide +kernel
theorem dX9_tableAt_29 : decode cX9_tableAt 29 = .ok (.invokestatic 97, 3) := by decide +kernel
theorem dX9_tableAt_32 : decode cX9_tableAt 32 = .ok (.sipush 900, 3) := by decide +kernel
theorem dX9_tableAt_35 : decode cX9_tableAt 35 = .ok (.if_icmp .ge 19, 3) := by decide +kernel
theorem dX9_tableAt_38 : decode cX9_tableAt 38 = .ok (.iload_n 2, 1) := by decide +kernel
theorem dX9_tableAt_39 : decode cX9_tableAt 39 = .ok (.aload_n 0, 1) := by decide +kernel
theorem dX9_tableAt_40 : decode cX9_tableAt 40 = .ok (.getfield 7, 3) := by decide +kernel
theorem dX9_tableAt_43 : decode cX9_tableAt 43 = .ok (.bipush 43, 2) := by decide +kernel
theorem dX9_tableAt_45 : decode cX9_tableAt 45 = .ok (.iload_n 3, 1) := by decide +kernel
theorem dX9_tableAt_46 : decode cX9_tableAt 46 = .ok (.iadd, 1) := by decide +kernel
theorem dX9_tableAt_47 : decode cX9_tableAt 47 = .ok (.iaload, 1) := by decide +kernel
theorem dX9_tableAt_48 : decode cX9_tableAt 48 = .ok (.invokestatic 94, 3) := by decide +kernel
theorem dX9_tableAt_51 : decode cX9_tableAt 51 = .ok (.goto 4, 3) := by decide +kernel
theorem dX9_tableAt_54 : decode cX9_tableAt 54 = .ok (.iload_n 2, 1) := by decide +kernel
theorem dX9_tableAt_55 : decode cX9_tableAt 55 = .ok (.istore_n 2, 1) := by decide +kernel
theorem dX9_tableAt_56 : decode cX9_tableAt 56 = .ok (.iinc 3 1, 3) := by decide +kernel
theorem dX9_tableAt_59 : decode cX9_tableAt 59 = .ok (.goto (-55), 3) := by decide +kernel
theorem dX9_tableAt_62 : decode cX9_tableAt 62 = .ok (.iload_n 2, 1) := by decide +kernel
theorem dX9_tableAt_63 : decode cX9_tableAt 63 = .ok (.ireturn, 1) := by decide +kernel
theorem dX9_windNow_0 : decode cX9_windNow 0 = .ok (.iconst 0, 1) := by decide +kernel
theorem dX9_windNow_1 : decode cX9_windNow 1 = .ok (.istore_n 1, 1) := by decide +kernel
theorem dX9_windNow_2 : decode cX9_windNow 2 = .ok (.iconst 0, 1) := by decide +kernel
theorem dX9_windNow_3 : decode cX9_windNow 3 = .ok (.istore_n 2, 1) := by decide +kernel
theorem dX9_windNow_4 : decode cX9_windNow 4 = .ok (.iload_n 2, 1) := by decide +kernel
theorem dX9_windNow_5 : decode cX9_windNow 5 = .ok (.iconst 4, 1) := by decide +kernel
theorem dX9_windNow_6 : decode cX9_windNow 6 = .ok (.if_icmp .ge 23, 3) := by decide +kernel
theorem dX9_windNow_9 : decode cX9_windNow 9 = .ok (.iload_n 1, 1) := by decide +kernel
theorem dX9_windNow_10 : decode cX9_windNow 10 = .ok (.aload_n 0, 1) := by decide +kernel
theorem dX9_windNow_11 : decode cX9_windNow 11 = .ok (.getfield 7, 3) := by decide +kernel
theorem dX9_windNow_14 : decode cX9_windNow 14 = .ok (.bipush 14, 2) := by decide +kernel
theorem dX9_windNow_16 : decode cX9_windNow 16 = .ok (.iload_n 2, 1) := by decide +kernel
theorem dX9_windNow_17 : decode cX9_windNow 17 = .ok (.iadd, 1) := by decide +kernel
theorem dX9_windNow_18 : decode cX9_windNow 18 = .ok (.iaload, 1) := by decide +kernel
theorem dX9_windNow_19 : decode cX9_windNow 19 = .ok (.invokestatic 45, 3) := by decide +kernel
theorem dX9_windNow_22 : decode cX9_windNow 22 = .ok (.istore_n 1, 1) := by decide +kernel
theorem dX9_windNow_23 : decode cX9_windNow 23 = .ok (.iinc 2 1, 3) := by decide +kernel
theorem dX9_windNow_26 : decode cX9_windNow 26 = .ok (.goto (-22), 3) := by decide +kernel
theorem dX9_windNow_29 : decode cX9_windNow 29 = .ok (.iload_n 1, 1) := by decide +kernel
theorem dX9_windNow_30 : decode cX9_windNow 30 = .ok (.ireturn, 1) := by decide +kernel
theorem dX9_ratedFor_0 : decode cX9_ratedFor 0 = .ok (.aload_n 0, 1) := by decide +kernel
theorem dX9_ratedFor_1 : decode cX9_ratedFor 1 = .ok (.invokevirtual 100, 3) := by decide +kernel
theorem dX9_ratedFor_4 : decode cX9_ratedFor 4 = .ok (.istore 4, 2) := by decide +kernel
theorem dX9_ratedFor_6 : decode cX9_ratedFor 6 = .ok (.iload 4, 2) := by decide +kernel
theorem dX9_ratedFor_8 : decode cX9_ratedFor 8 = .ok (.bipush 100, 2) := by decide +kernel
theorem dX9_ratedFor_10 : decode cX9_ratedFor 10 = .ok (.if_icmp .gt 9, 3) := by decide +kernel
theorem dX9_ratedFor_13 : decode cX9_ratedFor 13 = .ok (.sipush 1000, 3) := by decide +kernel
theorem dX9_ratedFor_16 : decode cX9_ratedFor 16 = .ok (.goto 18, 3) := by decide +kernel
theorem dX9_ratedFor_19 : decode cX9_ratedFor 19 = .ok (.iconst 0, 1) := by decide +kernel
theorem dX9_ratedFor_20 : decode cX9_ratedFor 20 = .ok (.sipush 1000, 3) := by decide +kernel
theorem dX9_ratedFor_23 : decode cX9_ratedFor 23 = .ok (.iconst 2, 1) := by decide +kernel
theorem dX9_ratedFor_24 : decode cX9_ratedFor 24 = .ok (.iload 4, 2) := by decide +kernel
theorem dX9_ratedFor_26 : decode cX9_ratedFor 26 = .ok (.bipush 100, 2) := by decide +kernel
theorem dX9_ratedFor_28 : decode cX9_ratedFor 28 = .ok (.isub, 1) := by decide +kernel
theorem dX9_ratedFor_29 : decode cX9_ratedFor 29 = .ok (.imul, 1) := by decide +kernel
theorem dX9_ratedFor_30 : decode cX9_ratedFor 30 = .ok (.isub, 1) := by decide +kernel
theorem dX9_ratedFor_31 : decode cX9_ratedFor 31 = .ok (.invokestatic 45, 3) := by decide +kernel
theorem dX9_ratedFor_34 : decode cX9_ratedFor 34 = .ok (.istore 5, 2) := by decide +kernel
theorem dX9_ratedFor_36 : decode cX9_ratedFor 36 = .ok (.aload_n 0, 1) := by decide +kernel
theorem dX9_ratedFor_37 : decode cX9_ratedFor 37 = .ok (.aload_n 0, 1) := by decide +kernel
theorem dX9_ratedFor_38 : decode cX9_ratedFor 38 = .ok (.iload_n 3, 1) := by decide +kernel
theorem dX9_ratedFor_39 : decode cX9_ratedFor 39 = .ok (.invokevirtual 103, 3) := by decide +kernel
theorem dX9_ratedFor_42 : decode cX9_ratedFor 42 = .ok (.iload_n 1, 1) := by decide +kernel
theorem dX9_ratedFor_43 : decode cX9_ratedFor 43 = .ok (.iload_n 2, 1) := by decide +kernel
theorem dX9_ratedFor_44 : decode cX9_ratedFor 44 = .ok (.invokevirtual 106, 3) := by decide +kernel
theorem dX9_ratedFor_47 : decode cX9_ratedFor 47 = .ok (.i2l, 1) := by decide +kernel
theorem dX9_ratedFor_48 : decode cX9_ratedFor 48 = .ok (.iload 5, 2) := by decide +kernel
theorem dX9_ratedFor_50 : decode cX9_ratedFor 50 = .ok (.i2l, 1) := by decide +kernel
theorem dX9_ratedFor_51 : decode cX9_ratedFor 51 = .ok (.lmul, 1) := by decide +kernel
theorem dX9_ratedFor_52 : decode cX9_ratedFor 52 = .ok (.ldc2_w 110, 3) := by decide +kernel
theorem dX9_ratedFor_55 : decode cX9_ratedFor 55 = .ok (.ldiv, 1) := by decide +kernel
theorem dX9_ratedFor_56 : decode cX9_ratedFor 56 = .ok (.l2i, 1) := by decide +kernel
theorem dX9_ratedFor_57 : decode cX9_ratedFor 57 = .ok (.ireturn, 1) := by decide +kernel
theorem dX9_utilizationOf_0 : decode cX9_utilizationOf 0 = .ok (.iload_n 0, 1) := by decide +kernel
theorem dX9_utilizationOf_1 : decode cX9_utilizationOf 1 = .ok (.ifCond .ne 5, 3) := by decide +kernel
theorem dX9_utilizationOf_4 : decode cX9_utilizationOf 4 = .ok (.iconst 0, 1) := by decide +kernel
theorem dX9_utilizationOf_5 : decode cX9_utilizationOf 5 = .ok (.ireturn, 1) := by decide +kernel
theorem dX9_utilizationOf_6 : decode cX9_utilizationOf 6 = .ok (.iload_n 1, 1) := by decide +kernel
theorem dX9_utilizationOf_7 : decode cX9_utilizationOf 7 = .ok (.ifCond .ne 7, 3) := by decide +kernel
theorem dX9_utilizationOf_10 : decode cX9_utilizationOf 10 = .ok (.sipush 9999, 3) := by decide +kernel
theorem dX9_utilizationOf_13 : decode cX9_utilizationOf 13 = .ok (.ireturn, 1) := by decide +kernel
theorem dX9_utilizationOf_14 : decode cX9_utilizationOf 14 = .ok (.ldc2_w 110, 3) := by decide +kernel
theorem dX9_utilizationOf_17 : decode cX9_utilizationOf 17 = .ok (.iload_n 0, 1) := by decide +kernel
theorem dX9_utilizationOf_18 : decode cX9_utilizationOf 18 = .ok (.i2l, 1) := by decide +kernel
theorem dX9_utilizationOf_19 : decode cX9_utilizationOf 19 = .ok (.lmul, 1) := by decide +kernel
theorem dX9_utilizationOf_20 : decode cX9_utilizationOf 20 = .ok (.iload_n 1, 1) := by decide +kernel
theorem dX9_utilizationOf_21 : decode cX9_utilizationOf 21 = .ok (.i2l, 1) := by decide +kernel
theorem dX9_utilizationOf_22 : decode cX9_utilizationOf 22 = .ok (.ldiv, 1) := by decide +kernel
theorem dX9_utilizationOf_23 : decode cX9_utilizationOf 23 = .ok (.lstore_n 2, 1) := by decide +kernel
theorem dX9_utilizationOf_24 : decode cX9_utilizationOf 24 = .ok (.lload_n 2, 1) := by decide +kernel
theorem dX9_utilizationOf_25 : decode cX9_utilizationOf 25 = .ok (.ldc2_w 112, 3) := by decide +kernel
theorem dX9_utilizationOf_28 : decode cX9_utilizationOf 28 = .ok (.lcmp, 1) := by decide +kernel
theorem dX9_utilizationOf_29 : decode cX9_utilizationOf 29 = .ok (.ifCond .le 9, 3) := by decide +kernel
theorem dX9_utilizationOf_32 : decode cX9_utilizationOf 32 = .ok (.sipush 9999, 3) := by decide +kernel
theorem dX9_utilizationOf_35 : decode cX9_utilizationOf 35 = .ok (.goto 5, 3) := by decide +kernel
theorem dX9_utilizationOf_38 : decode cX9_utilizationOf 38 = .ok (.lload_n 2, 1) := by decide +kernel
theorem dX9_utilizationOf_39 : decode cX9_utilizationOf 39 = .ok (.l2i, 1) := by decide +kernel
theorem dX9_utilizationOf_40 : decode cX9_utilizationOf 40 = .ok (.ireturn, 1) := by decide +kernel
theorem dX9_utilizationAt_0 : decode cX9_utilizationAt 0 = .ok (.aload_n 0, 1) := by decide +kernel
theorem dX9_utilizationAt_1 : decode cX9_utilizationAt 1 = .ok (.invokevirtual 114, 3) := by decide +kernel
theorem dX9_utilizationAt_4 : decode cX9_utilizationAt 4 = .ok (.aload_n 0, 1) := by decide +kernel
theorem dX9_utilizationAt_5 : decode cX9_utilizationAt 5 = .ok (.aload_n 0, 1) := by decide +kernel
theorem dX9_utilizationAt_6 : decode cX9_utilizationAt 6 = .ok (.getfield 7, 3) := by decide +kernel
theorem dX9_utilizationAt_9 : decode cX9_utilizationAt 9 = .ok (.iconst 0, 1) := by decide +kernel
theorem dX9_utilizationAt_10 : decode cX9_utilizationAt 10 = .ok (.iaload, 1) := by decide +kernel
theorem dX9_utilizationAt_11 : decode cX9_utilizationAt 11 = .ok (.aload_n 0, 1) := by decide +kernel
theorem dX9_utilizationAt_12 : decode cX9_utilizationAt 12 = .ok (.getfield 81, 3) := by decide +kernel
theorem dX9_utilizationAt_15 : decode cX9_utilizationAt 15 = .ok (.iload_n 1, 1) := by decide +kernel
theorem dX9_utilizationAt_16 : decode cX9_utilizationAt 16 = .ok (.invokevirtual 117, 3) := by decide +kernel
theorem dX9_utilizationAt_19 : decode cX9_utilizationAt 19 = .ok (.invokestatic 120, 3) := by decide +kernel
theorem dX9_utilizationAt_22 : decode cX9_utilizationAt 22 = .ok (.ireturn, 1) := by decide +kernel
theorem dX9_utilization_0 : decode cX9_utilization 0 = .ok (.aload_n 0, 1) := by decide +kernel
theorem dX9_utilization_1 : decode cX9_utilization 1 = .ok (.invokevirtual 123, 3) := by decide +kernel
theorem dX9_utilization_4 : decode cX9_utilization 4 = .ok (.aload_n 0, 1) := by decide +kernel
theorem dX9_utilization_5 : decode cX9_utilization 5 = .ok (.aload_n 0, 1) := by decide +kernel
theorem dX9_utilization_6 : decode cX9_utilization 6 = .ok (.getfield 7, 3) := by decide +kernel
theorem dX9_utilization_9 : decode cX9_utilization 9 = .ok (.iconst 2, 1) := by decide +kernel
theorem dX9_utilization_10 : decode cX9_utilization 10 = .ok (.iaload, 1) := by decide +kernel
theorem dX9_utilization_11 : decode cX9_utilization 11 = .ok (.invokevirtual 126, 3) := by decide +kernel
theorem dX9_utilization_14 : decode cX9_utilization 14 = .ok (.ireturn, 1) := by decide +kernel
theorem dX9_violation_0 : decode cX9_violation 0 = .ok (.iconst 0, 1) := by decide +kernel
theorem dX9_violation_1 : decode cX9_violation 1 = .ok (.istore_n 1, 1) := by decide +kernel
theorem dX9_violation_2 : decode cX9_violation 2 = .ok (.iconst 0, 1) := by decide +kernel
theorem dX9_violation_3 : decode cX9_violation 3 = .ok (.istore_n 2, 1) := by decide +kernel
theorem dX9_violation_4 : decode cX9_violation 4 = .ok (.iload_n 2, 1) := by decide +kernel
theorem dX9_violation_5 : decode cX9_violation 5 = .ok (.aload_n 0, 1) := by decide +kernel
theorem dX9_violation_6 : decode cX9_violation 6 = .ok (.getfield 7, 3) := by decide +kernel
theorem dX9_violation_9 : decode cX9_violation 9 = .ok (.bipush 18, 2) := by decide +kernel
theorem dX9_violation_11 : decode cX9_violation 11 = .ok (.iaload, 1) := by decide +kernel
theorem dX9_violation_12 : decode cX9_violation 12 = .ok (.if_icmp .ge 121, 3) := by decide +kernel
theorem dX9_violation_15 : decode cX9_violation 15 = .ok (.bipush 19, 2) := by decide +kernel
theorem dX9_violation_17 : decode cX9_violation 17 = .ok (.iconst 4, 1) := by decide +kernel
theorem dX9_violation_18 : decode cX9_violation 18 = .ok (.iload_n 2, 1) := by decide +kernel
theorem dX9_violation_19 : decode cX9_violation 19 = .ok (.imul, 1) := by decide +kernel
theorem dX9_violation_20 : decode cX9_violation 20 = .ok (.iadd, 1) := by decide +kernel
theorem dX9_violation_21 : decode cX9_violation 21 = .ok (.istore_n 3, 1) := by decide +kernel
theorem dX9_violation_22 : decode cX9_violation 22 = .ok (.aload_n 0, 1) := by decide +kernel
theorem dX9_violation_23 : decode cX9_violation 23 = .ok (.getfield 7, 3) := by decide +kernel
theorem dX9_violation_26 : decode cX9_violation 26 = .ok (.iload_n 3, 1) := by decide +kernel
theorem dX9_violation_27 : decode cX9_violation 27 = .ok (.iconst 1, 1) := by decide +kernel
theorem dX9_violation_28 : decode cX9_violation 28 = .ok (.iadd, 1) := by decide +kernel
theorem dX9_violation_29 : decode cX9_violation 29 = .ok (.iaload, 1) := by decide +kernel
theorem dX9_violation_30 : decode cX9_violation 30 = .ok (.aload_n 0, 1) := by decide +kernel
theorem dX9_violation_31 : decode cX9_violation 31 = .ok (.getfield 7, 3) := by decide +kernel
theorem dX9_violation_34 : decode cX9_violation 34 = .ok (.iload_n 3, 1) := by decide +kernel
theorem dX9_violation_35 : decode cX9_violation 35 = .ok (.iaload, 1) := by decide +kernel
theorem dX9_violation_36 : decode cX9_violation 36 = .ok (.isub, 1) := by decide +kernel
theorem dX9_violation_37 : decode cX9_violation 37 = .ok (.sipush 3600, 3) := by decide +kernel
theorem dX9_violation_40 : decode cX9_violation 40 = .ok (.iadd, 1) := by decide +kernel
theorem dX9_violation_41 : decode cX9_violation 41 = .ok (.sipush 3600, 3) := by decide +kernel
theorem dX9_violation_44 : decode cX9_violation 44 = .ok (.irem, 1) := by decide +kernel
theorem dX9_violation_45 : decode cX9_violation 45 = .ok (.istore 4, 2) := by decide +kernel
theorem dX9_violation_47 : decode cX9_violation 47 = .ok (.aload_n 0, 1) := by decide +kernel
theorem dX9_violation_48 : decode cX9_violation 48 = .ok (.getfield 7, 3) := by decide +kernel
theorem dX9_violation_51 : decode cX9_violation 51 = .ok (.iconst 2, 1) := by decide +kernel
theorem dX9_violation_52 : decode cX9_violation 52 = .ok (.iaload, 1) := by decide +kernel
theorem dX9_violation_53 : decode cX9_violation 53 = .ok (.aload_n 0, 1) := by decide +kernel
theorem dX9_violation_54 : decode cX9_violation 54 = .ok (.getfield 7, 3) := by decide +kernel
theorem dX9_violation_57 : decode cX9_violation 57 = .ok (.iload_n 3, 1) := by decide +kernel
theorem dX9_violation_58 : decode cX9_violation 58 = .ok (.iaload, 1) := by decide +kernel
theorem dX9_violation_59 : decode cX9_violation 59 = .ok (.isub, 1) := by decide +kernel
theorem dX9_violation_60 : decode cX9_violation 60 = .ok (.sipush 3600, 3) := by decide +kernel
theorem dX9_violation_63 : decode cX9_violation 63 = .ok (.iadd, 1) := by decide +kernel
theorem dX9_violation_64 : decode cX9_violation 64 = .ok (.sipush 3600, 3) := by decide +kernel
theorem dX9_violation_67 : decode cX9_violation 67 = .ok (.irem, 1) := by decide +kernel
theorem dX9_violation_68 : decode cX9_violation 68 = .ok (.iload 4, 2) := by decide +kernel
theorem dX9_violation_70 : decode cX9_violation 70 = .ok (.if_icmp .gt 7, 3) := by decide +kernel
theorem dX9_violation_73 : decode cX9_violation 73 = .ok (.iconst 1, 1) := by decide +kernel
theorem dX9_violation_74 : decode cX9_violation 74 = .ok (.goto 4, 3) := by decide +kernel
theorem dX9_violation_77 : decode cX9_violation 77 = .ok (.iconst 0, 1) := by decide +kernel
theorem dX9_violation_78 : decode cX9_violation 78 = .ok (.istore 5, 2) := by decide +kernel
theorem dX9_violation_80 : decode cX9_violation 80 = .ok (.iload_n 1, 1) := by decide +kernel
theorem dX9_violation_81 : decode cX9_violation 81 = .ok (.iload 5, 2) := by decide +kernel
theorem dX9_violation_83 : decode cX9_violation 83 = .ok (.ifCond .eq 41, 3) := by decide +kernel
theorem dX9_violation_86 : decode cX9_violation 86 = .ok (.iconst 0, 1) := by decide +kernel
theorem dX9_violation_87 : decode cX9_violation 87 = .ok (.aload_n 0, 1) := by decide +kernel
theorem dX9_violation_88 : decode cX9_violation 88 = .ok (.invokevirtual 55, 3) := by decide +kernel
theorem dX9_violation_91 : decode cX9_violation 91 = .ok (.aload_n 0, 1) := by decide +kernel
theorem dX9_violation_92 : decode cX9_violation 92 = .ok (.getfield 7, 3) := by decide +kernel
theorem dX9_violation_95 : decode cX9_violation 95 = .ok (.iload_n 3, 1) := by decide +kernel
theorem dX9_violation_96 : decode cX9_violation 96 = .ok (.iconst 2, 1) := by decide +kernel
theorem dX9_violation_97 : decode cX9_violation 97 = .ok (.iadd, 1) := by decide +kernel
theorem dX9_violation_98 : decode cX9_violation 98 = .ok (.iaload, 1) := by decide +kernel
theorem dX9_violation_99 : decode cX9_violation 99 = .ok (.isub, 1) := by decide +kernel
theorem dX9_violation_100 : decode cX9_violation 100 = .ok (.invokestatic 45, 3) := by decide +kernel
theorem dX9_violation_103 : decode cX9_violation 103 = .ok (.iconst 0, 1) := by decide +kernel
theorem dX9_violation_104 : decode cX9_violation 104 = .ok (.aload_n 0, 1) := by decide +kernel
theorem dX9_violation_105 : decode cX9_violation 105 = .ok (.invokevirtual 129, 3) := by decide +kernel
theorem dX9_violation_108 : decode cX9_violation 108 = .ok (.aload_n 0, 1) := by decide +kernel
theorem dX9_violation_109 : decode cX9_violation 109 = .ok (.getfield 7, 3) := by decide +kernel
theorem dX9_violation_112 : decode cX9_violation 112 = .ok (.iload_n 3, 1) := by decide +kernel
theorem dX9_violation_113 : decode cX9_violation 113 = .ok (.iconst 3, 1) := by decide +kernel
theorem dX9_violation_114 : decode cX9_violation 114 = .ok (.iadd, 1) := by decide +kernel
theorem dX9_violation_115 : decode cX9_violation 115 = .ok (.iaload, 1) := by decide +kernel
theorem dX9_violation_116 : decode cX9_violation 116 = .ok (.isub, 1) := by decide +kernel
theorem dX9_violation_117 : decode cX9_violation 117 = .ok (.invokestatic 45, 3) := by decide +kernel
theorem dX9_violation_120 : decode cX9_violation 120 = .ok (.iadd, 1) := by decide +kernel
theorem dX9_violation_121 : decode cX9_violation 121 = .ok (.goto 4, 3) := by decide +kernel
theorem dX9_violation_124 : decode cX9_violation 124 = .ok (.iconst 0, 1) := by decide +kernel
theorem dX9_violation_125 : decode cX9_violation 125 = .ok (.iadd, 1) := by decide +kernel
theorem dX9_violation_126 : decode cX9_violation 126 = .ok (.istore_n 1, 1) := by decide +kernel
theorem dX9_violation_127 : decode cX9_violation 127 = .ok (.iinc 2 1, 3) := by decide +kernel
theorem dX9_violation_130 : decode cX9_violation 130 = .ok (.goto (-126), 3) := by decide +kernel
theorem dX9_violation_133 : decode cX9_violation 133 = .ok (.iload_n 1, 1) := by decide +kernel
theorem dX9_violation_134 : decode cX9_violation 134 = .ok (.ireturn, 1) := by decide +kernel
theorem dX9_setOutrigger_0 : decode cX9_setOutrigger 0 = .ok (.aload_n 0, 1) := by decide +kernel
theorem dX9_setOutrigger_1 : decode cX9_setOutrigger 1 = .ok (.iconst 0, 1) := by decide +kernel
theorem dX9_setOutrigger_2 : decode cX9_setOutrigger 2 = .ok (.putfield 28, 3) := by decide +kernel
theorem dX9_setOutrigger_5 : decode cX9_setOutrigger 5 = .ok (.iload_n 1, 1) := by decide +kernel
theorem dX9_setOutrigger_6 : decode cX9_setOutrigger 6 = .ok (.iconst 0, 1) := by decide +kernel
theorem dX9_setOutrigger_7 : decode cX9_setOutrigger 7 = .ok (.iconst 3, 1) := by decide +kernel
theorem dX9_setOutrigger_8 : decode cX9_setOutrigger 8 = .ok (.invokestatic 132, 3) := by decide +kernel
theorem dX9_setOutrigger_11 : decode cX9_setOutrigger 11 = .ok (.ifCond .ne 9, 3) := by decide +kernel
theorem dX9_setOutrigger_14 : decode cX9_setOutrigger 14 = .ok (.aload_n 0, 1) := by decide +kernel
theorem dX9_setOutrigger_15 : decode cX9_setOutrigger 15 = .ok (.iconst 1, 1) := by decide +kernel
theorem dX9_setOutrigger_16 : decode cX9_setOutrigger 16 = .ok (.invokevirtual 136, 3) := by decide +kernel
theorem dX9_setOutrigger_19 : decode cX9_setOutrigger 19 = .ok (.ireturn, 1) := by decide +kernel
theorem dX9_setOutrigger_20 : decode cX9_setOutrigger 20 = .ok (.iload_n 2, 1) := by decide +kernel
theorem dX9_setOutrigger_21 : decode cX9_setOutrigger 21 = .ok (.iconst 0, 1) := by decide +kernel
theorem dX9_setOutrigger_22 : decode cX9_setOutrigger 22 = .ok (.iconst 2, 1) := by decide +kernel
theorem dX9_setOutrigger_23 : decode cX9_setOutrigger 23 = .ok (.invokestatic 132, 3) := by decide +kernel
theorem dX9_setOutrigger_26 : decode cX9_setOutrigger 26 = .ok (.ifCond .eq 15, 3) := by decide +kernel
theorem dX9_setOutrigger_29 : decode cX9_setOutrigger 29 = .ok (.aload_n 0, 1) := by decide +kernel
theorem dX9_setOutrigger_30 : decode cX9_setOutrigger 30 = .ok (.bipush 43, 2) := by decide +kernel
theorem dX9_setOutrigger_32 : decode cX9_setOutrigger 32 = .ok (.iload_n 1, 1) := by decide +kernel
theorem dX9_setOutrigger_33 : decode cX9_setOutrigger 33 = .ok (.iadd, 1) := by decide +kernel
theorem dX9_setOutrigger_34 : decode cX9_setOutrigger 34 = .ok (.iload_n 2, 1) := by decide +kernel
theorem dX9_setOutrigger_35 : decode cX9_setOutrigger 35 = .ok (.invokevirtual 139, 3) := by decide +kernel
theorem dX9_setOutrigger_38 : decode cX9_setOutrigger 38 = .ok (.goto 8, 3) := by decide +kernel
theorem dX9_setOutrigger_41 : decode cX9_setOutrigger 41 = .ok (.aload_n 0, 1) := by decide +kernel
theorem dX9_setOutrigger_42 : decode cX9_setOutrigger 42 = .ok (.iconst 2, 1) := by decide +kernel
theorem dX9_setOutrigger_43 : decode cX9_setOutrigger 43 = .ok (.invokevirtual 136, 3) := by decide +kernel
theorem dX9_setOutrigger_46 : decode cX9_setOutrigger 46 = .ok (.ireturn, 1) := by decide +kernel
theorem dX9_setOnWheels_0 : decode cX9_setOnWheels 0 = .ok (.aload_n 0, 1) := by decide +kernel
theorem dX9_setOnWheels_1 : decode cX9_setOnWheels 1 = .ok (.iconst 0, 1) := by decide +kernel
theorem dX9_setOnWheels_2 : decode cX9_setOnWheels 2 = .ok (.putfield 28, 3) := by decide +kernel
theorem dX9_setOnWheels_5 : decode cX9_setOnWheels 5 = .ok (.aload_n 0, 1) := by decide +kernel
theorem dX9_setOnWheels_6 : decode cX9_setOnWheels 6 = .ok (.bipush 10, 2) := by decide +kernel
theorem dX9_setOnWheels_8 : decode cX9_setOnWheels 8 = .ok (.iload_n 1, 1) := by decide +kernel
theorem dX9_setOnWheels_9 : decode cX9_setOnWheels 9 = .ok (.ifCond .eq 7, 3) := by decide +kernel
theorem dX9_setOnWheels_12 : decode cX9_setOnWheels 12 = .ok (.iconst 1, 1) := by decide +kernel
theorem dX9_setOnWheels_13 : decode cX9_setOnWheels 13 = .ok (.goto 4, 3) := by decide +kernel
theorem dX9_setOnWheels_16 : decode cX9_setOnWheels 16 = .ok (.iconst 0, 1) := by decide +kernel
theorem dX9_setOnWheels_17 : decode cX9_setOnWheels 17 = .ok (.invokevirtual 139, 3) := by decide +kernel
theorem dX9_setOnWheels_20 : decode cX9_setOnWheels 20 = .ok (.iconst 1, 1) := by decide +kernel
theorem dX9_setOnWheels_21 : decode cX9_setOnWheels 21 = .ok (.if_icmp .ne 7, 3) := by decide +kernel
theorem dX9_setOnWheels_24 : decode cX9_setOnWheels 24 = .ok (.iconst 1, 1) := by decide +kernel
theorem dX9_setOnWheels_25 : decode cX9_setOnWheels 25 = .ok (.goto 4, 3) := by decide +kernel
theorem dX9_setOnWheels_28 : decode cX9_setOnWheels 28 = .ok (.iconst 0, 1) := by decide +kernel
theorem dX9_setOnWheels_29 : decode cX9_setOnWheels 29 = .ok (.ireturn, 1) := by decide +kernel
theorem dX9_isPlace_0 : decode cX9_isPlace 0 = .ok (.iload_n 0, 1) := by decide +kernel
theorem dX9_isPlace_1 : decode cX9_isPlace 1 = .ok (.iconst 0, 1) := by decide +kernel
theorem dX9_isPlace_2 : decode cX9_isPlace 2 = .ok (.iconst 3, 1) := by decide +kernel
theorem dX9_isPlace_3 : decode cX9_isPlace 3 = .ok (.invokestatic 132, 3) := by decide +kernel
theorem dX9_isPlace_6 : decode cX9_isPlace 6 = .ok (.ifCond .eq 25, 3) := by decide +kernel
theorem dX9_isPlace_9 : decode cX9_isPlace 9 = .ok (.iload_n 1, 1) := by decide +kernel
theorem dX9_isPlace_10 : decode cX9_isPlace 10 = .ok (.iconst 0, 1) := by decide +kernel
theorem dX9_isPlace_11 : decode cX9_isPlace 11 = .ok (.iconst 3, 1) := by decide +kernel
theorem dX9_isPlace_12 : decode cX9_isPlace 12 = .ok (.invokestatic 132, 3) := by decide +kernel
theorem dX9_isPlace_15 : decode cX9_isPlace 15 = .ok (.ifCond .eq 16, 3) := by decide +kernel
theorem dX9_isPlace_18 : decode cX9_isPlace 18 = .ok (.iload_n 2, 1) := by decide +kernel
theorem dX9_isPlace_19 : decode cX9_isPlace 19 = .ok (.iconst 0, 1) := by decide +kernel
theorem dX9_isPlace_20 : decode cX9_isPlace 20 = .ok (.iconst 5, 1) := by decide +kernel
theorem dX9_isPlace_21 : decode cX9_isPlace 21 = .ok (.invokestatic 132, 3) := by decide +kernel
theorem dX9_isPlace_24 : decode cX9_isPlace 24 = .ok (.ifCond .eq 7, 3) := by decide +kernel
theorem dX9_isPlace_27 : decode cX9_isPlace 27 = .ok (.iconst 1, 1) := by decide +kernel
theorem dX9_isPlace_28 : decode cX9_isPlace 28 = .ok (.goto 4, 3) := by decide +kernel
theorem dX9_isPlace_31 : decode cX9_isPlace 31 = .ok (.iconst 0, 1) := by decide +kernel
theorem dX9_isPlace_32 : decode cX9_isPlace 32 = .ok (.ireturn, 1) := by decide +kernel
theorem dX9_setCapacity_0 : decode cX9_setCapacity 0 = .ok (.aload_n 0, 1) := by decide +kernel
theorem dX9_setCapacity_1 : decode cX9_setCapacity 1 = .ok (.iconst 0, 1) := by decide +kernel
theorem dX9_setCapacity_2 : decode cX9_setCapacity 2 = .ok (.putfield 28, 3) := by decide +kernel
theorem dX9_setCapacity_5 : decode cX9_setCapacity 5 = .ok (.iload_n 1, 1) := by decide +kernel
theorem dX9_setCapacity_6 : decode cX9_setCapacity 6 = .ok (.iload_n 2, 1) := by decide +kernel
theorem dX9_setCapacity_7 : decode cX9_setCapacity 7 = .ok (.iload_n 3, 1) := by decide +kernel
theorem dX9_setCapacity_8 : decode cX9_setCapacity 8 = .ok (.invokestatic 142, 3) := by decide +kernel
theorem dX9_setCapacity_11 : decode cX9_setCapacity 11 = .ok (.ifCond .ne 9, 3) := by decide +kernel
theorem dX9_setCapacity_14 : decode cX9_setCapacity 14 = .ok (.aload_n 0, 1) := by decide +kernel
theorem dX9_setCapacity_15 : decode cX9_setCapacity 15 = .ok (.iconst 1, 1) := by decide +kernel
theorem dX9_setCapacity_16 : decode cX9_setCapacity 16 = .ok (.invokevirtual 136, 3) := by decide +kernel
theorem dX9_setCapacity_19 : decode cX9_setCapacity 19 = .ok (.ireturn, 1) := by decide +kernel
theorem dX9_setCapacity_20 : decode cX9_setCapacity 20 = .ok (.iload 4, 2) := by decide +kernel
theorem dX9_setCapacity_22 : decode cX9_setCapacity 22 = .ok (.iconst 0, 1) := by decide +kernel
theorem dX9_setCapacity_23 : decode cX9_setCapacity 23 = .ok (.ldc 145, 2) := by decide +kernel
theorem dX9_setCapacity_25 : decode cX9_setCapacity 25 = .ok (.invokestatic 132, 3) := by decide +kernel
theorem dX9_setCapacity_28 : decode cX9_setCapacity 28 = .ok (.ifCond .eq 26, 3) := by decide +kernel
theorem dX9_setCapacity_31 : decode cX9_setCapacity 31 = .ok (.aload_n 0, 1) := by decide +kernel
theorem dX9_setCapacity_32 : decode cX9_setCapacity 32 = .ok (.bipush 47, 2) := by decide +kernel
theorem dX9_setCapacity_34 : decode cX9_setCapacity 34 = .ok (.bipush 24, 2) := by decide +kernel
theorem dX9_setCapacity_36 : decode cX9_setCapacity 36 = .ok (.iload_n 1, 1) := by decide +kernel
theorem dX9_setCapacity_37 : decode cX9_setCapacity 37 = .ok (.imul, 1) := by decide +kernel
theorem dX9_setCapacity_38 : decode cX9_setCapacity 38 = .ok (.iadd, 1) := by decide +kernel
theorem dX9_setCapacity_39 : decode cX9_setCapacity 39 = .ok (.bipush 6, 2) := by decide +kernel
theorem dX9_setCapacity_41 : decode cX9_setCapacity 41 = .ok (.iload_n 2, 1) := by decide +kernel
theorem dX9_setCapacity_42 : decode cX9_setCapacity 42 = .ok (.imul, 1) := by decide +kernel
theorem dX9_setCapacity_43 : decode cX9_setCapacity 43 = .ok (.iadd, 1) := by decide +kernel
theorem dX9_setCapacity_44 : decode cX9_setCapacity 44 = .ok (.iload_n 3, 1) := by decide +kernel
theorem dX9_setCapacity_45 : decode cX9_setCapacity 45 = .ok (.iadd, 1) := by decide +kernel
theorem dX9_setCapacity_46 : decode cX9_setCapacity 46 = .ok (.iload 4, 2) := by decide +kernel
theorem dX9_setCapacity_48 : decode cX9_setCapacity 48 = .ok (.invokevirtual 139, 3) := by decide +kernel
theorem dX9_setCapacity_51 : decode cX9_setCapacity 51 = .ok (.goto 8, 3) := by decide +kernel
theorem dX9_setCapacity_54 : decode cX9_setCapacity 54 = .ok (.aload_n 0, 1) := by decide +kernel
theorem dX9_setCapacity_55 : decode cX9_setCapacity 55 = .ok (.iconst 2, 1) := by decide +kernel
theorem dX9_setCapacity_56 : decode cX9_setCapacity 56 = .ok (.invokevirtual 136, 3) := by decide +kernel
theorem dX9_setCapacity_59 : decode cX9_setCapacity 59 = .ok (.ireturn, 1) := by decide +kernel
theorem dX9_sumOf_0 : decode cX9_sumOf 0 = .ok (.iconst 0, 1) := by decide +kernel
theorem dX9_sumOf_1 : decode cX9_sumOf 1 = .ok (.istore_n 2, 1) := by decide +kernel
theorem dX9_sumOf_2 : decode cX9_sumOf 2 = .ok (.iconst 0, 1) := by decide +kernel
theorem dX9_sumOf_3 : decode cX9_sumOf 3 = .ok (.istore_n 3, 1) := by decide +kernel
theorem dX9_sumOf_4 : decode cX9_sumOf 4 = .ok (.iload_n 3, 1) := by decide +kernel
theorem dX9_sumOf_5 : decode cX9_sumOf 5 = .ok (.bipush 24, 2) := by decide +kernel
theorem dX9_sumOf_7 : decode cX9_sumOf 7 = .ok (.if_icmp .ge 26, 3) := by decide +kernel
theorem dX9_sumOf_10 : decode cX9_sumOf 10 = .ok (.iload_n 2, 1) := by decide +kernel
theorem dX9_sumOf_11 : decode cX9_sumOf 11 = .ok (.aload_n 0, 1) := by decide +kernel
theorem dX9_sumOf_12 : decode cX9_sumOf 12 = .ok (.getfield 7, 3) := by decide +kernel
theorem dX9_sumOf_15 : decode cX9_sumOf 15 = .ok (.bipush 47, 2) := by decide +kernel
theorem dX9_sumOf_17 : decode cX9_sumOf 17 = .ok (.bipush 24, 2) := by decide +kernel
theorem dX9_sumOf_19 : decode cX9_sumOf 19 = .ok (.iload_n 1, 1) := by decide +kernel
theorem dX9_sumOf_20 : decode cX9_sumOf 20 = .ok (.imul, 1) := by decide +kernel
theorem dX9_sumOf_21 : decode cX9_sumOf 21 = .ok (.iadd, 1) := by decide +kernel
theorem dX9_sumOf_22 : decode cX9_sumOf 22 = .ok (.iload_n 3, 1) := by decide +kernel
theorem dX9_sumOf_23 : decode cX9_sumOf 23 = .ok (.iadd, 1) := by decide +kernel
theorem dX9_sumOf_24 : decode cX9_sumOf 24 = .ok (.iaload, 1) := by decide +kernel
theorem dX9_sumOf_25 : decode cX9_sumOf 25 = .ok (.iadd, 1) := by decide +kernel
theorem dX9_sumOf_26 : decode cX9_sumOf 26 = .ok (.istore_n 2, 1) := by decide +kernel
theorem dX9_sumOf_27 : decode cX9_sumOf 27 = .ok (.iinc 3 1, 3) := by decide +kernel
theorem dX9_sumOf_30 : decode cX9_sumOf 30 = .ok (.goto (-26), 3) := by decide +kernel
theorem dX9_sumOf_33 : decode cX9_sumOf 33 = .ok (.iload_n 2, 1) := by decide +kernel
theorem dX9_sumOf_34 : decode cX9_sumOf 34 = .ok (.ireturn, 1) := by decide +kernel
theorem dX9_fillTable_0 : decode cX9_fillTable 0 = .ok (.aload_n 0, 1) := by decide +kernel
theorem dX9_fillTable_1 : decode cX9_fillTable 1 = .ok (.iconst 0, 1) := by decide +kernel
theorem dX9_fillTable_2 : decode cX9_fillTable 2 = .ok (.putfield 28, 3) := by decide +kernel
theorem dX9_fillTable_5 : decode cX9_fillTable 5 = .ok (.iload_n 1, 1) := by decide +kernel
theorem dX9_fillTable_6 : decode cX9_fillTable 6 = .ok (.iconst 0, 1) := by decide +kernel
theorem dX9_fillTable_7 : decode cX9_fillTable 7 = .ok (.iconst 3, 1) := by decide +kernel
theorem dX9_fillTable_8 : decode cX9_fillTable 8 = .ok (.invokestatic 132, 3) := by decide +kernel
theorem dX9_fillTable_11 : decode cX9_fillTable 11 = .ok (.ifCond .ne 9, 3) := by decide +kernel
theorem dX9_fillTable_14 : decode cX9_fillTable 14 = .ok (.aload_n 0, 1) := by decide +kernel
theorem dX9_fillTable_15 : decode cX9_fillTable 15 = .ok (.iconst 1, 1) := by decide +kernel
theorem dX9_fillTable_16 : decode cX9_fillTable 16 = .ok (.invokevirtual 136, 3) := by decide +kernel
theorem dX9_fillTable_19 : decode cX9_fillTable 19 = .ok (.ireturn, 1) := by decide +kernel
theorem dX9_fillTable_20 : decode cX9_fillTable 20 = .ok (.iload_n 2, 1) := by decide +kernel
theorem dX9_fillTable_21 : decode cX9_fillTable 21 = .ok (.iconst 0, 1) := by decide +kernel
theorem dX9_fillTable_22 : decode cX9_fillTable 22 = .ok (.ldc 146, 2) := by decide +kernel
theorem dX9_fillTable_24 : decode cX9_fillTable 24 = .ok (.invokestatic 132, 3) := by decide +kernel
theorem dX9_fillTable_27 : decode cX9_fillTable 27 = .ok (.ifCond .ne 9, 3) := by decide +kernel
theorem dX9_fillTable_30 : decode cX9_fillTable 30 = .ok (.aload_n 0, 1) := by decide +kernel
theorem dX9_fillTable_31 : decode cX9_fillTable 31 = .ok (.iconst 2, 1) := by decide +kernel
theorem dX9_fillTable_32 : decode cX9_fillTable 32 = .ok (.invokevirtual 136, 3) := by decide +kernel
theorem dX9_fillTable_35 : decode cX9_fillTable 35 = .ok (.ireturn, 1) := by decide +kernel
theorem dX9_fillTable_36 : decode cX9_fillTable 36 = .ok (.aload_n 0, 1) := by decide +kernel
theorem dX9_fillTable_37 : decode cX9_fillTable 37 = .ok (.invokevirtual 35, 3) := by decide +kernel
theorem dX9_fillTable_40 : decode cX9_fillTable 40 = .ok (.iconst 0, 1) := by decide +kernel
theorem dX9_fillTable_41 : decode cX9_fillTable 41 = .ok (.istore_n 3, 1) := by decide +kernel
theorem dX9_fillTable_42 : decode cX9_fillTable 42 = .ok (.iload_n 3, 1) := by decide +kernel
theorem dX9_fillTable_43 : decode cX9_fillTable 43 = .ok (.bipush 24, 2) := by decide +kernel
theorem dX9_fillTable_45 : decode cX9_fillTable 45 = .ok (.if_icmp .ge 56, 3) := by decide +kernel
theorem dX9_fillTable_48 : decode cX9_fillTable 48 = .ok (.ldc 145, 2) := by decide +kernel
theorem dX9_fillTable_50 : decode cX9_fillTable 50 = .ok (.sipush 1000, 3) := by decide +kernel
theorem dX9_fillTable_53 : decode cX9_fillTable 53 = .ok (.iload_n 2, 1) := by decide +kernel
theorem dX9_fillTable_54 : decode cX9_fillTable 54 = .ok (.imul, 1) := by decide +kernel
theorem dX9_fillTable_55 : decode cX9_fillTable 55 = .ok (.iload_n 3, 1) := by decide +kernel
theorem dX9_fillTable_56 : decode cX9_fillTable 56 = .ok (.bipush 6, 2) := by decide +kernel
theorem dX9_fillTable_58 : decode cX9_fillTable 58 = .ok (.irem, 1) := by decide +kernel
theorem dX9_fillTable_59 : decode cX9_fillTable 59 = .ok (.invokestatic 87, 3) := by decide +kernel
theorem dX9_fillTable_62 : decode cX9_fillTable 62 = .ok (.idiv, 1) := by decide +kernel
theorem dX9_fillTable_63 : decode cX9_fillTable 63 = .ok (.invokestatic 94, 3) := by decide +kernel
theorem dX9_fillTable_66 : decode cX9_fillTable 66 = .ok (.istore 4, 2) := by decide +kernel
theorem dX9_fillTable_68 : decode cX9_fillTable 68 = .ok (.aload_n 0, 1) := by decide +kernel
theorem dX9_fillTable_69 : decode cX9_fillTable 69 = .ok (.getfield 7, 3) := by decide +kernel
theorem dX9_fillTable_72 : decode cX9_fillTable 72 = .ok (.bipush 47, 2) := by decide +kernel
theorem dX9_fillTable_74 : decode cX9_fillTable 74 = .ok (.bipush 24, 2) := by decide +kernel
theorem dX9_fillTable_76 : decode cX9_fillTable 76 = .ok (.iload_n 1, 1) := by decide +kernel
theorem dX9_fillTable_77 : decode cX9_fillTable 77 = .ok (.imul, 1) := by decide +kernel
theorem dX9_fillTable_78 : decode cX9_fillTable 78 = .ok (.iadd, 1) := by decide +kernel
theorem dX9_fillTable_79 : decode cX9_fillTable 79 = .ok (.iload_n 3, 1) := by decide +kernel
theorem dX9_fillTable_80 : decode cX9_fillTable 80 = .ok (.iadd, 1) := by decide +kernel
theorem dX9_fillTable_81 : decode cX9_fillTable 81 = .ok (.iload 4, 2) := by decide +kernel
theorem dX9_fillTable_83 : decode cX9_fillTable 83 = .ok (.bipush 10, 2) := by decide +kernel
theorem dX9_fillTable_85 : decode cX9_fillTable 85 = .ok (.iload_n 3, 1) := by decide +kernel
theorem dX9_fillTable_86 : decode cX9_fillTable 86 = .ok (.bipush 6, 2) := by decide +kernel
theorem dX9_fillTable_88 : decode cX9_fillTable 88 = .ok (.idiv, 1) := by decide +kernel
theorem dX9_fillTable_89 : decode cX9_fillTable 89 = .ok (.isub, 1) := by decide +kernel
theorem dX9_fillTable_90 : decode cX9_fillTable 90 = .ok (.imul, 1) := by decide +kernel
theorem dX9_fillTable_91 : decode cX9_fillTable 91 = .ok (.bipush 10, 2) := by decide +kernel
theorem dX9_fillTable_93 : decode cX9_fillTable 93 = .ok (.idiv, 1) := by decide +kernel
theorem dX9_fillTable_94 : decode cX9_fillTable 94 = .ok (.iastore, 1) := by decide +kernel
theorem dX9_fillTable_95 : decode cX9_fillTable 95 = .ok (.iinc 3 1, 3) := by decide +kernel
theorem dX9_fillTable_98 : decode cX9_fillTable 98 = .ok (.goto (-56), 3) := by decide +kernel
theorem dX9_fillTable_101 : decode cX9_fillTable 101 = .ok (.aload_n 0, 1) := by decide +kernel
theorem dX9_fillTable_102 : decode cX9_fillTable 102 = .ok (.iload_n 1, 1) := by decide +kernel
theorem dX9_fillTable_103 : decode cX9_fillTable 103 = .ok (.invokevirtual 147, 3) := by decide +kernel
theorem dX9_fillTable_106 : decode cX9_fillTable 106 = .ok (.ireturn, 1) := by decide +kernel
theorem dX9_capacity_0 : decode cX9_capacity 0 = .ok (.aload_n 0, 1) := by decide +kernel
theorem dX9_capacity_1 : decode cX9_capacity 1 = .ok (.iconst 0, 1) := by decide +kernel
theorem dX9_capacity_2 : decode cX9_capacity 2 = .ok (.putfield 28, 3) := by decide +kernel
theorem dX9_capacity_5 : decode cX9_capacity 5 = .ok (.iload_n 1, 1) := by decide +kernel
theorem dX9_capacity_6 : decode cX9_capacity 6 = .ok (.iload_n 2, 1) := by decide +kernel
theorem dX9_capacity_7 : decode cX9_capacity 7 = .ok (.iload_n 3, 1) := by decide +kernel
theorem dX9_capacity_8 : decode cX9_capacity 8 = .ok (.invokestatic 142, 3) := by decide +kernel
theorem dX9_capacity_11 : decode cX9_capacity 11 = .ok (.ifCond .eq 14, 3) := by decide +kernel
theorem dX9_capacity_14 : decode cX9_capacity 14 = .ok (.aload_n 0, 1) := by decide +kernel
theorem dX9_capacity_15 : decode cX9_capacity 15 = .ok (.iload_n 1, 1) := by decide +kernel
theorem dX9_capacity_16 : decode cX9_capacity 16 = .ok (.iload_n 2, 1) := by decide +kernel
theorem dX9_capacity_17 : decode cX9_capacity 17 = .ok (.iload_n 3, 1) := by decide +kernel
theorem dX9_capacity_18 : decode cX9_capacity 18 = .ok (.invokevirtual 90, 3) := by decide +kernel
theorem dX9_capacity_21 : decode cX9_capacity 21 = .ok (.l2i, 1) := by decide +kernel
theorem dX9_capacity_22 : decode cX9_capacity 22 = .ok (.goto 8, 3) := by decide +kernel
theorem dX9_capacity_25 : decode cX9_capacity 25 = .ok (.aload_n 0, 1) := by decide +kernel
theorem dX9_capacity_26 : decode cX9_capacity 26 = .ok (.iconst 1, 1) := by decide +kernel
theorem dX9_capacity_27 : decode cX9_capacity 27 = .ok (.invokevirtual 136, 3) := by decide +kernel
theorem dX9_capacity_30 : decode cX9_capacity 30 = .ok (.ireturn, 1) := by decide +kernel
theorem dX9_addZone_0 : decode cX9_addZone 0 = .ok (.aload_n 0, 1) := by decide +kernel
theorem dX9_addZone_1 : decode cX9_addZone 1 = .ok (.iconst 0, 1) := by decide +kernel
theorem dX9_addZone_2 : decode cX9_addZone 2 = .ok (.putfield 28, 3) := by decide +kernel
theorem dX9_addZone_5 : decode cX9_addZone 5 = .ok (.iload_n 1, 1) := by decide +kernel
theorem dX9_addZone_6 : decode cX9_addZone 6 = .ok (.iconst 0, 1) := by decide +kernel
theorem dX9_addZone_7 : decode cX9_addZone 7 = .ok (.sipush 3599, 3) := by decide +kernel
theorem dX9_addZone_10 : decode cX9_addZone 10 = .ok (.invokestatic 132, 3) := by decide +kernel
theorem dX9_addZone_13 : decode cX9_addZone 13 = .ok (.ifCond .eq 37, 3) := by decide +kernel
theorem dX9_addZone_16 : decode cX9_addZone 16 = .ok (.iload_n 2, 1) := by decide +kernel
theorem dX9_addZone_17 : decode cX9_addZone 17 = .ok (.iconst 0, 1) := by decide +kernel
theorem dX9_addZone_18 : decode cX9_addZone 18 = .ok (.sipush 3599, 3) := by decide +kernel
theorem dX9_addZone_21 : decode cX9_addZone 21 = .ok (.invokestatic 132, 3) := by decide +kernel
theorem dX9_addZone_24 : decode cX9_addZone 24 = .ok (.ifCond .eq 26, 3) := by decide +kernel
theorem dX9_addZone_27 : decode cX9_addZone 27 = .ok (.iload_n 3, 1) := by decide +kernel
theorem dX9_addZone_28 : decode cX9_addZone 28 = .ok (.iconst 0, 1) := by decide +kernel
theorem dX9_addZone_29 : decode cX9_addZone 29 = .ok (.sipush 10000, 3) := by decide +kernel
theorem dX9_addZone_32 : decode cX9_addZone 32 = .ok (.invokestatic 132, 3) := by decide +kernel
theorem dX9_addZone_35 : decode cX9_addZone 35 = .ok (.ifCond .eq 15, 3) := by decide +kernel
theorem dX9_addZone_38 : decode cX9_addZone 38 = .ok (.iload 4, 2) := by decide +kernel
theorem dX9_addZone_40 : decode cX9_addZone 40 = .ok (.iconst 0, 1) := by decide +kernel
theorem dX9_addZone_41 : decode cX9_addZone 41 = .ok (.sipush 10000, 3) := by decide +kernel
theorem dX9_addZone_44 : decode cX9_addZone 44 = .ok (.invokestatic 132, 3) := by decide +kernel
theorem dX9_addZone_47 : decode cX9_addZone 47 = .ok (.ifCond .ne 9, 3) := by decide +kernel
theorem dX9_addZone_50 : decode cX9_addZone 50 = .ok (.aload_n 0, 1) := by decide +kernel
theorem dX9_addZone_51 : decode cX9_addZone 51 = .ok (.iconst 1, 1) := by decide +kernel
theorem dX9_addZone_52 : decode cX9_addZone 52 = .ok (.invokevirtual 136, 3) := by decide +kernel
theorem dX9_addZone_55 : decode cX9_addZone 55 = .ok (.ireturn, 1) := by decide +kernel
theorem dX9_addZone_56 : decode cX9_addZone 56 = .ok (.aload_n 0, 1) := by decide +kernel
theorem dX9_addZone_57 : decode cX9_addZone 57 = .ok (.getfield 7, 3) := by decide +kernel
theorem dX9_addZone_60 : decode cX9_addZone 60 = .ok (.bipush 18, 2) := by decide +kernel
theorem dX9_addZone_62 : decode cX9_addZone 62 = .ok (.iaload, 1) := by decide +kernel
theorem dX9_addZone_63 : decode cX9_addZone 63 = .ok (.bipush 6, 2) := by decide +kernel
theorem dX9_addZone_65 : decode cX9_addZone 65 = .ok (.if_icmp .ne 9, 3) := by decide +kernel
theorem dX9_addZone_68 : decode cX9_addZone 68 = .ok (.aload_n 0, 1) := by decide +kernel
theorem dX9_addZone_69 : decode cX9_addZone 69 = .ok (.iconst 2, 1) := by decide +kernel
theorem dX9_addZone_70 : decode cX9_addZone 70 = .ok (.invokevirtual 136, 3) := by decide +kernel
theorem dX9_addZone_73 : decode cX9_addZone 73 = .ok (.ireturn, 1) := by decide +kernel
theorem dX9_addZone_74 : decode cX9_addZone 74 = .ok (.aload_n 0, 1) := by decide +kernel
theorem dX9_addZone_75 : decode cX9_addZone 75 = .ok (.invokevirtual 35, 3) := by decide +kernel
theorem dX9_addZone_78 : decode cX9_addZone 78 = .ok (.bipush 19, 2) := by decide +kernel
theorem dX9_addZone_80 : decode cX9_addZone 80 = .ok (.iconst 4, 1) := by decide +kernel
theorem dX9_addZone_81 : decode cX9_addZone 81 = .ok (.aload_n 0, 1) := by decide +kernel
theorem dX9_addZone_82 : decode cX9_addZone 82 = .ok (.getfield 7, 3) := by decide +kernel
theorem dX9_addZone_85 : decode cX9_addZone 85 = .ok (.bipush 18, 2) := by decide +kernel
theorem dX9_addZone_87 : decode cX9_addZone 87 = .ok (.iaload, 1) := by decide +kernel
theorem dX9_addZone_88 : decode cX9_addZone 88 = .ok (.imul, 1) := by decide +kernel
theorem dX9_addZone_89 : decode cX9_addZone 89 = .ok (.iadd, 1) := by decide +kernel
theorem dX9_addZone_90 : decode cX9_addZone 90 = .ok (.istore 5, 2) := by decide +kernel
theorem dX9_addZone_92 : decode cX9_addZone 92 = .ok (.aload_n 0, 1) := by decide +kernel
theorem dX9_addZone_93 : decode cX9_addZone 93 = .ok (.getfield 7, 3) := by decide +kernel
theorem dX9_addZone_96 : decode cX9_addZone 96 = .ok (.iload 5, 2) := by decide +kernel
theorem dX9_addZone_98 : decode cX9_addZone 98 = .ok (.iload_n 1, 1) := by decide +kernel
theorem dX9_addZone_99 : decode cX9_addZone 99 = .ok (.iastore, 1) := by decide +kernel
theorem dX9_addZone_100 : decode cX9_addZone 100 = .ok (.aload_n 0, 1) := by decide +kernel
theorem dX9_addZone_101 : decode cX9_addZone 101 = .ok (.getfield 7, 3) := by decide +kernel
theorem dX9_addZone_104 : decode cX9_addZone 104 = .ok (.iload 5, 2) := by decide +kernel
theorem dX9_addZone_106 : decode cX9_addZone 106 = .ok (.iconst 1, 1) := by decide +kernel
theorem dX9_addZone_107 : decode cX9_addZone 107 = .ok (.iadd, 1) := by decide +kernel
theorem dX9_addZone_108 : decode cX9_addZone 108 = .ok (.iload_n 2, 1) := by decide +kernel
theorem dX9_addZone_109 : decode cX9_addZone 109 = .ok (.iastore, 1) := by decide +kernel
theorem dX9_addZone_110 : decode cX9_addZone 110 = .ok (.aload_n 0, 1) := by decide +kernel
theorem dX9_addZone_111 : decode cX9_addZone 111 = .ok (.getfield 7, 3) := by decide +kernel
theorem dX9_addZone_114 : decode cX9_addZone 114 = .ok (.iload 5, 2) := by decide +kernel
theorem dX9_addZone_116 : decode cX9_addZone 116 = .ok (.iconst 2, 1) := by decide +kernel
theorem dX9_addZone_117 : decode cX9_addZone 117 = .ok (.iadd, 1) := by decide +kernel
theorem dX9_addZone_118 : decode cX9_addZone 118 = .ok (.iload_n 3, 1) := by decide +kernel
theorem dX9_addZone_119 : decode cX9_addZone 119 = .ok (.iastore, 1) := by decide +kernel
theorem dX9_addZone_120 : decode cX9_addZone 120 = .ok (.aload_n 0, 1) := by decide +kernel
theorem dX9_addZone_121 : decode cX9_addZone 121 = .ok (.getfield 7, 3) := by decide +kernel
theorem dX9_addZone_124 : decode cX9_addZone 124 = .ok (.iload 5, 2) := by decide +kernel
theorem dX9_addZone_126 : decode cX9_addZone 126 = .ok (.iconst 3, 1) := by decide +kernel
theorem dX9_addZone_127 : decode cX9_addZone 127 = .ok (.iadd, 1) := by decide +kernel
theorem dX9_addZone_128 : decode cX9_addZone 128 = .ok (.iload 4, 2) := by decide +kernel
theorem dX9_addZone_130 : decode cX9_addZone 130 = .ok (.iastore, 1) := by decide +kernel
theorem dX9_addZone_131 : decode cX9_addZone 131 = .ok (.aload_n 0, 1) := by decide +kernel
theorem dX9_addZone_132 : decode cX9_addZone 132 = .ok (.getfield 7, 3) := by decide +kernel
theorem dX9_addZone_135 : decode cX9_addZone 135 = .ok (.bipush 18, 2) := by decide +kernel
theorem dX9_addZone_137 : decode cX9_addZone 137 = .ok (.dup2, 1) := by decide +kernel
theorem dX9_addZone_138 : decode cX9_addZone 138 = .ok (.iaload, 1) := by decide +kernel
theorem dX9_addZone_139 : decode cX9_addZone 139 = .ok (.iconst 1, 1) := by decide +kernel
theorem dX9_addZone_140 : decode cX9_addZone 140 = .ok (.iadd, 1) := by decide +kernel
theorem dX9_addZone_141 : decode cX9_addZone 141 = .ok (.iastore, 1) := by decide +kernel
theorem dX9_addZone_142 : decode cX9_addZone 142 = .ok (.aload_n 0, 1) := by decide +kernel
theorem dX9_addZone_143 : decode cX9_addZone 143 = .ok (.getfield 7, 3) := by decide +kernel
theorem dX9_addZone_146 : decode cX9_addZone 146 = .ok (.bipush 18, 2) := by decide +kernel
theorem dX9_addZone_148 : decode cX9_addZone 148 = .ok (.iaload, 1) := by decide +kernel
theorem dX9_addZone_149 : decode cX9_addZone 149 = .ok (.ireturn, 1) := by decide +kernel
theorem dX9_removeZone_0 : decode cX9_removeZone 0 = .ok (.aload_n 0, 1) := by decide +kernel
theorem dX9_removeZone_1 : decode cX9_removeZone 1 = .ok (.iconst 0, 1) := by decide +kernel
theorem dX9_removeZone_2 : decode cX9_removeZone 2 = .ok (.putfield 28, 3) := by decide +kernel
theorem dX9_removeZone_5 : decode cX9_removeZone 5 = .ok (.iload_n 1, 1) := by decide +kernel
theorem dX9_removeZone_6 : decode cX9_removeZone 6 = .ok (.iconst 0, 1) := by decide +kernel
theorem dX9_removeZone_7 : decode cX9_removeZone 7 = .ok (.aload_n 0, 1) := by decide +kernel
theorem dX9_removeZone_8 : decode cX9_removeZone 8 = .ok (.getfield 7, 3) := by decide +kernel
theorem dX9_removeZone_11 : decode cX9_removeZone 11 = .ok (.bipush 18, 2) := by decide +kernel
theorem dX9_removeZone_13 : decode cX9_removeZone 13 = .ok (.iaload, 1) := by decide +kernel
theorem dX9_removeZone_14 : decode cX9_removeZone 14 = .ok (.iconst 1, 1) := by decide +kernel
theorem dX9_removeZone_15 : decode cX9_removeZone 15 = .ok (.isub, 1) := by decide +kernel
theorem dX9_removeZone_16 : decode cX9_removeZone 16 = .ok (.invokestatic 132, 3) := by decide +kernel
theorem dX9_removeZone_19 : decode cX9_removeZone 19 = .ok (.ifCond .ne 9, 3) := by decide +kernel
theorem dX9_removeZone_22 : decode cX9_removeZone 22 = .ok (.aload_n 0, 1) := by decide +kernel
theorem dX9_removeZone_23 : decode cX9_removeZone 23 = .ok (.iconst 1, 1) := by decide +kernel
theorem dX9_removeZone_24 : decode cX9_removeZone 24 = .ok (.invokevirtual 136, 3) := by decide +kernel
theorem dX9_removeZone_27 : decode cX9_removeZone 27 = .ok (.ireturn, 1) := by decide +kernel
theorem dX9_removeZone_28 : decode cX9_removeZone 28 = .ok (.aload_n 0, 1) := by decide +kernel
theorem dX9_removeZone_29 : decode cX9_removeZone 29 = .ok (.invokevirtual 35, 3) := by decide +kernel
theorem dX9_removeZone_32 : decode cX9_removeZone 32 = .ok (.aload_n 0, 1) := by decide +kernel
theorem dX9_removeZone_33 : decode cX9_removeZone 33 = .ok (.getfield 7, 3) := by decide +kernel
theorem dX9_removeZone_36 : decode cX9_removeZone 36 = .ok (.bipush 18, 2) := by decide +kernel
theorem dX9_removeZone_38 : decode cX9_removeZone 38 = .ok (.dup2, 1) := by decide +kernel
theorem dX9_removeZone_39 : decode cX9_removeZone 39 = .ok (.iaload, 1) := by decide +kernel
theorem dX9_removeZone_40 : decode cX9_removeZone 40 = .ok (.iconst 1, 1) := by decide +kernel
theorem dX9_removeZone_41 : decode cX9_removeZone 41 = .ok (.isub, 1) := by decide +kernel
theorem dX9_removeZone_42 : decode cX9_removeZone 42 = .ok (.iastore, 1) := by decide +kernel
theorem dX9_removeZone_43 : decode cX9_removeZone 43 = .ok (.bipush 19, 2) := by decide +kernel
theorem dX9_removeZone_45 : decode cX9_removeZone 45 = .ok (.iconst 4, 1) := by decide +kernel
theorem dX9_removeZone_46 : decode cX9_removeZone 46 = .ok (.iload_n 1, 1) := by decide +kernel
theorem dX9_removeZone_47 : decode cX9_removeZone 47 = .ok (.imul, 1) := by decide +kernel
theorem dX9_removeZone_48 : decode cX9_removeZone 48 = .ok (.iadd, 1) := by decide +kernel
theorem dX9_removeZone_49 : decode cX9_removeZone 49 = .ok (.istore_n 2, 1) := by decide +kernel
theorem dX9_removeZone_50 : decode cX9_removeZone 50 = .ok (.iload_n 2, 1) := by decide +kernel
theorem dX9_removeZone_51 : decode cX9_removeZone 51 = .ok (.bipush 19, 2) := by decide +kernel
theorem dX9_removeZone_53 : decode cX9_removeZone 53 = .ok (.iconst 4, 1) := by decide +kernel
theorem dX9_removeZone_54 : decode cX9_removeZone 54 = .ok (.aload_n 0, 1) := by decide +kernel
theorem dX9_removeZone_55 : decode cX9_removeZone 55 = .ok (.getfield 7, 3) := by decide +kernel
theorem dX9_removeZone_58 : decode cX9_removeZone 58 = .ok (.bipush 18, 2) := by decide +kernel
theorem dX9_removeZone_60 : decode cX9_removeZone 60 = .ok (.iaload, 1) := by decide +kernel
theorem dX9_removeZone_61 : decode cX9_removeZone 61 = .ok (.imul, 1) := by decide +kernel
theorem dX9_removeZone_62 : decode cX9_removeZone 62 = .ok (.iadd, 1) := by decide +kernel
theorem dX9_removeZone_63 : decode cX9_removeZone 63 = .ok (.if_icmp .ge 23, 3) := by decide +kernel
theorem dX9_removeZone_66 : decode cX9_removeZone 66 = .ok (.aload_n 0, 1) := by decide +kernel
theorem dX9_removeZone_67 : decode cX9_removeZone 67 = .ok (.getfield 7, 3) := by decide +kernel
theorem dX9_removeZone_70 : decode cX9_removeZone 70 = .ok (.iload_n 2, 1) := by decide +kernel
theorem dX9_removeZone_71 : decode cX9_removeZone 71 = .ok (.aload_n 0, 1) := by decide +kernel
theorem dX9_removeZone_72 : decode cX9_removeZone 72 = .ok (.getfield 7, 3) := by decide +kernel
theorem dX9_removeZone_75 : decode cX9_removeZone 75 = .ok (.iload_n 2, 1) := by decide +kernel
theorem dX9_removeZone_76 : decode cX9_removeZone 76 = .ok (.iconst 4, 1) := by decide +kernel
theorem dX9_removeZone_77 : decode cX9_removeZone 77 = .ok (.iadd, 1) := by decide +kernel
theorem dX9_removeZone_78 : decode cX9_removeZone 78 = .ok (.iaload, 1) := by decide +kernel
theorem dX9_removeZone_79 : decode cX9_removeZone 79 = .ok (.iastore, 1) := by decide +kernel
theorem dX9_removeZone_80 : decode cX9_removeZone 80 = .ok (.iinc 2 1, 3) := by decide +kernel
theorem dX9_removeZone_83 : decode cX9_removeZone 83 = .ok (.goto (-33), 3) := by decide +kernel
theorem dX9_removeZone_86 : decode cX9_removeZone 86 = .ok (.aload_n 0, 1) := by decide +kernel
theorem dX9_removeZone_87 : decode cX9_removeZone 87 = .ok (.getfield 7, 3) := by decide +kernel
theorem dX9_removeZone_90 : decode cX9_removeZone 90 = .ok (.bipush 18, 2) := by decide +kernel
theorem dX9_removeZone_92 : decode cX9_removeZone 92 = .ok (.iaload, 1) := by decide +kernel
theorem dX9_removeZone_93 : decode cX9_removeZone 93 = .ok (.ireturn, 1) := by decide +kernel
theorem dX9_isPosition_0 : decode cX9_isPosition 0 = .ok (.iload_n 0, 1) := by decide +kernel
theorem dX9_isPosition_1 : decode cX9_isPosition 1 = .ok (.sipush 1000, 3) := by decide +kernel
theorem dX9_isPosition_4 : decode cX9_isPosition 4 = .ok (.sipush 6000, 3) := by decide +kernel
theorem dX9_isPosition_7 : decode cX9_isPosition 7 = .ok (.invokestatic 132, 3) := by decide +kernel
theorem dX9_isPosition_10 : decode cX9_isPosition 10 = .ok (.ifCond .eq 29, 3) := by decide +kernel
theorem dX9_isPosition_13 : decode cX9_isPosition 13 = .ok (.iload_n 1, 1) := by decide +kernel
theorem dX9_isPosition_14 : decode cX9_isPosition 14 = .ok (.iconst 0, 1) := by decide +kernel
theorem dX9_isPosition_15 : decode cX9_isPosition 15 = .ok (.sipush 850, 3) := by decide +kernel
theorem dX9_isPosition_18 : decode cX9_isPosition 18 = .ok (.invokestatic 132, 3) := by decide +kernel
theorem dX9_isPosition_21 : decode cX9_isPosition 21 = .ok (.ifCond .eq 18, 3) := by decide +kernel
theorem dX9_isPosition_24 : decode cX9_isPosition 24 = .ok (.iload_n 2, 1) := by decide +kernel
theorem dX9_isPosition_25 : decode cX9_isPosition 25 = .ok (.iconst 0, 1) := by decide +kernel
theorem dX9_isPosition_26 : decode cX9_isPosition 26 = .ok (.sipush 3599, 3) := by decide +kernel
theorem dX9_isPosition_29 : decode cX9_isPosition 29 = .ok (.invokestatic 132, 3) := by decide +kernel
theorem dX9_isPosition_32 : decode cX9_isPosition 32 = .ok (.ifCond .eq 7, 3) := by decide +kernel
theorem dX9_isPosition_35 : decode cX9_isPosition 35 = .ok (.iconst 1, 1) := by decide +kernel
theorem dX9_isPosition_36 : decode cX9_isPosition 36 = .ok (.goto 4, 3) := by decide +kernel
theorem dX9_isPosition_39 : decode cX9_isPosition 39 = .ok (.iconst 0, 1) := by decide +kernel
theorem dX9_isPosition_40 : decode cX9_isPosition 40 = .ok (.ireturn, 1) := by decide +kernel
theorem dX9_setBoom_0 : decode cX9_setBoom 0 = .ok (.aload_n 0, 1) := by decide +kernel
theorem dX9_setBoom_1 : decode cX9_setBoom 1 = .ok (.iconst 0, 1) := by decide +kernel
theorem dX9_setBoom_2 : decode cX9_setBoom 2 = .ok (.putfield 28, 3) := by decide +kernel
theorem dX9_setBoom_5 : decode cX9_setBoom 5 = .ok (.iload_n 1, 1) := by decide +kernel
theorem dX9_setBoom_6 : decode cX9_setBoom 6 = .ok (.iload_n 2, 1) := by decide +kernel
theorem dX9_setBoom_7 : decode cX9_setBoom 7 = .ok (.iload_n 3, 1) := by decide +kernel
theorem dX9_setBoom_8 : decode cX9_setBoom 8 = .ok (.invokestatic 150, 3) := by decide +kernel
theorem dX9_setBoom_11 : decode cX9_setBoom 11 = .ok (.ifCond .ne 9, 3) := by decide +kernel
theorem dX9_setBoom_14 : decode cX9_setBoom 14 = .ok (.aload_n 0, 1) := by decide +kernel
theorem dX9_setBoom_15 : decode cX9_setBoom 15 = .ok (.iconst 1, 1) := by decide +kernel
theorem dX9_setBoom_16 : decode cX9_setBoom 16 = .ok (.invokevirtual 136, 3) := by decide +kernel
theorem dX9_setBoom_19 : decode cX9_setBoom 19 = .ok (.ireturn, 1) := by decide +kernel
theorem dX9_setBoom_20 : decode cX9_setBoom 20 = .ok (.aload_n 0, 1) := by decide +kernel
theorem dX9_setBoom_21 : decode cX9_setBoom 21 = .ok (.getfield 7, 3) := by decide +kernel
theorem dX9_setBoom_24 : decode cX9_setBoom 24 = .ok (.iconst 4, 1) := by decide +kernel
theorem dX9_setBoom_25 : decode cX9_setBoom 25 = .ok (.iaload, 1) := by decide +kernel
theorem dX9_setBoom_26 : decode cX9_setBoom 26 = .ok (.ifCond .eq 9, 3) := by decide +kernel
theorem dX9_setBoom_29 : decode cX9_setBoom 29 = .ok (.aload_n 0, 1) := by decide +kernel
theorem dX9_setBoom_30 : decode cX9_setBoom 30 = .ok (.iconst 2, 1) := by decide +kernel
theorem dX9_setBoom_31 : decode cX9_setBoom 31 = .ok (.invokevirtual 136, 3) := by decide +kernel
theorem dX9_setBoom_34 : decode cX9_setBoom 34 = .ok (.ireturn, 1) := by decide +kernel
theorem dX9_setBoom_35 : decode cX9_setBoom 35 = .ok (.aload_n 0, 1) := by decide +kernel
theorem dX9_setBoom_36 : decode cX9_setBoom 36 = .ok (.invokevirtual 35, 3) := by decide +kernel
theorem dX9_setBoom_39 : decode cX9_setBoom 39 = .ok (.aload_n 0, 1) := by decide +kernel
theorem dX9_setBoom_40 : decode cX9_setBoom 40 = .ok (.getfield 7, 3) := by decide +kernel
theorem dX9_setBoom_43 : decode cX9_setBoom 43 = .ok (.iconst 0, 1) := by decide +kernel
theorem dX9_setBoom_44 : decode cX9_setBoom 44 = .ok (.iload_n 1, 1) := by decide +kernel
theorem dX9_setBoom_45 : decode cX9_setBoom 45 = .ok (.iastore, 1) := by decide +kernel
theorem dX9_setBoom_46 : decode cX9_setBoom 46 = .ok (.aload_n 0, 1) := by decide +kernel
theorem dX9_setBoom_47 : decode cX9_setBoom 47 = .ok (.getfield 7, 3) := by decide +kernel
theorem dX9_setBoom_50 : decode cX9_setBoom 50 = .ok (.iconst 1, 1) := by decide +kernel
theorem dX9_setBoom_51 : decode cX9_setBoom 51 = .ok (.iload_n 2, 1) := by decide +kernel
theorem dX9_setBoom_52 : decode cX9_setBoom 52 = .ok (.iastore, 1) := by decide +kernel
theorem dX9_setBoom_53 : decode cX9_setBoom 53 = .ok (.aload_n 0, 1) := by decide +kernel
theorem dX9_setBoom_54 : decode cX9_setBoom 54 = .ok (.getfield 7, 3) := by decide +kernel
theorem dX9_setBoom_57 : decode cX9_setBoom 57 = .ok (.iconst 2, 1) := by decide +kernel
theorem dX9_setBoom_58 : decode cX9_setBoom 58 = .ok (.iload_n 3, 1) := by decide +kernel
theorem dX9_setBoom_59 : decode cX9_setBoom 59 = .ok (.iastore, 1) := by decide +kernel
theorem dX9_setBoom_60 : decode cX9_setBoom 60 = .ok (.aload_n 0, 1) := by decide +kernel
theorem dX9_setBoom_61 : decode cX9_setBoom 61 = .ok (.getfield 7, 3) := by decide +kernel
theorem dX9_setBoom_64 : decode cX9_setBoom 64 = .ok (.iconst 3, 1) := by decide +kernel
theorem dX9_setBoom_65 : decode cX9_setBoom 65 = .ok (.iconst 0, 1) := by decide +kernel
theorem dX9_setBoom_66 : decode cX9_setBoom 66 = .ok (.iastore, 1) := by decide +kernel
theorem dX9_setBoom_67 : decode cX9_setBoom 67 = .ok (.aload_n 0, 1) := by decide +kernel
theorem dX9_setBoom_68 : decode cX9_setBoom 68 = .ok (.invokevirtual 153, 3) := by decide +kernel
theorem dX9_setBoom_71 : decode cX9_setBoom 71 = .ok (.ireturn, 1) := by decide +kernel
theorem dX9_wind_0 : decode cX9_wind 0 = .ok (.aload_n 0, 1) := by decide +kernel
theorem dX9_wind_1 : decode cX9_wind 1 = .ok (.iconst 0, 1) := by decide +kernel
theorem dX9_wind_2 : decode cX9_wind 2 = .ok (.putfield 28, 3) := by decide +kernel
theorem dX9_wind_5 : decode cX9_wind 5 = .ok (.iload_n 1, 1) := by decide +kernel
theorem dX9_wind_6 : decode cX9_wind 6 = .ok (.iconst 0, 1) := by decide +kernel
theorem dX9_wind_7 : decode cX9_wind 7 = .ok (.sipush 1000, 3) := by decide +kernel
theorem dX9_wind_10 : decode cX9_wind 10 = .ok (.invokestatic 132, 3) := by decide +kernel
theorem dX9_wind_13 : decode cX9_wind 13 = .ok (.ifCond .ne 9, 3) := by decide +kernel
theorem dX9_wind_16 : decode cX9_wind 16 = .ok (.aload_n 0, 1) := by decide +kernel
theorem dX9_wind_17 : decode cX9_wind 17 = .ok (.iconst 1, 1) := by decide +kernel
theorem dX9_wind_18 : decode cX9_wind 18 = .ok (.invokevirtual 136, 3) := by decide +kernel
theorem dX9_wind_21 : decode cX9_wind 21 = .ok (.ireturn, 1) := by decide +kernel
theorem dX9_wind_22 : decode cX9_wind 22 = .ok (.aload_n 0, 1) := by decide +kernel
theorem dX9_wind_23 : decode cX9_wind 23 = .ok (.invokevirtual 35, 3) := by decide +kernel
theorem dX9_wind_26 : decode cX9_wind 26 = .ok (.iconst 0, 1) := by decide +kernel
theorem dX9_wind_27 : decode cX9_wind 27 = .ok (.istore_n 2, 1) := by decide +kernel
theorem dX9_wind_28 : decode cX9_wind 28 = .ok (.iload_n 2, 1) := by decide +kernel
theorem dX9_wind_29 : decode cX9_wind 29 = .ok (.iconst 3, 1) := by decide +kernel
theorem dX9_wind_30 : decode cX9_wind 30 = .ok (.if_icmp .ge 29, 3) := by decide +kernel
theorem dX9_wind_33 : decode cX9_wind 33 = .ok (.aload_n 0, 1) := by decide +kernel
theorem dX9_wind_34 : decode cX9_wind 34 = .ok (.getfield 7, 3) := by decide +kernel
theorem dX9_wind_37 : decode cX9_wind 37 = .ok (.bipush 14, 2) := by decide +kernel
theorem dX9_wind_39 : decode cX9_wind 39 = .ok (.iload_n 2, 1) := by decide +kernel
theorem dX9_wind_40 : decode cX9_wind 40 = .ok (.iadd, 1) := by decide +kernel
theorem dX9_wind_41 : decode cX9_wind 41 = .ok (.aload_n 0, 1) := by decide +kernel
theorem dX9_wind_42 : decode cX9_wind 42 = .ok (.getfield 7, 3) := by decide +kernel
theorem dX9_wind_45 : decode cX9_wind 45 = .ok (.bipush 14, 2) := by decide +kernel
theorem dX9_wind_47 : decode cX9_wind 47 = .ok (.iload_n 2, 1) := by decide +kernel
theorem dX9_wind_48 : decode cX9_wind 48 = .ok (.iadd, 1) := by decide +kernel
theorem dX9_wind_49 : decode cX9_wind 49 = .ok (.iconst 1, 1) := by decide +kernel
theorem dX9_wind_50 : decode cX9_wind 50 = .ok (.iadd, 1) := by decide +kernel
theorem dX9_wind_51 : decode cX9_wind 51 = .ok (.iaload, 1) := by decide +kernel
theorem dX9_wind_52 : decode cX9_wind 52 = .ok (.iastore, 1) := by decide +kernel
theorem dX9_wind_53 : decode cX9_wind 53 = .ok (.iinc 2 1, 3) := by decide +kernel
theorem dX9_wind_56 : decode cX9_wind 56 = .ok (.goto (-28), 3) := by decide +kernel
theorem dX9_wind_59 : decode cX9_wind 59 = .ok (.aload_n 0, 1) := by decide +kernel
theorem dX9_wind_60 : decode cX9_wind 60 = .ok (.getfield 7, 3) := by decide +kernel
theorem dX9_wind_63 : decode cX9_wind 63 = .ok (.bipush 17, 2) := by decide +kernel
theorem dX9_wind_65 : decode cX9_wind 65 = .ok (.iload_n 1, 1) := by decide +kernel
theorem dX9_wind_66 : decode cX9_wind 66 = .ok (.iastore, 1) := by decide +kernel
theorem dX9_wind_67 : decode cX9_wind 67 = .ok (.aload_n 0, 1) := by decide +kernel
theorem dX9_wind_68 : decode cX9_wind 68 = .ok (.invokevirtual 100, 3) := by decide +kernel
theorem dX9_wind_71 : decode cX9_wind 71 = .ok (.ireturn, 1) := by decide +kernel
theorem dX9_attach_0 : decode cX9_attach 0 = .ok (.aload_n 0, 1) := by decide +kernel
theorem dX9_attach_1 : decode cX9_attach 1 = .ok (.iconst 0, 1) := by decide +kernel
theorem dX9_attach_2 : decode cX9_attach 2 = .ok (.putfield 28, 3) := by decide +kernel
theorem dX9_attach_5 : decode cX9_attach 5 = .ok (.iload_n 1, 1) := by decide +kernel
theorem dX9_attach_6 : decode cX9_attach 6 = .ok (.iconst 0, 1) := by decide +kernel
theorem dX9_attach_7 : decode cX9_attach 7 = .ok (.ldc 145, 2) := by decide +kernel
theorem dX9_attach_9 : decode cX9_attach 9 = .ok (.invokestatic 132, 3) := by decide +kernel
theorem dX9_attach_12 : decode cX9_attach 12 = .ok (.ifCond .ne 9, 3) := by decide +kernel
theorem dX9_attach_15 : decode cX9_attach 15 = .ok (.aload_n 0, 1) := by decide +kernel
theorem dX9_attach_16 : decode cX9_attach 16 = .ok (.iconst 1, 1) := by decide +kernel
theorem dX9_attach_17 : decode cX9_attach 17 = .ok (.invokevirtual 136, 3) := by decide +kernel
theorem dX9_attach_20 : decode cX9_attach 20 = .ok (.ireturn, 1) := by decide +kernel
theorem dX9_attach_21 : decode cX9_attach 21 = .ok (.aload_n 0, 1) := by decide +kernel
theorem dX9_attach_22 : decode cX9_attach 22 = .ok (.getfield 7, 3) := by decide +kernel
theorem dX9_attach_25 : decode cX9_attach 25 = .ok (.iconst 4, 1) := by decide +kernel
theorem dX9_attach_26 : decode cX9_attach 26 = .ok (.iaload, 1) := by decide +kernel
theorem dX9_attach_27 : decode cX9_attach 27 = .ok (.ifCond .ne 22, 3) := by decide +kernel
theorem dX9_attach_30 : decode cX9_attach 30 = .ok (.aload_n 0, 1) := by decide +kernel
theorem dX9_attach_31 : decode cX9_attach 31 = .ok (.getfield 7, 3) := by decide +kernel
theorem dX9_attach_34 : decode cX9_attach 34 = .ok (.iconst 3, 1) := by decide +kernel
theorem dX9_attach_35 : decode cX9_attach 35 = .ok (.iaload, 1) := by decide +kernel
theorem dX9_attach_36 : decode cX9_attach 36 = .ok (.ifCond .ne 13, 3) := by decide +kernel
theorem dX9_attach_39 : decode cX9_attach 39 = .ok (.aload_n 0, 1) := by decide +kernel
theorem dX9_attach_40 : decode cX9_attach 40 = .ok (.bipush 6, 2) := by decide +kernel
theorem dX9_attach_42 : decode cX9_attach 42 = .ok (.iload_n 1, 1) := by decide +kernel
theorem dX9_attach_43 : decode cX9_attach 43 = .ok (.invokevirtual 139, 3) := by decide +kernel
theorem dX9_attach_46 : decode cX9_attach 46 = .ok (.goto 8, 3) := by decide +kernel
theorem dX9_attach_49 : decode cX9_attach 49 = .ok (.aload_n 0, 1) := by decide +kernel
theorem dX9_attach_50 : decode cX9_attach 50 = .ok (.iconst 2, 1) := by decide +kernel
theorem dX9_attach_51 : decode cX9_attach 51 = .ok (.invokevirtual 136, 3) := by decide +kernel
theorem dX9_attach_54 : decode cX9_attach 54 = .ok (.ireturn, 1) := by decide +kernel
theorem dX9_setTare_0 : decode cX9_setTare 0 = .ok (.aload_n 0, 1) := by decide +kernel
theorem dX9_setTare_1 : decode cX9_setTare 1 = .ok (.iconst 0, 1) := by decide +kernel
theorem dX9_setTare_2 : decode cX9_setTare 2 = .ok (.putfield 28, 3) := by decide +kernel
theorem dX9_setTare_5 : decode cX9_setTare 5 = .ok (.iload_n 1, 1) := by decide +kernel
theorem dX9_setTare_6 : decode cX9_setTare 6 = .ok (.iconst 0, 1) := by decide +kernel
theorem dX9_setTare_7 : decode cX9_setTare 7 = .ok (.sipush 2000, 3) := by decide +kernel
theorem dX9_setTare_10 : decode cX9_setTare 10 = .ok (.invokestatic 132, 3) := by decide +kernel
theorem dX9_setTare_13 : decode cX9_setTare 13 = .ok (.ifCond .eq 12, 3) := by decide +kernel
theorem dX9_setTare_16 : decode cX9_setTare 16 = .ok (.aload_n 0, 1) := by decide +kernel
theorem dX9_setTare_17 : decode cX9_setTare 17 = .ok (.iconst 5, 1) := by decide +kernel
theorem dX9_setTare_18 : decode cX9_setTare 18 = .ok (.iload_n 1, 1) := by decide +kernel
theorem dX9_setTare_19 : decode cX9_setTare 19 = .ok (.invokevirtual 139, 3) := by decide +kernel
theorem dX9_setTare_22 : decode cX9_setTare 22 = .ok (.goto 8, 3) := by decide +kernel
theorem dX9_setTare_25 : decode cX9_setTare 25 = .ok (.aload_n 0, 1) := by decide +kernel
theorem dX9_setTare_26 : decode cX9_setTare 26 = .ok (.iconst 1, 1) := by decide +kernel
theorem dX9_setTare_27 : decode cX9_setTare 27 = .ok (.invokevirtual 136, 3) := by decide +kernel
theorem dX9_setTare_30 : decode cX9_setTare 30 = .ok (.ireturn, 1) := by decide +kernel
theorem dX9_bypass_0 : decode cX9_bypass 0 = .ok (.aload_n 0, 1) := by decide +kernel
theorem dX9_bypass_1 : decode cX9_bypass 1 = .ok (.iconst 0, 1) := by decide +kernel
theorem dX9_bypass_2 : decode cX9_bypass 2 = .ok (.putfield 28, 3) := by decide +kernel
theorem dX9_bypass_5 : decode cX9_bypass 5 = .ok (.iload_n 1, 1) := by decide +kernel
theorem dX9_bypass_6 : decode cX9_bypass 6 = .ok (.iconst 0, 1) := by decide +kernel
theorem dX9_bypass_7 : decode cX9_bypass 7 = .ok (.sipush 1000, 3) := by decide +kernel
theorem dX9_bypass_10 : decode cX9_bypass 10 = .ok (.invokestatic 132, 3) := by decide +kernel
theorem dX9_bypass_13 : decode cX9_bypass 13 = .ok (.ifCond .eq 13, 3) := by decide +kernel
theorem dX9_bypass_16 : decode cX9_bypass 16 = .ok (.aload_n 0, 1) := by decide +kernel
theorem dX9_bypass_17 : decode cX9_bypass 17 = .ok (.bipush 9, 2) := by decide +kernel
theorem dX9_bypass_19 : decode cX9_bypass 19 = .ok (.iload_n 1, 1) := by decide +kernel
theorem dX9_bypass_20 : decode cX9_bypass 20 = .ok (.invokevirtual 139, 3) := by decide +kernel
theorem dX9_bypass_23 : decode cX9_bypass 23 = .ok (.goto 8, 3) := by decide +kernel
theorem dX9_bypass_26 : decode cX9_bypass 26 = .ok (.aload_n 0, 1) := by decide +kernel
theorem dX9_bypass_27 : decode cX9_bypass 27 = .ok (.iconst 1, 1) := by decide +kernel
theorem dX9_bypass_28 : decode cX9_bypass 28 = .ok (.invokevirtual 136, 3) := by decide +kernel
theorem dX9_bypass_31 : decode cX9_bypass 31 = .ok (.ireturn, 1) := by decide +kernel
theorem dX9_speed_0 : decode cX9_speed 0 = .ok (.aload_n 0, 1) := by decide +kernel
theorem dX9_speed_1 : decode cX9_speed 1 = .ok (.getfield 7, 3) := by decide +kernel
theorem dX9_speed_4 : decode cX9_speed 4 = .ok (.bipush 7, 2) := by decide +kernel
theorem dX9_speed_6 : decode cX9_speed 6 = .ok (.iaload, 1) := by decide +kernel
theorem dX9_speed_7 : decode cX9_speed 7 = .ok (.ifCond .ne 7, 3) := by decide +kernel
theorem dX9_speed_10 : decode cX9_speed 10 = .ok (.iload_n 1, 1) := by decide +kernel
theorem dX9_speed_11 : decode cX9_speed 11 = .ok (.goto 4, 3) := by decide +kernel
theorem dX9_speed_14 : decode cX9_speed 14 = .ok (.iload_n 2, 1) := by decide +kernel
theorem dX9_speed_15 : decode cX9_speed 15 = .ok (.ireturn, 1) := by decide +kernel
theorem dX9_carry_0 : decode cX9_carry 0 = .ok (.iload_n 1, 1) := by decide +kernel
theorem dX9_carry_1 : decode cX9_carry 1 = .ok (.tableswitch 294 0 6 #[43, 96, 154, 182, 208, 237, 266], 43) := by decide +kernel
theorem dX9_carry_44 : decode cX9_carry 44 = .ok (.aload_n 0, 1) := by decide +kernel
theorem dX9_carry_45 : decode cX9_carry 45 = .ok (.getfield 7, 3) := by decide +kernel
theorem dX9_carry_48 : decode cX9_carry 48 = .ok (.bipush 6, 2) := by decide +kernel
theorem dX9_carry_50 : decode cX9_carry 50 = .ok (.iaload, 1) := by decide +kernel
theorem dX9_carry_51 : decode cX9_carry 51 = .ok (.ifCond .le 26, 3) := by decide +kernel
theorem dX9_carry_54 : decode cX9_carry 54 = .ok (.aload_n 0, 1) := by decide +kernel
theorem dX9_carry_55 : decode cX9_carry 55 = .ok (.getfield 7, 3) := by decide +kernel
theorem dX9_carry_58 : decode cX9_carry 58 = .ok (.iconst 4, 1) := by decide +kernel
theorem dX9_carry_59 : decode cX9_carry 59 = .ok (.iaload, 1) := by decide +kernel
theorem dX9_carry_60 : decode cX9_carry 60 = .ok (.iconst 4, 1) := by decide +kernel
theorem dX9_carry_61 : decode cX9_carry 61 = .ok (.if_icmp .ge 16, 3) := by decide +kernel
theorem dX9_carry_64 : decode cX9_carry 64 = .ok (.aload_n 0, 1) := by decide +kernel
theorem dX9_carry_65 : decode cX9_carry 65 = .ok (.getfield 7, 3) := by decide +kernel
theorem dX9_carry_68 : decode cX9_carry 68 = .ok (.iconst 4, 1) := by decide +kernel
theorem dX9_carry_69 : decode cX9_carry 69 = .ok (.dup2, 1) := by decide +kernel
theorem dX9_carry_70 : decode cX9_carry 70 = .ok (.iaload, 1) := by decide +kernel
theorem dX9_carry_71 : decode cX9_carry 71 = .ok (.iconst 1, 1) := by decide +kernel
theorem dX9_carry_72 : decode cX9_carry 72 = .ok (.iadd, 1) := by decide +kernel
theorem dX9_carry_73 : decode cX9_carry 73 = .ok (.iastore, 1) := by decide +kernel
theorem dX9_carry_74 : decode cX9_carry 74 = .ok (.goto 250, 3) := by decide +kernel
theorem dX9_carry_77 : decode cX9_carry 77 = .ok (.aload_n 0, 1) := by decide +kernel
theorem dX9_carry_78 : decode cX9_carry 78 = .ok (.getfield 7, 3) := by decide +kernel
theorem dX9_carry_81 : decode cX9_carry 81 = .ok (.iconst 3, 1) := by decide +kernel
theorem dX9_carry_82 : decode cX9_carry 82 = .ok (.dup2, 1) := by decide +kernel
theorem dX9_carry_83 : decode cX9_carry 83 = .ok (.iaload, 1) := by decide +kernel
theorem dX9_carry_84 : decode cX9_carry 84 = .ok (.aload_n 0, 1) := by decide +kernel
theorem dX9_carry_85 : decode cX9_carry 85 = .ok (.bipush 20, 2) := by decide +kernel
theorem dX9_carry_87 : decode cX9_carry 87 = .ok (.bipush 10, 2) := by decide +kernel
theorem dX9_carry_89 : decode cX9_carry 89 = .ok (.invokevirtual 156, 3) := by decide +kernel
theorem dX9_carry_92 : decode cX9_carry 92 = .ok (.iadd, 1) := by decide +kernel
theorem dX9_carry_93 : decode cX9_carry 93 = .ok (.iastore, 1) := by decide +kernel
theorem dX9_carry_94 : decode cX9_carry 94 = .ok (.goto 230, 3) := by decide +kernel
theorem dX9_carry_97 : decode cX9_carry 97 = .ok (.aload_n 0, 1) := by decide +kernel
theorem dX9_carry_98 : decode cX9_carry 98 = .ok (.getfield 7, 3) := by decide +kernel
theorem dX9_carry_101 : decode cX9_carry 101 = .ok (.iconst 3, 1) := by decide +kernel
theorem dX9_carry_102 : decode cX9_carry 102 = .ok (.iaload, 1) := by decide +kernel
theorem dX9_carry_103 : decode cX9_carry 103 = .ok (.ifCond .le 31, 3) := by decide +kernel
theorem dX9_carry_106 : decode cX9_carry 106 = .ok (.aload_n 0, 1) := by decide +kernel
theorem dX9_carry_107 : decode cX9_carry 107 = .ok (.getfield 7, 3) := by decide +kernel
theorem dX9_carry_110 : decode cX9_carry 110 = .ok (.iconst 3, 1) := by decide +kernel
theorem dX9_carry_111 : decode cX9_carry 111 = .ok (.iconst 0, 1) := by decide +kernel
theorem dX9_carry_112 : decode cX9_carry 112 = .ok (.aload_n 0, 1) := by decide +kernel
theorem dX9_carry_113 : decode cX9_carry 113 = .ok (.getfield 7, 3) := by decide +kernel
theorem dX9_carry_116 : decode cX9_carry 116 = .ok (.iconst 3, 1) := by decide +kernel
theorem dX9_carry_117 : decode cX9_carry 117 = .ok (.iaload, 1) := by decide +kernel
theorem dX9_carry_118 : decode cX9_carry 118 = .ok (.aload_n 0, 1) := by decide +kernel
theorem dX9_carry_119 : decode cX9_carry 119 = .ok (.bipush 20, 2) := by decide +kernel
theorem dX9_carry_121 : decode cX9_carry 121 = .ok (.bipush 10, 2) := by decide +kernel
theorem dX9_carry_123 : decode cX9_carry 123 = .ok (.invokevirtual 156, 3) := by decide +kernel
theorem dX9_carry_126 : decode cX9_carry 126 = .ok (.isub, 1) := by decide +kernel
theorem dX9_carry_127 : decode cX9_carry 127 = .ok (.invokestatic 45, 3) := by decide +kernel
theorem dX9_carry_130 : decode cX9_carry 130 = .ok (.iastore, 1) := by decide +kernel
theorem dX9_carry_131 : decode cX9_carry 131 = .ok (.goto 193, 3) := by decide +kernel
theorem dX9_carry_134 : decode cX9_carry 134 = .ok (.aload_n 0, 1) := by decide +kernel
theorem dX9_carry_135 : decode cX9_carry 135 = .ok (.getfield 7, 3) := by decide +kernel
theorem dX9_carry_138 : decode cX9_carry 138 = .ok (.iconst 4, 1) := by decide +kernel
theorem dX9_carry_139 : decode cX9_carry 139 = .ok (.iconst 0, 1) := by decide +kernel
theorem dX9_carry_140 : decode cX9_carry 140 = .ok (.aload_n 0, 1) := by decide +kernel
theorem dX9_carry_141 : decode cX9_carry 141 = .ok (.getfield 7, 3) := by decide +kernel
theorem dX9_carry_144 : decode cX9_carry 144 = .ok (.iconst 4, 1) := by decide +kernel
theorem dX9_carry_145 : decode cX9_carry 145 = .ok (.iaload, 1) := by decide +kernel
theorem dX9_carry_146 : decode cX9_carry 146 = .ok (.iconst 1, 1) := by decide +kernel
theorem dX9_carry_147 : decode cX9_carry 147 = .ok (.isub, 1) := by decide +kernel
theorem dX9_carry_148 : decode cX9_carry 148 = .ok (.invokestatic 45, 3) := by decide +kernel
theorem dX9_carry_151 : decode cX9_carry 151 = .ok (.iastore, 1) := by decide +kernel
theorem dX9_carry_152 : decode cX9_carry 152 = .ok (.goto 172, 3) := by decide +kernel
theorem dX9_carry_155 : decode cX9_carry 155 = .ok (.aload_n 0, 1) := by decide +kernel
theorem dX9_carry_156 : decode cX9_carry 156 = .ok (.getfield 7, 3) := by decide +kernel
theorem dX9_carry_159 : decode cX9_carry 159 = .ok (.iconst 1, 1) := by decide +kernel
theorem dX9_carry_160 : decode cX9_carry 160 = .ok (.sipush 850, 3) := by decide +kernel
theorem dX9_carry_163 : decode cX9_carry 163 = .ok (.aload_n 0, 1) := by decide +kernel
theorem dX9_carry_164 : decode cX9_carry 164 = .ok (.getfield 7, 3) := by decide +kernel
theorem dX9_carry_167 : decode cX9_carry 167 = .ok (.iconst 1, 1) := by decide +kernel
theorem dX9_carry_168 : decode cX9_carry 168 = .ok (.iaload, 1) := by decide +kernel
theorem dX9_carry_169 : decode cX9_carry 169 = .ok (.aload_n 0, 1) := by decide +kernel
theorem dX9_carry_170 : decode cX9_carry 170 = .ok (.iconst 5, 1) := by decide +kernel
theorem dX9_carry_171 : decode cX9_carry 171 = .ok (.iconst 2, 1) := by decide +kernel
theorem dX9_carry_172 : decode cX9_carry 172 = .ok (.invokevirtual 156, 3) := by decide +kernel
theorem dX9_carry_175 : decode cX9_carry 175 = .ok (.iadd, 1) := by decide +kernel
theorem dX9_carry_176 : decode cX9_carry 176 = .ok (.invokestatic 94, 3) := by decide +kernel
theorem dX9_carry_179 : decode cX9_carry 179 = .ok (.iastore, 1) := by decide +kernel
theorem dX9_carry_180 : decode cX9_carry 180 = .ok (.goto 144, 3) := by decide +kernel
theorem dX9_carry_183 : decode cX9_carry 183 = .ok (.aload_n 0, 1) := by decide +kernel
theorem dX9_carry_184 : decode cX9_carry 184 = .ok (.getfield 7, 3) := by decide +kernel
theorem dX9_carry_187 : decode cX9_carry 187 = .ok (.iconst 1, 1) := by decide +kernel
theorem dX9_carry_188 : decode cX9_carry 188 = .ok (.iconst 0, 1) := by decide +kernel
theorem dX9_carry_189 : decode cX9_carry 189 = .ok (.aload_n 0, 1) := by decide +kernel
theorem dX9_carry_190 : decode cX9_carry 190 = .ok (.getfield 7, 3) := by decide +kernel
theorem dX9_carry_193 : decode cX9_carry 193 = .ok (.iconst 1, 1) := by decide +kernel
theorem dX9_carry_194 : decode cX9_carry 194 = .ok (.iaload, 1) := by decide +kernel
theorem dX9_carry_195 : decode cX9_carry 195 = .ok (.aload_n 0, 1) := by decide +kernel
theorem dX9_carry_196 : decode cX9_carry 196 = .ok (.iconst 5, 1) := by decide +kernel
theorem dX9_carry_197 : decode cX9_carry 197 = .ok (.iconst 2, 1) := by decide +kernel
theorem dX9_carry_198 : decode cX9_carry 198 = .ok (.invokevirtual 156, 3) := by decide +kernel
theorem dX9_carry_201 : decode cX9_carry 201 = .ok (.isub, 1) := by decide +kernel
theorem dX9_carry_202 : decode cX9_carry 202 = .ok (.invokestatic 45, 3) := by decide +kernel
theorem dX9_carry_205 : decode cX9_carry 205 = .ok (.iastore, 1) := by decide +kernel
theorem dX9_carry_206 : decode cX9_carry 206 = .ok (.goto 118, 3) := by decide +kernel
theorem dX9_carry_209 : decode cX9_carry 209 = .ok (.aload_n 0, 1) := by decide +kernel
theorem dX9_carry_210 : decode cX9_carry 210 = .ok (.getfield 7, 3) := by decide +kernel
theorem dX9_carry_213 : decode cX9_carry 213 = .ok (.iconst 0, 1) := by decide +kernel
theorem dX9_carry_214 : decode cX9_carry 214 = .ok (.sipush 6000, 3) := by decide +kernel
theorem dX9_carry_217 : decode cX9_carry 217 = .ok (.aload_n 0, 1) := by decide +kernel
theorem dX9_carry_218 : decode cX9_carry 218 = .ok (.getfield 7, 3) := by decide +kernel
theorem dX9_carry_221 : decode cX9_carry 221 = .ok (.iconst 0, 1) := by decide +kernel
theorem dX9_carry_222 : decode cX9_carry 222 = .ok (.iaload, 1) := by decide +kernel
theorem dX9_carry_223 : decode cX9_carry 223 = .ok (.aload_n 0, 1) := by decide +kernel
theorem dX9_carry_224 : decode cX9_carry 224 = .ok (.bipush 10, 2) := by decide +kernel
theorem dX9_carry_226 : decode cX9_carry 226 = .ok (.iconst 5, 1) := by decide +kernel
theorem dX9_carry_227 : decode cX9_carry 227 = .ok (.invokevirtual 156, 3) := by decide +kernel
theorem dX9_carry_230 : decode cX9_carry 230 = .ok (.iadd, 1) := by decide +kernel
theorem dX9_carry_231 : decode cX9_carry 231 = .ok (.invokestatic 94, 3) := by decide +kernel
theorem dX9_carry_234 : decode cX9_carry 234 = .ok (.iastore, 1) := by decide +kernel
theorem dX9_carry_235 : decode cX9_carry 235 = .ok (.goto 89, 3) := by decide +kernel
theorem dX9_carry_238 : decode cX9_carry 238 = .ok (.aload_n 0, 1) := by decide +kernel
theorem dX9_carry_239 : decode cX9_carry 239 = .ok (.getfield 7, 3) := by decide +kernel
theorem dX9_carry_242 : decode cX9_carry 242 = .ok (.iconst 0, 1) := by decide +kernel
theorem dX9_carry_243 : decode cX9_carry 243 = .ok (.sipush 1000, 3) := by decide +kernel
theorem dX9_carry_246 : decode cX9_carry 246 = .ok (.aload_n 0, 1) := by decide +kernel
theorem dX9_carry_247 : decode cX9_carry 247 = .ok (.getfield 7, 3) := by decide +kernel
theorem dX9_carry_250 : decode cX9_carry 250 = .ok (.iconst 0, 1) := by decide +kernel
theorem dX9_carry_251 : decode cX9_carry 251 = .ok (.iaload, 1) := by decide +kernel
theorem dX9_carry_252 : decode cX9_carry 252 = .ok (.aload_n 0, 1) := by decide +kernel
theorem dX9_carry_253 : decode cX9_carry 253 = .ok (.bipush 10, 2) := by decide +kernel
theorem dX9_carry_255 : decode cX9_carry 255 = .ok (.iconst 5, 1) := by decide +kernel
theorem dX9_carry_256 : decode cX9_carry 256 = .ok (.invokevirtual 156, 3) := by decide +kernel
theorem dX9_carry_259 : decode cX9_carry 259 = .ok (.isub, 1) := by decide +kernel
theorem dX9_carry_260 : decode cX9_carry 260 = .ok (.invokestatic 45, 3) := by decide +kernel
theorem dX9_carry_263 : decode cX9_carry 263 = .ok (.iastore, 1) := by decide +kernel
theorem dX9_carry_264 : decode cX9_carry 264 = .ok (.goto 60, 3) := by decide +kernel
theorem dX9_carry_267 : decode cX9_carry 267 = .ok (.aload_n 0, 1) := by decide +kernel
theorem dX9_carry_268 : decode cX9_carry 268 = .ok (.getfield 7, 3) := by decide +kernel
theorem dX9_carry_271 : decode cX9_carry 271 = .ok (.iconst 2, 1) := by decide +kernel
theorem dX9_carry_272 : decode cX9_carry 272 = .ok (.aload_n 0, 1) := by decide +kernel
theorem dX9_carry_273 : decode cX9_carry 273 = .ok (.getfield 7, 3) := by decide +kernel
theorem dX9_carry_276 : decode cX9_carry 276 = .ok (.iconst 2, 1) := by decide +kernel
theorem dX9_carry_277 : decode cX9_carry 277 = .ok (.iaload, 1) := by decide +kernel
theorem dX9_carry_278 : decode cX9_carry 278 = .ok (.aload_n 0, 1) := by decide +kernel
theorem dX9_carry_279 : decode cX9_carry 279 = .ok (.bipush 15, 2) := by decide +kernel
theorem dX9_carry_281 : decode cX9_carry 281 = .ok (.bipush 7, 2) := by decide +kernel
theorem dX9_carry_283 : decode cX9_carry 283 = .ok (.invokevirtual 156, 3) := by decide +kernel
theorem dX9_carry_286 : decode cX9_carry 286 = .ok (.iadd, 1) := by decide +kernel
theorem dX9_carry_287 : decode cX9_carry 287 = .ok (.sipush 3600, 3) := by decide +kernel
theorem dX9_carry_290 : decode cX9_carry 290 = .ok (.irem, 1) := by decide +kernel
theorem dX9_carry_291 : decode cX9_carry 291 = .ok (.iastore, 1) := by decide +kernel
theorem dX9_carry_292 : decode cX9_carry 292 = .ok (.goto 32, 3) := by decide +kernel
theorem dX9_carry_295 : decode cX9_carry 295 = .ok (.aload_n 0, 1) := by decide +kernel
theorem dX9_carry_296 : decode cX9_carry 296 = .ok (.getfield 7, 3) := by decide +kernel
theorem dX9_carry_299 : decode cX9_carry 299 = .ok (.iconst 2, 1) := by decide +kernel
theorem dX9_carry_300 : decode cX9_carry 300 = .ok (.aload_n 0, 1) := by decide +kernel
theorem dX9_carry_301 : decode cX9_carry 301 = .ok (.getfield 7, 3) := by decide +kernel
theorem dX9_carry_304 : decode cX9_carry 304 = .ok (.iconst 2, 1) := by decide +kernel
theorem dX9_carry_305 : decode cX9_carry 305 = .ok (.iaload, 1) := by decide +kernel
theorem dX9_carry_306 : decode cX9_carry 306 = .ok (.aload_n 0, 1) := by decide +kernel
theorem dX9_carry_307 : decode cX9_carry 307 = .ok (.bipush 15, 2) := by decide +kernel
theorem dX9_carry_309 : decode cX9_carry 309 = .ok (.bipush 7, 2) := by decide +kernel
theorem dX9_carry_311 : decode cX9_carry 311 = .ok (.invokevirtual 156, 3) := by decide +kernel
theorem dX9_carry_314 : decode cX9_carry 314 = .ok (.isub, 1) := by decide +kernel
theorem dX9_carry_315 : decode cX9_carry 315 = .ok (.sipush 3600, 3) := by decide +kernel
theorem dX9_carry_318 : decode cX9_carry 318 = .ok (.iadd, 1) := by decide +kernel
theorem dX9_carry_319 : decode cX9_carry 319 = .ok (.sipush 3600, 3) := by decide +kernel
theorem dX9_carry_322 : decode cX9_carry 322 = .ok (.irem, 1) := by decide +kernel
theorem dX9_carry_323 : decode cX9_carry 323 = .ok (.iastore, 1) := by decide +kernel
theorem dX9_carry_324 : decode cX9_carry 324 = .ok (.aload_n 0, 1) := by decide +kernel
theorem dX9_carry_325 : decode cX9_carry 325 = .ok (.getfield 7, 3) := by decide +kernel
theorem dX9_carry_328 : decode cX9_carry 328 = .ok (.iconst 3, 1) := by decide +kernel
theorem dX9_carry_329 : decode cX9_carry 329 = .ok (.aload_n 0, 1) := by decide +kernel
theorem dX9_carry_330 : decode cX9_carry 330 = .ok (.getfield 7, 3) := by decide +kernel
theorem dX9_carry_333 : decode cX9_carry 333 = .ok (.iconst 3, 1) := by decide +kernel
theorem dX9_carry_334 : decode cX9_carry 334 = .ok (.iaload, 1) := by decide +kernel
theorem dX9_carry_335 : decode cX9_carry 335 = .ok (.aload_n 0, 1) := by decide +kernel
theorem dX9_carry_336 : decode cX9_carry 336 = .ok (.invokevirtual 129, 3) := by decide +kernel
theorem dX9_carry_339 : decode cX9_carry 339 = .ok (.sipush 200, 3) := by decide +kernel
theorem dX9_carry_342 : decode cX9_carry 342 = .ok (.isub, 1) := by decide +kernel
theorem dX9_carry_343 : decode cX9_carry 343 = .ok (.invokestatic 94, 3) := by decide +kernel
theorem dX9_carry_346 : decode cX9_carry 346 = .ok (.iastore, 1) := by decide +kernel
theorem dX9_carry_347 : decode cX9_carry 347 = .ok (.return_, 1) := by decide +kernel
theorem dX9_remember_0 : decode cX9_remember 0 = .ok (.iconst 0, 1) := by decide +kernel
theorem dX9_remember_1 : decode cX9_remember 1 = .ok (.istore_n 1, 1) := by decide +kernel
theorem dX9_remember_2 : decode cX9_remember 2 = .ok (.iload_n 1, 1) := by decide +kernel
theorem dX9_remember_3 : decode cX9_remember 3 = .ok (.iconst 5, 1) := by decide +kernel
theorem dX9_remember_4 : decode cX9_remember 4 = .ok (.if_icmp .ge 21, 3) := by decide +kernel
theorem dX9_remember_7 : decode cX9_remember 7 = .ok (.aload_n 0, 1) := by decide +kernel
theorem dX9_remember_8 : decode cX9_remember 8 = .ok (.getfield 19, 3) := by decide +kernel
theorem dX9_remember_11 : decode cX9_remember 11 = .ok (.iload_n 1, 1) := by decide +kernel
theorem dX9_remember_12 : decode cX9_remember 12 = .ok (.aload_n 0, 1) := by decide +kernel
theorem dX9_remember_13 : decode cX9_remember 13 = .ok (.getfield 7, 3) := by decide +kernel
theorem dX9_remember_16 : decode cX9_remember 16 = .ok (.iload_n 1, 1) := by decide +kernel
theorem dX9_remember_17 : decode cX9_remember 17 = .ok (.iaload, 1) := by decide +kernel
theorem dX9_remember_18 : decode cX9_remember 18 = .ok (.iastore, 1) := by decide +kernel
theorem dX9_remember_19 : decode cX9_remember 19 = .ok (.iinc 1 1, 3) := by decide +kernel
theorem dX9_remember_22 : decode cX9_remember 22 = .ok (.goto (-20), 3) := by decide +kernel
theorem dX9_remember_25 : decode cX9_remember 25 = .ok (.return_, 1) := by decide +kernel
theorem dX9_takeBack_0 : decode cX9_takeBack 0 = .ok (.iconst 0, 1) := by decide +kernel
theorem dX9_takeBack_1 : decode cX9_takeBack 1 = .ok (.istore_n 1, 1) := by decide +kernel
theorem dX9_takeBack_2 : decode cX9_takeBack 2 = .ok (.iload_n 1, 1) := by decide +kernel
theorem dX9_takeBack_3 : decode cX9_takeBack 3 = .ok (.iconst 5, 1) := by decide +kernel
theorem dX9_takeBack_4 : decode cX9_takeBack 4 = .ok (.if_icmp .ge 21, 3) := by decide +kernel
theorem dX9_takeBack_7 : decode cX9_takeBack 7 = .ok (.aload_n 0, 1) := by decide +kernel
theorem dX9_takeBack_8 : decode cX9_takeBack 8 = .ok (.getfield 7, 3) := by decide +kernel
theorem dX9_takeBack_11 : decode cX9_takeBack 11 = .ok (.iload_n 1, 1) := by decide +kernel
theorem dX9_takeBack_12 : decode cX9_takeBack 12 = .ok (.aload_n 0, 1) := by decide +kernel
theorem dX9_takeBack_13 : decode cX9_takeBack 13 = .ok (.getfield 19, 3) := by decide +kernel
theorem dX9_takeBack_16 : decode cX9_takeBack 16 = .ok (.iload_n 1, 1) := by decide +kernel
theorem dX9_takeBack_17 : decode cX9_takeBack 17 = .ok (.iaload, 1) := by decide +kernel
theorem dX9_takeBack_18 : decode cX9_takeBack 18 = .ok (.iastore, 1) := by decide +kernel
theorem dX9_takeBack_19 : decode cX9_takeBack 19 = .ok (.iinc 1 1, 3) := by decide +kernel
theorem dX9_takeBack_22 : decode cX9_takeBack 22 = .ok (.goto (-20), 3) := by decide +kernel
theorem dX9_takeBack_25 : decode cX9_takeBack 25 = .ok (.return_, 1) := by decide +kernel
theorem dX9_isAtEnd_0 : decode cX9_isAtEnd 0 = .ok (.iload_n 1, 1) := by decide +kernel
theorem dX9_isAtEnd_1 : decode cX9_isAtEnd 1 = .ok (.tableswitch 175 0 5 #[39, 82, 106, 124, 139, 157], 39) := by decide +kernel
theorem dX9_isAtEnd_40 : decode cX9_isAtEnd 40 = .ok (.aload_n 0, 1) := by decide +kernel
theorem dX9_isAtEnd_41 : decode cX9_isAtEnd 41 = .ok (.getfield 7, 3) := by decide +kernel
theorem dX9_isAtEnd_44 : decode cX9_isAtEnd 44 = .ok (.iconst 4, 1) := by decide +kernel
theorem dX9_isAtEnd_45 : decode cX9_isAtEnd 45 = .ok (.iaload, 1) := by decide +kernel
theorem dX9_isAtEnd_46 : decode cX9_isAtEnd 46 = .ok (.iconst 4, 1) := by decide +kernel
theorem dX9_isAtEnd_47 : decode cX9_isAtEnd 47 = .ok (.if_icmp .eq 13, 3) := by decide +kernel
theorem dX9_isAtEnd_50 : decode cX9_isAtEnd 50 = .ok (.aload_n 0, 1) := by decide +kernel
theorem dX9_isAtEnd_51 : decode cX9_isAtEnd 51 = .ok (.getfield 7, 3) := by decide +kernel
theorem dX9_isAtEnd_54 : decode cX9_isAtEnd 54 = .ok (.bipush 6, 2) := by decide +kernel
theorem dX9_isAtEnd_56 : decode cX9_isAtEnd 56 = .ok (.iaload, 1) := by decide +kernel
