theorem dX5_countTick_28 : decode cX5_countTick 28 = .ok (.getfield 42, 3) := by decide +kernel
theorem dX5_countTick_31 : decode cX5_countTick 31 = .ok (.invokevirtual 82, 3) := by decide +kernel
theorem dX5_countTick_34 : decode cX5_countTick 34 = .ok (.aload_n 0, 1) := by decide +kernel
theorem dX5_countTick_35 : decode cX5_countTick 35 = .ok (.getfield 42, 3) := by decide +kernel
theorem dX5_countTick_38 : decode cX5_countTick 38 = .ok (.iload_n 2, 1) := by decide +kernel
theorem dX5_countTick_39 : decode cX5_countTick 39 = .ok (.aload_n 0, 1) := by decide +kernel
theorem dX5_countTick_40 : decode cX5_countTick 40 = .ok (.getfield 12, 3) := by decide +kernel
theorem dX5_countTick_43 : decode cX5_countTick 43 = .ok (.getfield 79, 3) := by decide +kernel
theorem dX5_countTick_46 : decode cX5_countTick 46 = .ok (.ifCond .ne 7, 3) := by decide +kernel
theorem dX5_countTick_49 : decode cX5_countTick 49 = .ok (.iconst 1, 1) := by decide +kernel
theorem dX5_countTick_50 : decode cX5_countTick 50 = .ok (.goto 4, 3) := by decide +kernel
theorem dX5_countTick_53 : decode cX5_countTick 53 = .ok (.iconst 0, 1) := by decide +kernel
theorem dX5_countTick_54 : decode cX5_countTick 54 = .ok (.invokevirtual 85, 3) := by decide +kernel
theorem dX5_countTick_57 : decode cX5_countTick 57 = .ok (.istore_n 3, 1) := by decide +kernel
theorem dX5_countTick_58 : decode cX5_countTick 58 = .ok (.iload_n 3, 1) := by decide +kernel
theorem dX5_countTick_59 : decode cX5_countTick 59 = .ok (.iconst (-1), 1) := by decide +kernel
theorem dX5_countTick_60 : decode cX5_countTick 60 = .ok (.if_icmp .eq 16, 3) := by decide +kernel
theorem dX5_countTick_63 : decode cX5_countTick 63 = .ok (.aload_n 0, 1) := by decide +kernel
theorem dX5_countTick_64 : decode cX5_countTick 64 = .ok (.getfield 35, 3) := by decide +kernel
theorem dX5_countTick_67 : decode cX5_countTick 67 = .ok (.aload_n 0, 1) := by decide +kernel
theorem dX5_countTick_68 : decode cX5_countTick 68 = .ok (.getfield 66, 3) := by decide +kernel
theorem dX5_countTick_71 : decode cX5_countTick 71 = .ok (.iconst 3, 1) := by decide +kernel
theorem dX5_countTick_72 : decode cX5_countTick 72 = .ok (.iload_n 3, 1) := by decide +kernel
theorem dX5_countTick_73 : decode cX5_countTick 73 = .ok (.invokevirtual 89, 3) := by decide +kernel
theorem dX5_countTick_76 : decode cX5_countTick 76 = .ok (.return_, 1) := by decide +kernel
theorem dX6_init_0 : decode cX6_init 0 = .ok (.aload_n 0, 1) := by decide +kernel
theorem dX6_init_1 : decode cX6_init 1 = .ok (.invokespecial 3, 3) := by decide +kernel
theorem dX6_init_4 : decode cX6_init 4 = .ok (.aload_n 0, 1) := by decide +kernel
theorem dX6_init_5 : decode cX6_init 5 = .ok (.iconst 4, 1) := by decide +kernel
theorem dX6_init_6 : decode cX6_init 6 = .ok (.newarray .int, 2) := by decide +kernel
theorem dX6_init_8 : decode cX6_init 8 = .ok (.putfield 11, 3) := by decide +kernel
theorem dX6_init_11 : decode cX6_init 11 = .ok (.aload_n 0, 1) := by decide +kernel
theorem dX6_init_12 : decode cX6_init 12 = .ok (.bipush 8, 2) := by decide +kernel
theorem dX6_init_14 : decode cX6_init 14 = .ok (.newarray .int, 2) := by decide +kernel
theorem dX6_init_16 : decode cX6_init 16 = .ok (.putfield 15, 3) := by decide +kernel
theorem dX6_init_19 : decode cX6_init 19 = .ok (.aload_n 0, 1) := by decide +kernel
theorem dX6_init_20 : decode cX6_init 20 = .ok (.iconst (-1), 1) := by decide +kernel
theorem dX6_init_21 : decode cX6_init 21 = .ok (.putfield 18, 3) := by decide +kernel
theorem dX6_init_24 : decode cX6_init 24 = .ok (.return_, 1) := by decide +kernel
theorem dX6_copyFrom_0 : decode cX6_copyFrom 0 = .ok (.aload_n 1, 1) := by decide +kernel
theorem dX6_copyFrom_1 : decode cX6_copyFrom 1 = .ok (.getfield 11, 3) := by decide +kernel
theorem dX6_copyFrom_4 : decode cX6_copyFrom 4 = .ok (.iconst 0, 1) := by decide +kernel
theorem dX6_copyFrom_5 : decode cX6_copyFrom 5 = .ok (.aload_n 0, 1) := by decide +kernel
theorem dX6_copyFrom_6 : decode cX6_copyFrom 6 = .ok (.getfield 11, 3) := by decide +kernel
theorem dX6_copyFrom_9 : decode cX6_copyFrom 9 = .ok (.iconst 0, 1) := by decide +kernel
theorem dX6_copyFrom_10 : decode cX6_copyFrom 10 = .ok (.iconst 4, 1) := by decide +kernel
theorem dX6_copyFrom_11 : decode cX6_copyFrom 11 = .ok (.invokestatic 22, 3) := by decide +kernel
theorem dX6_copyFrom_14 : decode cX6_copyFrom 14 = .ok (.aload_n 1, 1) := by decide +kernel
theorem dX6_copyFrom_15 : decode cX6_copyFrom 15 = .ok (.getfield 15, 3) := by decide +kernel
theorem dX6_copyFrom_18 : decode cX6_copyFrom 18 = .ok (.iconst 0, 1) := by decide +kernel
theorem dX6_copyFrom_19 : decode cX6_copyFrom 19 = .ok (.aload_n 0, 1) := by decide +kernel
theorem dX6_copyFrom_20 : decode cX6_copyFrom 20 = .ok (.getfield 15, 3) := by decide +kernel
theorem dX6_copyFrom_23 : decode cX6_copyFrom 23 = .ok (.iconst 0, 1) := by decide +kernel
theorem dX6_copyFrom_24 : decode cX6_copyFrom 24 = .ok (.bipush 8, 2) := by decide +kernel
theorem dX6_copyFrom_26 : decode cX6_copyFrom 26 = .ok (.invokestatic 22, 3) := by decide +kernel
theorem dX6_copyFrom_29 : decode cX6_copyFrom 29 = .ok (.aload_n 0, 1) := by decide +kernel
theorem dX6_copyFrom_30 : decode cX6_copyFrom 30 = .ok (.aload_n 1, 1) := by decide +kernel
theorem dX6_copyFrom_31 : decode cX6_copyFrom 31 = .ok (.getfield 18, 3) := by decide +kernel
theorem dX6_copyFrom_34 : decode cX6_copyFrom 34 = .ok (.putfield 18, 3) := by decide +kernel
theorem dX6_copyFrom_37 : decode cX6_copyFrom 37 = .ok (.return_, 1) := by decide +kernel
theorem dX6_countState_0 : decode cX6_countState 0 = .ok (.iload_n 1, 1) := by decide +kernel
theorem dX6_countState_1 : decode cX6_countState 1 = .ok (.ifCond .lt 18, 3) := by decide +kernel
theorem dX6_countState_4 : decode cX6_countState 4 = .ok (.iload_n 1, 1) := by decide +kernel
theorem dX6_countState_5 : decode cX6_countState 5 = .ok (.iconst 4, 1) := by decide +kernel
theorem dX6_countState_6 : decode cX6_countState 6 = .ok (.if_icmp .ge 13, 3) := by decide +kernel
theorem dX6_countState_9 : decode cX6_countState 9 = .ok (.aload_n 0, 1) := by decide +kernel
theorem dX6_countState_10 : decode cX6_countState 10 = .ok (.getfield 11, 3) := by decide +kernel
theorem dX6_countState_13 : decode cX6_countState 13 = .ok (.iload_n 1, 1) := by decide +kernel
theorem dX6_countState_14 : decode cX6_countState 14 = .ok (.dup2, 1) := by decide +kernel
theorem dX6_countState_15 : decode cX6_countState 15 = .ok (.iaload, 1) := by decide +kernel
theorem dX6_countState_16 : decode cX6_countState 16 = .ok (.iconst 1, 1) := by decide +kernel
theorem dX6_countState_17 : decode cX6_countState 17 = .ok (.iadd, 1) := by decide +kernel
theorem dX6_countState_18 : decode cX6_countState 18 = .ok (.iastore, 1) := by decide +kernel
theorem dX6_countState_19 : decode cX6_countState 19 = .ok (.return_, 1) := by decide +kernel
theorem dX6_beginLift_0 : decode cX6_beginLift 0 = .ok (.aload_n 0, 1) := by decide +kernel
theorem dX6_beginLift_1 : decode cX6_beginLift 1 = .ok (.getfield 18, 3) := by decide +kernel
theorem dX6_beginLift_4 : decode cX6_beginLift 4 = .ok (.iconst (-1), 1) := by decide +kernel
theorem dX6_beginLift_5 : decode cX6_beginLift 5 = .ok (.if_icmp .ne 8, 3) := by decide +kernel
theorem dX6_beginLift_8 : decode cX6_beginLift 8 = .ok (.aload_n 0, 1) := by decide +kernel
theorem dX6_beginLift_9 : decode cX6_beginLift 9 = .ok (.iconst 0, 1) := by decide +kernel
theorem dX6_beginLift_10 : decode cX6_beginLift 10 = .ok (.putfield 18, 3) := by decide +kernel
theorem dX6_beginLift_13 : decode cX6_beginLift 13 = .ok (.return_, 1) := by decide +kernel
theorem dX6_followLift_0 : decode cX6_followLift 0 = .ok (.aload_n 0, 1) := by decide +kernel
theorem dX6_followLift_1 : decode cX6_followLift 1 = .ok (.getfield 18, 3) := by decide +kernel
theorem dX6_followLift_4 : decode cX6_followLift 4 = .ok (.ifCond .ge 5, 3) := by decide +kernel
theorem dX6_followLift_7 : decode cX6_followLift 7 = .ok (.iconst (-1), 1) := by decide +kernel
theorem dX6_followLift_8 : decode cX6_followLift 8 = .ok (.ireturn, 1) := by decide +kernel
theorem dX6_followLift_9 : decode cX6_followLift 9 = .ok (.aload_n 0, 1) := by decide +kernel
theorem dX6_followLift_10 : decode cX6_followLift 10 = .ok (.aload_n 0, 1) := by decide +kernel
theorem dX6_followLift_11 : decode cX6_followLift 11 = .ok (.getfield 18, 3) := by decide +kernel
theorem dX6_followLift_14 : decode cX6_followLift 14 = .ok (.iload_n 1, 1) := by decide +kernel
theorem dX6_followLift_15 : decode cX6_followLift 15 = .ok (.invokestatic 28, 3) := by decide +kernel
theorem dX6_followLift_18 : decode cX6_followLift 18 = .ok (.putfield 18, 3) := by decide +kernel
theorem dX6_followLift_21 : decode cX6_followLift 21 = .ok (.iload_n 2, 1) := by decide +kernel
theorem dX6_followLift_22 : decode cX6_followLift 22 = .ok (.ifCond .ne 5, 3) := by decide +kernel
theorem dX6_followLift_25 : decode cX6_followLift 25 = .ok (.iconst (-1), 1) := by decide +kernel
theorem dX6_followLift_26 : decode cX6_followLift 26 = .ok (.ireturn, 1) := by decide +kernel
theorem dX6_followLift_27 : decode cX6_followLift 27 = .ok (.aload_n 0, 1) := by decide +kernel
theorem dX6_followLift_28 : decode cX6_followLift 28 = .ok (.getfield 18, 3) := by decide +kernel
theorem dX6_followLift_31 : decode cX6_followLift 31 = .ok (.bipush 125, 2) := by decide +kernel
theorem dX6_followLift_33 : decode cX6_followLift 33 = .ok (.idiv, 1) := by decide +kernel
theorem dX6_followLift_34 : decode cX6_followLift 34 = .ok (.bipush 7, 2) := by decide +kernel
theorem dX6_followLift_36 : decode cX6_followLift 36 = .ok (.invokestatic 34, 3) := by decide +kernel
theorem dX6_followLift_39 : decode cX6_followLift 39 = .ok (.istore_n 3, 1) := by decide +kernel
theorem dX6_followLift_40 : decode cX6_followLift 40 = .ok (.aload_n 0, 1) := by decide +kernel
theorem dX6_followLift_41 : decode cX6_followLift 41 = .ok (.getfield 15, 3) := by decide +kernel
theorem dX6_followLift_44 : decode cX6_followLift 44 = .ok (.iload_n 3, 1) := by decide +kernel
theorem dX6_followLift_45 : decode cX6_followLift 45 = .ok (.dup2, 1) := by decide +kernel
theorem dX6_followLift_46 : decode cX6_followLift 46 = .ok (.iaload, 1) := by decide +kernel
theorem dX6_followLift_47 : decode cX6_followLift 47 = .ok (.iconst 1, 1) := by decide +kernel
theorem dX6_followLift_48 : decode cX6_followLift 48 = .ok (.iadd, 1) := by decide +kernel
theorem dX6_followLift_49 : decode cX6_followLift 49 = .ok (.iastore, 1) := by decide +kernel
theorem dX6_followLift_50 : decode cX6_followLift 50 = .ok (.aload_n 0, 1) := by decide +kernel
theorem dX6_followLift_51 : decode cX6_followLift 51 = .ok (.iconst (-1), 1) := by decide +kernel
theorem dX6_followLift_52 : decode cX6_followLift 52 = .ok (.putfield 18, 3) := by decide +kernel
theorem dX6_followLift_55 : decode cX6_followLift 55 = .ok (.iload_n 3, 1) := by decide +kernel
theorem dX6_followLift_56 : decode cX6_followLift 56 = .ok (.ireturn, 1) := by decide +kernel
theorem dX6_loadSpectrum_0 : decode cX6_loadSpectrum 0 = .ok (.lconst 0, 1) := by decide +kernel
theorem dX6_loadSpectrum_1 : decode cX6_loadSpectrum 1 = .ok (.lstore_n 1, 1) := by decide +kernel
theorem dX6_loadSpectrum_2 : decode cX6_loadSpectrum 2 = .ok (.lconst 0, 1) := by decide +kernel
theorem dX6_loadSpectrum_3 : decode cX6_loadSpectrum 3 = .ok (.lstore_n 3, 1) := by decide +kernel
theorem dX6_loadSpectrum_4 : decode cX6_loadSpectrum 4 = .ok (.iconst 0, 1) := by decide +kernel
theorem dX6_loadSpectrum_5 : decode cX6_loadSpectrum 5 = .ok (.istore 5, 2) := by decide +kernel
theorem dX6_loadSpectrum_7 : decode cX6_loadSpectrum 7 = .ok (.iload 5, 2) := by decide +kernel
theorem dX6_loadSpectrum_9 : decode cX6_loadSpectrum 9 = .ok (.bipush 8, 2) := by decide +kernel
theorem dX6_loadSpectrum_11 : decode cX6_loadSpectrum 11 = .ok (.if_icmp .ge 49, 3) := by decide +kernel
theorem dX6_loadSpectrum_14 : decode cX6_loadSpectrum 14 = .ok (.lload_n 1, 1) := by decide +kernel
theorem dX6_loadSpectrum_15 : decode cX6_loadSpectrum 15 = .ok (.aload_n 0, 1) := by decide +kernel
theorem dX6_loadSpectrum_16 : decode cX6_loadSpectrum 16 = .ok (.getfield 15, 3) := by decide +kernel
theorem dX6_loadSpectrum_19 : decode cX6_loadSpectrum 19 = .ok (.iload 5, 2) := by decide +kernel
theorem dX6_loadSpectrum_21 : decode cX6_loadSpectrum 21 = .ok (.iaload, 1) := by decide +kernel
theorem dX6_loadSpectrum_22 : decode cX6_loadSpectrum 22 = .ok (.i2l, 1) := by decide +kernel
theorem dX6_loadSpectrum_23 : decode cX6_loadSpectrum 23 = .ok (.iload 5, 2) := by decide +kernel
theorem dX6_loadSpectrum_25 : decode cX6_loadSpectrum 25 = .ok (.iconst 1, 1) := by decide +kernel
theorem dX6_loadSpectrum_26 : decode cX6_loadSpectrum 26 = .ok (.iadd, 1) := by decide +kernel
theorem dX6_loadSpectrum_27 : decode cX6_loadSpectrum 27 = .ok (.i2l, 1) := by decide +kernel
theorem dX6_loadSpectrum_28 : decode cX6_loadSpectrum 28 = .ok (.lmul, 1) := by decide +kernel
theorem dX6_loadSpectrum_29 : decode cX6_loadSpectrum 29 = .ok (.iload 5, 2) := by decide +kernel
theorem dX6_loadSpectrum_31 : decode cX6_loadSpectrum 31 = .ok (.iconst 1, 1) := by decide +kernel
theorem dX6_loadSpectrum_32 : decode cX6_loadSpectrum 32 = .ok (.iadd, 1) := by decide +kernel
theorem dX6_loadSpectrum_33 : decode cX6_loadSpectrum 33 = .ok (.i2l, 1) := by decide +kernel
theorem dX6_loadSpectrum_34 : decode cX6_loadSpectrum 34 = .ok (.lmul, 1) := by decide +kernel
theorem dX6_loadSpectrum_35 : decode cX6_loadSpectrum 35 = .ok (.iload 5, 2) := by decide +kernel
theorem dX6_loadSpectrum_37 : decode cX6_loadSpectrum 37 = .ok (.iconst 1, 1) := by decide +kernel
theorem dX6_loadSpectrum_38 : decode cX6_loadSpectrum 38 = .ok (.iadd, 1) := by decide +kernel
theorem dX6_loadSpectrum_39 : decode cX6_loadSpectrum 39 = .ok (.i2l, 1) := by decide +kernel
theorem dX6_loadSpectrum_40 : decode cX6_loadSpectrum 40 = .ok (.lmul, 1) := by decide +kernel
theorem dX6_loadSpectrum_41 : decode cX6_loadSpectrum 41 = .ok (.ladd, 1) := by decide +kernel
theorem dX6_loadSpectrum_42 : decode cX6_loadSpectrum 42 = .ok (.lstore_n 1, 1) := by decide +kernel
theorem dX6_loadSpectrum_43 : decode cX6_loadSpectrum 43 = .ok (.lload_n 3, 1) := by decide +kernel
theorem dX6_loadSpectrum_44 : decode cX6_loadSpectrum 44 = .ok (.aload_n 0, 1) := by decide +kernel
theorem dX6_loadSpectrum_45 : decode cX6_loadSpectrum 45 = .ok (.getfield 15, 3) := by decide +kernel
theorem dX6_loadSpectrum_48 : decode cX6_loadSpectrum 48 = .ok (.iload 5, 2) := by decide +kernel
theorem dX6_loadSpectrum_50 : decode cX6_loadSpectrum 50 = .ok (.iaload, 1) := by decide +kernel
theorem dX6_loadSpectrum_51 : decode cX6_loadSpectrum 51 = .ok (.i2l, 1) := by decide +kernel
theorem dX6_loadSpectrum_52 : decode cX6_loadSpectrum 52 = .ok (.ladd, 1) := by decide +kernel
theorem dX6_loadSpectrum_53 : decode cX6_loadSpectrum 53 = .ok (.lstore_n 3, 1) := by decide +kernel
theorem dX6_loadSpectrum_54 : decode cX6_loadSpectrum 54 = .ok (.iinc 5 1, 3) := by decide +kernel
theorem dX6_loadSpectrum_57 : decode cX6_loadSpectrum 57 = .ok (.goto (-50), 3) := by decide +kernel
theorem dX6_loadSpectrum_60 : decode cX6_loadSpectrum 60 = .ok (.lload_n 3, 1) := by decide +kernel
theorem dX6_loadSpectrum_61 : decode cX6_loadSpectrum 61 = .ok (.lconst 0, 1) := by decide +kernel
theorem dX6_loadSpectrum_62 : decode cX6_loadSpectrum 62 = .ok (.lcmp, 1) := by decide +kernel
theorem dX6_loadSpectrum_63 : decode cX6_loadSpectrum 63 = .ok (.ifCond .gt 7, 3) := by decide +kernel
theorem dX6_loadSpectrum_66 : decode cX6_loadSpectrum 66 = .ok (.iconst (-1), 1) := by decide +kernel
theorem dX6_loadSpectrum_67 : decode cX6_loadSpectrum 67 = .ok (.goto 15, 3) := by decide +kernel
theorem dX6_loadSpectrum_70 : decode cX6_loadSpectrum 70 = .ok (.ldc2_w 37, 3) := by decide +kernel
theorem dX6_loadSpectrum_73 : decode cX6_loadSpectrum 73 = .ok (.lload_n 1, 1) := by decide +kernel
theorem dX6_loadSpectrum_74 : decode cX6_loadSpectrum 74 = .ok (.lmul, 1) := by decide +kernel
theorem dX6_loadSpectrum_75 : decode cX6_loadSpectrum 75 = .ok (.ldc2_w 39, 3) := by decide +kernel
theorem dX6_loadSpectrum_78 : decode cX6_loadSpectrum 78 = .ok (.lload_n 3, 1) := by decide +kernel
theorem dX6_loadSpectrum_79 : decode cX6_loadSpectrum 79 = .ok (.lmul, 1) := by decide +kernel
theorem dX6_loadSpectrum_80 : decode cX6_loadSpectrum 80 = .ok (.ldiv, 1) := by decide +kernel
theorem dX6_loadSpectrum_81 : decode cX6_loadSpectrum 81 = .ok (.l2i, 1) := by decide +kernel
theorem dX6_loadSpectrum_82 : decode cX6_loadSpectrum 82 = .ok (.ireturn, 1) := by decide +kernel
theorem dX6_hash_0 : decode cX6_hash 0 = .ok (.lload_n 1, 1) := by decide +kernel
theorem dX6_hash_1 : decode cX6_hash 1 = .ok (.lstore_n 3, 1) := by decide +kernel
theorem dX6_hash_2 : decode cX6_hash 2 = .ok (.aload_n 0, 1) := by decide +kernel
theorem dX6_hash_3 : decode cX6_hash 3 = .ok (.getfield 11, 3) := by decide +kernel
theorem dX6_hash_6 : decode cX6_hash 6 = .ok (.astore 5, 2) := by decide +kernel
theorem dX6_hash_8 : decode cX6_hash 8 = .ok (.aload 5, 2) := by decide +kernel
theorem dX6_hash_10 : decode cX6_hash 10 = .ok (.arraylength, 1) := by decide +kernel
theorem dX6_hash_11 : decode cX6_hash 11 = .ok (.istore 6, 2) := by decide +kernel
theorem dX6_hash_13 : decode cX6_hash 13 = .ok (.iconst 0, 1) := by decide +kernel
theorem dX6_hash_14 : decode cX6_hash 14 = .ok (.istore 7, 2) := by decide +kernel
theorem dX6_hash_16 : decode cX6_hash 16 = .ok (.iload 7, 2) := by decide +kernel
theorem dX6_hash_18 : decode cX6_hash 18 = .ok (.iload 6, 2) := by decide +kernel
theorem dX6_hash_20 : decode cX6_hash 20 = .ok (.if_icmp .ge 26, 3) := by decide +kernel
theorem dX6_hash_23 : decode cX6_hash 23 = .ok (.aload 5, 2) := by decide +kernel
theorem dX6_hash_25 : decode cX6_hash 25 = .ok (.iload 7, 2) := by decide +kernel
theorem dX6_hash_27 : decode cX6_hash 27 = .ok (.iaload, 1) := by decide +kernel
theorem dX6_hash_28 : decode cX6_hash 28 = .ok (.istore 8, 2) := by decide +kernel
theorem dX6_hash_30 : decode cX6_hash 30 = .ok (.ldc2_w 41, 3) := by decide +kernel
theorem dX6_hash_33 : decode cX6_hash 33 = .ok (.lload_n 3, 1) := by decide +kernel
theorem dX6_hash_34 : decode cX6_hash 34 = .ok (.lmul, 1) := by decide +kernel
theorem dX6_hash_35 : decode cX6_hash 35 = .ok (.iload 8, 2) := by decide +kernel
theorem dX6_hash_37 : decode cX6_hash 37 = .ok (.i2l, 1) := by decide +kernel
theorem dX6_hash_38 : decode cX6_hash 38 = .ok (.ladd, 1) := by decide +kernel
theorem dX6_hash_39 : decode cX6_hash 39 = .ok (.lstore_n 3, 1) := by decide +kernel
theorem dX6_hash_40 : decode cX6_hash 40 = .ok (.iinc 7 1, 3) := by decide +kernel
theorem dX6_hash_43 : decode cX6_hash 43 = .ok (.goto (-27), 3) := by decide +kernel
theorem dX6_hash_46 : decode cX6_hash 46 = .ok (.aload_n 0, 1) := by decide +kernel
theorem dX6_hash_47 : decode cX6_hash 47 = .ok (.getfield 15, 3) := by decide +kernel
theorem dX6_hash_50 : decode cX6_hash 50 = .ok (.astore 5, 2) := by decide +kernel
theorem dX6_hash_52 : decode cX6_hash 52 = .ok (.aload 5, 2) := by decide +kernel
theorem dX6_hash_54 : decode cX6_hash 54 = .ok (.arraylength, 1) := by decide +kernel
theorem dX6_hash_55 : decode cX6_hash 55 = .ok (.istore 6, 2) := by decide +kernel
theorem dX6_hash_57 : decode cX6_hash 57 = .ok (.iconst 0, 1) := by decide +kernel
theorem dX6_hash_58 : decode cX6_hash 58 = .ok (.istore 7, 2) := by decide +kernel
theorem dX6_hash_60 : decode cX6_hash 60 = .ok (.iload 7, 2) := by decide +kernel
theorem dX6_hash_62 : decode cX6_hash 62 = .ok (.iload 6, 2) := by decide +kernel
theorem dX6_hash_64 : decode cX6_hash 64 = .ok (.if_icmp .ge 26, 3) := by decide +kernel
theorem dX6_hash_67 : decode cX6_hash 67 = .ok (.aload 5, 2) := by decide +kernel
theorem dX6_hash_69 : decode cX6_hash 69 = .ok (.iload 7, 2) := by decide +kernel
theorem dX6_hash_71 : decode cX6_hash 71 = .ok (.iaload, 1) := by decide +kernel
theorem dX6_hash_72 : decode cX6_hash 72 = .ok (.istore 8, 2) := by decide +kernel
theorem dX6_hash_74 : decode cX6_hash 74 = .ok (.ldc2_w 41, 3) := by decide +kernel
theorem dX6_hash_77 : decode cX6_hash 77 = .ok (.lload_n 3, 1) := by decide +kernel
theorem dX6_hash_78 : decode cX6_hash 78 = .ok (.lmul, 1) := by decide +kernel
theorem dX6_hash_79 : decode cX6_hash 79 = .ok (.iload 8, 2) := by decide +kernel
theorem dX6_hash_81 : decode cX6_hash 81 = .ok (.i2l, 1) := by decide +kernel
theorem dX6_hash_82 : decode cX6_hash 82 = .ok (.ladd, 1) := by decide +kernel
theorem dX6_hash_83 : decode cX6_hash 83 = .ok (.lstore_n 3, 1) := by decide +kernel
theorem dX6_hash_84 : decode cX6_hash 84 = .ok (.iinc 7 1, 3) := by decide +kernel
theorem dX6_hash_87 : decode cX6_hash 87 = .ok (.goto (-27), 3) := by decide +kernel
theorem dX6_hash_90 : decode cX6_hash 90 = .ok (.lload_n 3, 1) := by decide +kernel
theorem dX6_hash_91 : decode cX6_hash 91 = .ok (.lreturn, 1) := by decide +kernel
theorem dX7_init_0 : decode cX7_init 0 = .ok (.aload_n 0, 1) := by decide +kernel
theorem dX7_init_1 : decode cX7_init 1 = .ok (.invokespecial 1, 3) := by decide +kernel
theorem dX7_init_4 : decode cX7_init 4 = .ok (.aload_n 0, 1) := by decide +kernel
theorem dX7_init_5 : decode cX7_init 5 = .ok (.bipush 24, 2) := by decide +kernel
theorem dX7_init_7 : decode cX7_init 7 = .ok (.newarray .int, 2) := by decide +kernel
theorem dX7_init_9 : decode cX7_init 9 = .ok (.putfield 9, 3) := by decide +kernel
theorem dX7_init_12 : decode cX7_init 12 = .ok (.return_, 1) := by decide +kernel
theorem dX7_copyFrom_0 : decode cX7_copyFrom 0 = .ok (.aload_n 1, 1) := by decide +kernel
theorem dX7_copyFrom_1 : decode cX7_copyFrom 1 = .ok (.getfield 9, 3) := by decide +kernel
theorem dX7_copyFrom_4 : decode cX7_copyFrom 4 = .ok (.iconst 0, 1) := by decide +kernel
theorem dX7_copyFrom_5 : decode cX7_copyFrom 5 = .ok (.aload_n 0, 1) := by decide +kernel
theorem dX7_copyFrom_6 : decode cX7_copyFrom 6 = .ok (.getfield 9, 3) := by decide +kernel
theorem dX7_copyFrom_9 : decode cX7_copyFrom 9 = .ok (.iconst 0, 1) := by decide +kernel
theorem dX7_copyFrom_10 : decode cX7_copyFrom 10 = .ok (.aload_n 0, 1) := by decide +kernel
theorem dX7_copyFrom_11 : decode cX7_copyFrom 11 = .ok (.getfield 9, 3) := by decide +kernel
theorem dX7_copyFrom_14 : decode cX7_copyFrom 14 = .ok (.arraylength, 1) := by decide +kernel
theorem dX7_copyFrom_15 : decode cX7_copyFrom 15 = .ok (.invokestatic 13, 3) := by decide +kernel
theorem dX7_copyFrom_18 : decode cX7_copyFrom 18 = .ok (.aload_n 0, 1) := by decide +kernel
theorem dX7_copyFrom_19 : decode cX7_copyFrom 19 = .ok (.aload_n 1, 1) := by decide +kernel
theorem dX7_copyFrom_20 : decode cX7_copyFrom 20 = .ok (.getfield 19, 3) := by decide +kernel
theorem dX7_copyFrom_23 : decode cX7_copyFrom 23 = .ok (.putfield 19, 3) := by decide +kernel
theorem dX7_copyFrom_26 : decode cX7_copyFrom 26 = .ok (.return_, 1) := by decide +kernel
theorem dX7_add_0 : decode cX7_add 0 = .ok (.aload_n 0, 1) := by decide +kernel
theorem dX7_add_1 : decode cX7_add 1 = .ok (.getfield 19, 3) := by decide +kernel
theorem dX7_add_4 : decode cX7_add 4 = .ok (.iconst 4, 1) := by decide +kernel
theorem dX7_add_5 : decode cX7_add 5 = .ok (.imul, 1) := by decide +kernel
theorem dX7_add_6 : decode cX7_add 6 = .ok (.istore 5, 2) := by decide +kernel
theorem dX7_add_8 : decode cX7_add 8 = .ok (.iload 5, 2) := by decide +kernel
theorem dX7_add_10 : decode cX7_add 10 = .ok (.ifCond .lt 15, 3) := by decide +kernel
theorem dX7_add_13 : decode cX7_add 13 = .ok (.iload 5, 2) := by decide +kernel
theorem dX7_add_15 : decode cX7_add 15 = .ok (.iconst 4, 1) := by decide +kernel
theorem dX7_add_16 : decode cX7_add 16 = .ok (.iadd, 1) := by decide +kernel
theorem dX7_add_17 : decode cX7_add 17 = .ok (.aload_n 0, 1) := by decide +kernel
theorem dX7_add_18 : decode cX7_add 18 = .ok (.getfield 9, 3) := by decide +kernel
theorem dX7_add_21 : decode cX7_add 21 = .ok (.arraylength, 1) := by decide +kernel
theorem dX7_add_22 : decode cX7_add 22 = .ok (.if_icmp .le 4, 3) := by decide +kernel
theorem dX7_add_25 : decode cX7_add 25 = .ok (.return_, 1) := by decide +kernel
theorem dX7_add_26 : decode cX7_add 26 = .ok (.aload_n 0, 1) := by decide +kernel
theorem dX7_add_27 : decode cX7_add 27 = .ok (.getfield 9, 3) := by decide +kernel
theorem dX7_add_30 : decode cX7_add 30 = .ok (.iload 5, 2) := by decide +kernel
theorem dX7_add_32 : decode cX7_add 32 = .ok (.iload_n 1, 1) := by decide +kernel
theorem dX7_add_33 : decode cX7_add 33 = .ok (.iastore, 1) := by decide +kernel
theorem dX7_add_34 : decode cX7_add 34 = .ok (.aload_n 0, 1) := by decide +kernel
theorem dX7_add_35 : decode cX7_add 35 = .ok (.getfield 9, 3) := by decide +kernel
theorem dX7_add_38 : decode cX7_add 38 = .ok (.iload 5, 2) := by decide +kernel
theorem dX7_add_40 : decode cX7_add 40 = .ok (.iconst 1, 1) := by decide +kernel
theorem dX7_add_41 : decode cX7_add 41 = .ok (.iadd, 1) := by decide +kernel
theorem dX7_add_42 : decode cX7_add 42 = .ok (.iload_n 2, 1) := by decide +kernel
theorem dX7_add_43 : decode cX7_add 43 = .ok (.iastore, 1) := by decide +kernel
theorem dX7_add_44 : decode cX7_add 44 = .ok (.aload_n 0, 1) := by decide +kernel
theorem dX7_add_45 : decode cX7_add 45 = .ok (.getfield 9, 3) := by decide +kernel
theorem dX7_add_48 : decode cX7_add 48 = .ok (.iload 5, 2) := by decide +kernel
theorem dX7_add_50 : decode cX7_add 50 = .ok (.iconst 2, 1) := by decide +kernel
theorem dX7_add_51 : decode cX7_add 51 = .ok (.iadd, 1) := by decide +kernel
theorem dX7_add_52 : decode cX7_add 52 = .ok (.iload_n 3, 1) := by decide +kernel
theorem dX7_add_53 : decode cX7_add 53 = .ok (.iastore, 1) := by decide +kernel
theorem dX7_add_54 : decode cX7_add 54 = .ok (.aload_n 0, 1) := by decide +kernel
theorem dX7_add_55 : decode cX7_add 55 = .ok (.getfield 9, 3) := by decide +kernel
theorem dX7_add_58 : decode cX7_add 58 = .ok (.iload 5, 2) := by decide +kernel
theorem dX7_add_60 : decode cX7_add 60 = .ok (.iconst 3, 1) := by decide +kernel
theorem dX7_add_61 : decode cX7_add 61 = .ok (.iadd, 1) := by decide +kernel
theorem dX7_add_62 : decode cX7_add 62 = .ok (.iload 4, 2) := by decide +kernel
theorem dX7_add_64 : decode cX7_add 64 = .ok (.iastore, 1) := by decide +kernel
theorem dX7_add_65 : decode cX7_add 65 = .ok (.aload_n 0, 1) := by decide +kernel
theorem dX7_add_66 : decode cX7_add 66 = .ok (.dup, 1) := by decide +kernel
theorem dX7_add_67 : decode cX7_add 67 = .ok (.getfield 19, 3) := by decide +kernel
theorem dX7_add_70 : decode cX7_add 70 = .ok (.iconst 1, 1) := by decide +kernel
theorem dX7_add_71 : decode cX7_add 71 = .ok (.iadd, 1) := by decide +kernel
theorem dX7_add_72 : decode cX7_add 72 = .ok (.putfield 19, 3) := by decide +kernel
theorem dX7_add_75 : decode cX7_add 75 = .ok (.return_, 1) := by decide +kernel
theorem dX7_remove_0 : decode cX7_remove 0 = .ok (.iload_n 1, 1) := by decide +kernel
theorem dX7_remove_1 : decode cX7_remove 1 = .ok (.ifCond .lt 20, 3) := by decide +kernel
theorem dX7_remove_4 : decode cX7_remove 4 = .ok (.iload_n 1, 1) := by decide +kernel
theorem dX7_remove_5 : decode cX7_remove 5 = .ok (.aload_n 0, 1) := by decide +kernel
theorem dX7_remove_6 : decode cX7_remove 6 = .ok (.getfield 19, 3) := by decide +kernel
theorem dX7_remove_9 : decode cX7_remove 9 = .ok (.if_icmp .ge 12, 3) := by decide +kernel
theorem dX7_remove_12 : decode cX7_remove 12 = .ok (.aload_n 0, 1) := by decide +kernel
theorem dX7_remove_13 : decode cX7_remove 13 = .ok (.getfield 19, 3) := by decide +kernel
theorem dX7_remove_16 : decode cX7_remove 16 = .ok (.bipush 6, 2) := by decide +kernel
theorem dX7_remove_18 : decode cX7_remove 18 = .ok (.if_icmp .le 4, 3) := by decide +kernel
theorem dX7_remove_21 : decode cX7_remove 21 = .ok (.return_, 1) := by decide +kernel
theorem dX7_remove_22 : decode cX7_remove 22 = .ok (.iload_n 1, 1) := by decide +kernel
theorem dX7_remove_23 : decode cX7_remove 23 = .ok (.iconst 4, 1) := by decide +kernel
theorem dX7_remove_24 : decode cX7_remove 24 = .ok (.imul, 1) := by decide +kernel
theorem dX7_remove_25 : decode cX7_remove 25 = .ok (.istore_n 2, 1) := by decide +kernel
theorem dX7_remove_26 : decode cX7_remove 26 = .ok (.iload_n 2, 1) := by decide +kernel
theorem dX7_remove_27 : decode cX7_remove 27 = .ok (.aload_n 0, 1) := by decide +kernel
theorem dX7_remove_28 : decode cX7_remove 28 = .ok (.getfield 19, 3) := by decide +kernel
theorem dX7_remove_31 : decode cX7_remove 31 = .ok (.iconst 1, 1) := by decide +kernel
theorem dX7_remove_32 : decode cX7_remove 32 = .ok (.isub, 1) := by decide +kernel
theorem dX7_remove_33 : decode cX7_remove 33 = .ok (.iconst 4, 1) := by decide +kernel
theorem dX7_remove_34 : decode cX7_remove 34 = .ok (.imul, 1) := by decide +kernel
theorem dX7_remove_35 : decode cX7_remove 35 = .ok (.if_icmp .ge 23, 3) := by decide +kernel
theorem dX7_remove_38 : decode cX7_remove 38 = .ok (.aload_n 0, 1) := by decide +kernel
theorem dX7_remove_39 : decode cX7_remove 39 = .ok (.getfield 9, 3) := by decide +kernel
theorem dX7_remove_42 : decode cX7_remove 42 = .ok (.iload_n 2, 1) := by decide +kernel
theorem dX7_remove_43 : decode cX7_remove 43 = .ok (.aload_n 0, 1) := by decide +kernel
theorem dX7_remove_44 : decode cX7_remove 44 = .ok (.getfield 9, 3) := by decide +kernel
theorem dX7_remove_47 : decode cX7_remove 47 = .ok (.iload_n 2, 1) := by decide +kernel
theorem dX7_remove_48 : decode cX7_remove 48 = .ok (.iconst 4, 1) := by decide +kernel
theorem dX7_remove_49 : decode cX7_remove 49 = .ok (.iadd, 1) := by decide +kernel
theorem dX7_remove_50 : decode cX7_remove 50 = .ok (.iaload, 1) := by decide +kernel
theorem dX7_remove_51 : decode cX7_remove 51 = .ok (.iastore, 1) := by decide +kernel
theorem dX7_remove_52 : decode cX7_remove 52 = .ok (.iinc 2 1, 3) := by decide +kernel
theorem dX7_remove_55 : decode cX7_remove 55 = .ok (.goto (-29), 3) := by decide +kernel
theorem dX7_remove_58 : decode cX7_remove 58 = .ok (.aload_n 0, 1) := by decide +kernel
theorem dX7_remove_59 : decode cX7_remove 59 = .ok (.dup, 1) := by decide +kernel
theorem dX7_remove_60 : decode cX7_remove 60 = .ok (.getfield 19, 3) := by decide +kernel
theorem dX7_remove_63 : decode cX7_remove 63 = .ok (.iconst 1, 1) := by decide +kernel
theorem dX7_remove_64 : decode cX7_remove 64 = .ok (.isub, 1) := by decide +kernel
theorem dX7_remove_65 : decode cX7_remove 65 = .ok (.putfield 19, 3) := by decide +kernel
theorem dX7_remove_68 : decode cX7_remove 68 = .ok (.return_, 1) := by decide +kernel
theorem dX7_violation_0 : decode cX7_violation 0 = .ok (.aload_n 1, 1) := by decide +kernel
theorem dX7_violation_1 : decode cX7_violation 1 = .ok (.invokevirtual 23, 3) := by decide +kernel
theorem dX7_violation_4 : decode cX7_violation 4 = .ok (.istore_n 2, 1) := by decide +kernel
theorem dX7_violation_5 : decode cX7_violation 5 = .ok (.aload_n 1, 1) := by decide +kernel
theorem dX7_violation_6 : decode cX7_violation 6 = .ok (.invokevirtual 29, 3) := by decide +kernel
theorem dX7_violation_9 : decode cX7_violation 9 = .ok (.istore_n 3, 1) := by decide +kernel
theorem dX7_violation_10 : decode cX7_violation 10 = .ok (.iconst 0, 1) := by decide +kernel
theorem dX7_violation_11 : decode cX7_violation 11 = .ok (.istore 4, 2) := by decide +kernel
theorem dX7_violation_13 : decode cX7_violation 13 = .ok (.iconst 0, 1) := by decide +kernel
theorem dX7_violation_14 : decode cX7_violation 14 = .ok (.istore 5, 2) := by decide +kernel
theorem dX7_violation_16 : decode cX7_violation 16 = .ok (.iload 5, 2) := by decide +kernel
theorem dX7_violation_18 : decode cX7_violation 18 = .ok (.aload_n 0, 1) := by decide +kernel
theorem dX7_violation_19 : decode cX7_violation 19 = .ok (.getfield 19, 3) := by decide +kernel
theorem dX7_violation_22 : decode cX7_violation 22 = .ok (.iconst 4, 1) := by decide +kernel
theorem dX7_violation_23 : decode cX7_violation 23 = .ok (.imul, 1) := by decide +kernel
theorem dX7_violation_24 : decode cX7_violation 24 = .ok (.if_icmp .ge 92, 3) := by decide +kernel
theorem dX7_violation_27 : decode cX7_violation 27 = .ok (.iload 5, 2) := by decide +kernel
theorem dX7_violation_29 : decode cX7_violation 29 = .ok (.iconst 4, 1) := by decide +kernel
theorem dX7_violation_30 : decode cX7_violation 30 = .ok (.iadd, 1) := by decide +kernel
theorem dX7_violation_31 : decode cX7_violation 31 = .ok (.aload_n 0, 1) := by decide +kernel
theorem dX7_violation_32 : decode cX7_violation 32 = .ok (.getfield 9, 3) := by decide +kernel
theorem dX7_violation_35 : decode cX7_violation 35 = .ok (.arraylength, 1) := by decide +kernel
theorem dX7_violation_36 : decode cX7_violation 36 = .ok (.if_icmp .gt 80, 3) := by decide +kernel
theorem dX7_violation_39 : decode cX7_violation 39 = .ok (.aload_n 0, 1) := by decide +kernel
theorem dX7_violation_40 : decode cX7_violation 40 = .ok (.getfield 9, 3) := by decide +kernel
theorem dX7_violation_43 : decode cX7_violation 43 = .ok (.iload 5, 2) := by decide +kernel
theorem dX7_violation_45 : decode cX7_violation 45 = .ok (.iaload, 1) := by decide +kernel
theorem dX7_violation_46 : decode cX7_violation 46 = .ok (.istore 6, 2) := by decide +kernel
theorem dX7_violation_48 : decode cX7_violation 48 = .ok (.iload 6, 2) := by decide +kernel
theorem dX7_violation_50 : decode cX7_violation 50 = .ok (.aload_n 1, 1) := by decide +kernel
theorem dX7_violation_51 : decode cX7_violation 51 = .ok (.getfield 32, 3) := by decide +kernel
theorem dX7_violation_54 : decode cX7_violation 54 = .ok (.invokestatic 35, 3) := by decide +kernel
theorem dX7_violation_57 : decode cX7_violation 57 = .ok (.iload 6, 2) := by decide +kernel
theorem dX7_violation_59 : decode cX7_violation 59 = .ok (.aload_n 0, 1) := by decide +kernel
theorem dX7_violation_60 : decode cX7_violation 60 = .ok (.getfield 9, 3) := by decide +kernel
theorem dX7_violation_63 : decode cX7_violation 63 = .ok (.iload 5, 2) := by decide +kernel
theorem dX7_violation_65 : decode cX7_violation 65 = .ok (.iconst 1, 1) := by decide +kernel
theorem dX7_violation_66 : decode cX7_violation 66 = .ok (.iadd, 1) := by decide +kernel
theorem dX7_violation_67 : decode cX7_violation 67 = .ok (.iaload, 1) := by decide +kernel
theorem dX7_violation_68 : decode cX7_violation 68 = .ok (.invokestatic 35, 3) := by decide +kernel
theorem dX7_violation_71 : decode cX7_violation 71 = .ok (.if_icmp .gt 39, 3) := by decide +kernel
theorem dX7_violation_74 : decode cX7_violation 74 = .ok (.iload 4, 2) := by decide +kernel
theorem dX7_violation_76 : decode cX7_violation 76 = .ok (.iload_n 2, 1) := by decide +kernel
theorem dX7_violation_77 : decode cX7_violation 77 = .ok (.aload_n 0, 1) := by decide +kernel
theorem dX7_violation_78 : decode cX7_violation 78 = .ok (.getfield 9, 3) := by decide +kernel
theorem dX7_violation_81 : decode cX7_violation 81 = .ok (.iload 5, 2) := by decide +kernel
theorem dX7_violation_83 : decode cX7_violation 83 = .ok (.iconst 2, 1) := by decide +kernel
theorem dX7_violation_84 : decode cX7_violation 84 = .ok (.iadd, 1) := by decide +kernel
theorem dX7_violation_85 : decode cX7_violation 85 = .ok (.iaload, 1) := by decide +kernel
theorem dX7_violation_86 : decode cX7_violation 86 = .ok (.isub, 1) := by decide +kernel
theorem dX7_violation_87 : decode cX7_violation 87 = .ok (.iconst 0, 1) := by decide +kernel
theorem dX7_violation_88 : decode cX7_violation 88 = .ok (.invokestatic 41, 3) := by decide +kernel
theorem dX7_violation_91 : decode cX7_violation 91 = .ok (.iload_n 3, 1) := by decide +kernel
theorem dX7_violation_92 : decode cX7_violation 92 = .ok (.aload_n 0, 1) := by decide +kernel
theorem dX7_violation_93 : decode cX7_violation 93 = .ok (.getfield 9, 3) := by decide +kernel
theorem dX7_violation_96 : decode cX7_violation 96 = .ok (.iload 5, 2) := by decide +kernel
theorem dX7_violation_98 : decode cX7_violation 98 = .ok (.iconst 3, 1) := by decide +kernel
theorem dX7_violation_99 : decode cX7_violation 99 = .ok (.iadd, 1) := by decide +kernel
theorem dX7_violation_100 : decode cX7_violation 100 = .ok (.iaload, 1) := by decide +kernel
theorem dX7_violation_101 : decode cX7_violation 101 = .ok (.isub, 1) := by decide +kernel
theorem dX7_violation_102 : decode cX7_violation 102 = .ok (.iconst 0, 1) := by decide +kernel
theorem dX7_violation_103 : decode cX7_violation 103 = .ok (.invokestatic 41, 3) := by decide +kernel
theorem dX7_violation_106 : decode cX7_violation 106 = .ok (.iadd, 1) := by decide +kernel
theorem dX7_violation_107 : decode cX7_violation 107 = .ok (.iadd, 1) := by decide +kernel
theorem dX7_violation_108 : decode cX7_violation 108 = .ok (.istore 4, 2) := by decide +kernel
theorem dX7_violation_110 : decode cX7_violation 110 = .ok (.iinc 5 4, 3) := by decide +kernel
theorem dX7_violation_113 : decode cX7_violation 113 = .ok (.goto (-97), 3) := by decide +kernel
theorem dX7_violation_116 : decode cX7_violation 116 = .ok (.iload 4, 2) := by decide +kernel
theorem dX7_violation_118 : decode cX7_violation 118 = .ok (.ireturn, 1) := by decide +kernel
theorem dX7_hash_0 : decode cX7_hash 0 = .ok (.ldc2_w 46, 3) := by decide +kernel
theorem dX7_hash_3 : decode cX7_hash 3 = .ok (.lload_n 1, 1) := by decide +kernel
theorem dX7_hash_4 : decode cX7_hash 4 = .ok (.lmul, 1) := by decide +kernel
theorem dX7_hash_5 : decode cX7_hash 5 = .ok (.aload_n 0, 1) := by decide +kernel
theorem dX7_hash_6 : decode cX7_hash 6 = .ok (.getfield 19, 3) := by decide +kernel
theorem dX7_hash_9 : decode cX7_hash 9 = .ok (.i2l, 1) := by decide +kernel
theorem dX7_hash_10 : decode cX7_hash 10 = .ok (.ladd, 1) := by decide +kernel
theorem dX7_hash_11 : decode cX7_hash 11 = .ok (.lstore_n 3, 1) := by decide +kernel
theorem dX7_hash_12 : decode cX7_hash 12 = .ok (.iconst 0, 1) := by decide +kernel
theorem dX7_hash_13 : decode cX7_hash 13 = .ok (.istore 5, 2) := by decide +kernel
theorem dX7_hash_15 : decode cX7_hash 15 = .ok (.iload 5, 2) := by decide +kernel
theorem dX7_hash_17 : decode cX7_hash 17 = .ok (.aload_n 0, 1) := by decide +kernel
theorem dX7_hash_18 : decode cX7_hash 18 = .ok (.getfield 19, 3) := by decide +kernel
theorem dX7_hash_21 : decode cX7_hash 21 = .ok (.iconst 4, 1) := by decide +kernel
theorem dX7_hash_22 : decode cX7_hash 22 = .ok (.imul, 1) := by decide +kernel
theorem dX7_hash_23 : decode cX7_hash 23 = .ok (.if_icmp .ge 34, 3) := by decide +kernel
theorem dX7_hash_26 : decode cX7_hash 26 = .ok (.iload 5, 2) := by decide +kernel
theorem dX7_hash_28 : decode cX7_hash 28 = .ok (.aload_n 0, 1) := by decide +kernel
theorem dX7_hash_29 : decode cX7_hash 29 = .ok (.getfield 9, 3) := by decide +kernel
theorem dX7_hash_32 : decode cX7_hash 32 = .ok (.arraylength, 1) := by decide +kernel
theorem dX7_hash_33 : decode cX7_hash 33 = .ok (.if_icmp .ge 24, 3) := by decide +kernel
theorem dX7_hash_36 : decode cX7_hash 36 = .ok (.ldc2_w 46, 3) := by decide +kernel
theorem dX7_hash_39 : decode cX7_hash 39 = .ok (.lload_n 3, 1) := by decide +kernel
theorem dX7_hash_40 : decode cX7_hash 40 = .ok (.lmul, 1) := by decide +kernel
theorem dX7_hash_41 : decode cX7_hash 41 = .ok (.aload_n 0, 1) := by decide +kernel
theorem dX7_hash_42 : decode cX7_hash 42 = .ok (.getfield 9, 3) := by decide +kernel
theorem dX7_hash_45 : decode cX7_hash 45 = .ok (.iload 5, 2) := by decide +kernel
theorem dX7_hash_47 : decode cX7_hash 47 = .ok (.iaload, 1) := by decide +kernel
theorem dX7_hash_48 : decode cX7_hash 48 = .ok (.i2l, 1) := by decide +kernel
theorem dX7_hash_49 : decode cX7_hash 49 = .ok (.ladd, 1) := by decide +kernel
theorem dX7_hash_50 : decode cX7_hash 50 = .ok (.lstore_n 3, 1) := by decide +kernel
theorem dX7_hash_51 : decode cX7_hash 51 = .ok (.iinc 5 1, 3) := by decide +kernel
theorem dX7_hash_54 : decode cX7_hash 54 = .ok (.goto (-39), 3) := by decide +kernel
theorem dX7_hash_57 : decode cX7_hash 57 = .ok (.lload_n 3, 1) := by decide +kernel
theorem dX7_hash_58 : decode cX7_hash 58 = .ok (.lreturn, 1) := by decide +kernel
theorem dX8_init_0 : decode cX8_init 0 = .ok (.aload_n 0, 1) := by decide +kernel
theorem dX8_init_1 : decode cX8_init 1 = .ok (.invokespecial 1, 3) := by decide +kernel
theorem dX8_init_4 : decode cX8_init 4 = .ok (.aload_n 0, 1) := by decide +kernel
theorem dX8_init_5 : decode cX8_init 5 = .ok (.new 7, 3) := by decide +kernel
theorem dX8_init_8 : decode cX8_init 8 = .ok (.dup, 1) := by decide +kernel
theorem dX8_init_9 : decode cX8_init 9 = .ok (.invokespecial 9, 3) := by decide +kernel
theorem dX8_init_12 : decode cX8_init 12 = .ok (.putfield 10, 3) := by decide +kernel
theorem dX8_init_15 : decode cX8_init 15 = .ok (.aload_n 0, 1) := by decide +kernel
theorem dX8_init_16 : decode cX8_init 16 = .ok (.iconst 4, 1) := by decide +kernel
theorem dX8_init_17 : decode cX8_init 17 = .ok (.anewarray 7, 3) := by decide +kernel
theorem dX8_init_20 : decode cX8_init 20 = .ok (.putfield 16, 3) := by decide +kernel
theorem dX8_init_23 : decode cX8_init 23 = .ok (.aload_n 0, 1) := by decide +kernel
theorem dX8_init_24 : decode cX8_init 24 = .ok (.bipush 80, 2) := by decide +kernel
theorem dX8_init_26 : decode cX8_init 26 = .ok (.newarray .int, 2) := by decide +kernel
theorem dX8_init_28 : decode cX8_init 28 = .ok (.putfield 20, 3) := by decide +kernel
theorem dX8_init_31 : decode cX8_init 31 = .ok (.aload_n 0, 1) := by decide +kernel
theorem dX8_init_32 : decode cX8_init 32 = .ok (.new 24, 3) := by decide +kernel
theorem dX8_init_35 : decode cX8_init 35 = .ok (.dup, 1) := by decide +kernel
theorem dX8_init_36 : decode cX8_init 36 = .ok (.invokespecial 26, 3) := by decide +kernel
theorem dX8_init_39 : decode cX8_init 39 = .ok (.putfield 27, 3) := by decide +kernel
theorem dX8_init_42 : decode cX8_init 42 = .ok (.aload_n 0, 1) := by decide +kernel
theorem dX8_init_43 : decode cX8_init 43 = .ok (.new 31, 3) := by decide +kernel
theorem dX8_init_46 : decode cX8_init 46 = .ok (.dup, 1) := by decide +kernel
theorem dX8_init_47 : decode cX8_init 47 = .ok (.invokespecial 33, 3) := by decide +kernel
theorem dX8_init_50 : decode cX8_init 50 = .ok (.putfield 34, 3) := by decide +kernel
theorem dX8_init_53 : decode cX8_init 53 = .ok (.aload_n 0, 1) := by decide +kernel
theorem dX8_init_54 : decode cX8_init 54 = .ok (.new 38, 3) := by decide +kernel
theorem dX8_init_57 : decode cX8_init 57 = .ok (.dup, 1) := by decide +kernel
theorem dX8_init_58 : decode cX8_init 58 = .ok (.invokespecial 40, 3) := by decide +kernel
theorem dX8_init_61 : decode cX8_init 61 = .ok (.putfield 41, 3) := by decide +kernel
theorem dX8_init_64 : decode cX8_init 64 = .ok (.return_, 1) := by decide +kernel
theorem dX8_setOutrigger_0 : decode cX8_setOutrigger 0 = .ok (.iload_n 1, 1) := by decide +kernel
theorem dX8_setOutrigger_1 : decode cX8_setOutrigger 1 = .ok (.iconst 4, 1) := by decide +kernel
theorem dX8_setOutrigger_2 : decode cX8_setOutrigger 2 = .ok (.invokestatic 47, 3) := by decide +kernel
theorem dX8_setOutrigger_5 : decode cX8_setOutrigger 5 = .ok (.iload_n 2, 1) := by decide +kernel
theorem dX8_setOutrigger_6 : decode cX8_setOutrigger 6 = .ok (.iconst 0, 1) := by decide +kernel
theorem dX8_setOutrigger_7 : decode cX8_setOutrigger 7 = .ok (.iconst 2, 1) := by decide +kernel
theorem dX8_setOutrigger_8 : decode cX8_setOutrigger 8 = .ok (.invokestatic 51, 3) := by decide +kernel
theorem dX8_setOutrigger_11 : decode cX8_setOutrigger 11 = .ok (.aload_n 0, 1) := by decide +kernel
theorem dX8_setOutrigger_12 : decode cX8_setOutrigger 12 = .ok (.invokevirtual 55, 3) := by decide +kernel
theorem dX8_setOutrigger_15 : decode cX8_setOutrigger 15 = .ok (.aload_n 0, 1) := by decide +kernel
theorem dX8_setOutrigger_16 : decode cX8_setOutrigger 16 = .ok (.getfield 10, 3) := by decide +kernel
theorem dX8_setOutrigger_19 : decode cX8_setOutrigger 19 = .ok (.getfield 58, 3) := by decide +kernel
theorem dX8_setOutrigger_22 : decode cX8_setOutrigger 22 = .ok (.iload_n 1, 1) := by decide +kernel
theorem dX8_setOutrigger_23 : decode cX8_setOutrigger 23 = .ok (.iload_n 2, 1) := by decide +kernel
theorem dX8_setOutrigger_24 : decode cX8_setOutrigger 24 = .ok (.invokevirtual 62, 3) := by decide +kernel
theorem dX8_setOutrigger_27 : decode cX8_setOutrigger 27 = .ok (.ireturn, 1) := by decide +kernel
theorem dX8_setOnWheels_0 : decode cX8_setOnWheels 0 = .ok (.aload_n 0, 1) := by decide +kernel
theorem dX8_setOnWheels_1 : decode cX8_setOnWheels 1 = .ok (.invokevirtual 55, 3) := by decide +kernel
theorem dX8_setOnWheels_4 : decode cX8_setOnWheels 4 = .ok (.aload_n 0, 1) := by decide +kernel
theorem dX8_setOnWheels_5 : decode cX8_setOnWheels 5 = .ok (.getfield 10, 3) := by decide +kernel
theorem dX8_setOnWheels_8 : decode cX8_setOnWheels 8 = .ok (.getfield 58, 3) := by decide +kernel
theorem dX8_setOnWheels_11 : decode cX8_setOnWheels 11 = .ok (.getfield 66, 3) := by decide +kernel
theorem dX8_setOnWheels_14 : decode cX8_setOnWheels 14 = .ok (.istore_n 2, 1) := by decide +kernel
theorem dX8_setOnWheels_15 : decode cX8_setOnWheels 15 = .ok (.aload_n 0, 1) := by decide +kernel
theorem dX8_setOnWheels_16 : decode cX8_setOnWheels 16 = .ok (.getfield 10, 3) := by decide +kernel
theorem dX8_setOnWheels_19 : decode cX8_setOnWheels 19 = .ok (.getfield 58, 3) := by decide +kernel
theorem dX8_setOnWheels_22 : decode cX8_setOnWheels 22 = .ok (.iload_n 1, 1) := by decide +kernel
theorem dX8_setOnWheels_23 : decode cX8_setOnWheels 23 = .ok (.putfield 66, 3) := by decide +kernel
theorem dX8_setOnWheels_26 : decode cX8_setOnWheels 26 = .ok (.iload_n 2, 1) := by decide +kernel
theorem dX8_setOnWheels_27 : decode cX8_setOnWheels 27 = .ok (.ireturn, 1) := by decide +kernel
theorem dX8_setCapacity_0 : decode cX8_setCapacity 0 = .ok (.iload_n 1, 1) := by decide +kernel
theorem dX8_setCapacity_1 : decode cX8_setCapacity 1 = .ok (.iload_n 2, 1) := by decide +kernel
theorem dX8_setCapacity_2 : decode cX8_setCapacity 2 = .ok (.iload_n 3, 1) := by decide +kernel
theorem dX8_setCapacity_3 : decode cX8_setCapacity 3 = .ok (.invokestatic 70, 3) := by decide +kernel
theorem dX8_setCapacity_6 : decode cX8_setCapacity 6 = .ok (.iload 4, 2) := by decide +kernel
theorem dX8_setCapacity_8 : decode cX8_setCapacity 8 = .ok (.iconst 0, 1) := by decide +kernel
theorem dX8_setCapacity_9 : decode cX8_setCapacity 9 = .ok (.ldc 73, 2) := by decide +kernel
theorem dX8_setCapacity_11 : decode cX8_setCapacity 11 = .ok (.invokestatic 51, 3) := by decide +kernel
theorem dX8_setCapacity_14 : decode cX8_setCapacity 14 = .ok (.aload_n 0, 1) := by decide +kernel
theorem dX8_setCapacity_15 : decode cX8_setCapacity 15 = .ok (.invokevirtual 55, 3) := by decide +kernel
theorem dX8_setCapacity_18 : decode cX8_setCapacity 18 = .ok (.aload_n 0, 1) := by decide +kernel
theorem dX8_setCapacity_19 : decode cX8_setCapacity 19 = .ok (.getfield 10, 3) := by decide +kernel
theorem dX8_setCapacity_22 : decode cX8_setCapacity 22 = .ok (.getfield 58, 3) := by decide +kernel
theorem dX8_setCapacity_25 : decode cX8_setCapacity 25 = .ok (.iload_n 1, 1) := by decide +kernel
theorem dX8_setCapacity_26 : decode cX8_setCapacity 26 = .ok (.iload_n 2, 1) := by decide +kernel
theorem dX8_setCapacity_27 : decode cX8_setCapacity 27 = .ok (.iload_n 3, 1) := by decide +kernel
theorem dX8_setCapacity_28 : decode cX8_setCapacity 28 = .ok (.invokevirtual 74, 3) := by decide +kernel
theorem dX8_setCapacity_31 : decode cX8_setCapacity 31 = .ok (.istore 5, 2) := by decide +kernel
theorem dX8_setCapacity_33 : decode cX8_setCapacity 33 = .ok (.aload_n 0, 1) := by decide +kernel
theorem dX8_setCapacity_34 : decode cX8_setCapacity 34 = .ok (.getfield 10, 3) := by decide +kernel
theorem dX8_setCapacity_37 : decode cX8_setCapacity 37 = .ok (.getfield 58, 3) := by decide +kernel
theorem dX8_setCapacity_40 : decode cX8_setCapacity 40 = .ok (.iload_n 1, 1) := by decide +kernel
theorem dX8_setCapacity_41 : decode cX8_setCapacity 41 = .ok (.iload_n 2, 1) := by decide +kernel
theorem dX8_setCapacity_42 : decode cX8_setCapacity 42 = .ok (.iload_n 3, 1) := by decide +kernel
theorem dX8_setCapacity_43 : decode cX8_setCapacity 43 = .ok (.iload 4, 2) := by decide +kernel
theorem dX8_setCapacity_45 : decode cX8_setCapacity 45 = .ok (.invokevirtual 78, 3) := by decide +kernel
theorem dX8_setCapacity_48 : decode cX8_setCapacity 48 = .ok (.iload 5, 2) := by decide +kernel
theorem dX8_setCapacity_50 : decode cX8_setCapacity 50 = .ok (.ireturn, 1) := by decide +kernel
theorem dX8_fillTable_0 : decode cX8_fillTable 0 = .ok (.iload_n 1, 1) := by decide +kernel
theorem dX8_fillTable_1 : decode cX8_fillTable 1 = .ok (.iconst 4, 1) := by decide +kernel
theorem dX8_fillTable_2 : decode cX8_fillTable 2 = .ok (.invokestatic 47, 3) := by decide +kernel
theorem dX8_fillTable_5 : decode cX8_fillTable 5 = .ok (.iload_n 2, 1) := by decide +kernel
theorem dX8_fillTable_6 : decode cX8_fillTable 6 = .ok (.iconst 0, 1) := by decide +kernel
theorem dX8_fillTable_7 : decode cX8_fillTable 7 = .ok (.ldc 82, 2) := by decide +kernel
theorem dX8_fillTable_9 : decode cX8_fillTable 9 = .ok (.invokestatic 51, 3) := by decide +kernel
theorem dX8_fillTable_12 : decode cX8_fillTable 12 = .ok (.aload_n 0, 1) := by decide +kernel
theorem dX8_fillTable_13 : decode cX8_fillTable 13 = .ok (.invokevirtual 55, 3) := by decide +kernel
theorem dX8_fillTable_16 : decode cX8_fillTable 16 = .ok (.aload_n 0, 1) := by decide +kernel
theorem dX8_fillTable_17 : decode cX8_fillTable 17 = .ok (.getfield 10, 3) := by decide +kernel
theorem dX8_fillTable_20 : decode cX8_fillTable 20 = .ok (.getfield 58, 3) := by decide +kernel
theorem dX8_fillTable_23 : decode cX8_fillTable 23 = .ok (.iload_n 1, 1) := by decide +kernel
theorem dX8_fillTable_24 : decode cX8_fillTable 24 = .ok (.iload_n 2, 1) := by decide +kernel
theorem dX8_fillTable_25 : decode cX8_fillTable 25 = .ok (.invokevirtual 83, 3) := by decide +kernel
theorem dX8_fillTable_28 : decode cX8_fillTable 28 = .ok (.aload_n 0, 1) := by decide +kernel
theorem dX8_fillTable_29 : decode cX8_fillTable 29 = .ok (.getfield 10, 3) := by decide +kernel
theorem dX8_fillTable_32 : decode cX8_fillTable 32 = .ok (.getfield 58, 3) := by decide +kernel
theorem dX8_fillTable_35 : decode cX8_fillTable 35 = .ok (.iload_n 1, 1) := by decide +kernel
theorem dX8_fillTable_36 : decode cX8_fillTable 36 = .ok (.invokevirtual 86, 3) := by decide +kernel
theorem dX8_fillTable_39 : decode cX8_fillTable 39 = .ok (.ireturn, 1) := by decide +kernel
theorem dX8_capacity_0 : decode cX8_capacity 0 = .ok (.iload_n 1, 1) := by decide +kernel
theorem dX8_capacity_1 : decode cX8_capacity 1 = .ok (.iload_n 2, 1) := by decide +kernel
theorem dX8_capacity_2 : decode cX8_capacity 2 = .ok (.iload_n 3, 1) := by decide +kernel
theorem dX8_capacity_3 : decode cX8_capacity 3 = .ok (.invokestatic 70, 3) := by decide +kernel
theorem dX8_capacity_6 : decode cX8_capacity 6 = .ok (.aload_n 0, 1) := by decide +kernel
theorem dX8_capacity_7 : decode cX8_capacity 7 = .ok (.getfield 10, 3) := by decide +kernel
theorem dX8_capacity_10 : decode cX8_capacity 10 = .ok (.getfield 58, 3) := by decide +kernel
theorem dX8_capacity_13 : decode cX8_capacity 13 = .ok (.iload_n 1, 1) := by decide +kernel
theorem dX8_capacity_14 : decode cX8_capacity 14 = .ok (.iload_n 2, 1) := by decide +kernel
theorem dX8_capacity_15 : decode cX8_capacity 15 = .ok (.iload_n 3, 1) := by decide +kernel
theorem dX8_capacity_16 : decode cX8_capacity 16 = .ok (.invokevirtual 74, 3) := by decide +kernel
theorem dX8_capacity_19 : decode cX8_capacity 19 = .ok (.ireturn, 1) := by decide +kernel
theorem dX8_addZone_0 : decode cX8_addZone 0 = .ok (.iload_n 1, 1) := by decide +kernel
theorem dX8_addZone_1 : decode cX8_addZone 1 = .ok (.invokestatic 90, 3) := by decide +kernel
theorem dX8_addZone_4 : decode cX8_addZone 4 = .ok (.iload_n 2, 1) := by decide +kernel
theorem dX8_addZone_5 : decode cX8_addZone 5 = .ok (.invokestatic 90, 3) := by decide +kernel
theorem dX8_addZone_8 : decode cX8_addZone 8 = .ok (.iload_n 3, 1) := by decide +kernel
theorem dX8_addZone_9 : decode cX8_addZone 9 = .ok (.iconst 0, 1) := by decide +kernel
theorem dX8_addZone_10 : decode cX8_addZone 10 = .ok (.sipush 10000, 3) := by decide +kernel
theorem dX8_addZone_13 : decode cX8_addZone 13 = .ok (.invokestatic 51, 3) := by decide +kernel
theorem dX8_addZone_16 : decode cX8_addZone 16 = .ok (.iload 4, 2) := by decide +kernel
theorem dX8_addZone_18 : decode cX8_addZone 18 = .ok (.iconst 0, 1) := by decide +kernel
theorem dX8_addZone_19 : decode cX8_addZone 19 = .ok (.sipush 10000, 3) := by decide +kernel
theorem dX8_addZone_22 : decode cX8_addZone 22 = .ok (.invokestatic 51, 3) := by decide +kernel
theorem dX8_addZone_25 : decode cX8_addZone 25 = .ok (.aload_n 0, 1) := by decide +kernel
theorem dX8_addZone_26 : decode cX8_addZone 26 = .ok (.getfield 10, 3) := by decide +kernel
theorem dX8_addZone_29 : decode cX8_addZone 29 = .ok (.getfield 94, 3) := by decide +kernel
theorem dX8_addZone_32 : decode cX8_addZone 32 = .ok (.getfield 98, 3) := by decide +kernel
theorem dX8_addZone_35 : decode cX8_addZone 35 = .ok (.bipush 6, 2) := by decide +kernel
theorem dX8_addZone_37 : decode cX8_addZone 37 = .ok (.if_icmp .ge 7, 3) := by decide +kernel
theorem dX8_addZone_40 : decode cX8_addZone 40 = .ok (.iconst 1, 1) := by decide +kernel
theorem dX8_addZone_41 : decode cX8_addZone 41 = .ok (.goto 4, 3) := by decide +kernel
theorem dX8_addZone_44 : decode cX8_addZone 44 = .ok (.iconst 0, 1) := by decide +kernel
theorem dX8_addZone_45 : decode cX8_addZone 45 = .ok (.invokestatic 104, 3) := by decide +kernel
theorem dX8_addZone_48 : decode cX8_addZone 48 = .ok (.aload_n 0, 1) := by decide +kernel
theorem dX8_addZone_49 : decode cX8_addZone 49 = .ok (.invokevirtual 55, 3) := by decide +kernel
theorem dX8_addZone_52 : decode cX8_addZone 52 = .ok (.aload_n 0, 1) := by decide +kernel
theorem dX8_addZone_53 : decode cX8_addZone 53 = .ok (.getfield 10, 3) := by decide +kernel
theorem dX8_addZone_56 : decode cX8_addZone 56 = .ok (.getfield 94, 3) := by decide +kernel
theorem dX8_addZone_59 : decode cX8_addZone 59 = .ok (.iload_n 1, 1) := by decide +kernel
theorem dX8_addZone_60 : decode cX8_addZone 60 = .ok (.iload_n 2, 1) := by decide +kernel
theorem dX8_addZone_61 : decode cX8_addZone 61 = .ok (.iload_n 3, 1) := by decide +kernel
theorem dX8_addZone_62 : decode cX8_addZone 62 = .ok (.iload 4, 2) := by decide +kernel
theorem dX8_addZone_64 : decode cX8_addZone 64 = .ok (.invokevirtual 108, 3) := by decide +kernel
theorem dX8_addZone_67 : decode cX8_addZone 67 = .ok (.aload_n 0, 1) := by decide +kernel
theorem dX8_addZone_68 : decode cX8_addZone 68 = .ok (.getfield 10, 3) := by decide +kernel
theorem dX8_addZone_71 : decode cX8_addZone 71 = .ok (.getfield 94, 3) := by decide +kernel
theorem dX8_addZone_74 : decode cX8_addZone 74 = .ok (.getfield 98, 3) := by decide +kernel
theorem dX8_addZone_77 : decode cX8_addZone 77 = .ok (.ireturn, 1) := by decide +kernel
theorem dX8_removeZone_0 : decode cX8_removeZone 0 = .ok (.iload_n 1, 1) := by decide +kernel
theorem dX8_removeZone_1 : decode cX8_removeZone 1 = .ok (.aload_n 0, 1) := by decide +kernel
theorem dX8_removeZone_2 : decode cX8_removeZone 2 = .ok (.getfield 10, 3) := by decide +kernel
theorem dX8_removeZone_5 : decode cX8_removeZone 5 = .ok (.getfield 94, 3) := by decide +kernel
theorem dX8_removeZone_8 : decode cX8_removeZone 8 = .ok (.getfield 98, 3) := by decide +kernel
theorem dX8_removeZone_11 : decode cX8_removeZone 11 = .ok (.invokestatic 47, 3) := by decide +kernel
theorem dX8_removeZone_14 : decode cX8_removeZone 14 = .ok (.aload_n 0, 1) := by decide +kernel
theorem dX8_removeZone_15 : decode cX8_removeZone 15 = .ok (.invokevirtual 55, 3) := by decide +kernel
theorem dX8_removeZone_18 : decode cX8_removeZone 18 = .ok (.aload_n 0, 1) := by decide +kernel
theorem dX8_removeZone_19 : decode cX8_removeZone 19 = .ok (.getfield 10, 3) := by decide +kernel
theorem dX8_removeZone_22 : decode cX8_removeZone 22 = .ok (.getfield 94, 3) := by decide +kernel
theorem dX8_removeZone_25 : decode cX8_removeZone 25 = .ok (.iload_n 1, 1) := by decide +kernel
theorem dX8_removeZone_26 : decode cX8_removeZone 26 = .ok (.invokevirtual 111, 3) := by decide +kernel
theorem dX8_removeZone_29 : decode cX8_removeZone 29 = .ok (.aload_n 0, 1) := by decide +kernel
theorem dX8_removeZone_30 : decode cX8_removeZone 30 = .ok (.getfield 10, 3) := by decide +kernel
theorem dX8_removeZone_33 : decode cX8_removeZone 33 = .ok (.getfield 94, 3) := by decide +kernel
theorem dX8_removeZone_36 : decode cX8_removeZone 36 = .ok (.getfield 98, 3) := by decide +kernel
theorem dX8_removeZone_39 : decode cX8_removeZone 39 = .ok (.ireturn, 1) := by decide +kernel
theorem dX8_setBoom_0 : decode cX8_setBoom 0 = .ok (.iload_n 1, 1) := by decide +kernel
theorem dX8_setBoom_1 : decode cX8_setBoom 1 = .ok (.iload_n 2, 1) := by decide +kernel
theorem dX8_setBoom_2 : decode cX8_setBoom 2 = .ok (.iload_n 3, 1) := by decide +kernel
theorem dX8_setBoom_3 : decode cX8_setBoom 3 = .ok (.invokestatic 114, 3) := by decide +kernel
theorem dX8_setBoom_6 : decode cX8_setBoom 6 = .ok (.aload_n 0, 1) := by decide +kernel
theorem dX8_setBoom_7 : decode cX8_setBoom 7 = .ok (.getfield 10, 3) := by decide +kernel
theorem dX8_setBoom_10 : decode cX8_setBoom 10 = .ok (.getfield 117, 3) := by decide +kernel
theorem dX8_setBoom_13 : decode cX8_setBoom 13 = .ok (.getfield 120, 3) := by decide +kernel
theorem dX8_setBoom_16 : decode cX8_setBoom 16 = .ok (.ifCond .ne 7, 3) := by decide +kernel
theorem dX8_setBoom_19 : decode cX8_setBoom 19 = .ok (.iconst 1, 1) := by decide +kernel
theorem dX8_setBoom_20 : decode cX8_setBoom 20 = .ok (.goto 4, 3) := by decide +kernel
theorem dX8_setBoom_23 : decode cX8_setBoom 23 = .ok (.iconst 0, 1) := by decide +kernel
theorem dX8_setBoom_24 : decode cX8_setBoom 24 = .ok (.invokestatic 104, 3) := by decide +kernel
theorem dX8_setBoom_27 : decode cX8_setBoom 27 = .ok (.aload_n 0, 1) := by decide +kernel
theorem dX8_setBoom_28 : decode cX8_setBoom 28 = .ok (.invokevirtual 55, 3) := by decide +kernel
theorem dX8_setBoom_31 : decode cX8_setBoom 31 = .ok (.aload_n 0, 1) := by decide +kernel
theorem dX8_setBoom_32 : decode cX8_setBoom 32 = .ok (.getfield 10, 3) := by decide +kernel
theorem dX8_setBoom_35 : decode cX8_setBoom 35 = .ok (.getfield 117, 3) := by decide +kernel
theorem dX8_setBoom_38 : decode cX8_setBoom 38 = .ok (.iload_n 1, 1) := by decide +kernel
theorem dX8_setBoom_39 : decode cX8_setBoom 39 = .ok (.iload_n 2, 1) := by decide +kernel
theorem dX8_setBoom_40 : decode cX8_setBoom 40 = .ok (.iload_n 3, 1) := by decide +kernel
theorem dX8_setBoom_41 : decode cX8_setBoom 41 = .ok (.invokevirtual 123, 3) := by decide +kernel
theorem dX8_setBoom_44 : decode cX8_setBoom 44 = .ok (.aload_n 0, 1) := by decide +kernel
theorem dX8_setBoom_45 : decode cX8_setBoom 45 = .ok (.getfield 10, 3) := by decide +kernel
theorem dX8_setBoom_48 : decode cX8_setBoom 48 = .ok (.getfield 94, 3) := by decide +kernel
theorem dX8_setBoom_51 : decode cX8_setBoom 51 = .ok (.aload_n 0, 1) := by decide +kernel
theorem dX8_setBoom_52 : decode cX8_setBoom 52 = .ok (.getfield 10, 3) := by decide +kernel
theorem dX8_setBoom_55 : decode cX8_setBoom 55 = .ok (.getfield 117, 3) := by decide +kernel
theorem dX8_setBoom_58 : decode cX8_setBoom 58 = .ok (.invokevirtual 126, 3) := by decide +kernel
theorem dX8_setBoom_61 : decode cX8_setBoom 61 = .ok (.ireturn, 1) := by decide +kernel
theorem dX8_wind_0 : decode cX8_wind 0 = .ok (.iload_n 1, 1) := by decide +kernel
theorem dX8_wind_1 : decode cX8_wind 1 = .ok (.iconst 0, 1) := by decide +kernel
theorem dX8_wind_2 : decode cX8_wind 2 = .ok (.sipush 1000, 3) := by decide +kernel
theorem dX8_wind_5 : decode cX8_wind 5 = .ok (.invokestatic 51, 3) := by decide +kernel
theorem dX8_wind_8 : decode cX8_wind 8 = .ok (.aload_n 0, 1) := by decide +kernel
theorem dX8_wind_9 : decode cX8_wind 9 = .ok (.invokevirtual 55, 3) := by decide +kernel
theorem dX8_wind_12 : decode cX8_wind 12 = .ok (.aload_n 0, 1) := by decide +kernel
theorem dX8_wind_13 : decode cX8_wind 13 = .ok (.getfield 10, 3) := by decide +kernel
theorem dX8_wind_16 : decode cX8_wind 16 = .ok (.getfield 58, 3) := by decide +kernel
theorem dX8_wind_19 : decode cX8_wind 19 = .ok (.iload_n 1, 1) := by decide +kernel
theorem dX8_wind_20 : decode cX8_wind 20 = .ok (.invokevirtual 130, 3) := by decide +kernel
theorem dX8_wind_23 : decode cX8_wind 23 = .ok (.aload_n 0, 1) := by decide +kernel
theorem dX8_wind_24 : decode cX8_wind 24 = .ok (.getfield 10, 3) := by decide +kernel
theorem dX8_wind_27 : decode cX8_wind 27 = .ok (.getfield 58, 3) := by decide +kernel
theorem dX8_wind_30 : decode cX8_wind 30 = .ok (.invokevirtual 133, 3) := by decide +kernel
theorem dX8_wind_33 : decode cX8_wind 33 = .ok (.ireturn, 1) := by decide +kernel
theorem dX8_attach_0 : decode cX8_attach 0 = .ok (.iload_n 1, 1) := by decide +kernel
theorem dX8_attach_1 : decode cX8_attach 1 = .ok (.iconst 0, 1) := by decide +kernel
theorem dX8_attach_2 : decode cX8_attach 2 = .ok (.ldc 73, 2) := by decide +kernel
theorem dX8_attach_4 : decode cX8_attach 4 = .ok (.invokestatic 51, 3) := by decide +kernel
theorem dX8_attach_7 : decode cX8_attach 7 = .ok (.aload_n 0, 1) := by decide +kernel
theorem dX8_attach_8 : decode cX8_attach 8 = .ok (.getfield 10, 3) := by decide +kernel
theorem dX8_attach_11 : decode cX8_attach 11 = .ok (.getfield 117, 3) := by decide +kernel
theorem dX8_attach_14 : decode cX8_attach 14 = .ok (.getfield 120, 3) := by decide +kernel
theorem dX8_attach_17 : decode cX8_attach 17 = .ok (.ifCond .ne 20, 3) := by decide +kernel
theorem dX8_attach_20 : decode cX8_attach 20 = .ok (.aload_n 0, 1) := by decide +kernel
theorem dX8_attach_21 : decode cX8_attach 21 = .ok (.getfield 10, 3) := by decide +kernel
theorem dX8_attach_24 : decode cX8_attach 24 = .ok (.getfield 117, 3) := by decide +kernel
theorem dX8_attach_27 : decode cX8_attach 27 = .ok (.getfield 137, 3) := by decide +kernel
theorem dX8_attach_30 : decode cX8_attach 30 = .ok (.ifCond .ne 7, 3) := by decide +kernel
theorem dX8_attach_33 : decode cX8_attach 33 = .ok (.iconst 1, 1) := by decide +kernel
theorem dX8_attach_34 : decode cX8_attach 34 = .ok (.goto 4, 3) := by decide +kernel
theorem dX8_attach_37 : decode cX8_attach 37 = .ok (.iconst 0, 1) := by decide +kernel
theorem dX8_attach_38 : decode cX8_attach 38 = .ok (.invokestatic 104, 3) := by decide +kernel
theorem dX8_attach_41 : decode cX8_attach 41 = .ok (.aload_n 0, 1) := by decide +kernel
theorem dX8_attach_42 : decode cX8_attach 42 = .ok (.invokevirtual 55, 3) := by decide +kernel
theorem dX8_attach_45 : decode cX8_attach 45 = .ok (.aload_n 0, 1) := by decide +kernel
theorem dX8_attach_46 : decode cX8_attach 46 = .ok (.getfield 10, 3) := by decide +kernel
theorem dX8_attach_49 : decode cX8_attach 49 = .ok (.getfield 117, 3) := by decide +kernel
theorem dX8_attach_52 : decode cX8_attach 52 = .ok (.getfield 140, 3) := by decide +kernel
theorem dX8_attach_55 : decode cX8_attach 55 = .ok (.istore_n 2, 1) := by decide +kernel
theorem dX8_attach_56 : decode cX8_attach 56 = .ok (.aload_n 0, 1) := by decide +kernel
theorem dX8_attach_57 : decode cX8_attach 57 = .ok (.getfield 10, 3) := by decide +kernel
theorem dX8_attach_60 : decode cX8_attach 60 = .ok (.getfield 117, 3) := by decide +kernel
theorem dX8_attach_63 : decode cX8_attach 63 = .ok (.iload_n 1, 1) := by decide +kernel
theorem dX8_attach_64 : decode cX8_attach 64 = .ok (.putfield 140, 3) := by decide +kernel
theorem dX8_attach_67 : decode cX8_attach 67 = .ok (.iload_n 2, 1) := by decide +kernel
theorem dX8_attach_68 : decode cX8_attach 68 = .ok (.ireturn, 1) := by decide +kernel
theorem dX8_setTare_0 : decode cX8_setTare 0 = .ok (.iload_n 1, 1) := by decide +kernel
theorem dX8_setTare_1 : decode cX8_setTare 1 = .ok (.iconst 0, 1) := by decide +kernel
theorem dX8_setTare_2 : decode cX8_setTare 2 = .ok (.sipush 2000, 3) := by decide +kernel
theorem dX8_setTare_5 : decode cX8_setTare 5 = .ok (.invokestatic 51, 3) := by decide +kernel
theorem dX8_setTare_8 : decode cX8_setTare 8 = .ok (.aload_n 0, 1) := by decide +kernel
theorem dX8_setTare_9 : decode cX8_setTare 9 = .ok (.invokevirtual 55, 3) := by decide +kernel
theorem dX8_setTare_12 : decode cX8_setTare 12 = .ok (.aload_n 0, 1) := by decide +kernel
theorem dX8_setTare_13 : decode cX8_setTare 13 = .ok (.getfield 10, 3) := by decide +kernel
theorem dX8_setTare_16 : decode cX8_setTare 16 = .ok (.getfield 117, 3) := by decide +kernel
theorem dX8_setTare_19 : decode cX8_setTare 19 = .ok (.getfield 143, 3) := by decide +kernel
theorem dX8_setTare_22 : decode cX8_setTare 22 = .ok (.istore_n 2, 1) := by decide +kernel
theorem dX8_setTare_23 : decode cX8_setTare 23 = .ok (.aload_n 0, 1) := by decide +kernel
theorem dX8_setTare_24 : decode cX8_setTare 24 = .ok (.getfield 10, 3) := by decide +kernel
theorem dX8_setTare_27 : decode cX8_setTare 27 = .ok (.getfield 117, 3) := by decide +kernel
theorem dX8_setTare_30 : decode cX8_setTare 30 = .ok (.iload_n 1, 1) := by decide +kernel
theorem dX8_setTare_31 : decode cX8_setTare 31 = .ok (.putfield 143, 3) := by decide +kernel
theorem dX8_setTare_34 : decode cX8_setTare 34 = .ok (.iload_n 2, 1) := by decide +kernel
theorem dX8_setTare_35 : decode cX8_setTare 35 = .ok (.ireturn, 1) := by decide +kernel
theorem dX8_bypass_0 : decode cX8_bypass 0 = .ok (.iload_n 1, 1) := by decide +kernel
theorem dX8_bypass_1 : decode cX8_bypass 1 = .ok (.iconst 0, 1) := by decide +kernel
theorem dX8_bypass_2 : decode cX8_bypass 2 = .ok (.sipush 1000, 3) := by decide +kernel
theorem dX8_bypass_5 : decode cX8_bypass 5 = .ok (.invokestatic 51, 3) := by decide +kernel
theorem dX8_bypass_8 : decode cX8_bypass 8 = .ok (.aload_n 0, 1) := by decide +kernel
theorem dX8_bypass_9 : decode cX8_bypass 9 = .ok (.invokevirtual 55, 3) := by decide +kernel
theorem dX8_bypass_12 : decode cX8_bypass 12 = .ok (.aload_n 0, 1) := by decide +kernel
theorem dX8_bypass_13 : decode cX8_bypass 13 = .ok (.getfield 10, 3) := by decide +kernel
theorem dX8_bypass_16 : decode cX8_bypass 16 = .ok (.getfield 146, 3) := by decide +kernel
theorem dX8_bypass_19 : decode cX8_bypass 19 = .ok (.istore_n 2, 1) := by decide +kernel
theorem dX8_bypass_20 : decode cX8_bypass 20 = .ok (.aload_n 0, 1) := by decide +kernel
theorem dX8_bypass_21 : decode cX8_bypass 21 = .ok (.getfield 10, 3) := by decide +kernel
theorem dX8_bypass_24 : decode cX8_bypass 24 = .ok (.iload_n 1, 1) := by decide +kernel
theorem dX8_bypass_25 : decode cX8_bypass 25 = .ok (.putfield 146, 3) := by decide +kernel
theorem dX8_bypass_28 : decode cX8_bypass 28 = .ok (.iload_n 2, 1) := by decide +kernel
theorem dX8_bypass_29 : decode cX8_bypass 29 = .ok (.ireturn, 1) := by decide +kernel
theorem dX8_run_0 : decode cX8_run 0 = .ok (.iload_n 1, 1) := by decide +kernel
theorem dX8_run_1 : decode cX8_run 1 = .ok (.iconst 0, 1) := by decide +kernel
theorem dX8_run_2 : decode cX8_run 2 = .ok (.sipush 255, 3) := by decide +kernel
theorem dX8_run_5 : decode cX8_run 5 = .ok (.invokestatic 51, 3) := by decide +kernel
theorem dX8_run_8 : decode cX8_run 8 = .ok (.iload_n 1, 1) := by decide +kernel
theorem dX8_run_9 : decode cX8_run 9 = .ok (.invokestatic 149, 3) := by decide +kernel
theorem dX8_run_12 : decode cX8_run 12 = .ok (.iload_n 2, 1) := by decide +kernel
theorem dX8_run_13 : decode cX8_run 13 = .ok (.iconst 1, 1) := by decide +kernel
theorem dX8_run_14 : decode cX8_run 14 = .ok (.bipush 100, 2) := by decide +kernel
theorem dX8_run_16 : decode cX8_run 16 = .ok (.invokestatic 51, 3) := by decide +kernel
theorem dX8_run_19 : decode cX8_run 19 = .ok (.aload_n 0, 1) := by decide +kernel
theorem dX8_run_20 : decode cX8_run 20 = .ok (.invokevirtual 55, 3) := by decide +kernel
theorem dX8_run_23 : decode cX8_run 23 = .ok (.iconst 0, 1) := by decide +kernel
theorem dX8_run_24 : decode cX8_run 24 = .ok (.istore_n 3, 1) := by decide +kernel
theorem dX8_run_25 : decode cX8_run 25 = .ok (.iconst 0, 1) := by decide +kernel
theorem dX8_run_26 : decode cX8_run 26 = .ok (.istore 4, 2) := by decide +kernel
theorem dX8_run_28 : decode cX8_run 28 = .ok (.iload 4, 2) := by decide +kernel
theorem dX8_run_30 : decode cX8_run 30 = .ok (.iload_n 2, 1) := by decide +kernel
theorem dX8_run_31 : decode cX8_run 31 = .ok (.if_icmp .ge 20, 3) := by decide +kernel
theorem dX8_run_34 : decode cX8_run 34 = .ok (.aload_n 0, 1) := by decide +kernel
theorem dX8_run_35 : decode cX8_run 35 = .ok (.iload_n 1, 1) := by decide +kernel
theorem dX8_run_36 : decode cX8_run 36 = .ok (.invokevirtual 152, 3) := by decide +kernel
theorem dX8_run_39 : decode cX8_run 39 = .ok (.ifCond .eq 6, 3) := by decide +kernel
theorem dX8_run_42 : decode cX8_run 42 = .ok (.iinc 3 1, 3) := by decide +kernel
theorem dX8_run_45 : decode cX8_run 45 = .ok (.iinc 4 1, 3) := by decide +kernel
theorem dX8_run_48 : decode cX8_run 48 = .ok (.goto (-20), 3) := by decide +kernel
theorem dX8_run_51 : decode cX8_run 51 = .ok (.iload_n 3, 1) := by decide +kernel
theorem dX8_run_52 : decode cX8_run 52 = .ok (.ireturn, 1) := by decide +kernel
theorem dX8_permitted_0 : decode cX8_permitted 0 = .ok (.iconst 0, 1) := by decide +kernel
theorem dX8_permitted_1 : decode cX8_permitted 1 = .ok (.istore_n 1, 1) := by decide +kernel
theorem dX8_permitted_2 : decode cX8_permitted 2 = .ok (.iconst 0, 1) := by decide +kernel
theorem dX8_permitted_3 : decode cX8_permitted 3 = .ok (.istore_n 2, 1) := by decide +kernel
theorem dX8_permitted_4 : decode cX8_permitted 4 = .ok (.iload_n 2, 1) := by decide +kernel
theorem dX8_permitted_5 : decode cX8_permitted 5 = .ok (.bipush 8, 2) := by decide +kernel
theorem dX8_permitted_7 : decode cX8_permitted 7 = .ok (.if_icmp .ge 23, 3) := by decide +kernel
theorem dX8_permitted_10 : decode cX8_permitted 10 = .ok (.aload_n 0, 1) := by decide +kernel
theorem dX8_permitted_11 : decode cX8_permitted 11 = .ok (.iload_n 2, 1) := by decide +kernel
theorem dX8_permitted_12 : decode cX8_permitted 12 = .ok (.invokevirtual 156, 3) := by decide +kernel
theorem dX8_permitted_15 : decode cX8_permitted 15 = .ok (.ifCond .eq 9, 3) := by decide +kernel
theorem dX8_permitted_18 : decode cX8_permitted 18 = .ok (.iload_n 1, 1) := by decide +kernel
theorem dX8_permitted_19 : decode cX8_permitted 19 = .ok (.iconst 1, 1) := by decide +kernel
theorem dX8_permitted_20 : decode cX8_permitted 20 = .ok (.iload_n 2, 1) := by decide +kernel
theorem dX8_permitted_21 : decode cX8_permitted 21 = .ok (.ishl, 1) := by decide +kernel
theorem dX8_permitted_22 : decode cX8_permitted 22 = .ok (.ior, 1) := by decide +kernel
theorem dX8_permitted_23 : decode cX8_permitted 23 = .ok (.istore_n 1, 1) := by decide +kernel
theorem dX8_permitted_24 : decode cX8_permitted 24 = .ok (.iinc 2 1, 3) := by decide +kernel
theorem dX8_permitted_27 : decode cX8_permitted 27 = .ok (.goto (-23), 3) := by decide +kernel
theorem dX8_permitted_30 : decode cX8_permitted 30 = .ok (.iload_n 1, 1) := by decide +kernel
theorem dX8_permitted_31 : decode cX8_permitted 31 = .ok (.ireturn, 1) := by decide +kernel
theorem dX8_predicted_0 : decode cX8_predicted 0 = .ok (.iload_n 1, 1) := by decide +kernel
theorem dX8_predicted_1 : decode cX8_predicted 1 = .ok (.iconst 0, 1) := by decide +kernel
theorem dX8_predicted_2 : decode cX8_predicted 2 = .ok (.bipush 7, 2) := by decide +kernel
theorem dX8_predicted_4 : decode cX8_predicted 4 = .ok (.invokestatic 51, 3) := by decide +kernel
theorem dX8_predicted_7 : decode cX8_predicted 7 = .ok (.aload_n 0, 1) := by decide +kernel
theorem dX8_predicted_8 : decode cX8_predicted 8 = .ok (.iload_n 1, 1) := by decide +kernel
theorem dX8_predicted_9 : decode cX8_predicted 9 = .ok (.invokevirtual 159, 3) := by decide +kernel
theorem dX8_predicted_12 : decode cX8_predicted 12 = .ok (.aload_n 0, 1) := by decide +kernel
theorem dX8_predicted_13 : decode cX8_predicted 13 = .ok (.aload_n 0, 1) := by decide +kernel
theorem dX8_predicted_14 : decode cX8_predicted 14 = .ok (.getfield 41, 3) := by decide +kernel
theorem dX8_predicted_17 : decode cX8_predicted 17 = .ok (.aload_n 0, 1) := by decide +kernel
theorem dX8_predicted_18 : decode cX8_predicted 18 = .ok (.getfield 41, 3) := by decide +kernel
theorem dX8_predicted_21 : decode cX8_predicted 21 = .ok (.getfield 162, 3) := by decide +kernel
theorem dX8_predicted_24 : decode cX8_predicted 24 = .ok (.invokevirtual 165, 3) := by decide +kernel
theorem dX8_predicted_27 : decode cX8_predicted 27 = .ok (.ireturn, 1) := by decide +kernel
theorem dX8_boom_0 : decode cX8_boom 0 = .ok (.iload_n 1, 1) := by decide +kernel
theorem dX8_boom_1 : decode cX8_boom 1 = .ok (.iconst 0, 1) := by decide +kernel
theorem dX8_boom_2 : decode cX8_boom 2 = .ok (.bipush 11, 2) := by decide +kernel
theorem dX8_boom_4 : decode cX8_boom 4 = .ok (.invokestatic 51, 3) := by decide +kernel
theorem dX8_boom_7 : decode cX8_boom 7 = .ok (.aload_n 0, 1) := by decide +kernel
theorem dX8_boom_8 : decode cX8_boom 8 = .ok (.iload_n 1, 1) := by decide +kernel
theorem dX8_boom_9 : decode cX8_boom 9 = .ok (.invokevirtual 169, 3) := by decide +kernel
theorem dX8_boom_12 : decode cX8_boom 12 = .ok (.ireturn, 1) := by decide +kernel
theorem dX8_limiter_0 : decode cX8_limiter 0 = .ok (.iload_n 1, 1) := by decide +kernel
theorem dX8_limiter_1 : decode cX8_limiter 1 = .ok (.iconst 0, 1) := by decide +kernel
theorem dX8_limiter_2 : decode cX8_limiter 2 = .ok (.bipush 7, 2) := by decide +kernel
theorem dX8_limiter_4 : decode cX8_limiter 4 = .ok (.invokestatic 51, 3) := by decide +kernel
theorem dX8_limiter_7 : decode cX8_limiter 7 = .ok (.aload_n 0, 1) := by decide +kernel
theorem dX8_limiter_8 : decode cX8_limiter 8 = .ok (.iload_n 1, 1) := by decide +kernel
theorem dX8_limiter_9 : decode cX8_limiter 9 = .ok (.invokevirtual 172, 3) := by decide +kernel
theorem dX8_limiter_12 : decode cX8_limiter 12 = .ok (.ireturn, 1) := by decide +kernel
theorem dX8_rated_0 : decode cX8_rated 0 = .ok (.iload_n 1, 1) := by decide +kernel
theorem dX8_rated_1 : decode cX8_rated 1 = .ok (.iload_n 2, 1) := by decide +kernel
theorem dX8_rated_2 : decode cX8_rated 2 = .ok (.iload_n 3, 1) := by decide +kernel
theorem dX8_rated_3 : decode cX8_rated 3 = .ok (.invokestatic 114, 3) := by decide +kernel
theorem dX8_rated_6 : decode cX8_rated 6 = .ok (.aload_n 0, 1) := by decide +kernel
theorem dX8_rated_7 : decode cX8_rated 7 = .ok (.getfield 41, 3) := by decide +kernel
theorem dX8_rated_10 : decode cX8_rated 10 = .ok (.iload_n 1, 1) := by decide +kernel
theorem dX8_rated_11 : decode cX8_rated 11 = .ok (.iload_n 2, 1) := by decide +kernel
theorem dX8_rated_12 : decode cX8_rated 12 = .ok (.iload_n 3, 1) := by decide +kernel
theorem dX8_rated_13 : decode cX8_rated 13 = .ok (.invokevirtual 123, 3) := by decide +kernel
theorem dX8_rated_16 : decode cX8_rated 16 = .ok (.aload_n 0, 1) := by decide +kernel
theorem dX8_rated_17 : decode cX8_rated 17 = .ok (.getfield 10, 3) := by decide +kernel
theorem dX8_rated_20 : decode cX8_rated 20 = .ok (.getfield 58, 3) := by decide +kernel
theorem dX8_rated_23 : decode cX8_rated 23 = .ok (.iload_n 1, 1) := by decide +kernel
theorem dX8_rated_24 : decode cX8_rated 24 = .ok (.aload_n 0, 1) := by decide +kernel
theorem dX8_rated_25 : decode cX8_rated 25 = .ok (.getfield 41, 3) := by decide +kernel
theorem dX8_rated_28 : decode cX8_rated 28 = .ok (.invokevirtual 175, 3) := by decide +kernel
theorem dX8_rated_31 : decode cX8_rated 31 = .ok (.iload_n 3, 1) := by decide +kernel
theorem dX8_rated_32 : decode cX8_rated 32 = .ok (.invokevirtual 178, 3) := by decide +kernel
theorem dX8_rated_35 : decode cX8_rated 35 = .ok (.ireturn, 1) := by decide +kernel
theorem dX8_maxRadius_0 : decode cX8_maxRadius 0 = .ok (.iload_n 1, 1) := by decide +kernel
theorem dX8_maxRadius_1 : decode cX8_maxRadius 1 = .ok (.iconst 1, 1) := by decide +kernel
theorem dX8_maxRadius_2 : decode cX8_maxRadius 2 = .ok (.ldc 73, 2) := by decide +kernel
theorem dX8_maxRadius_4 : decode cX8_maxRadius 4 = .ok (.invokestatic 51, 3) := by decide +kernel
theorem dX8_maxRadius_7 : decode cX8_maxRadius 7 = .ok (.sipush 3000, 3) := by decide +kernel
theorem dX8_maxRadius_10 : decode cX8_maxRadius 10 = .ok (.istore_n 2, 1) := by decide +kernel
theorem dX8_maxRadius_11 : decode cX8_maxRadius 11 = .ok (.iload_n 2, 1) := by decide +kernel
theorem dX8_maxRadius_12 : decode cX8_maxRadius 12 = .ok (.sipush 300, 3) := by decide +kernel
theorem dX8_maxRadius_15 : decode cX8_maxRadius 15 = .ok (.if_icmp .lt 46, 3) := by decide +kernel
theorem dX8_maxRadius_18 : decode cX8_maxRadius 18 = .ok (.aload_n 0, 1) := by decide +kernel
theorem dX8_maxRadius_19 : decode cX8_maxRadius 19 = .ok (.getfield 10, 3) := by decide +kernel
theorem dX8_maxRadius_22 : decode cX8_maxRadius 22 = .ok (.getfield 58, 3) := by decide +kernel
theorem dX8_maxRadius_25 : decode cX8_maxRadius 25 = .ok (.aload_n 0, 1) := by decide +kernel
theorem dX8_maxRadius_26 : decode cX8_maxRadius 26 = .ok (.getfield 10, 3) := by decide +kernel
theorem dX8_maxRadius_29 : decode cX8_maxRadius 29 = .ok (.getfield 117, 3) := by decide +kernel
theorem dX8_maxRadius_32 : decode cX8_maxRadius 32 = .ok (.getfield 181, 3) := by decide +kernel
theorem dX8_maxRadius_35 : decode cX8_maxRadius 35 = .ok (.iload_n 2, 1) := by decide +kernel
theorem dX8_maxRadius_36 : decode cX8_maxRadius 36 = .ok (.aload_n 0, 1) := by decide +kernel
theorem dX8_maxRadius_37 : decode cX8_maxRadius 37 = .ok (.getfield 10, 3) := by decide +kernel
theorem dX8_maxRadius_40 : decode cX8_maxRadius 40 = .ok (.getfield 117, 3) := by decide +kernel
theorem dX8_maxRadius_43 : decode cX8_maxRadius 43 = .ok (.getfield 162, 3) := by decide +kernel
theorem dX8_maxRadius_46 : decode cX8_maxRadius 46 = .ok (.invokevirtual 178, 3) := by decide +kernel
theorem dX8_maxRadius_49 : decode cX8_maxRadius 49 = .ok (.iload_n 1, 1) := by decide +kernel
theorem dX8_maxRadius_50 : decode cX8_maxRadius 50 = .ok (.if_icmp .lt 5, 3) := by decide +kernel
theorem dX8_maxRadius_53 : decode cX8_maxRadius 53 = .ok (.iload_n 2, 1) := by decide +kernel
theorem dX8_maxRadius_54 : decode cX8_maxRadius 54 = .ok (.ireturn, 1) := by decide +kernel
theorem dX8_maxRadius_55 : decode cX8_maxRadius 55 = .ok (.iinc 2 (-1), 3) := by decide +kernel
theorem dX8_maxRadius_58 : decode cX8_maxRadius 58 = .ok (.goto (-47), 3) := by decide +kernel
theorem dX8_maxRadius_61 : decode cX8_maxRadius 61 = .ok (.iconst (-1), 1) := by decide +kernel
theorem dX8_maxRadius_62 : decode cX8_maxRadius 62 = .ok (.ireturn, 1) := by decide +kernel
theorem dX8_worstSlew_0 : decode cX8_worstSlew 0 = .ok (.iload_n 1, 1) := by decide +kernel
theorem dX8_worstSlew_1 : decode cX8_worstSlew 1 = .ok (.invokestatic 90, 3) := by decide +kernel
theorem dX8_worstSlew_4 : decode cX8_worstSlew 4 = .ok (.iload_n 2, 1) := by decide +kernel
theorem dX8_worstSlew_5 : decode cX8_worstSlew 5 = .ok (.invokestatic 90, 3) := by decide +kernel
theorem dX8_worstSlew_8 : decode cX8_worstSlew 8 = .ok (.iload_n 3, 1) := by decide +kernel
theorem dX8_worstSlew_9 : decode cX8_worstSlew 9 = .ok (.iconst 0, 1) := by decide +kernel
theorem dX8_worstSlew_10 : decode cX8_worstSlew 10 = .ok (.iconst 1, 1) := by decide +kernel
theorem dX8_worstSlew_11 : decode cX8_worstSlew 11 = .ok (.invokestatic 51, 3) := by decide +kernel
theorem dX8_worstSlew_14 : decode cX8_worstSlew 14 = .ok (.aload_n 0, 1) := by decide +kernel
theorem dX8_worstSlew_15 : decode cX8_worstSlew 15 = .ok (.getfield 34, 3) := by decide +kernel
theorem dX8_worstSlew_18 : decode cX8_worstSlew 18 = .ok (.aload_n 0, 1) := by decide +kernel
theorem dX8_worstSlew_19 : decode cX8_worstSlew 19 = .ok (.getfield 10, 3) := by decide +kernel
theorem dX8_worstSlew_22 : decode cX8_worstSlew 22 = .ok (.getfield 117, 3) := by decide +kernel
theorem dX8_worstSlew_25 : decode cX8_worstSlew 25 = .ok (.invokevirtual 184, 3) := by decide +kernel
theorem dX8_worstSlew_28 : decode cX8_worstSlew 28 = .ok (.iload_n 1, 1) := by decide +kernel
theorem dX8_worstSlew_29 : decode cX8_worstSlew 29 = .ok (.iload_n 2, 1) := by decide +kernel
theorem dX8_worstSlew_30 : decode cX8_worstSlew 30 = .ok (.invokestatic 188, 3) := by decide +kernel
theorem dX8_worstSlew_33 : decode cX8_worstSlew 33 = .ok (.istore 4, 2) := by decide +kernel
theorem dX8_worstSlew_35 : decode cX8_worstSlew 35 = .ok (.iconst (-1), 1) := by decide +kernel
theorem dX8_worstSlew_36 : decode cX8_worstSlew 36 = .ok (.istore 5, 2) := by decide +kernel
theorem dX8_worstSlew_38 : decode cX8_worstSlew 38 = .ok (.iload_n 1, 1) := by decide +kernel
theorem dX8_worstSlew_39 : decode cX8_worstSlew 39 = .ok (.istore 6, 2) := by decide +kernel
theorem dX8_worstSlew_41 : decode cX8_worstSlew 41 = .ok (.iconst 0, 1) := by decide +kernel
theorem dX8_worstSlew_42 : decode cX8_worstSlew 42 = .ok (.istore 7, 2) := by decide +kernel
theorem dX8_worstSlew_44 : decode cX8_worstSlew 44 = .ok (.iload 7, 2) := by decide +kernel
theorem dX8_worstSlew_46 : decode cX8_worstSlew 46 = .ok (.iload 4, 2) := by decide +kernel
theorem dX8_worstSlew_48 : decode cX8_worstSlew 48 = .ok (.if_icmp .gt 79, 3) := by decide +kernel
theorem dX8_worstSlew_51 : decode cX8_worstSlew 51 = .ok (.iload_n 1, 1) := by decide +kernel
theorem dX8_worstSlew_52 : decode cX8_worstSlew 52 = .ok (.iload 7, 2) := by decide +kernel
theorem dX8_worstSlew_54 : decode cX8_worstSlew 54 = .ok (.iadd, 1) := by decide +kernel
theorem dX8_worstSlew_55 : decode cX8_worstSlew 55 = .ok (.sipush 3600, 3) := by decide +kernel
theorem dX8_worstSlew_58 : decode cX8_worstSlew 58 = .ok (.irem, 1) := by decide +kernel
theorem dX8_worstSlew_59 : decode cX8_worstSlew 59 = .ok (.istore 8, 2) := by decide +kernel
theorem dX8_worstSlew_61 : decode cX8_worstSlew 61 = .ok (.aload_n 0, 1) := by decide +kernel
theorem dX8_worstSlew_62 : decode cX8_worstSlew 62 = .ok (.getfield 10, 3) := by decide +kernel
theorem dX8_worstSlew_65 : decode cX8_worstSlew 65 = .ok (.getfield 58, 3) := by decide +kernel
theorem dX8_worstSlew_68 : decode cX8_worstSlew 68 = .ok (.aload_n 0, 1) := by decide +kernel
theorem dX8_worstSlew_69 : decode cX8_worstSlew 69 = .ok (.getfield 10, 3) := by decide +kernel
theorem dX8_worstSlew_72 : decode cX8_worstSlew 72 = .ok (.getfield 117, 3) := by decide +kernel
theorem dX8_worstSlew_75 : decode cX8_worstSlew 75 = .ok (.getfield 181, 3) := by decide +kernel
theorem dX8_worstSlew_78 : decode cX8_worstSlew 78 = .ok (.aload_n 0, 1) := by decide +kernel
theorem dX8_worstSlew_79 : decode cX8_worstSlew 79 = .ok (.getfield 34, 3) := by decide +kernel
theorem dX8_worstSlew_82 : decode cX8_worstSlew 82 = .ok (.getfield 191, 3) := by decide +kernel
theorem dX8_worstSlew_85 : decode cX8_worstSlew 85 = .ok (.iload 8, 2) := by decide +kernel
theorem dX8_worstSlew_87 : decode cX8_worstSlew 87 = .ok (.invokevirtual 178, 3) := by decide +kernel
theorem dX8_worstSlew_90 : decode cX8_worstSlew 90 = .ok (.istore 9, 2) := by decide +kernel
theorem dX8_worstSlew_92 : decode cX8_worstSlew 92 = .ok (.aload_n 0, 1) := by decide +kernel
theorem dX8_worstSlew_93 : decode cX8_worstSlew 93 = .ok (.getfield 34, 3) := by decide +kernel
theorem dX8_worstSlew_96 : decode cX8_worstSlew 96 = .ok (.getfield 193, 3) := by decide +kernel
theorem dX8_worstSlew_99 : decode cX8_worstSlew 99 = .ok (.iload 9, 2) := by decide +kernel
theorem dX8_worstSlew_101 : decode cX8_worstSlew 101 = .ok (.invokestatic 196, 3) := by decide +kernel
theorem dX8_worstSlew_104 : decode cX8_worstSlew 104 = .ok (.istore 10, 2) := by decide +kernel
theorem dX8_worstSlew_106 : decode cX8_worstSlew 106 = .ok (.iload 10, 2) := by decide +kernel
theorem dX8_worstSlew_108 : decode cX8_worstSlew 108 = .ok (.iload 5, 2) := by decide +kernel
theorem dX8_worstSlew_110 : decode cX8_worstSlew 110 = .ok (.if_icmp .le 11, 3) := by decide +kernel
theorem dX8_worstSlew_113 : decode cX8_worstSlew 113 = .ok (.iload 10, 2) := by decide +kernel
theorem dX8_worstSlew_115 : decode cX8_worstSlew 115 = .ok (.istore 5, 2) := by decide +kernel
theorem dX8_worstSlew_117 : decode cX8_worstSlew 117 = .ok (.iload 8, 2) := by decide +kernel
theorem dX8_worstSlew_119 : decode cX8_worstSlew 119 = .ok (.istore 6, 2) := by decide +kernel
theorem dX8_worstSlew_121 : decode cX8_worstSlew 121 = .ok (.iinc 7 50, 3) := by decide +kernel
theorem dX8_worstSlew_124 : decode cX8_worstSlew 124 = .ok (.goto (-80), 3) := by decide +kernel
theorem dX8_worstSlew_127 : decode cX8_worstSlew 127 = .ok (.iload_n 3, 1) := by decide +kernel
theorem dX8_worstSlew_128 : decode cX8_worstSlew 128 = .ok (.ifCond .ne 8, 3) := by decide +kernel
theorem dX8_worstSlew_131 : decode cX8_worstSlew 131 = .ok (.iload 5, 2) := by decide +kernel
theorem dX8_worstSlew_133 : decode cX8_worstSlew 133 = .ok (.goto 5, 3) := by decide +kernel
theorem dX8_worstSlew_136 : decode cX8_worstSlew 136 = .ok (.iload 6, 2) := by decide +kernel
theorem dX8_worstSlew_138 : decode cX8_worstSlew 138 = .ok (.ireturn, 1) := by decide +kernel
theorem dX8_events_0 : decode cX8_events 0 = .ok (.aload_n 0, 1) := by decide +kernel
theorem dX8_events_1 : decode cX8_events 1 = .ok (.getfield 10, 3) := by decide +kernel
theorem dX8_events_4 : decode cX8_events 4 = .ok (.getfield 199, 3) := by decide +kernel
theorem dX8_events_7 : decode cX8_events 7 = .ok (.getfield 203, 3) := by decide +kernel
theorem dX8_events_10 : decode cX8_events 10 = .ok (.ireturn, 1) := by decide +kernel
theorem dX8_event_0 : decode cX8_event 0 = .ok (.iload_n 1, 1) := by decide +kernel
theorem dX8_event_1 : decode cX8_event 1 = .ok (.aload_n 0, 1) := by decide +kernel
theorem dX8_event_2 : decode cX8_event 2 = .ok (.getfield 10, 3) := by decide +kernel
theorem dX8_event_5 : decode cX8_event 5 = .ok (.getfield 199, 3) := by decide +kernel
theorem dX8_event_8 : decode cX8_event 8 = .ok (.getfield 203, 3) := by decide +kernel
theorem dX8_event_11 : decode cX8_event 11 = .ok (.invokestatic 47, 3) := by decide +kernel
theorem dX8_event_14 : decode cX8_event 14 = .ok (.iload_n 2, 1) := by decide +kernel
theorem dX8_event_15 : decode cX8_event 15 = .ok (.iconst 0, 1) := by decide +kernel
theorem dX8_event_16 : decode cX8_event 16 = .ok (.iconst 2, 1) := by decide +kernel
theorem dX8_event_17 : decode cX8_event 17 = .ok (.invokestatic 51, 3) := by decide +kernel
theorem dX8_event_20 : decode cX8_event 20 = .ok (.aload_n 0, 1) := by decide +kernel
theorem dX8_event_21 : decode cX8_event 21 = .ok (.getfield 10, 3) := by decide +kernel
theorem dX8_event_24 : decode cX8_event 24 = .ok (.getfield 199, 3) := by decide +kernel
theorem dX8_event_27 : decode cX8_event 27 = .ok (.iload_n 1, 1) := by decide +kernel
theorem dX8_event_28 : decode cX8_event 28 = .ok (.iload_n 2, 1) := by decide +kernel
theorem dX8_event_29 : decode cX8_event 29 = .ok (.invokevirtual 206, 3) := by decide +kernel
theorem dX8_event_32 : decode cX8_event 32 = .ok (.ireturn, 1) := by decide +kernel
theorem dX8_stateTime_0 : decode cX8_stateTime 0 = .ok (.iload_n 1, 1) := by decide +kernel
theorem dX8_stateTime_1 : decode cX8_stateTime 1 = .ok (.iconst 0, 1) := by decide +kernel
theorem dX8_stateTime_2 : decode cX8_stateTime 2 = .ok (.iconst 3, 1) := by decide +kernel
theorem dX8_stateTime_3 : decode cX8_stateTime 3 = .ok (.invokestatic 51, 3) := by decide +kernel
theorem dX8_stateTime_6 : decode cX8_stateTime 6 = .ok (.aload_n 0, 1) := by decide +kernel
theorem dX8_stateTime_7 : decode cX8_stateTime 7 = .ok (.getfield 10, 3) := by decide +kernel
theorem dX8_stateTime_10 : decode cX8_stateTime 10 = .ok (.getfield 211, 3) := by decide +kernel
theorem dX8_stateTime_13 : decode cX8_stateTime 13 = .ok (.getfield 215, 3) := by decide +kernel
theorem dX8_stateTime_16 : decode cX8_stateTime 16 = .ok (.iload_n 1, 1) := by decide +kernel
theorem dX8_stateTime_17 : decode cX8_stateTime 17 = .ok (.iaload, 1) := by decide +kernel
theorem dX8_stateTime_18 : decode cX8_stateTime 18 = .ok (.ireturn, 1) := by decide +kernel
theorem dX8_lifts_0 : decode cX8_lifts 0 = .ok (.iload_n 1, 1) := by decide +kernel
theorem dX8_lifts_1 : decode cX8_lifts 1 = .ok (.iconst 0, 1) := by decide +kernel
theorem dX8_lifts_2 : decode cX8_lifts 2 = .ok (.bipush 7, 2) := by decide +kernel
theorem dX8_lifts_4 : decode cX8_lifts 4 = .ok (.invokestatic 51, 3) := by decide +kernel
theorem dX8_lifts_7 : decode cX8_lifts 7 = .ok (.aload_n 0, 1) := by decide +kernel
theorem dX8_lifts_8 : decode cX8_lifts 8 = .ok (.getfield 10, 3) := by decide +kernel
theorem dX8_lifts_11 : decode cX8_lifts 11 = .ok (.getfield 211, 3) := by decide +kernel
theorem dX8_lifts_14 : decode cX8_lifts 14 = .ok (.getfield 218, 3) := by decide +kernel
theorem dX8_lifts_17 : decode cX8_lifts 17 = .ok (.iload_n 1, 1) := by decide +kernel
theorem dX8_lifts_18 : decode cX8_lifts 18 = .ok (.iaload, 1) := by decide +kernel
theorem dX8_lifts_19 : decode cX8_lifts 19 = .ok (.ireturn, 1) := by decide +kernel
theorem dX8_spectrum_0 : decode cX8_spectrum 0 = .ok (.aload_n 0, 1) := by decide +kernel
theorem dX8_spectrum_1 : decode cX8_spectrum 1 = .ok (.getfield 10, 3) := by decide +kernel
theorem dX8_spectrum_4 : decode cX8_spectrum 4 = .ok (.getfield 211, 3) := by decide +kernel
theorem dX8_spectrum_7 : decode cX8_spectrum 7 = .ok (.invokevirtual 221, 3) := by decide +kernel
theorem dX8_spectrum_10 : decode cX8_spectrum 10 = .ok (.ireturn, 1) := by decide +kernel
theorem dX8_type_0 : decode cX8_type 0 = .ok (.iload_n 1, 1) := by decide +kernel
theorem dX8_type_1 : decode cX8_type 1 = .ok (.iconst 0, 1) := by decide +kernel
theorem dX8_type_2 : decode cX8_type 2 = .ok (.bipush 127, 2) := by decide +kernel
theorem dX8_type_4 : decode cX8_type 4 = .ok (.invokestatic 51, 3) := by decide +kernel
theorem dX8_type_7 : decode cX8_type 7 = .ok (.aload_n 0, 1) := by decide +kernel
theorem dX8_type_8 : decode cX8_type 8 = .ok (.getfield 224, 3) := by decide +kernel
theorem dX8_type_11 : decode cX8_type 11 = .ok (.aload_n 0, 1) := by decide +kernel
theorem dX8_type_12 : decode cX8_type 12 = .ok (.getfield 20, 3) := by decide +kernel
theorem dX8_type_15 : decode cX8_type 15 = .ok (.arraylength, 1) := by decide +kernel
theorem dX8_type_16 : decode cX8_type 16 = .ok (.if_icmp .ge 7, 3) := by decide +kernel
theorem dX8_type_19 : decode cX8_type 19 = .ok (.iconst 1, 1) := by decide +kernel
theorem dX8_type_20 : decode cX8_type 20 = .ok (.goto 4, 3) := by decide +kernel
theorem dX8_type_23 : decode cX8_type 23 = .ok (.iconst 0, 1) := by decide +kernel
theorem dX8_type_24 : decode cX8_type 24 = .ok (.invokestatic 104, 3) := by decide +kernel
theorem dX8_type_27 : decode cX8_type 27 = .ok (.aload_n 0, 1) := by decide +kernel
theorem dX8_type_28 : decode cX8_type 28 = .ok (.getfield 224, 3) := by decide +kernel
theorem dX8_type_31 : decode cX8_type 31 = .ok (.ifCond .lt 35, 3) := by decide +kernel
theorem dX8_type_34 : decode cX8_type 34 = .ok (.aload_n 0, 1) := by decide +kernel
theorem dX8_type_35 : decode cX8_type 35 = .ok (.getfield 224, 3) := by decide +kernel
theorem dX8_type_38 : decode cX8_type 38 = .ok (.aload_n 0, 1) := by decide +kernel
theorem dX8_type_39 : decode cX8_type 39 = .ok (.getfield 20, 3) := by decide +kernel
theorem dX8_type_42 : decode cX8_type 42 = .ok (.arraylength, 1) := by decide +kernel
theorem dX8_type_43 : decode cX8_type 43 = .ok (.if_icmp .ge 23, 3) := by decide +kernel
theorem dX8_type_46 : decode cX8_type 46 = .ok (.aload_n 0, 1) := by decide +kernel
theorem dX8_type_47 : decode cX8_type 47 = .ok (.getfield 20, 3) := by decide +kernel
theorem dX8_type_50 : decode cX8_type 50 = .ok (.aload_n 0, 1) := by decide +kernel
theorem dX8_type_51 : decode cX8_type 51 = .ok (.getfield 224, 3) := by decide +kernel
theorem dX8_type_54 : decode cX8_type 54 = .ok (.iload_n 1, 1) := by decide +kernel
theorem dX8_type_55 : decode cX8_type 55 = .ok (.iastore, 1) := by decide +kernel
theorem dX8_type_56 : decode cX8_type 56 = .ok (.aload_n 0, 1) := by decide +kernel
theorem dX8_type_57 : decode cX8_type 57 = .ok (.dup, 1) := by decide +kernel
theorem dX8_type_58 : decode cX8_type 58 = .ok (.getfield 224, 3) := by decide +kernel
theorem dX8_type_61 : decode cX8_type 61 = .ok (.iconst 1, 1) := by decide +kernel
theorem dX8_type_62 : decode cX8_type 62 = .ok (.iadd, 1) := by decide +kernel
theorem dX8_type_63 : decode cX8_type 63 = .ok (.putfield 224, 3) := by decide +kernel
theorem dX8_type_66 : decode cX8_type 66 = .ok (.aload_n 0, 1) := by decide +kernel
theorem dX8_type_67 : decode cX8_type 67 = .ok (.getfield 224, 3) := by decide +kernel
theorem dX8_type_70 : decode cX8_type 70 = .ok (.ireturn, 1) := by decide +kernel
theorem dX8_clearText_0 : decode cX8_clearText 0 = .ok (.aload_n 0, 1) := by decide +kernel
theorem dX8_clearText_1 : decode cX8_clearText 1 = .ok (.getfield 224, 3) := by decide +kernel
theorem dX8_clearText_4 : decode cX8_clearText 4 = .ok (.istore_n 1, 1) := by decide +kernel
theorem dX8_clearText_5 : decode cX8_clearText 5 = .ok (.aload_n 0, 1) := by decide +kernel
theorem dX8_clearText_6 : decode cX8_clearText 6 = .ok (.iconst 0, 1) := by decide +kernel
theorem dX8_clearText_7 : decode cX8_clearText 7 = .ok (.putfield 224, 3) := by decide +kernel
theorem dX8_clearText_10 : decode cX8_clearText 10 = .ok (.iload_n 1, 1) := by decide +kernel
theorem dX8_clearText_11 : decode cX8_clearText 11 = .ok (.ireturn, 1) := by decide +kernel
theorem dX8_runScript_0 : decode cX8_runScript 0 = .ok (.aload_n 0, 1) := by decide +kernel
theorem dX8_runScript_1 : decode cX8_runScript 1 = .ok (.getfield 27, 3) := by decide +kernel
theorem dX8_runScript_4 : decode cX8_runScript 4 = .ok (.aload_n 0, 1) := by decide +kernel
theorem dX8_runScript_5 : decode cX8_runScript 5 = .ok (.getfield 20, 3) := by decide +kernel
theorem dX8_runScript_8 : decode cX8_runScript 8 = .ok (.aload_n 0, 1) := by decide +kernel
theorem dX8_runScript_9 : decode cX8_runScript 9 = .ok (.getfield 224, 3) := by decide +kernel
theorem dX8_runScript_12 : decode cX8_runScript 12 = .ok (.invokevirtual 227, 3) := by decide +kernel
theorem dX8_runScript_15 : decode cX8_runScript 15 = .ok (.istore_n 1, 1) := by decide +kernel
theorem dX8_runScript_16 : decode cX8_runScript 16 = .ok (.iload_n 1, 1) := by decide +kernel
theorem dX8_runScript_17 : decode cX8_runScript 17 = .ok (.iconst (-1), 1) := by decide +kernel
theorem dX8_runScript_18 : decode cX8_runScript 18 = .ok (.if_icmp .eq 8, 3) := by decide +kernel
theorem dX8_runScript_21 : decode cX8_runScript 21 = .ok (.bipush (-10), 2) := by decide +kernel
theorem dX8_runScript_23 : decode cX8_runScript 23 = .ok (.iload_n 1, 1) := by decide +kernel
theorem dX8_runScript_24 : decode cX8_runScript 24 = .ok (.isub, 1) := by decide +kernel
theorem dX8_runScript_25 : decode cX8_runScript 25 = .ok (.ireturn, 1) := by decide +kernel
theorem dX8_runScript_26 : decode cX8_runScript 26 = .ok (.aload_n 0, 1) := by decide +kernel
theorem dX8_runScript_27 : decode cX8_runScript 27 = .ok (.invokevirtual 55, 3) := by decide +kernel
theorem dX8_runScript_30 : decode cX8_runScript 30 = .ok (.iconst 0, 1) := by decide +kernel
theorem dX8_runScript_31 : decode cX8_runScript 31 = .ok (.istore_n 2, 1) := by decide +kernel
theorem dX8_runScript_32 : decode cX8_runScript 32 = .ok (.iconst 0, 1) := by decide +kernel
theorem dX8_runScript_33 : decode cX8_runScript 33 = .ok (.istore_n 3, 1) := by decide +kernel
theorem dX8_runScript_34 : decode cX8_runScript 34 = .ok (.iload_n 3, 1) := by decide +kernel
theorem dX8_runScript_35 : decode cX8_runScript 35 = .ok (.aload_n 0, 1) := by decide +kernel
theorem dX8_runScript_36 : decode cX8_runScript 36 = .ok (.getfield 27, 3) := by decide +kernel
theorem dX8_runScript_39 : decode cX8_runScript 39 = .ok (.getfield 230, 3) := by decide +kernel
theorem dX8_runScript_42 : decode cX8_runScript 42 = .ok (.if_icmp .ge 57, 3) := by decide +kernel
theorem dX8_runScript_45 : decode cX8_runScript 45 = .ok (.aload_n 0, 1) := by decide +kernel
theorem dX8_runScript_46 : decode cX8_runScript 46 = .ok (.getfield 27, 3) := by decide +kernel
theorem dX8_runScript_49 : decode cX8_runScript 49 = .ok (.iload_n 3, 1) := by decide +kernel
theorem dX8_runScript_50 : decode cX8_runScript 50 = .ok (.invokevirtual 231, 3) := by decide +kernel
theorem dX8_runScript_53 : decode cX8_runScript 53 = .ok (.istore 4, 2) := by decide +kernel
theorem dX8_runScript_55 : decode cX8_runScript 55 = .ok (.aload_n 0, 1) := by decide +kernel
theorem dX8_runScript_56 : decode cX8_runScript 56 = .ok (.getfield 27, 3) := by decide +kernel
theorem dX8_runScript_59 : decode cX8_runScript 59 = .ok (.iload_n 3, 1) := by decide +kernel
theorem dX8_runScript_60 : decode cX8_runScript 60 = .ok (.invokevirtual 234, 3) := by decide +kernel
theorem dX8_runScript_63 : decode cX8_runScript 63 = .ok (.istore 5, 2) := by decide +kernel
theorem dX8_runScript_65 : decode cX8_runScript 65 = .ok (.iconst 0, 1) := by decide +kernel
theorem dX8_runScript_66 : decode cX8_runScript 66 = .ok (.istore 6, 2) := by decide +kernel
theorem dX8_runScript_68 : decode cX8_runScript 68 = .ok (.iload 6, 2) := by decide +kernel
theorem dX8_runScript_70 : decode cX8_runScript 70 = .ok (.iload 5, 2) := by decide +kernel
theorem dX8_runScript_72 : decode cX8_runScript 72 = .ok (.if_icmp .ge 16, 3) := by decide +kernel
theorem dX8_runScript_75 : decode cX8_runScript 75 = .ok (.aload_n 0, 1) := by decide +kernel
theorem dX8_runScript_76 : decode cX8_runScript 76 = .ok (.iload 4, 2) := by decide +kernel
theorem dX8_runScript_78 : decode cX8_runScript 78 = .ok (.invokevirtual 152, 3) := by decide +kernel
theorem dX8_runScript_81 : decode cX8_runScript 81 = .ok (.pop, 1) := by decide +kernel
theorem dX8_runScript_82 : decode cX8_runScript 82 = .ok (.iinc 6 1, 3) := by decide +kernel
theorem dX8_runScript_85 : decode cX8_runScript 85 = .ok (.goto (-17), 3) := by decide +kernel
theorem dX8_runScript_88 : decode cX8_runScript 88 = .ok (.iload_n 2, 1) := by decide +kernel
theorem dX8_runScript_89 : decode cX8_runScript 89 = .ok (.iload 5, 2) := by decide +kernel
theorem dX8_runScript_91 : decode cX8_runScript 91 = .ok (.iadd, 1) := by decide +kernel
theorem dX8_runScript_92 : decode cX8_runScript 92 = .ok (.istore_n 2, 1) := by decide +kernel
theorem dX8_runScript_93 : decode cX8_runScript 93 = .ok (.iinc 3 1, 3) := by decide +kernel
theorem dX8_runScript_96 : decode cX8_runScript 96 = .ok (.goto (-62), 3) := by decide +kernel
theorem dX8_runScript_99 : decode cX8_runScript 99 = .ok (.iload_n 2, 1) := by decide +kernel
theorem dX8_runScript_100 : decode cX8_runScript 100 = .ok (.ireturn, 1) := by decide +kernel
theorem dX8_undo_0 : decode cX8_undo 0 = .ok (.aload_n 0, 1) := by decide +kernel
theorem dX8_undo_1 : decode cX8_undo 1 = .ok (.getfield 237, 3) := by decide +kernel
theorem dX8_undo_4 : decode cX8_undo 4 = .ok (.ifCond .le 7, 3) := by decide +kernel
theorem dX8_undo_7 : decode cX8_undo 7 = .ok (.iconst 1, 1) := by decide +kernel
theorem dX8_undo_8 : decode cX8_undo 8 = .ok (.goto 4, 3) := by decide +kernel
theorem dX8_undo_11 : decode cX8_undo 11 = .ok (.iconst 0, 1) := by decide +kernel
theorem dX8_undo_12 : decode cX8_undo 12 = .ok (.invokestatic 104, 3) := by decide +kernel
theorem dX8_undo_15 : decode cX8_undo 15 = .ok (.aload_n 0, 1) := by decide +kernel
theorem dX8_undo_16 : decode cX8_undo 16 = .ok (.aload_n 0, 1) := by decide +kernel
theorem dX8_undo_17 : decode cX8_undo 17 = .ok (.getfield 240, 3) := by decide +kernel
theorem dX8_undo_20 : decode cX8_undo 20 = .ok (.iconst 1, 1) := by decide +kernel
theorem dX8_undo_21 : decode cX8_undo 21 = .ok (.isub, 1) := by decide +kernel
theorem dX8_undo_22 : decode cX8_undo 22 = .ok (.iconst 4, 1) := by decide +kernel
theorem dX8_undo_23 : decode cX8_undo 23 = .ok (.invokestatic 243, 3) := by decide +kernel
theorem dX8_undo_26 : decode cX8_undo 26 = .ok (.putfield 240, 3) := by decide +kernel
theorem dX8_undo_29 : decode cX8_undo 29 = .ok (.aload_n 0, 1) := by decide +kernel
theorem dX8_undo_30 : decode cX8_undo 30 = .ok (.dup, 1) := by decide +kernel
theorem dX8_undo_31 : decode cX8_undo 31 = .ok (.getfield 237, 3) := by decide +kernel
theorem dX8_undo_34 : decode cX8_undo 34 = .ok (.iconst 1, 1) := by decide +kernel
theorem dX8_undo_35 : decode cX8_undo 35 = .ok (.isub, 1) := by decide +kernel
theorem dX8_undo_36 : decode cX8_undo 36 = .ok (.putfield 237, 3) := by decide +kernel
theorem dX8_undo_39 : decode cX8_undo 39 = .ok (.aload_n 0, 1) := by decide +kernel
theorem dX8_undo_40 : decode cX8_undo 40 = .ok (.getfield 16, 3) := by decide +kernel
theorem dX8_undo_43 : decode cX8_undo 43 = .ok (.aload_n 0, 1) := by decide +kernel
theorem dX8_undo_44 : decode cX8_undo 44 = .ok (.getfield 240, 3) := by decide +kernel
theorem dX8_undo_47 : decode cX8_undo 47 = .ok (.aaload, 1) := by decide +kernel
theorem dX8_undo_48 : decode cX8_undo 48 = .ok (.astore_n 1, 1) := by decide +kernel
theorem dX8_undo_49 : decode cX8_undo 49 = .ok (.aload_n 1, 1) := by decide +kernel
theorem dX8_undo_50 : decode cX8_undo 50 = .ok (.ifnull 11, 3) := by decide +kernel
theorem dX8_undo_53 : decode cX8_undo 53 = .ok (.aload_n 0, 1) := by decide +kernel
theorem dX8_undo_54 : decode cX8_undo 54 = .ok (.getfield 10, 3) := by decide +kernel
theorem dX8_undo_57 : decode cX8_undo 57 = .ok (.aload_n 1, 1) := by decide +kernel
theorem dX8_undo_58 : decode cX8_undo 58 = .ok (.invokevirtual 248, 3) := by decide +kernel
theorem dX8_undo_61 : decode cX8_undo 61 = .ok (.aload_n 0, 1) := by decide +kernel
theorem dX8_undo_62 : decode cX8_undo 62 = .ok (.getfield 237, 3) := by decide +kernel
theorem dX8_undo_65 : decode cX8_undo 65 = .ok (.ireturn, 1) := by decide +kernel
theorem dX8_digest_0 : decode cX8_digest 0 = .ok (.ldc2_w 252, 3) := by decide +kernel
theorem dX8_digest_3 : decode cX8_digest 3 = .ok (.lstore_n 1, 1) := by decide +kernel
theorem dX8_digest_4 : decode cX8_digest 4 = .ok (.ldc2_w 254, 3) := by decide +kernel
theorem dX8_digest_7 : decode cX8_digest 7 = .ok (.lload_n 1, 1) := by decide +kernel
theorem dX8_digest_8 : decode cX8_digest 8 = .ok (.lmul, 1) := by decide +kernel
theorem dX8_digest_9 : decode cX8_digest 9 = .ok (.aload_n 0, 1) := by decide +kernel
theorem dX8_digest_10 : decode cX8_digest 10 = .ok (.getfield 237, 3) := by decide +kernel
theorem dX8_digest_13 : decode cX8_digest 13 = .ok (.i2l, 1) := by decide +kernel
theorem dX8_digest_14 : decode cX8_digest 14 = .ok (.ladd, 1) := by decide +kernel
theorem dX8_digest_15 : decode cX8_digest 15 = .ok (.lstore_n 1, 1) := by decide +kernel
theorem dX8_digest_16 : decode cX8_digest 16 = .ok (.ldc2_w 254, 3) := by decide +kernel
theorem dX8_digest_19 : decode cX8_digest 19 = .ok (.lload_n 1, 1) := by decide +kernel
theorem dX8_digest_20 : decode cX8_digest 20 = .ok (.lmul, 1) := by decide +kernel
theorem dX8_digest_21 : decode cX8_digest 21 = .ok (.aload_n 0, 1) := by decide +kernel
theorem dX8_digest_22 : decode cX8_digest 22 = .ok (.getfield 224, 3) := by decide +kernel
theorem dX8_digest_25 : decode cX8_digest 25 = .ok (.i2l, 1) := by decide +kernel
theorem dX8_digest_26 : decode cX8_digest 26 = .ok (.ladd, 1) := by decide +kernel
theorem dX8_digest_27 : decode cX8_digest 27 = .ok (.lstore_n 1, 1) := by decide +kernel
theorem dX8_digest_28 : decode cX8_digest 28 = .ok (.iconst 0, 1) := by decide +kernel
theorem dX8_digest_29 : decode cX8_digest 29 = .ok (.istore_n 3, 1) := by decide +kernel
theorem dX8_digest_30 : decode cX8_digest 30 = .ok (.iload_n 3, 1) := by decide +kernel
theorem dX8_digest_31 : decode cX8_digest 31 = .ok (.bipush 12, 2) := by decide +kernel
theorem dX8_digest_33 : decode cX8_digest 33 = .ok (.if_icmp .ge 22, 3) := by decide +kernel
theorem dX8_digest_36 : decode cX8_digest 36 = .ok (.ldc2_w 254, 3) := by decide +kernel
theorem dX8_digest_39 : decode cX8_digest 39 = .ok (.lload_n 1, 1) := by decide +kernel
theorem dX8_digest_40 : decode cX8_digest 40 = .ok (.lmul, 1) := by decide +kernel
theorem dX8_digest_41 : decode cX8_digest 41 = .ok (.aload_n 0, 1) := by decide +kernel
theorem dX8_digest_42 : decode cX8_digest 42 = .ok (.iload_n 3, 1) := by decide +kernel
theorem dX8_digest_43 : decode cX8_digest 43 = .ok (.invokevirtual 169, 3) := by decide +kernel
theorem dX8_digest_46 : decode cX8_digest 46 = .ok (.i2l, 1) := by decide +kernel
theorem dX8_digest_47 : decode cX8_digest 47 = .ok (.ladd, 1) := by decide +kernel
theorem dX8_digest_48 : decode cX8_digest 48 = .ok (.lstore_n 1, 1) := by decide +kernel
theorem dX8_digest_49 : decode cX8_digest 49 = .ok (.iinc 3 1, 3) := by decide +kernel
theorem dX8_digest_52 : decode cX8_digest 52 = .ok (.goto (-22), 3) := by decide +kernel
theorem dX8_digest_55 : decode cX8_digest 55 = .ok (.iconst 0, 1) := by decide +kernel
theorem dX8_digest_56 : decode cX8_digest 56 = .ok (.istore_n 3, 1) := by decide +kernel
theorem dX8_digest_57 : decode cX8_digest 57 = .ok (.iload_n 3, 1) := by decide +kernel
theorem dX8_digest_58 : decode cX8_digest 58 = .ok (.bipush 8, 2) := by decide +kernel
theorem dX8_digest_60 : decode cX8_digest 60 = .ok (.if_icmp .ge 22, 3) := by decide +kernel
theorem dX8_digest_63 : decode cX8_digest 63 = .ok (.ldc2_w 254, 3) := by decide +kernel
theorem dX8_digest_66 : decode cX8_digest 66 = .ok (.lload_n 1, 1) := by decide +kernel
theorem dX8_digest_67 : decode cX8_digest 67 = .ok (.lmul, 1) := by decide +kernel
theorem dX8_digest_68 : decode cX8_digest 68 = .ok (.aload_n 0, 1) := by decide +kernel
theorem dX8_digest_69 : decode cX8_digest 69 = .ok (.iload_n 3, 1) := by decide +kernel
theorem dX8_digest_70 : decode cX8_digest 70 = .ok (.invokevirtual 172, 3) := by decide +kernel
theorem dX8_digest_73 : decode cX8_digest 73 = .ok (.i2l, 1) := by decide +kernel
theorem dX8_digest_74 : decode cX8_digest 74 = .ok (.ladd, 1) := by decide +kernel
theorem dX8_digest_75 : decode cX8_digest 75 = .ok (.lstore_n 1, 1) := by decide +kernel
theorem dX8_digest_76 : decode cX8_digest 76 = .ok (.iinc 3 1, 3) := by decide +kernel
theorem dX8_digest_79 : decode cX8_digest 79 = .ok (.goto (-22), 3) := by decide +kernel
theorem dX8_digest_82 : decode cX8_digest 82 = .ok (.ldc2_w 254, 3) := by decide +kernel
theorem dX8_digest_85 : decode cX8_digest 85 = .ok (.lload_n 1, 1) := by decide +kernel
theorem dX8_digest_86 : decode cX8_digest 86 = .ok (.lmul, 1) := by decide +kernel
theorem dX8_digest_87 : decode cX8_digest 87 = .ok (.aload_n 0, 1) := by decide +kernel
theorem dX8_digest_88 : decode cX8_digest 88 = .ok (.invokevirtual 256, 3) := by decide +kernel
theorem dX8_digest_91 : decode cX8_digest 91 = .ok (.i2l, 1) := by decide +kernel
theorem dX8_digest_92 : decode cX8_digest 92 = .ok (.ladd, 1) := by decide +kernel
theorem dX8_digest_93 : decode cX8_digest 93 = .ok (.lstore_n 1, 1) := by decide +kernel
theorem dX8_digest_94 : decode cX8_digest 94 = .ok (.ldc2_w 254, 3) := by decide +kernel
theorem dX8_digest_97 : decode cX8_digest 97 = .ok (.lload_n 1, 1) := by decide +kernel
theorem dX8_digest_98 : decode cX8_digest 98 = .ok (.lmul, 1) := by decide +kernel
theorem dX8_digest_99 : decode cX8_digest 99 = .ok (.aload_n 0, 1) := by decide +kernel
theorem dX8_digest_100 : decode cX8_digest 100 = .ok (.getfield 10, 3) := by decide +kernel
theorem dX8_digest_103 : decode cX8_digest 103 = .ok (.getfield 117, 3) := by decide +kernel
theorem dX8_digest_106 : decode cX8_digest 106 = .ok (.getfield 143, 3) := by decide +kernel
theorem dX8_digest_109 : decode cX8_digest 109 = .ok (.i2l, 1) := by decide +kernel
theorem dX8_digest_110 : decode cX8_digest 110 = .ok (.ladd, 1) := by decide +kernel
theorem dX8_digest_111 : decode cX8_digest 111 = .ok (.lstore_n 1, 1) := by decide +kernel
theorem dX8_digest_112 : decode cX8_digest 112 = .ok (.aload_n 0, 1) := by decide +kernel
theorem dX8_digest_113 : decode cX8_digest 113 = .ok (.getfield 10, 3) := by decide +kernel
theorem dX8_digest_116 : decode cX8_digest 116 = .ok (.getfield 58, 3) := by decide +kernel
theorem dX8_digest_119 : decode cX8_digest 119 = .ok (.lload_n 1, 1) := by decide +kernel
theorem dX8_digest_120 : decode cX8_digest 120 = .ok (.invokevirtual 259, 3) := by decide +kernel
theorem dX8_digest_123 : decode cX8_digest 123 = .ok (.lstore_n 1, 1) := by decide +kernel
theorem dX8_digest_124 : decode cX8_digest 124 = .ok (.aload_n 0, 1) := by decide +kernel
theorem dX8_digest_125 : decode cX8_digest 125 = .ok (.getfield 10, 3) := by decide +kernel
theorem dX8_digest_128 : decode cX8_digest 128 = .ok (.getfield 94, 3) := by decide +kernel
theorem dX8_digest_131 : decode cX8_digest 131 = .ok (.lload_n 1, 1) := by decide +kernel
theorem dX8_digest_132 : decode cX8_digest 132 = .ok (.invokevirtual 263, 3) := by decide +kernel
theorem dX8_digest_135 : decode cX8_digest 135 = .ok (.lstore_n 1, 1) := by decide +kernel
theorem dX8_digest_136 : decode cX8_digest 136 = .ok (.aload_n 0, 1) := by decide +kernel
theorem dX8_digest_137 : decode cX8_digest 137 = .ok (.getfield 10, 3) := by decide +kernel
theorem dX8_digest_140 : decode cX8_digest 140 = .ok (.getfield 199, 3) := by decide +kernel
theorem dX8_digest_143 : decode cX8_digest 143 = .ok (.lload_n 1, 1) := by decide +kernel
theorem dX8_digest_144 : decode cX8_digest 144 = .ok (.invokevirtual 264, 3) := by decide +kernel
theorem dX8_digest_147 : decode cX8_digest 147 = .ok (.lstore_n 1, 1) := by decide +kernel
theorem dX8_digest_148 : decode cX8_digest 148 = .ok (.aload_n 0, 1) := by decide +kernel
theorem dX8_digest_149 : decode cX8_digest 149 = .ok (.getfield 10, 3) := by decide +kernel
theorem dX8_digest_152 : decode cX8_digest 152 = .ok (.getfield 211, 3) := by decide +kernel
theorem dX8_digest_155 : decode cX8_digest 155 = .ok (.lload_n 1, 1) := by decide +kernel
theorem dX8_digest_156 : decode cX8_digest 156 = .ok (.invokevirtual 265, 3) := by decide +kernel
theorem dX8_digest_159 : decode cX8_digest 159 = .ok (.lreturn, 1) := by decide +kernel
theorem dX8_requireIndex_0 : decode cX8_requireIndex 0 = .ok (.iload_n 0, 1) := by decide +kernel
theorem dX8_requireIndex_1 : decode cX8_requireIndex 1 = .ok (.ifCond .lt 8, 3) := by decide +kernel
theorem dX8_requireIndex_4 : decode cX8_requireIndex 4 = .ok (.iload_n 0, 1) := by decide +kernel
theorem dX8_requireIndex_5 : decode cX8_requireIndex 5 = .ok (.iload_n 1, 1) := by decide +kernel
theorem dX8_requireIndex_6 : decode cX8_requireIndex 6 = .ok (.if_icmp .lt 14, 3) := by decide +kernel
theorem dX8_requireIndex_9 : decode cX8_requireIndex 9 = .ok (.new 266, 3) := by decide +kernel
theorem dX8_requireIndex_12 : decode cX8_requireIndex 12 = .ok (.dup, 1) := by decide +kernel
theorem dX8_requireIndex_13 : decode cX8_requireIndex 13 = .ok (.ldc_w 268, 3) := by decide +kernel
theorem dX8_requireIndex_16 : decode cX8_requireIndex 16 = .ok (.invokespecial 270, 3) := by decide +kernel
theorem dX8_requireIndex_19 : decode cX8_requireIndex 19 = .ok (.athrow, 1) := by decide +kernel
theorem dX8_requireIndex_20 : decode cX8_requireIndex 20 = .ok (.return_, 1) := by decide +kernel
theorem dX8_requirePlace_0 : decode cX8_requirePlace 0 = .ok (.iload_n 0, 1) := by decide +kernel
theorem dX8_requirePlace_1 : decode cX8_requirePlace 1 = .ok (.iconst 4, 1) := by decide +kernel
theorem dX8_requirePlace_2 : decode cX8_requirePlace 2 = .ok (.invokestatic 47, 3) := by decide +kernel
theorem dX8_requirePlace_5 : decode cX8_requirePlace 5 = .ok (.iload_n 1, 1) := by decide +kernel
theorem dX8_requirePlace_6 : decode cX8_requirePlace 6 = .ok (.iconst 4, 1) := by decide +kernel
theorem dX8_requirePlace_7 : decode cX8_requirePlace 7 = .ok (.invokestatic 47, 3) := by decide +kernel
theorem dX8_requirePlace_10 : decode cX8_requirePlace 10 = .ok (.iload_n 2, 1) := by decide +kernel
theorem dX8_requirePlace_11 : decode cX8_requirePlace 11 = .ok (.bipush 6, 2) := by decide +kernel
theorem dX8_requirePlace_13 : decode cX8_requirePlace 13 = .ok (.invokestatic 47, 3) := by decide +kernel
theorem dX8_requirePlace_16 : decode cX8_requirePlace 16 = .ok (.return_, 1) := by decide +kernel
theorem dX8_requireArgument_0 : decode cX8_requireArgument 0 = .ok (.iload_n 0, 1) := by decide +kernel
theorem dX8_requireArgument_1 : decode cX8_requireArgument 1 = .ok (.iload_n 1, 1) := by decide +kernel
theorem dX8_requireArgument_2 : decode cX8_requireArgument 2 = .ok (.if_icmp .lt 8, 3) := by decide +kernel
theorem dX8_requireArgument_5 : decode cX8_requireArgument 5 = .ok (.iload_n 0, 1) := by decide +kernel
theorem dX8_requireArgument_6 : decode cX8_requireArgument 6 = .ok (.iload_n 2, 1) := by decide +kernel
theorem dX8_requireArgument_7 : decode cX8_requireArgument 7 = .ok (.if_icmp .le 14, 3) := by decide +kernel
theorem dX8_requireArgument_10 : decode cX8_requireArgument 10 = .ok (.new 273, 3) := by decide +kernel
theorem dX8_requireArgument_13 : decode cX8_requireArgument 13 = .ok (.dup, 1) := by decide +kernel
theorem dX8_requireArgument_14 : decode cX8_requireArgument 14 = .ok (.ldc_w 275, 3) := by decide +kernel
theorem dX8_requireArgument_17 : decode cX8_requireArgument 17 = .ok (.invokespecial 277, 3) := by decide +kernel
theorem dX8_requireArgument_20 : decode cX8_requireArgument 20 = .ok (.athrow, 1) := by decide +kernel
theorem dX8_requireArgument_21 : decode cX8_requireArgument 21 = .ok (.return_, 1) := by decide +kernel
theorem dX8_requireSlew_0 : decode cX8_requireSlew 0 = .ok (.iload_n 0, 1) := by decide +kernel
theorem dX8_requireSlew_1 : decode cX8_requireSlew 1 = .ok (.iconst 0, 1) := by decide +kernel
theorem dX8_requireSlew_2 : decode cX8_requireSlew 2 = .ok (.sipush 3599, 3) := by decide +kernel
theorem dX8_requireSlew_5 : decode cX8_requireSlew 5 = .ok (.invokestatic 51, 3) := by decide +kernel
theorem dX8_requireSlew_8 : decode cX8_requireSlew 8 = .ok (.return_, 1) := by decide +kernel
theorem dX8_requirePosition_0 : decode cX8_requirePosition 0 = .ok (.iload_n 0, 1) := by decide +kernel
theorem dX8_requirePosition_1 : decode cX8_requirePosition 1 = .ok (.sipush 1000, 3) := by decide +kernel
theorem dX8_requirePosition_4 : decode cX8_requirePosition 4 = .ok (.sipush 6000, 3) := by decide +kernel
theorem dX8_requirePosition_7 : decode cX8_requirePosition 7 = .ok (.invokestatic 51, 3) := by decide +kernel
theorem dX8_requirePosition_10 : decode cX8_requirePosition 10 = .ok (.iload_n 1, 1) := by decide +kernel
theorem dX8_requirePosition_11 : decode cX8_requirePosition 11 = .ok (.iconst 0, 1) := by decide +kernel
theorem dX8_requirePosition_12 : decode cX8_requirePosition 12 = .ok (.sipush 850, 3) := by decide +kernel
theorem dX8_requirePosition_15 : decode cX8_requirePosition 15 = .ok (.invokestatic 51, 3) := by decide +kernel
theorem dX8_requirePosition_18 : decode cX8_requirePosition 18 = .ok (.iload_n 2, 1) := by decide +kernel
theorem dX8_requirePosition_19 : decode cX8_requirePosition 19 = .ok (.invokestatic 90, 3) := by decide +kernel
theorem dX8_requirePosition_22 : decode cX8_requirePosition 22 = .ok (.return_, 1) := by decide +kernel
theorem dX8_requireNoOpposites_0 : decode cX8_requireNoOpposites 0 = .ok (.iconst 0, 1) := by decide +kernel
theorem dX8_requireNoOpposites_1 : decode cX8_requireNoOpposites 1 = .ok (.istore_n 1, 1) := by decide +kernel
theorem dX8_requireNoOpposites_2 : decode cX8_requireNoOpposites 2 = .ok (.iload_n 1, 1) := by decide +kernel
theorem dX8_requireNoOpposites_3 : decode cX8_requireNoOpposites 3 = .ok (.bipush 8, 2) := by decide +kernel
theorem dX8_requireNoOpposites_5 : decode cX8_requireNoOpposites 5 = .ok (.if_icmp .ge 31, 3) := by decide +kernel
theorem dX8_requireNoOpposites_8 : decode cX8_requireNoOpposites 8 = .ok (.iconst 3, 1) := by decide +kernel
theorem dX8_requireNoOpposites_9 : decode cX8_requireNoOpposites 9 = .ok (.iload_n 1, 1) := by decide +kernel
theorem dX8_requireNoOpposites_10 : decode cX8_requireNoOpposites 10 = .ok (.ishl, 1) := by decide +kernel
theorem dX8_requireNoOpposites_11 : decode cX8_requireNoOpposites 11 = .ok (.istore_n 2, 1) := by decide +kernel
theorem dX8_requireNoOpposites_12 : decode cX8_requireNoOpposites 12 = .ok (.iload_n 0, 1) := by decide +kernel
theorem dX8_requireNoOpposites_13 : decode cX8_requireNoOpposites 13 = .ok (.iload_n 2, 1) := by decide +kernel
theorem dX8_requireNoOpposites_14 : decode cX8_requireNoOpposites 14 = .ok (.iand, 1) := by decide +kernel
theorem dX8_requireNoOpposites_15 : decode cX8_requireNoOpposites 15 = .ok (.iload_n 2, 1) := by decide +kernel
theorem dX8_requireNoOpposites_16 : decode cX8_requireNoOpposites 16 = .ok (.if_icmp .ne 14, 3) := by decide +kernel
theorem dX8_requireNoOpposites_19 : decode cX8_requireNoOpposites 19 = .ok (.new 273, 3) := by decide +kernel
theorem dX8_requireNoOpposites_22 : decode cX8_requireNoOpposites 22 = .ok (.dup, 1) := by decide +kernel
theorem dX8_requireNoOpposites_23 : decode cX8_requireNoOpposites 23 = .ok (.ldc_w 278, 3) := by decide +kernel
theorem dX8_requireNoOpposites_26 : decode cX8_requireNoOpposites 26 = .ok (.invokespecial 277, 3) := by decide +kernel
theorem dX8_requireNoOpposites_29 : decode cX8_requireNoOpposites 29 = .ok (.athrow, 1) := by decide +kernel
theorem dX8_requireNoOpposites_30 : decode cX8_requireNoOpposites 30 = .ok (.iinc 1 2, 3) := by decide +kernel
theorem dX8_requireNoOpposites_33 : decode cX8_requireNoOpposites 33 = .ok (.goto (-31), 3) := by decide +kernel
theorem dX8_requireNoOpposites_36 : decode cX8_requireNoOpposites 36 = .ok (.return_, 1) := by decide +kernel
theorem dX8_requireState_0 : decode cX8_requireState 0 = .ok (.iload_n 0, 1) := by decide +kernel
theorem dX8_requireState_1 : decode cX8_requireState 1 = .ok (.ifCond .ne 14, 3) := by decide +kernel
theorem dX8_requireState_4 : decode cX8_requireState 4 = .ok (.new 280, 3) := by decide +kernel
theorem dX8_requireState_7 : decode cX8_requireState 7 = .ok (.dup, 1) := by decide +kernel
theorem dX8_requireState_8 : decode cX8_requireState 8 = .ok (.ldc_w 282, 3) := by decide +kernel
theorem dX8_requireState_11 : decode cX8_requireState 11 = .ok (.invokespecial 284, 3) := by decide +kernel
theorem dX8_requireState_14 : decode cX8_requireState 14 = .ok (.athrow, 1) := by decide +kernel
theorem dX8_requireState_15 : decode cX8_requireState 15 = .ok (.return_, 1) := by decide +kernel
theorem dX8_boomValue_0 : decode cX8_boomValue 0 = .ok (.iload_n 1, 1) := by decide +kernel
theorem dX8_boomValue_1 : decode cX8_boomValue 1 = .ok (.tableswitch 195 0 10 #[59, 70, 81, 92, 103, 114, 125, 136, 147, 169, 187], 59) := by decide +kernel
theorem dX8_boomValue_60 : decode cX8_boomValue 60 = .ok (.aload_n 0, 1) := by decide +kernel
theorem dX8_boomValue_61 : decode cX8_boomValue 61 = .ok (.getfield 10, 3) := by decide +kernel
theorem dX8_boomValue_64 : decode cX8_boomValue 64 = .ok (.getfield 117, 3) := by decide +kernel
theorem dX8_boomValue_67 : decode cX8_boomValue 67 = .ok (.getfield 181, 3) := by decide +kernel
theorem dX8_boomValue_70 : decode cX8_boomValue 70 = .ok (.ireturn, 1) := by decide +kernel
theorem dX8_boomValue_71 : decode cX8_boomValue 71 = .ok (.aload_n 0, 1) := by decide +kernel
theorem dX8_boomValue_72 : decode cX8_boomValue 72 = .ok (.getfield 10, 3) := by decide +kernel
theorem dX8_boomValue_75 : decode cX8_boomValue 75 = .ok (.getfield 117, 3) := by decide +kernel
theorem dX8_boomValue_78 : decode cX8_boomValue 78 = .ok (.getfield 285, 3) := by decide +kernel
theorem dX8_boomValue_81 : decode cX8_boomValue 81 = .ok (.ireturn, 1) := by decide +kernel
theorem dX8_boomValue_82 : decode cX8_boomValue 82 = .ok (.aload_n 0, 1) := by decide +kernel
theorem dX8_boomValue_83 : decode cX8_boomValue 83 = .ok (.getfield 10, 3) := by decide +kernel
theorem dX8_boomValue_86 : decode cX8_boomValue 86 = .ok (.getfield 117, 3) := by decide +kernel
theorem dX8_boomValue_89 : decode cX8_boomValue 89 = .ok (.getfield 162, 3) := by decide +kernel
theorem dX8_boomValue_92 : decode cX8_boomValue 92 = .ok (.ireturn, 1) := by decide +kernel
theorem dX8_boomValue_93 : decode cX8_boomValue 93 = .ok (.aload_n 0, 1) := by decide +kernel
theorem dX8_boomValue_94 : decode cX8_boomValue 94 = .ok (.getfield 10, 3) := by decide +kernel
theorem dX8_boomValue_97 : decode cX8_boomValue 97 = .ok (.getfield 117, 3) := by decide +kernel
theorem dX8_boomValue_100 : decode cX8_boomValue 100 = .ok (.invokevirtual 175, 3) := by decide +kernel
theorem dX8_boomValue_103 : decode cX8_boomValue 103 = .ok (.ireturn, 1) := by decide +kernel
theorem dX8_boomValue_104 : decode cX8_boomValue 104 = .ok (.aload_n 0, 1) := by decide +kernel
theorem dX8_boomValue_105 : decode cX8_boomValue 105 = .ok (.getfield 10, 3) := by decide +kernel
theorem dX8_boomValue_108 : decode cX8_boomValue 108 = .ok (.getfield 117, 3) := by decide +kernel
theorem dX8_boomValue_111 : decode cX8_boomValue 111 = .ok (.invokevirtual 288, 3) := by decide +kernel
theorem dX8_boomValue_114 : decode cX8_boomValue 114 = .ok (.ireturn, 1) := by decide +kernel
theorem dX8_boomValue_115 : decode cX8_boomValue 115 = .ok (.aload_n 0, 1) := by decide +kernel
theorem dX8_boomValue_116 : decode cX8_boomValue 116 = .ok (.getfield 10, 3) := by decide +kernel
theorem dX8_boomValue_119 : decode cX8_boomValue 119 = .ok (.getfield 117, 3) := by decide +kernel
theorem dX8_boomValue_122 : decode cX8_boomValue 122 = .ok (.getfield 137, 3) := by decide +kernel
theorem dX8_boomValue_125 : decode cX8_boomValue 125 = .ok (.ireturn, 1) := by decide +kernel
theorem dX8_boomValue_126 : decode cX8_boomValue 126 = .ok (.aload_n 0, 1) := by decide +kernel
theorem dX8_boomValue_127 : decode cX8_boomValue 127 = .ok (.getfield 10, 3) := by decide +kernel
theorem dX8_boomValue_130 : decode cX8_boomValue 130 = .ok (.getfield 117, 3) := by decide +kernel
theorem dX8_boomValue_133 : decode cX8_boomValue 133 = .ok (.getfield 120, 3) := by decide +kernel
theorem dX8_boomValue_136 : decode cX8_boomValue 136 = .ok (.ireturn, 1) := by decide +kernel
theorem dX8_boomValue_137 : decode cX8_boomValue 137 = .ok (.aload_n 0, 1) := by decide +kernel
theorem dX8_boomValue_138 : decode cX8_boomValue 138 = .ok (.getfield 10, 3) := by decide +kernel
theorem dX8_boomValue_141 : decode cX8_boomValue 141 = .ok (.getfield 117, 3) := by decide +kernel
theorem dX8_boomValue_144 : decode cX8_boomValue 144 = .ok (.getfield 140, 3) := by decide +kernel
theorem dX8_boomValue_147 : decode cX8_boomValue 147 = .ok (.ireturn, 1) := by decide +kernel
theorem dX8_boomValue_148 : decode cX8_boomValue 148 = .ok (.aload_n 0, 1) := by decide +kernel
theorem dX8_boomValue_149 : decode cX8_boomValue 149 = .ok (.getfield 34, 3) := by decide +kernel
theorem dX8_boomValue_152 : decode cX8_boomValue 152 = .ok (.aload_n 0, 1) := by decide +kernel
theorem dX8_boomValue_153 : decode cX8_boomValue 153 = .ok (.getfield 10, 3) := by decide +kernel
theorem dX8_boomValue_156 : decode cX8_boomValue 156 = .ok (.getfield 117, 3) := by decide +kernel
theorem dX8_boomValue_159 : decode cX8_boomValue 159 = .ok (.invokevirtual 184, 3) := by decide +kernel
theorem dX8_boomValue_162 : decode cX8_boomValue 162 = .ok (.aload_n 0, 1) := by decide +kernel
theorem dX8_boomValue_163 : decode cX8_boomValue 163 = .ok (.getfield 34, 3) := by decide +kernel
theorem dX8_boomValue_166 : decode cX8_boomValue 166 = .ok (.getfield 291, 3) := by decide +kernel
theorem dX8_boomValue_169 : decode cX8_boomValue 169 = .ok (.ireturn, 1) := by decide +kernel
theorem dX8_boomValue_170 : decode cX8_boomValue 170 = .ok (.aload_n 0, 1) := by decide +kernel
theorem dX8_boomValue_171 : decode cX8_boomValue 171 = .ok (.getfield 10, 3) := by decide +kernel
theorem dX8_boomValue_174 : decode cX8_boomValue 174 = .ok (.getfield 94, 3) := by decide +kernel
theorem dX8_boomValue_177 : decode cX8_boomValue 177 = .ok (.aload_n 0, 1) := by decide +kernel
theorem dX8_boomValue_178 : decode cX8_boomValue 178 = .ok (.getfield 10, 3) := by decide +kernel
theorem dX8_boomValue_181 : decode cX8_boomValue 181 = .ok (.getfield 117, 3) := by decide +kernel
theorem dX8_boomValue_184 : decode cX8_boomValue 184 = .ok (.invokevirtual 126, 3) := by decide +kernel
theorem dX8_boomValue_187 : decode cX8_boomValue 187 = .ok (.ireturn, 1) := by decide +kernel
theorem dX8_boomValue_188 : decode cX8_boomValue 188 = .ok (.aload_n 0, 1) := by decide +kernel
theorem dX8_boomValue_189 : decode cX8_boomValue 189 = .ok (.getfield 10, 3) := by decide +kernel
theorem dX8_boomValue_192 : decode cX8_boomValue 192 = .ok (.getfield 294, 3) := by decide +kernel
theorem dX8_boomValue_195 : decode cX8_boomValue 195 = .ok (.ireturn, 1) := by decide +kernel
theorem dX8_boomValue_196 : decode cX8_boomValue 196 = .ok (.aload_n 0, 1) := by decide +kernel
theorem dX8_boomValue_197 : decode cX8_boomValue 197 = .ok (.getfield 10, 3) := by decide +kernel
theorem dX8_boomValue_200 : decode cX8_boomValue 200 = .ok (.getfield 146, 3) := by decide +kernel
theorem dX8_boomValue_203 : decode cX8_boomValue 203 = .ok (.ireturn, 1) := by decide +kernel
theorem dX8_limiterValue_0 : decode cX8_limiterValue 0 = .ok (.aload_n 0, 1) := by decide +kernel
theorem dX8_limiterValue_1 : decode cX8_limiterValue 1 = .ok (.getfield 10, 3) := by decide +kernel
theorem dX8_limiterValue_4 : decode cX8_limiterValue 4 = .ok (.getfield 117, 3) := by decide +kernel
theorem dX8_limiterValue_7 : decode cX8_limiterValue 7 = .ok (.astore_n 2, 1) := by decide +kernel
theorem dX8_limiterValue_8 : decode cX8_limiterValue 8 = .ok (.aload_n 0, 1) := by decide +kernel
theorem dX8_limiterValue_9 : decode cX8_limiterValue 9 = .ok (.getfield 34, 3) := by decide +kernel
theorem dX8_limiterValue_12 : decode cX8_limiterValue 12 = .ok (.aload_n 2, 1) := by decide +kernel
theorem dX8_limiterValue_13 : decode cX8_limiterValue 13 = .ok (.invokevirtual 184, 3) := by decide +kernel
theorem dX8_limiterValue_16 : decode cX8_limiterValue 16 = .ok (.iload_n 1, 1) := by decide +kernel
theorem dX8_limiterValue_17 : decode cX8_limiterValue 17 = .ok (.tableswitch 129 0 6 #[43, 51, 59, 67, 82, 93, 119], 43) := by decide +kernel
theorem dX8_limiterValue_60 : decode cX8_limiterValue 60 = .ok (.aload_n 0, 1) := by decide +kernel
theorem dX8_limiterValue_61 : decode cX8_limiterValue 61 = .ok (.getfield 34, 3) := by decide +kernel
theorem dX8_limiterValue_64 : decode cX8_limiterValue 64 = .ok (.getfield 297, 3) := by decide +kernel
theorem dX8_limiterValue_67 : decode cX8_limiterValue 67 = .ok (.ireturn, 1) := by decide +kernel
theorem dX8_limiterValue_68 : decode cX8_limiterValue 68 = .ok (.aload_n 0, 1) := by decide +kernel
theorem dX8_limiterValue_69 : decode cX8_limiterValue 69 = .ok (.getfield 34, 3) := by decide +kernel
theorem dX8_limiterValue_72 : decode cX8_limiterValue 72 = .ok (.getfield 191, 3) := by decide +kernel
theorem dX8_limiterValue_75 : decode cX8_limiterValue 75 = .ok (.ireturn, 1) := by decide +kernel
theorem dX8_limiterValue_76 : decode cX8_limiterValue 76 = .ok (.aload_n 0, 1) := by decide +kernel
theorem dX8_limiterValue_77 : decode cX8_limiterValue 77 = .ok (.getfield 34, 3) := by decide +kernel
theorem dX8_limiterValue_80 : decode cX8_limiterValue 80 = .ok (.getfield 193, 3) := by decide +kernel
theorem dX8_limiterValue_83 : decode cX8_limiterValue 83 = .ok (.ireturn, 1) := by decide +kernel
theorem dX8_limiterValue_84 : decode cX8_limiterValue 84 = .ok (.aload_n 0, 1) := by decide +kernel
theorem dX8_limiterValue_85 : decode cX8_limiterValue 85 = .ok (.getfield 10, 3) := by decide +kernel
theorem dX8_limiterValue_88 : decode cX8_limiterValue 88 = .ok (.getfield 58, 3) := by decide +kernel
theorem dX8_limiterValue_91 : decode cX8_limiterValue 91 = .ok (.aload_n 2, 1) := by decide +kernel
theorem dX8_limiterValue_92 : decode cX8_limiterValue 92 = .ok (.getfield 162, 3) := by decide +kernel
theorem dX8_limiterValue_95 : decode cX8_limiterValue 95 = .ok (.invokevirtual 298, 3) := by decide +kernel
theorem dX8_limiterValue_98 : decode cX8_limiterValue 98 = .ok (.ireturn, 1) := by decide +kernel
theorem dX8_limiterValue_99 : decode cX8_limiterValue 99 = .ok (.aload_n 0, 1) := by decide +kernel
theorem dX8_limiterValue_100 : decode cX8_limiterValue 100 = .ok (.getfield 10, 3) := by decide +kernel
theorem dX8_limiterValue_103 : decode cX8_limiterValue 103 = .ok (.getfield 58, 3) := by decide +kernel
theorem dX8_limiterValue_106 : decode cX8_limiterValue 106 = .ok (.invokevirtual 133, 3) := by decide +kernel
theorem dX8_limiterValue_109 : decode cX8_limiterValue 109 = .ok (.ireturn, 1) := by decide +kernel
theorem dX8_limiterValue_110 : decode cX8_limiterValue 110 = .ok (.aload_n 0, 1) := by decide +kernel
theorem dX8_limiterValue_111 : decode cX8_limiterValue 111 = .ok (.getfield 10, 3) := by decide +kernel
theorem dX8_limiterValue_114 : decode cX8_limiterValue 114 = .ok (.getfield 58, 3) := by decide +kernel
theorem dX8_limiterValue_117 : decode cX8_limiterValue 117 = .ok (.aload_n 2, 1) := by decide +kernel
theorem dX8_limiterValue_118 : decode cX8_limiterValue 118 = .ok (.getfield 181, 3) := by decide +kernel
theorem dX8_limiterValue_121 : decode cX8_limiterValue 121 = .ok (.aload_n 0, 1) := by decide +kernel
theorem dX8_limiterValue_122 : decode cX8_limiterValue 122 = .ok (.getfield 34, 3) := by decide +kernel
theorem dX8_limiterValue_125 : decode cX8_limiterValue 125 = .ok (.getfield 191, 3) := by decide +kernel
theorem dX8_limiterValue_128 : decode cX8_limiterValue 128 = .ok (.aload_n 2, 1) := by decide +kernel
theorem dX8_limiterValue_129 : decode cX8_limiterValue 129 = .ok (.getfield 162, 3) := by decide +kernel
theorem dX8_limiterValue_132 : decode cX8_limiterValue 132 = .ok (.invokevirtual 178, 3) := by decide +kernel
theorem dX8_limiterValue_135 : decode cX8_limiterValue 135 = .ok (.ireturn, 1) := by decide +kernel
theorem dX8_limiterValue_136 : decode cX8_limiterValue 136 = .ok (.aload_n 0, 1) := by decide +kernel
theorem dX8_limiterValue_137 : decode cX8_limiterValue 137 = .ok (.aload_n 2, 1) := by decide +kernel
theorem dX8_limiterValue_138 : decode cX8_limiterValue 138 = .ok (.aload_n 2, 1) := by decide +kernel
theorem dX8_limiterValue_139 : decode cX8_limiterValue 139 = .ok (.getfield 162, 3) := by decide +kernel
theorem dX8_limiterValue_142 : decode cX8_limiterValue 142 = .ok (.invokevirtual 165, 3) := by decide +kernel
theorem dX8_limiterValue_145 : decode cX8_limiterValue 145 = .ok (.ireturn, 1) := by decide +kernel
theorem dX8_limiterValue_146 : decode cX8_limiterValue 146 = .ok (.aload_n 0, 1) := by decide +kernel
theorem dX8_limiterValue_147 : decode cX8_limiterValue 147 = .ok (.getfield 10, 3) := by decide +kernel
theorem dX8_limiterValue_150 : decode cX8_limiterValue 150 = .ok (.getfield 301, 3) := by decide +kernel
theorem dX8_limiterValue_153 : decode cX8_limiterValue 153 = .ok (.ireturn, 1) := by decide +kernel
theorem dX8_utilizationAt_0 : decode cX8_utilizationAt 0 = .ok (.aload_n 0, 1) := by decide +kernel
theorem dX8_utilizationAt_1 : decode cX8_utilizationAt 1 = .ok (.getfield 34, 3) := by decide +kernel
theorem dX8_utilizationAt_4 : decode cX8_utilizationAt 4 = .ok (.aload_n 1, 1) := by decide +kernel
theorem dX8_utilizationAt_5 : decode cX8_utilizationAt 5 = .ok (.invokevirtual 184, 3) := by decide +kernel
theorem dX8_utilizationAt_8 : decode cX8_utilizationAt 8 = .ok (.aload_n 0, 1) := by decide +kernel
theorem dX8_utilizationAt_9 : decode cX8_utilizationAt 9 = .ok (.getfield 34, 3) := by decide +kernel
theorem dX8_utilizationAt_12 : decode cX8_utilizationAt 12 = .ok (.getfield 193, 3) := by decide +kernel
theorem dX8_utilizationAt_15 : decode cX8_utilizationAt 15 = .ok (.aload_n 0, 1) := by decide +kernel
theorem dX8_utilizationAt_16 : decode cX8_utilizationAt 16 = .ok (.getfield 10, 3) := by decide +kernel
theorem dX8_utilizationAt_19 : decode cX8_utilizationAt 19 = .ok (.getfield 58, 3) := by decide +kernel
theorem dX8_utilizationAt_22 : decode cX8_utilizationAt 22 = .ok (.aload_n 1, 1) := by decide +kernel
theorem dX8_utilizationAt_23 : decode cX8_utilizationAt 23 = .ok (.getfield 181, 3) := by decide +kernel
theorem dX8_utilizationAt_26 : decode cX8_utilizationAt 26 = .ok (.aload_n 0, 1) := by decide +kernel
theorem dX8_utilizationAt_27 : decode cX8_utilizationAt 27 = .ok (.getfield 34, 3) := by decide +kernel
theorem dX8_utilizationAt_30 : decode cX8_utilizationAt 30 = .ok (.getfield 191, 3) := by decide +kernel
theorem dX8_utilizationAt_33 : decode cX8_utilizationAt 33 = .ok (.iload_n 2, 1) := by decide +kernel
theorem dX8_utilizationAt_34 : decode cX8_utilizationAt 34 = .ok (.invokevirtual 178, 3) := by decide +kernel
theorem dX8_utilizationAt_37 : decode cX8_utilizationAt 37 = .ok (.invokestatic 196, 3) := by decide +kernel
theorem dX8_utilizationAt_40 : decode cX8_utilizationAt 40 = .ok (.ireturn, 1) := by decide +kernel
theorem dX8_utilization_0 : decode cX8_utilization 0 = .ok (.iload_n 0, 1) := by decide +kernel
theorem dX8_utilization_1 : decode cX8_utilization 1 = .ok (.ifCond .gt 5, 3) := by decide +kernel
theorem dX8_utilization_4 : decode cX8_utilization 4 = .ok (.iconst 0, 1) := by decide +kernel
theorem dX8_utilization_5 : decode cX8_utilization 5 = .ok (.ireturn, 1) := by decide +kernel
theorem dX8_utilization_6 : decode cX8_utilization 6 = .ok (.iload_n 1, 1) := by decide +kernel
theorem dX8_utilization_7 : decode cX8_utilization 7 = .ok (.ifCond .gt 7, 3) := by decide +kernel
theorem dX8_utilization_10 : decode cX8_utilization 10 = .ok (.sipush 9999, 3) := by decide +kernel
theorem dX8_utilization_13 : decode cX8_utilization 13 = .ok (.ireturn, 1) := by decide +kernel
theorem dX8_utilization_14 : decode cX8_utilization 14 = .ok (.ldc2_w 304, 3) := by decide +kernel
theorem dX8_utilization_17 : decode cX8_utilization 17 = .ok (.ldc2_w 306, 3) := by decide +kernel
theorem dX8_utilization_20 : decode cX8_utilization 20 = .ok (.iload_n 0, 1) := by decide +kernel
theorem dX8_utilization_21 : decode cX8_utilization 21 = .ok (.i2l, 1) := by decide +kernel
theorem dX8_utilization_22 : decode cX8_utilization 22 = .ok (.lmul, 1) := by decide +kernel
theorem dX8_utilization_23 : decode cX8_utilization 23 = .ok (.iload_n 1, 1) := by decide +kernel
theorem dX8_utilization_24 : decode cX8_utilization 24 = .ok (.i2l, 1) := by decide +kernel
theorem dX8_utilization_25 : decode cX8_utilization 25 = .ok (.ldiv, 1) := by decide +kernel
theorem dX8_utilization_26 : decode cX8_utilization 26 = .ok (.invokestatic 308, 3) := by decide +kernel
theorem dX8_utilization_29 : decode cX8_utilization 29 = .ok (.l2i, 1) := by decide +kernel
theorem dX8_utilization_30 : decode cX8_utilization 30 = .ok (.ireturn, 1) := by decide +kernel
theorem dX8_clockwise_0 : decode cX8_clockwise 0 = .ok (.iload_n 1, 1) := by decide +kernel
theorem dX8_clockwise_1 : decode cX8_clockwise 1 = .ok (.iload_n 0, 1) := by decide +kernel
theorem dX8_clockwise_2 : decode cX8_clockwise 2 = .ok (.if_icmp .lt 9, 3) := by decide +kernel
theorem dX8_clockwise_5 : decode cX8_clockwise 5 = .ok (.iload_n 1, 1) := by decide +kernel
theorem dX8_clockwise_6 : decode cX8_clockwise 6 = .ok (.iload_n 0, 1) := by decide +kernel
theorem dX8_clockwise_7 : decode cX8_clockwise 7 = .ok (.isub, 1) := by decide +kernel
theorem dX8_clockwise_8 : decode cX8_clockwise 8 = .ok (.goto 10, 3) := by decide +kernel
theorem dX8_clockwise_11 : decode cX8_clockwise 11 = .ok (.iload_n 1, 1) := by decide +kernel
theorem dX8_clockwise_12 : decode cX8_clockwise 12 = .ok (.iload_n 0, 1) := by decide +kernel
theorem dX8_clockwise_13 : decode cX8_clockwise 13 = .ok (.isub, 1) := by decide +kernel
theorem dX8_clockwise_14 : decode cX8_clockwise 14 = .ok (.sipush 3600, 3) := by decide +kernel
theorem dX8_clockwise_17 : decode cX8_clockwise 17 = .ok (.iadd, 1) := by decide +kernel
theorem dX8_clockwise_18 : decode cX8_clockwise 18 = .ok (.ireturn, 1) := by decide +kernel
theorem dX8_tick_0 : decode cX8_tick 0 = .ok (.aload_n 0, 1) := by decide +kernel
theorem dX8_tick_1 : decode cX8_tick 1 = .ok (.getfield 10, 3) := by decide +kernel
theorem dX8_tick_4 : decode cX8_tick 4 = .ok (.getfield 117, 3) := by decide +kernel
theorem dX8_tick_7 : decode cX8_tick 7 = .ok (.getfield 120, 3) := by decide +kernel
theorem dX8_tick_10 : decode cX8_tick 10 = .ok (.istore_n 2, 1) := by decide +kernel
theorem dX8_tick_11 : decode cX8_tick 11 = .ok (.aload_n 0, 1) := by decide +kernel
theorem dX8_tick_12 : decode cX8_tick 12 = .ok (.getfield 10, 3) := by decide +kernel
theorem dX8_tick_15 : decode cX8_tick 15 = .ok (.dup, 1) := by decide +kernel
theorem dX8_tick_16 : decode cX8_tick 16 = .ok (.getfield 294, 3) := by decide +kernel
theorem dX8_tick_19 : decode cX8_tick 19 = .ok (.iconst 1, 1) := by decide +kernel
theorem dX8_tick_20 : decode cX8_tick 20 = .ok (.iadd, 1) := by decide +kernel
theorem dX8_tick_21 : decode cX8_tick 21 = .ok (.putfield 294, 3) := by decide +kernel
theorem dX8_tick_24 : decode cX8_tick 24 = .ok (.aload_n 0, 1) := by decide +kernel
theorem dX8_tick_25 : decode cX8_tick 25 = .ok (.getfield 10, 3) := by decide +kernel
theorem dX8_tick_28 : decode cX8_tick 28 = .ok (.getfield 146, 3) := by decide +kernel
theorem dX8_tick_31 : decode cX8_tick 31 = .ok (.ifCond .le 16, 3) := by decide +kernel
theorem dX8_tick_34 : decode cX8_tick 34 = .ok (.aload_n 0, 1) := by decide +kernel
theorem dX8_tick_35 : decode cX8_tick 35 = .ok (.getfield 10, 3) := by decide +kernel
theorem dX8_tick_38 : decode cX8_tick 38 = .ok (.dup, 1) := by decide +kernel
theorem dX8_tick_39 : decode cX8_tick 39 = .ok (.getfield 146, 3) := by decide +kernel
theorem dX8_tick_42 : decode cX8_tick 42 = .ok (.iconst 1, 1) := by decide +kernel
theorem dX8_tick_43 : decode cX8_tick 43 = .ok (.isub, 1) := by decide +kernel
theorem dX8_tick_44 : decode cX8_tick 44 = .ok (.putfield 146, 3) := by decide +kernel
theorem dX8_tick_47 : decode cX8_tick 47 = .ok (.iconst 0, 1) := by decide +kernel
theorem dX8_tick_48 : decode cX8_tick 48 = .ok (.istore_n 3, 1) := by decide +kernel
theorem dX8_tick_49 : decode cX8_tick 49 = .ok (.iconst 0, 1) := by decide +kernel
theorem dX8_tick_50 : decode cX8_tick 50 = .ok (.istore 4, 2) := by decide +kernel
theorem dX8_tick_52 : decode cX8_tick 52 = .ok (.iload 4, 2) := by decide +kernel
theorem dX8_tick_54 : decode cX8_tick 54 = .ok (.bipush 8, 2) := by decide +kernel
theorem dX8_tick_56 : decode cX8_tick 56 = .ok (.if_icmp .ge 91, 3) := by decide +kernel
theorem dX8_tick_59 : decode cX8_tick 59 = .ok (.iload_n 1, 1) := by decide +kernel
theorem dX8_tick_60 : decode cX8_tick 60 = .ok (.iconst 1, 1) := by decide +kernel
theorem dX8_tick_61 : decode cX8_tick 61 = .ok (.iload 4, 2) := by decide +kernel
theorem dX8_tick_63 : decode cX8_tick 63 = .ok (.ishl, 1) := by decide +kernel
theorem dX8_tick_64 : decode cX8_tick 64 = .ok (.iand, 1) := by decide +kernel
theorem dX8_tick_65 : decode cX8_tick 65 = .ok (.istore 5, 2) := by decide +kernel
theorem dX8_tick_67 : decode cX8_tick 67 = .ok (.iload 5, 2) := by decide +kernel
theorem dX8_tick_69 : decode cX8_tick 69 = .ok (.ifCond .ne 6, 3) := by decide +kernel
theorem dX8_tick_72 : decode cX8_tick 72 = .ok (.goto 69, 3) := by decide +kernel
theorem dX8_tick_75 : decode cX8_tick 75 = .ok (.aload_n 0, 1) := by decide +kernel

