theorem dX3_init_5 : decode cX3_init 5 = .ok (.bipush 30, 2) := by decide +kernel
theorem dX3_init_7 : decode cX3_init 7 = .ok (.newarray .int, 2) := by decide +kernel
theorem dX3_init_9 : decode cX3_init 9 = .ok (.putfield 9, 3) := by decide +kernel
theorem dX3_init_12 : decode cX3_init 12 = .ok (.aload_n 0, 1) := by decide +kernel
theorem dX3_init_13 : decode cX3_init 13 = .ok (.bipush 30, 2) := by decide +kernel
theorem dX3_init_15 : decode cX3_init 15 = .ok (.newarray .int, 2) := by decide +kernel
theorem dX3_init_17 : decode cX3_init 17 = .ok (.putfield 13, 3) := by decide +kernel
theorem dX3_init_20 : decode cX3_init 20 = .ok (.aload_n 0, 1) := by decide +kernel
theorem dX3_init_21 : decode cX3_init 21 = .ok (.bipush 30, 2) := by decide +kernel
theorem dX3_init_23 : decode cX3_init 23 = .ok (.newarray .int, 2) := by decide +kernel
theorem dX3_init_25 : decode cX3_init 25 = .ok (.putfield 16, 3) := by decide +kernel
theorem dX3_init_28 : decode cX3_init 28 = .ok (.return_, 1) := by decide +kernel
theorem dX3_copyFrom_0 : decode cX3_copyFrom 0 = .ok (.aload_n 1, 1) := by decide +kernel
theorem dX3_copyFrom_1 : decode cX3_copyFrom 1 = .ok (.getfield 9, 3) := by decide +kernel
theorem dX3_copyFrom_4 : decode cX3_copyFrom 4 = .ok (.iconst 0, 1) := by decide +kernel
theorem dX3_copyFrom_5 : decode cX3_copyFrom 5 = .ok (.aload_n 0, 1) := by decide +kernel
theorem dX3_copyFrom_6 : decode cX3_copyFrom 6 = .ok (.getfield 9, 3) := by decide +kernel
theorem dX3_copyFrom_9 : decode cX3_copyFrom 9 = .ok (.iconst 0, 1) := by decide +kernel
theorem dX3_copyFrom_10 : decode cX3_copyFrom 10 = .ok (.bipush 30, 2) := by decide +kernel
theorem dX3_copyFrom_12 : decode cX3_copyFrom 12 = .ok (.invokestatic 19, 3) := by decide +kernel
theorem dX3_copyFrom_15 : decode cX3_copyFrom 15 = .ok (.aload_n 1, 1) := by decide +kernel
theorem dX3_copyFrom_16 : decode cX3_copyFrom 16 = .ok (.getfield 13, 3) := by decide +kernel
theorem dX3_copyFrom_19 : decode cX3_copyFrom 19 = .ok (.iconst 0, 1) := by decide +kernel
theorem dX3_copyFrom_20 : decode cX3_copyFrom 20 = .ok (.aload_n 0, 1) := by decide +kernel
theorem dX3_copyFrom_21 : decode cX3_copyFrom 21 = .ok (.getfield 13, 3) := by decide +kernel
theorem dX3_copyFrom_24 : decode cX3_copyFrom 24 = .ok (.iconst 0, 1) := by decide +kernel
theorem dX3_copyFrom_25 : decode cX3_copyFrom 25 = .ok (.bipush 30, 2) := by decide +kernel
theorem dX3_copyFrom_27 : decode cX3_copyFrom 27 = .ok (.invokestatic 19, 3) := by decide +kernel
theorem dX3_copyFrom_30 : decode cX3_copyFrom 30 = .ok (.aload_n 1, 1) := by decide +kernel
theorem dX3_copyFrom_31 : decode cX3_copyFrom 31 = .ok (.getfield 16, 3) := by decide +kernel
theorem dX3_copyFrom_34 : decode cX3_copyFrom 34 = .ok (.iconst 0, 1) := by decide +kernel
theorem dX3_copyFrom_35 : decode cX3_copyFrom 35 = .ok (.aload_n 0, 1) := by decide +kernel
theorem dX3_copyFrom_36 : decode cX3_copyFrom 36 = .ok (.getfield 16, 3) := by decide +kernel
theorem dX3_copyFrom_39 : decode cX3_copyFrom 39 = .ok (.iconst 0, 1) := by decide +kernel
theorem dX3_copyFrom_40 : decode cX3_copyFrom 40 = .ok (.bipush 30, 2) := by decide +kernel
theorem dX3_copyFrom_42 : decode cX3_copyFrom 42 = .ok (.invokestatic 19, 3) := by decide +kernel
theorem dX3_copyFrom_45 : decode cX3_copyFrom 45 = .ok (.aload_n 0, 1) := by decide +kernel
theorem dX3_copyFrom_46 : decode cX3_copyFrom 46 = .ok (.aload_n 1, 1) := by decide +kernel
theorem dX3_copyFrom_47 : decode cX3_copyFrom 47 = .ok (.getfield 25, 3) := by decide +kernel
theorem dX3_copyFrom_50 : decode cX3_copyFrom 50 = .ok (.putfield 25, 3) := by decide +kernel
theorem dX3_copyFrom_53 : decode cX3_copyFrom 53 = .ok (.aload_n 0, 1) := by decide +kernel
theorem dX3_copyFrom_54 : decode cX3_copyFrom 54 = .ok (.aload_n 1, 1) := by decide +kernel
theorem dX3_copyFrom_55 : decode cX3_copyFrom 55 = .ok (.getfield 29, 3) := by decide +kernel
theorem dX3_copyFrom_58 : decode cX3_copyFrom 58 = .ok (.putfield 29, 3) := by decide +kernel
theorem dX3_copyFrom_61 : decode cX3_copyFrom 61 = .ok (.return_, 1) := by decide +kernel
set_option maxRecDepth 20000 in
theorem ggX3_add_X3_slotOf : GoodIn wsX3_add wsX3_slotOf := goodIn_r _ [10, 5, 11, 12, 13, 14, 15, 16, 17, 18, 19] (by decide +kernel) (by decide +kernel)
set_option maxRecDepth 20000 in
theorem gX3_add_X3_slotOf : GoodIn wsX3_add (wsV RX3 32 RX3 yX3_slotOf wsX3_slotOf) := goodIn_app (goodIn_of _ (by decide +kernel)) ggX3_add_X3_slotOf
theorem dX3_add_0 : decode cX3_add 0 = .ok (.aload_n 0, 1) := by decide +kernel
theorem dX3_add_1 : decode cX3_add 1 = .ok (.aload_n 0, 1) := by decide +kernel
theorem dX3_add_2 : decode cX3_add 2 = .ok (.getfield 29, 3) := by decide +kernel
theorem dX3_add_5 : decode cX3_add 5 = .ok (.invokevirtual 32, 3) := by decide +kernel
theorem dX3_add_8 : decode cX3_add 8 = .ok (.istore 4, 2) := by decide +kernel
theorem dX3_add_10 : decode cX3_add 10 = .ok (.aload_n 0, 1) := by decide +kernel
theorem dX3_add_11 : decode cX3_add 11 = .ok (.getfield 9, 3) := by decide +kernel
theorem dX3_add_14 : decode cX3_add 14 = .ok (.iload 4, 2) := by decide +kernel
theorem dX3_add_16 : decode cX3_add 16 = .ok (.iload_n 1, 1) := by decide +kernel
theorem dX3_add_17 : decode cX3_add 17 = .ok (.iastore, 1) := by decide +kernel
theorem dX3_add_18 : decode cX3_add 18 = .ok (.aload_n 0, 1) := by decide +kernel
theorem dX3_add_19 : decode cX3_add 19 = .ok (.getfield 13, 3) := by decide +kernel
theorem dX3_add_22 : decode cX3_add 22 = .ok (.iload 4, 2) := by decide +kernel
theorem dX3_add_24 : decode cX3_add 24 = .ok (.iload_n 2, 1) := by decide +kernel
theorem dX3_add_25 : decode cX3_add 25 = .ok (.iastore, 1) := by decide +kernel
theorem dX3_add_26 : decode cX3_add 26 = .ok (.aload_n 0, 1) := by decide +kernel
theorem dX3_add_27 : decode cX3_add 27 = .ok (.getfield 16, 3) := by decide +kernel
theorem dX3_add_30 : decode cX3_add 30 = .ok (.iload 4, 2) := by decide +kernel
theorem dX3_add_32 : decode cX3_add 32 = .ok (.iload_n 3, 1) := by decide +kernel
theorem dX3_add_33 : decode cX3_add 33 = .ok (.iastore, 1) := by decide +kernel
theorem dX3_add_34 : decode cX3_add 34 = .ok (.aload_n 0, 1) := by decide +kernel
theorem dX3_add_35 : decode cX3_add 35 = .ok (.getfield 29, 3) := by decide +kernel
theorem dX3_add_38 : decode cX3_add 38 = .ok (.bipush 30, 2) := by decide +kernel
theorem dX3_add_40 : decode cX3_add 40 = .ok (.if_icmp .ge 16, 3) := by decide +kernel
theorem dX3_add_43 : decode cX3_add 43 = .ok (.aload_n 0, 1) := by decide +kernel
theorem dX3_add_44 : decode cX3_add 44 = .ok (.dup, 1) := by decide +kernel
theorem dX3_add_45 : decode cX3_add 45 = .ok (.getfield 29, 3) := by decide +kernel
theorem dX3_add_48 : decode cX3_add 48 = .ok (.iconst 1, 1) := by decide +kernel
theorem dX3_add_49 : decode cX3_add 49 = .ok (.iadd, 1) := by decide +kernel
theorem dX3_add_50 : decode cX3_add 50 = .ok (.putfield 29, 3) := by decide +kernel
theorem dX3_add_53 : decode cX3_add 53 = .ok (.goto 12, 3) := by decide +kernel
theorem dX3_add_56 : decode cX3_add 56 = .ok (.aload_n 0, 1) := by decide +kernel
theorem dX3_add_57 : decode cX3_add 57 = .ok (.aload_n 0, 1) := by decide +kernel
theorem dX3_add_58 : decode cX3_add 58 = .ok (.iconst 1, 1) := by decide +kernel
theorem dX3_add_59 : decode cX3_add 59 = .ok (.invokevirtual 32, 3) := by decide +kernel
theorem dX3_add_62 : decode cX3_add 62 = .ok (.putfield 25, 3) := by decide +kernel
theorem dX3_add_65 : decode cX3_add 65 = .ok (.return_, 1) := by decide +kernel
set_option maxRecDepth 20000 in
theorem ggX3_part_X3_slotOf : GoodIn wsX3_part wsX3_slotOf := goodIn_r _ [8, 9, 10, 11, 12, 13, 14, 15, 16, 17, 18] (by decide +kernel) (by decide +kernel)
set_option maxRecDepth 20000 in
theorem gX3_part_X3_slotOf : GoodIn wsX3_part (wsV RX3 32 RX3 yX3_slotOf wsX3_slotOf) := goodIn_app (goodIn_of _ (by decide +kernel)) ggX3_part_X3_slotOf
theorem dX3_part_0 : decode cX3_part 0 = .ok (.aload_n 0, 1) := by decide +kernel
theorem dX3_part_1 : decode cX3_part 1 = .ok (.iload_n 1, 1) := by decide +kernel
theorem dX3_part_2 : decode cX3_part 2 = .ok (.invokevirtual 32, 3) := by decide +kernel
theorem dX3_part_5 : decode cX3_part 5 = .ok (.istore_n 3, 1) := by decide +kernel
theorem dX3_part_6 : decode cX3_part 6 = .ok (.iload_n 2, 1) := by decide +kernel
theorem dX3_part_7 : decode cX3_part 7 = .ok (.ifCond .ne 12, 3) := by decide +kernel
theorem dX3_part_10 : decode cX3_part 10 = .ok (.aload_n 0, 1) := by decide +kernel
theorem dX3_part_11 : decode cX3_part 11 = .ok (.getfield 9, 3) := by decide +kernel
theorem dX3_part_14 : decode cX3_part 14 = .ok (.iload_n 3, 1) := by decide +kernel
theorem dX3_part_15 : decode cX3_part 15 = .ok (.iaload, 1) := by decide +kernel
theorem dX3_part_16 : decode cX3_part 16 = .ok (.goto 23, 3) := by decide +kernel
theorem dX3_part_19 : decode cX3_part 19 = .ok (.iload_n 2, 1) := by decide +kernel
theorem dX3_part_20 : decode cX3_part 20 = .ok (.iconst 1, 1) := by decide +kernel
theorem dX3_part_21 : decode cX3_part 21 = .ok (.if_icmp .ne 12, 3) := by decide +kernel
theorem dX3_part_24 : decode cX3_part 24 = .ok (.aload_n 0, 1) := by decide +kernel
theorem dX3_part_25 : decode cX3_part 25 = .ok (.getfield 13, 3) := by decide +kernel
theorem dX3_part_28 : decode cX3_part 28 = .ok (.iload_n 3, 1) := by decide +kernel
theorem dX3_part_29 : decode cX3_part 29 = .ok (.iaload, 1) := by decide +kernel
theorem dX3_part_30 : decode cX3_part 30 = .ok (.goto 9, 3) := by decide +kernel
theorem dX3_part_33 : decode cX3_part 33 = .ok (.aload_n 0, 1) := by decide +kernel
theorem dX3_part_34 : decode cX3_part 34 = .ok (.getfield 16, 3) := by decide +kernel
theorem dX3_part_37 : decode cX3_part 37 = .ok (.iload_n 3, 1) := by decide +kernel
theorem dX3_part_38 : decode cX3_part 38 = .ok (.iaload, 1) := by decide +kernel
theorem dX3_part_39 : decode cX3_part 39 = .ok (.ireturn, 1) := by decide +kernel
set_option maxRecDepth 20000 in
theorem ggX3_slotOf_J9_floorMod_7cf53 : GoodIn wsX3_slotOf wsJ9_floorMod_7cf53 := goodIn_r _ [5] (by decide +kernel) (by decide +kernel)
set_option maxRecDepth 20000 in
theorem gX3_slotOf_J9_floorMod_7cf53 : GoodIn wsX3_slotOf (va_wsS RX3 36 yJ9_floorMod_7cf53 wsJ9_floorMod_7cf53) := goodIn_app (goodIn_of _ (by decide +kernel)) ggX3_slotOf_J9_floorMod_7cf53
theorem dX3_slotOf_0 : decode cX3_slotOf 0 = .ok (.aload_n 0, 1) := by decide +kernel
theorem dX3_slotOf_1 : decode cX3_slotOf 1 = .ok (.getfield 25, 3) := by decide +kernel
theorem dX3_slotOf_4 : decode cX3_slotOf 4 = .ok (.iload_n 1, 1) := by decide +kernel
theorem dX3_slotOf_5 : decode cX3_slotOf 5 = .ok (.iadd, 1) := by decide +kernel
theorem dX3_slotOf_6 : decode cX3_slotOf 6 = .ok (.bipush 30, 2) := by decide +kernel
theorem dX3_slotOf_8 : decode cX3_slotOf 8 = .ok (.invokestatic 36, 3) := by decide +kernel
theorem dX3_slotOf_11 : decode cX3_slotOf 11 = .ok (.ireturn, 1) := by decide +kernel
set_option maxRecDepth 20000 in
theorem ggX3_hash_X3_part : GoodIn wsX3_hash wsX3_part := goodIn_r _ [7, 8, 9, 10, 11, 12, 13, 6, 14, 15, 16, 17, 18, 19, 20, 21, 22, 23, 24] (by decide +kernel) (by decide +kernel)
set_option maxRecDepth 20000 in
theorem gX3_hash_X3_part : GoodIn wsX3_hash (wsV RX3 44 RX3 yX3_part wsX3_part) := goodIn_app (goodIn_of _ (by decide +kernel)) ggX3_hash_X3_part
theorem dX3_hash_0 : decode cX3_hash 0 = .ok (.ldc2_w 42, 3) := by decide +kernel
theorem dX3_hash_3 : decode cX3_hash 3 = .ok (.lload_n 1, 1) := by decide +kernel
theorem dX3_hash_4 : decode cX3_hash 4 = .ok (.lmul, 1) := by decide +kernel
theorem dX3_hash_5 : decode cX3_hash 5 = .ok (.aload_n 0, 1) := by decide +kernel
theorem dX3_hash_6 : decode cX3_hash 6 = .ok (.getfield 29, 3) := by decide +kernel
theorem dX3_hash_9 : decode cX3_hash 9 = .ok (.i2l, 1) := by decide +kernel
theorem dX3_hash_10 : decode cX3_hash 10 = .ok (.ladd, 1) := by decide +kernel
theorem dX3_hash_11 : decode cX3_hash 11 = .ok (.lstore_n 3, 1) := by decide +kernel
theorem dX3_hash_12 : decode cX3_hash 12 = .ok (.iconst 0, 1) := by decide +kernel
theorem dX3_hash_13 : decode cX3_hash 13 = .ok (.istore 5, 2) := by decide +kernel
theorem dX3_hash_15 : decode cX3_hash 15 = .ok (.iload 5, 2) := by decide +kernel
theorem dX3_hash_17 : decode cX3_hash 17 = .ok (.aload_n 0, 1) := by decide +kernel
theorem dX3_hash_18 : decode cX3_hash 18 = .ok (.getfield 29, 3) := by decide +kernel
theorem dX3_hash_21 : decode cX3_hash 21 = .ok (.if_icmp .ge 40, 3) := by decide +kernel
theorem dX3_hash_24 : decode cX3_hash 24 = .ok (.iconst 0, 1) := by decide +kernel
theorem dX3_hash_25 : decode cX3_hash 25 = .ok (.istore 6, 2) := by decide +kernel
theorem dX3_hash_27 : decode cX3_hash 27 = .ok (.iload 6, 2) := by decide +kernel
theorem dX3_hash_29 : decode cX3_hash 29 = .ok (.iconst 3, 1) := by decide +kernel
theorem dX3_hash_30 : decode cX3_hash 30 = .ok (.if_icmp .ge 25, 3) := by decide +kernel
theorem dX3_hash_33 : decode cX3_hash 33 = .ok (.ldc2_w 42, 3) := by decide +kernel
theorem dX3_hash_36 : decode cX3_hash 36 = .ok (.lload_n 3, 1) := by decide +kernel
theorem dX3_hash_37 : decode cX3_hash 37 = .ok (.lmul, 1) := by decide +kernel
theorem dX3_hash_38 : decode cX3_hash 38 = .ok (.aload_n 0, 1) := by decide +kernel
theorem dX3_hash_39 : decode cX3_hash 39 = .ok (.iload 5, 2) := by decide +kernel
theorem dX3_hash_41 : decode cX3_hash 41 = .ok (.iload 6, 2) := by decide +kernel
theorem dX3_hash_43 : decode cX3_hash 43 = .ok (.invokevirtual 44, 3) := by decide +kernel
theorem dX3_hash_46 : decode cX3_hash 46 = .ok (.i2l, 1) := by decide +kernel
theorem dX3_hash_47 : decode cX3_hash 47 = .ok (.ladd, 1) := by decide +kernel
theorem dX3_hash_48 : decode cX3_hash 48 = .ok (.lstore_n 3, 1) := by decide +kernel
theorem dX3_hash_49 : decode cX3_hash 49 = .ok (.iinc 6 1, 3) := by decide +kernel
theorem dX3_hash_52 : decode cX3_hash 52 = .ok (.goto (-25), 3) := by decide +kernel
theorem dX3_hash_55 : decode cX3_hash 55 = .ok (.iinc 5 1, 3) := by decide +kernel
theorem dX3_hash_58 : decode cX3_hash 58 = .ok (.goto (-43), 3) := by decide +kernel
theorem dX3_hash_61 : decode cX3_hash 61 = .ok (.lload_n 3, 1) := by decide +kernel
theorem dX3_hash_62 : decode cX3_hash 62 = .ok (.lreturn, 1) := by decide +kernel
theorem dX4_init_0 : decode cX4_init 0 = .ok (.aload_n 0, 1) := by decide +kernel
theorem dX4_init_1 : decode cX4_init 1 = .ok (.invokespecial 3, 3) := by decide +kernel
theorem dX4_init_4 : decode cX4_init 4 = .ok (.aload_n 0, 1) := by decide +kernel
theorem dX4_init_5 : decode cX4_init 5 = .ok (.bipush 26, 2) := by decide +kernel
theorem dX4_init_7 : decode cX4_init 7 = .ok (.newarray .int, 2) := by decide +kernel
theorem dX4_init_9 : decode cX4_init 9 = .ok (.putfield 11, 3) := by decide +kernel
theorem dX4_init_12 : decode cX4_init 12 = .ok (.aload_n 0, 1) := by decide +kernel
theorem dX4_init_13 : decode cX4_init 13 = .ok (.bipush 26, 2) := by decide +kernel
theorem dX4_init_15 : decode cX4_init 15 = .ok (.newarray .int, 2) := by decide +kernel
theorem dX4_init_17 : decode cX4_init 17 = .ok (.putfield 15, 3) := by decide +kernel
theorem dX4_init_20 : decode cX4_init 20 = .ok (.return_, 1) := by decide +kernel
theorem dX4_motionsOf_0 : decode cX4_motionsOf 0 = .ok (.iload_n 1, 1) := by decide +kernel
theorem dX4_motionsOf_1 : decode cX4_motionsOf 1 = .ok (.ifCond .lt 18, 3) := by decide +kernel
theorem dX4_motionsOf_4 : decode cX4_motionsOf 4 = .ok (.iload_n 1, 1) := by decide +kernel
theorem dX4_motionsOf_5 : decode cX4_motionsOf 5 = .ok (.bipush 26, 2) := by decide +kernel
theorem dX4_motionsOf_7 : decode cX4_motionsOf 7 = .ok (.if_icmp .ge 12, 3) := by decide +kernel
theorem dX4_motionsOf_10 : decode cX4_motionsOf 10 = .ok (.aload_n 0, 1) := by decide +kernel
theorem dX4_motionsOf_11 : decode cX4_motionsOf 11 = .ok (.getfield 11, 3) := by decide +kernel
theorem dX4_motionsOf_14 : decode cX4_motionsOf 14 = .ok (.iload_n 1, 1) := by decide +kernel
theorem dX4_motionsOf_15 : decode cX4_motionsOf 15 = .ok (.iaload, 1) := by decide +kernel
theorem dX4_motionsOf_16 : decode cX4_motionsOf 16 = .ok (.goto 4, 3) := by decide +kernel
theorem dX4_motionsOf_19 : decode cX4_motionsOf 19 = .ok (.iconst 0, 1) := by decide +kernel
theorem dX4_motionsOf_20 : decode cX4_motionsOf 20 = .ok (.ireturn, 1) := by decide +kernel
theorem dX4_ticksOf_0 : decode cX4_ticksOf 0 = .ok (.iload_n 1, 1) := by decide +kernel
theorem dX4_ticksOf_1 : decode cX4_ticksOf 1 = .ok (.ifCond .lt 18, 3) := by decide +kernel
theorem dX4_ticksOf_4 : decode cX4_ticksOf 4 = .ok (.iload_n 1, 1) := by decide +kernel
theorem dX4_ticksOf_5 : decode cX4_ticksOf 5 = .ok (.bipush 26, 2) := by decide +kernel
theorem dX4_ticksOf_7 : decode cX4_ticksOf 7 = .ok (.if_icmp .ge 12, 3) := by decide +kernel
theorem dX4_ticksOf_10 : decode cX4_ticksOf 10 = .ok (.aload_n 0, 1) := by decide +kernel
theorem dX4_ticksOf_11 : decode cX4_ticksOf 11 = .ok (.getfield 15, 3) := by decide +kernel
theorem dX4_ticksOf_14 : decode cX4_ticksOf 14 = .ok (.iload_n 1, 1) := by decide +kernel
theorem dX4_ticksOf_15 : decode cX4_ticksOf 15 = .ok (.iaload, 1) := by decide +kernel
theorem dX4_ticksOf_16 : decode cX4_ticksOf 16 = .ok (.goto 4, 3) := by decide +kernel
theorem dX4_ticksOf_19 : decode cX4_ticksOf 19 = .ok (.iconst 0, 1) := by decide +kernel
theorem dX4_ticksOf_20 : decode cX4_ticksOf 20 = .ok (.ireturn, 1) := by decide +kernel
set_option maxRecDepth 20000 in
theorem ggX4_read_X4_accepts : GoodIn wsX4_read wsX4_accepts := goodIn_r _ [7, 2, 8, 9, 10, 6, 11, 12, 13, 14, 15, 16, 17, 18, 19, 20, 21, 22, 23, 24, 25, 26, 27, 28, 29, 1, 30, 31, 32, 33, 34, 35, 36, 37] (by decide +kernel) (by decide +kernel)
set_option maxRecDepth 20000 in
theorem gX4_read_X4_accepts : GoodIn wsX4_read (wsV RX4 25 RX4 yX4_accepts wsX4_accepts) := goodIn_app (goodIn_of _ (by decide +kernel)) ggX4_read_X4_accepts
theorem dX4_read_0 : decode cX4_read 0 = .ok (.aload_n 0, 1) := by decide +kernel
theorem dX4_read_1 : decode cX4_read 1 = .ok (.iconst 0, 1) := by decide +kernel
theorem dX4_read_2 : decode cX4_read 2 = .ok (.putfield 18, 3) := by decide +kernel
theorem dX4_read_5 : decode cX4_read 5 = .ok (.aload_n 0, 1) := by decide +kernel
theorem dX4_read_6 : decode cX4_read 6 = .ok (.iconst 0, 1) := by decide +kernel
theorem dX4_read_7 : decode cX4_read 7 = .ok (.putfield 22, 3) := by decide +kernel
theorem dX4_read_10 : decode cX4_read 10 = .ok (.iconst 0, 1) := by decide +kernel
theorem dX4_read_11 : decode cX4_read 11 = .ok (.istore_n 3, 1) := by decide +kernel
theorem dX4_read_12 : decode cX4_read 12 = .ok (.iload_n 3, 1) := by decide +kernel
theorem dX4_read_13 : decode cX4_read 13 = .ok (.iload_n 2, 1) := by decide +kernel
theorem dX4_read_14 : decode cX4_read 14 = .ok (.if_icmp .ge 27, 3) := by decide +kernel
theorem dX4_read_17 : decode cX4_read 17 = .ok (.iload_n 3, 1) := by decide +kernel
theorem dX4_read_18 : decode cX4_read 18 = .ok (.aload_n 1, 1) := by decide +kernel
theorem dX4_read_19 : decode cX4_read 19 = .ok (.arraylength, 1) := by decide +kernel
theorem dX4_read_20 : decode cX4_read 20 = .ok (.if_icmp .ge 21, 3) := by decide +kernel
theorem dX4_read_23 : decode cX4_read 23 = .ok (.aload_n 0, 1) := by decide +kernel
theorem dX4_read_24 : decode cX4_read 24 = .ok (.aload_n 1, 1) := by decide +kernel
theorem dX4_read_25 : decode cX4_read 25 = .ok (.iload_n 3, 1) := by decide +kernel
theorem dX4_read_26 : decode cX4_read 26 = .ok (.iaload, 1) := by decide +kernel
theorem dX4_read_27 : decode cX4_read 27 = .ok (.invokevirtual 25, 3) := by decide +kernel
theorem dX4_read_30 : decode cX4_read 30 = .ok (.ifCond .ne 5, 3) := by decide +kernel
theorem dX4_read_33 : decode cX4_read 33 = .ok (.iload_n 3, 1) := by decide +kernel
theorem dX4_read_34 : decode cX4_read 34 = .ok (.ireturn, 1) := by decide +kernel
theorem dX4_read_35 : decode cX4_read 35 = .ok (.iinc 3 1, 3) := by decide +kernel
theorem dX4_read_38 : decode cX4_read 38 = .ok (.goto (-26), 3) := by decide +kernel
theorem dX4_read_41 : decode cX4_read 41 = .ok (.aload_n 0, 1) := by decide +kernel
theorem dX4_read_42 : decode cX4_read 42 = .ok (.getfield 22, 3) := by decide +kernel
theorem dX4_read_45 : decode cX4_read 45 = .ok (.ifCond .ne 7, 3) := by decide +kernel
theorem dX4_read_48 : decode cX4_read 48 = .ok (.iconst (-1), 1) := by decide +kernel
theorem dX4_read_49 : decode cX4_read 49 = .ok (.goto 4, 3) := by decide +kernel
theorem dX4_read_52 : decode cX4_read 52 = .ok (.iload_n 2, 1) := by decide +kernel
theorem dX4_read_53 : decode cX4_read 53 = .ok (.ireturn, 1) := by decide +kernel
set_option maxRecDepth 20000 in
theorem ggX4_accepts_X4_acceptsLetter : GoodIn wsX4_accepts wsX4_acceptsLetter := goodIn_r _ [6, 7, 8, 1, 28, 29, 30, 31, 32, 33] (by decide +kernel) (by decide +kernel)
set_option maxRecDepth 20000 in
theorem gX4_accepts_X4_acceptsLetter : GoodIn wsX4_accepts (wsV RX4 29 RX4 yX4_acceptsLetter wsX4_acceptsLetter) := goodIn_app (goodIn_of _ (by decide +kernel)) ggX4_accepts_X4_acceptsLetter
set_option maxRecDepth 20000 in
theorem ggX4_accepts_X4_acceptsSign : GoodIn wsX4_accepts wsX4_acceptsSign := goodIn_r _ [12, 7, 1, 28, 29, 30, 31, 32, 33] (by decide +kernel) (by decide +kernel)
set_option maxRecDepth 20000 in
theorem gX4_accepts_X4_acceptsSign : GoodIn wsX4_accepts (wsV RX4 32 RX4 yX4_acceptsSign wsX4_acceptsSign) := goodIn_app (goodIn_of _ (by decide +kernel)) ggX4_accepts_X4_acceptsSign
set_option maxRecDepth 20000 in
theorem ggX4_accepts_X4_acceptsDigit : GoodIn wsX4_accepts wsX4_acceptsDigit := goodIn_r _ [16, 8, 1, 28, 29, 30, 31, 32, 33] (by decide +kernel) (by decide +kernel)
set_option maxRecDepth 20000 in
theorem gX4_accepts_X4_acceptsDigit : GoodIn wsX4_accepts (wsV RX4 35 RX4 yX4_acceptsDigit wsX4_acceptsDigit) := goodIn_app (goodIn_of _ (by decide +kernel)) ggX4_accepts_X4_acceptsDigit
set_option maxRecDepth 20000 in
theorem ggX4_accepts_X4_acceptsBehindNumber : GoodIn wsX4_accepts wsX4_acceptsBehindNumber := goodIn_r _ [20, 8, 1, 21, 22, 23, 5, 24, 25, 26, 7, 27, 28, 29, 30, 31, 32, 33] (by decide +kernel) (by decide +kernel)
set_option maxRecDepth 20000 in
theorem gX4_accepts_X4_acceptsBehindNumber : GoodIn wsX4_accepts (wsV RX4 39 RX4 yX4_acceptsBehindNumber wsX4_acceptsBehindNumber) := goodIn_app (goodIn_of _ (by decide +kernel)) ggX4_accepts_X4_acceptsBehindNumber
theorem dX4_accepts_0 : decode cX4_accepts 0 = .ok (.aload_n 0, 1) := by decide +kernel
theorem dX4_accepts_1 : decode cX4_accepts 1 = .ok (.getfield 22, 3) := by decide +kernel
theorem dX4_accepts_4 : decode cX4_accepts 4 = .ok (.tableswitch 116 0 3 #[32, 52, 72, 93], 32) := by decide +kernel
theorem dX4_accepts_36 : decode cX4_accepts 36 = .ok (.iload_n 1, 1) := by decide +kernel
theorem dX4_accepts_37 : decode cX4_accepts 37 = .ok (.bipush 32, 2) := by decide +kernel
theorem dX4_accepts_39 : decode cX4_accepts 39 = .ok (.if_icmp .eq 11, 3) := by decide +kernel
theorem dX4_accepts_42 : decode cX4_accepts 42 = .ok (.aload_n 0, 1) := by decide +kernel
theorem dX4_accepts_43 : decode cX4_accepts 43 = .ok (.iload_n 1, 1) := by decide +kernel
theorem dX4_accepts_44 : decode cX4_accepts 44 = .ok (.invokevirtual 29, 3) := by decide +kernel
theorem dX4_accepts_47 : decode cX4_accepts 47 = .ok (.ifCond .eq 7, 3) := by decide +kernel
theorem dX4_accepts_50 : decode cX4_accepts 50 = .ok (.iconst 1, 1) := by decide +kernel
theorem dX4_accepts_51 : decode cX4_accepts 51 = .ok (.goto 4, 3) := by decide +kernel
theorem dX4_accepts_54 : decode cX4_accepts 54 = .ok (.iconst 0, 1) := by decide +kernel
theorem dX4_accepts_55 : decode cX4_accepts 55 = .ok (.ireturn, 1) := by decide +kernel
theorem dX4_accepts_56 : decode cX4_accepts 56 = .ok (.iload_n 1, 1) := by decide +kernel
theorem dX4_accepts_57 : decode cX4_accepts 57 = .ok (.bipush 32, 2) := by decide +kernel
theorem dX4_accepts_59 : decode cX4_accepts 59 = .ok (.if_icmp .eq 11, 3) := by decide +kernel
theorem dX4_accepts_62 : decode cX4_accepts 62 = .ok (.aload_n 0, 1) := by decide +kernel
theorem dX4_accepts_63 : decode cX4_accepts 63 = .ok (.iload_n 1, 1) := by decide +kernel
theorem dX4_accepts_64 : decode cX4_accepts 64 = .ok (.invokevirtual 32, 3) := by decide +kernel
theorem dX4_accepts_67 : decode cX4_accepts 67 = .ok (.ifCond .eq 7, 3) := by decide +kernel
theorem dX4_accepts_70 : decode cX4_accepts 70 = .ok (.iconst 1, 1) := by decide +kernel
theorem dX4_accepts_71 : decode cX4_accepts 71 = .ok (.goto 4, 3) := by decide +kernel
theorem dX4_accepts_74 : decode cX4_accepts 74 = .ok (.iconst 0, 1) := by decide +kernel
theorem dX4_accepts_75 : decode cX4_accepts 75 = .ok (.ireturn, 1) := by decide +kernel
theorem dX4_accepts_76 : decode cX4_accepts 76 = .ok (.iload_n 1, 1) := by decide +kernel
theorem dX4_accepts_77 : decode cX4_accepts 77 = .ok (.bipush 32, 2) := by decide +kernel
theorem dX4_accepts_79 : decode cX4_accepts 79 = .ok (.if_icmp .eq 12, 3) := by decide +kernel
theorem dX4_accepts_82 : decode cX4_accepts 82 = .ok (.aload_n 0, 1) := by decide +kernel
theorem dX4_accepts_83 : decode cX4_accepts 83 = .ok (.iload_n 1, 1) := by decide +kernel
theorem dX4_accepts_84 : decode cX4_accepts 84 = .ok (.iconst 3, 1) := by decide +kernel
theorem dX4_accepts_85 : decode cX4_accepts 85 = .ok (.invokevirtual 35, 3) := by decide +kernel
theorem dX4_accepts_88 : decode cX4_accepts 88 = .ok (.ifCond .eq 7, 3) := by decide +kernel
theorem dX4_accepts_91 : decode cX4_accepts 91 = .ok (.iconst 1, 1) := by decide +kernel
theorem dX4_accepts_92 : decode cX4_accepts 92 = .ok (.goto 4, 3) := by decide +kernel
theorem dX4_accepts_95 : decode cX4_accepts 95 = .ok (.iconst 0, 1) := by decide +kernel
theorem dX4_accepts_96 : decode cX4_accepts 96 = .ok (.ireturn, 1) := by decide +kernel
theorem dX4_accepts_97 : decode cX4_accepts 97 = .ok (.aload_n 0, 1) := by decide +kernel
theorem dX4_accepts_98 : decode cX4_accepts 98 = .ok (.iload_n 1, 1) := by decide +kernel
theorem dX4_accepts_99 : decode cX4_accepts 99 = .ok (.iconst 4, 1) := by decide +kernel
theorem dX4_accepts_100 : decode cX4_accepts 100 = .ok (.invokevirtual 35, 3) := by decide +kernel
theorem dX4_accepts_103 : decode cX4_accepts 103 = .ok (.ifCond .ne 11, 3) := by decide +kernel
theorem dX4_accepts_106 : decode cX4_accepts 106 = .ok (.aload_n 0, 1) := by decide +kernel
theorem dX4_accepts_107 : decode cX4_accepts 107 = .ok (.iload_n 1, 1) := by decide +kernel
theorem dX4_accepts_108 : decode cX4_accepts 108 = .ok (.invokevirtual 39, 3) := by decide +kernel
theorem dX4_accepts_111 : decode cX4_accepts 111 = .ok (.ifCond .eq 7, 3) := by decide +kernel
theorem dX4_accepts_114 : decode cX4_accepts 114 = .ok (.iconst 1, 1) := by decide +kernel
theorem dX4_accepts_115 : decode cX4_accepts 115 = .ok (.goto 4, 3) := by decide +kernel
theorem dX4_accepts_118 : decode cX4_accepts 118 = .ok (.iconst 0, 1) := by decide +kernel
theorem dX4_accepts_119 : decode cX4_accepts 119 = .ok (.ireturn, 1) := by decide +kernel
theorem dX4_accepts_120 : decode cX4_accepts 120 = .ok (.aload_n 0, 1) := by decide +kernel
theorem dX4_accepts_121 : decode cX4_accepts 121 = .ok (.iload_n 1, 1) := by decide +kernel
theorem dX4_accepts_122 : decode cX4_accepts 122 = .ok (.invokevirtual 39, 3) := by decide +kernel
theorem dX4_accepts_125 : decode cX4_accepts 125 = .ok (.ireturn, 1) := by decide +kernel
theorem dX4_acceptsLetter_0 : decode cX4_acceptsLetter 0 = .ok (.iload_n 1, 1) := by decide +kernel
theorem dX4_acceptsLetter_1 : decode cX4_acceptsLetter 1 = .ok (.lookupswitch 93 #[(98, 59), (101, 67), (104, 51), (115, 76), (119, 85)], 51) := by decide +kernel
theorem dX4_acceptsLetter_52 : decode cX4_acceptsLetter 52 = .ok (.aload_n 0, 1) := by decide +kernel
theorem dX4_acceptsLetter_53 : decode cX4_acceptsLetter 53 = .ok (.iconst 1, 1) := by decide +kernel
theorem dX4_acceptsLetter_54 : decode cX4_acceptsLetter 54 = .ok (.putfield 42, 3) := by decide +kernel
theorem dX4_acceptsLetter_57 : decode cX4_acceptsLetter 57 = .ok (.goto 39, 3) := by decide +kernel
theorem dX4_acceptsLetter_60 : decode cX4_acceptsLetter 60 = .ok (.aload_n 0, 1) := by decide +kernel
theorem dX4_acceptsLetter_61 : decode cX4_acceptsLetter 61 = .ok (.iconst 4, 1) := by decide +kernel
theorem dX4_acceptsLetter_62 : decode cX4_acceptsLetter 62 = .ok (.putfield 42, 3) := by decide +kernel
theorem dX4_acceptsLetter_65 : decode cX4_acceptsLetter 65 = .ok (.goto 31, 3) := by decide +kernel
theorem dX4_acceptsLetter_68 : decode cX4_acceptsLetter 68 = .ok (.aload_n 0, 1) := by decide +kernel
theorem dX4_acceptsLetter_69 : decode cX4_acceptsLetter 69 = .ok (.bipush 16, 2) := by decide +kernel
theorem dX4_acceptsLetter_71 : decode cX4_acceptsLetter 71 = .ok (.putfield 42, 3) := by decide +kernel
theorem dX4_acceptsLetter_74 : decode cX4_acceptsLetter 74 = .ok (.goto 22, 3) := by decide +kernel
theorem dX4_acceptsLetter_77 : decode cX4_acceptsLetter 77 = .ok (.aload_n 0, 1) := by decide +kernel
theorem dX4_acceptsLetter_78 : decode cX4_acceptsLetter 78 = .ok (.bipush 64, 2) := by decide +kernel
theorem dX4_acceptsLetter_80 : decode cX4_acceptsLetter 80 = .ok (.putfield 42, 3) := by decide +kernel
theorem dX4_acceptsLetter_83 : decode cX4_acceptsLetter 83 = .ok (.goto 13, 3) := by decide +kernel
theorem dX4_acceptsLetter_86 : decode cX4_acceptsLetter 86 = .ok (.aload_n 0, 1) := by decide +kernel
theorem dX4_acceptsLetter_87 : decode cX4_acceptsLetter 87 = .ok (.iconst 0, 1) := by decide +kernel
theorem dX4_acceptsLetter_88 : decode cX4_acceptsLetter 88 = .ok (.putfield 42, 3) := by decide +kernel
theorem dX4_acceptsLetter_91 : decode cX4_acceptsLetter 91 = .ok (.goto 5, 3) := by decide +kernel
theorem dX4_acceptsLetter_94 : decode cX4_acceptsLetter 94 = .ok (.iconst 0, 1) := by decide +kernel
theorem dX4_acceptsLetter_95 : decode cX4_acceptsLetter 95 = .ok (.ireturn, 1) := by decide +kernel
theorem dX4_acceptsLetter_96 : decode cX4_acceptsLetter 96 = .ok (.aload_n 0, 1) := by decide +kernel
theorem dX4_acceptsLetter_97 : decode cX4_acceptsLetter 97 = .ok (.iconst 0, 1) := by decide +kernel
theorem dX4_acceptsLetter_98 : decode cX4_acceptsLetter 98 = .ok (.putfield 45, 3) := by decide +kernel
theorem dX4_acceptsLetter_101 : decode cX4_acceptsLetter 101 = .ok (.aload_n 0, 1) := by decide +kernel
theorem dX4_acceptsLetter_102 : decode cX4_acceptsLetter 102 = .ok (.iload_n 1, 1) := by decide +kernel
theorem dX4_acceptsLetter_103 : decode cX4_acceptsLetter 103 = .ok (.bipush 119, 2) := by decide +kernel
theorem dX4_acceptsLetter_105 : decode cX4_acceptsLetter 105 = .ok (.if_icmp .ne 7, 3) := by decide +kernel
theorem dX4_acceptsLetter_108 : decode cX4_acceptsLetter 108 = .ok (.iconst 2, 1) := by decide +kernel
theorem dX4_acceptsLetter_109 : decode cX4_acceptsLetter 109 = .ok (.goto 4, 3) := by decide +kernel
theorem dX4_acceptsLetter_112 : decode cX4_acceptsLetter 112 = .ok (.iconst 1, 1) := by decide +kernel
theorem dX4_acceptsLetter_113 : decode cX4_acceptsLetter 113 = .ok (.putfield 22, 3) := by decide +kernel
theorem dX4_acceptsLetter_116 : decode cX4_acceptsLetter 116 = .ok (.iconst 1, 1) := by decide +kernel
theorem dX4_acceptsLetter_117 : decode cX4_acceptsLetter 117 = .ok (.ireturn, 1) := by decide +kernel
theorem dX4_acceptsSign_0 : decode cX4_acceptsSign 0 = .ok (.iload_n 1, 1) := by decide +kernel
theorem dX4_acceptsSign_1 : decode cX4_acceptsSign 1 = .ok (.bipush 43, 2) := by decide +kernel
theorem dX4_acceptsSign_3 : decode cX4_acceptsSign 3 = .ok (.if_icmp .eq 11, 3) := by decide +kernel
theorem dX4_acceptsSign_6 : decode cX4_acceptsSign 6 = .ok (.iload_n 1, 1) := by decide +kernel
theorem dX4_acceptsSign_7 : decode cX4_acceptsSign 7 = .ok (.bipush 45, 2) := by decide +kernel
theorem dX4_acceptsSign_9 : decode cX4_acceptsSign 9 = .ok (.if_icmp .eq 5, 3) := by decide +kernel
theorem dX4_acceptsSign_12 : decode cX4_acceptsSign 12 = .ok (.iconst 0, 1) := by decide +kernel
theorem dX4_acceptsSign_13 : decode cX4_acceptsSign 13 = .ok (.ireturn, 1) := by decide +kernel
theorem dX4_acceptsSign_14 : decode cX4_acceptsSign 14 = .ok (.iload_n 1, 1) := by decide +kernel
theorem dX4_acceptsSign_15 : decode cX4_acceptsSign 15 = .ok (.bipush 45, 2) := by decide +kernel
theorem dX4_acceptsSign_17 : decode cX4_acceptsSign 17 = .ok (.if_icmp .ne 13, 3) := by decide +kernel
theorem dX4_acceptsSign_20 : decode cX4_acceptsSign 20 = .ok (.aload_n 0, 1) := by decide +kernel
theorem dX4_acceptsSign_21 : decode cX4_acceptsSign 21 = .ok (.dup, 1) := by decide +kernel
theorem dX4_acceptsSign_22 : decode cX4_acceptsSign 22 = .ok (.getfield 42, 3) := by decide +kernel
theorem dX4_acceptsSign_25 : decode cX4_acceptsSign 25 = .ok (.iconst 1, 1) := by decide +kernel
theorem dX4_acceptsSign_26 : decode cX4_acceptsSign 26 = .ok (.ishl, 1) := by decide +kernel
theorem dX4_acceptsSign_27 : decode cX4_acceptsSign 27 = .ok (.putfield 42, 3) := by decide +kernel
theorem dX4_acceptsSign_30 : decode cX4_acceptsSign 30 = .ok (.aload_n 0, 1) := by decide +kernel
theorem dX4_acceptsSign_31 : decode cX4_acceptsSign 31 = .ok (.iconst 2, 1) := by decide +kernel
theorem dX4_acceptsSign_32 : decode cX4_acceptsSign 32 = .ok (.putfield 22, 3) := by decide +kernel
theorem dX4_acceptsSign_35 : decode cX4_acceptsSign 35 = .ok (.iconst 1, 1) := by decide +kernel
theorem dX4_acceptsSign_36 : decode cX4_acceptsSign 36 = .ok (.ireturn, 1) := by decide +kernel
theorem dX4_acceptsDigit_0 : decode cX4_acceptsDigit 0 = .ok (.iload_n 1, 1) := by decide +kernel
theorem dX4_acceptsDigit_1 : decode cX4_acceptsDigit 1 = .ok (.bipush 48, 2) := by decide +kernel
theorem dX4_acceptsDigit_3 : decode cX4_acceptsDigit 3 = .ok (.if_icmp .lt 9, 3) := by decide +kernel
theorem dX4_acceptsDigit_6 : decode cX4_acceptsDigit 6 = .ok (.iload_n 1, 1) := by decide +kernel
theorem dX4_acceptsDigit_7 : decode cX4_acceptsDigit 7 = .ok (.bipush 57, 2) := by decide +kernel
theorem dX4_acceptsDigit_9 : decode cX4_acceptsDigit 9 = .ok (.if_icmp .le 5, 3) := by decide +kernel
theorem dX4_acceptsDigit_12 : decode cX4_acceptsDigit 12 = .ok (.iconst 0, 1) := by decide +kernel
theorem dX4_acceptsDigit_13 : decode cX4_acceptsDigit 13 = .ok (.ireturn, 1) := by decide +kernel
theorem dX4_acceptsDigit_14 : decode cX4_acceptsDigit 14 = .ok (.aload_n 0, 1) := by decide +kernel
theorem dX4_acceptsDigit_15 : decode cX4_acceptsDigit 15 = .ok (.aload_n 0, 1) := by decide +kernel
theorem dX4_acceptsDigit_16 : decode cX4_acceptsDigit 16 = .ok (.getfield 45, 3) := by decide +kernel
theorem dX4_acceptsDigit_19 : decode cX4_acceptsDigit 19 = .ok (.bipush 10, 2) := by decide +kernel
theorem dX4_acceptsDigit_21 : decode cX4_acceptsDigit 21 = .ok (.imul, 1) := by decide +kernel
theorem dX4_acceptsDigit_22 : decode cX4_acceptsDigit 22 = .ok (.iload_n 1, 1) := by decide +kernel
theorem dX4_acceptsDigit_23 : decode cX4_acceptsDigit 23 = .ok (.bipush 48, 2) := by decide +kernel
theorem dX4_acceptsDigit_25 : decode cX4_acceptsDigit 25 = .ok (.isub, 1) := by decide +kernel
theorem dX4_acceptsDigit_26 : decode cX4_acceptsDigit 26 = .ok (.iadd, 1) := by decide +kernel
theorem dX4_acceptsDigit_27 : decode cX4_acceptsDigit 27 = .ok (.putfield 45, 3) := by decide +kernel
theorem dX4_acceptsDigit_30 : decode cX4_acceptsDigit 30 = .ok (.aload_n 0, 1) := by decide +kernel
theorem dX4_acceptsDigit_31 : decode cX4_acceptsDigit 31 = .ok (.iload_n 2, 1) := by decide +kernel
theorem dX4_acceptsDigit_32 : decode cX4_acceptsDigit 32 = .ok (.putfield 22, 3) := by decide +kernel
theorem dX4_acceptsDigit_35 : decode cX4_acceptsDigit 35 = .ok (.iconst 1, 1) := by decide +kernel
theorem dX4_acceptsDigit_36 : decode cX4_acceptsDigit 36 = .ok (.ireturn, 1) := by decide +kernel
set_option maxRecDepth 20000 in
theorem ggX4_acceptsBehindNumber_X4_keepOrder : GoodIn wsX4_acceptsBehindNumber wsX4_keepOrder := goodIn_r _ [7, 8, 9, 10, 11, 1, 2, 12, 13, 14, 15, 16, 17] (by decide +kernel) (by decide +kernel)
set_option maxRecDepth 20000 in
theorem gX4_acceptsBehindNumber_X4_keepOrder : GoodIn wsX4_acceptsBehindNumber (wsV RX4 48 RX4 yX4_keepOrder wsX4_keepOrder) := goodIn_app (goodIn_of _ (by decide +kernel)) ggX4_acceptsBehindNumber_X4_keepOrder
theorem dX4_acceptsBehindNumber_0 : decode cX4_acceptsBehindNumber 0 = .ok (.aload_n 0, 1) := by decide +kernel
theorem dX4_acceptsBehindNumber_1 : decode cX4_acceptsBehindNumber 1 = .ok (.getfield 45, 3) := by decide +kernel
theorem dX4_acceptsBehindNumber_4 : decode cX4_acceptsBehindNumber 4 = .ok (.ifCond .ne 5, 3) := by decide +kernel
theorem dX4_acceptsBehindNumber_7 : decode cX4_acceptsBehindNumber 7 = .ok (.iconst 0, 1) := by decide +kernel
theorem dX4_acceptsBehindNumber_8 : decode cX4_acceptsBehindNumber 8 = .ok (.ireturn, 1) := by decide +kernel
theorem dX4_acceptsBehindNumber_9 : decode cX4_acceptsBehindNumber 9 = .ok (.iload_n 1, 1) := by decide +kernel
theorem dX4_acceptsBehindNumber_10 : decode cX4_acceptsBehindNumber 10 = .ok (.bipush 32, 2) := by decide +kernel
theorem dX4_acceptsBehindNumber_12 : decode cX4_acceptsBehindNumber 12 = .ok (.if_icmp .ne 10, 3) := by decide +kernel
theorem dX4_acceptsBehindNumber_15 : decode cX4_acceptsBehindNumber 15 = .ok (.aload_n 0, 1) := by decide +kernel
theorem dX4_acceptsBehindNumber_16 : decode cX4_acceptsBehindNumber 16 = .ok (.iconst 4, 1) := by decide +kernel
theorem dX4_acceptsBehindNumber_17 : decode cX4_acceptsBehindNumber 17 = .ok (.putfield 22, 3) := by decide +kernel
theorem dX4_acceptsBehindNumber_20 : decode cX4_acceptsBehindNumber 20 = .ok (.iconst 1, 1) := by decide +kernel
theorem dX4_acceptsBehindNumber_21 : decode cX4_acceptsBehindNumber 21 = .ok (.ireturn, 1) := by decide +kernel
theorem dX4_acceptsBehindNumber_22 : decode cX4_acceptsBehindNumber 22 = .ok (.iload_n 1, 1) := by decide +kernel
theorem dX4_acceptsBehindNumber_23 : decode cX4_acceptsBehindNumber 23 = .ok (.bipush 59, 2) := by decide +kernel
theorem dX4_acceptsBehindNumber_25 : decode cX4_acceptsBehindNumber 25 = .ok (.if_icmp .ne 14, 3) := by decide +kernel
theorem dX4_acceptsBehindNumber_28 : decode cX4_acceptsBehindNumber 28 = .ok (.aload_n 0, 1) := by decide +kernel
theorem dX4_acceptsBehindNumber_29 : decode cX4_acceptsBehindNumber 29 = .ok (.invokevirtual 48, 3) := by decide +kernel
theorem dX4_acceptsBehindNumber_32 : decode cX4_acceptsBehindNumber 32 = .ok (.ifCond .eq 7, 3) := by decide +kernel
theorem dX4_acceptsBehindNumber_35 : decode cX4_acceptsBehindNumber 35 = .ok (.iconst 1, 1) := by decide +kernel
theorem dX4_acceptsBehindNumber_36 : decode cX4_acceptsBehindNumber 36 = .ok (.goto 4, 3) := by decide +kernel
theorem dX4_acceptsBehindNumber_39 : decode cX4_acceptsBehindNumber 39 = .ok (.iconst 0, 1) := by decide +kernel
theorem dX4_acceptsBehindNumber_40 : decode cX4_acceptsBehindNumber 40 = .ok (.ireturn, 1) := by decide +kernel
theorem dX4_keepOrder_0 : decode cX4_keepOrder 0 = .ok (.aload_n 0, 1) := by decide +kernel
theorem dX4_keepOrder_1 : decode cX4_keepOrder 1 = .ok (.getfield 18, 3) := by decide +kernel
theorem dX4_keepOrder_4 : decode cX4_keepOrder 4 = .ok (.ifCond .lt 12, 3) := by decide +kernel
theorem dX4_keepOrder_7 : decode cX4_keepOrder 7 = .ok (.aload_n 0, 1) := by decide +kernel
theorem dX4_keepOrder_8 : decode cX4_keepOrder 8 = .ok (.getfield 18, 3) := by decide +kernel
theorem dX4_keepOrder_11 : decode cX4_keepOrder 11 = .ok (.bipush 26, 2) := by decide +kernel
theorem dX4_keepOrder_13 : decode cX4_keepOrder 13 = .ok (.if_icmp .lt 5, 3) := by decide +kernel
theorem dX4_keepOrder_16 : decode cX4_keepOrder 16 = .ok (.iconst 0, 1) := by decide +kernel
theorem dX4_keepOrder_17 : decode cX4_keepOrder 17 = .ok (.ireturn, 1) := by decide +kernel
theorem dX4_keepOrder_18 : decode cX4_keepOrder 18 = .ok (.aload_n 0, 1) := by decide +kernel
theorem dX4_keepOrder_19 : decode cX4_keepOrder 19 = .ok (.getfield 11, 3) := by decide +kernel
theorem dX4_keepOrder_22 : decode cX4_keepOrder 22 = .ok (.aload_n 0, 1) := by decide +kernel
theorem dX4_keepOrder_23 : decode cX4_keepOrder 23 = .ok (.getfield 18, 3) := by decide +kernel
theorem dX4_keepOrder_26 : decode cX4_keepOrder 26 = .ok (.aload_n 0, 1) := by decide +kernel
theorem dX4_keepOrder_27 : decode cX4_keepOrder 27 = .ok (.getfield 42, 3) := by decide +kernel
theorem dX4_keepOrder_30 : decode cX4_keepOrder 30 = .ok (.iastore, 1) := by decide +kernel
theorem dX4_keepOrder_31 : decode cX4_keepOrder 31 = .ok (.aload_n 0, 1) := by decide +kernel
theorem dX4_keepOrder_32 : decode cX4_keepOrder 32 = .ok (.getfield 15, 3) := by decide +kernel
theorem dX4_keepOrder_35 : decode cX4_keepOrder 35 = .ok (.aload_n 0, 1) := by decide +kernel
theorem dX4_keepOrder_36 : decode cX4_keepOrder 36 = .ok (.getfield 18, 3) := by decide +kernel
theorem dX4_keepOrder_39 : decode cX4_keepOrder 39 = .ok (.aload_n 0, 1) := by decide +kernel
theorem dX4_keepOrder_40 : decode cX4_keepOrder 40 = .ok (.getfield 45, 3) := by decide +kernel
theorem dX4_keepOrder_43 : decode cX4_keepOrder 43 = .ok (.iastore, 1) := by decide +kernel
theorem dX4_keepOrder_44 : decode cX4_keepOrder 44 = .ok (.aload_n 0, 1) := by decide +kernel
theorem dX4_keepOrder_45 : decode cX4_keepOrder 45 = .ok (.dup, 1) := by decide +kernel
theorem dX4_keepOrder_46 : decode cX4_keepOrder 46 = .ok (.getfield 18, 3) := by decide +kernel
theorem dX4_keepOrder_49 : decode cX4_keepOrder 49 = .ok (.iconst 1, 1) := by decide +kernel
theorem dX4_keepOrder_50 : decode cX4_keepOrder 50 = .ok (.iadd, 1) := by decide +kernel
theorem dX4_keepOrder_51 : decode cX4_keepOrder 51 = .ok (.putfield 18, 3) := by decide +kernel
theorem dX4_keepOrder_54 : decode cX4_keepOrder 54 = .ok (.aload_n 0, 1) := by decide +kernel
theorem dX4_keepOrder_55 : decode cX4_keepOrder 55 = .ok (.iconst 0, 1) := by decide +kernel
theorem dX4_keepOrder_56 : decode cX4_keepOrder 56 = .ok (.putfield 22, 3) := by decide +kernel
theorem dX4_keepOrder_59 : decode cX4_keepOrder 59 = .ok (.iconst 1, 1) := by decide +kernel
theorem dX4_keepOrder_60 : decode cX4_keepOrder 60 = .ok (.ireturn, 1) := by decide +kernel
set_option maxRecDepth 20000 in
theorem ggX5_init_X0_init : GoodIn wsX5_init wsX0_init := goodIn_r _ [25, 26, 2, 3, 27, 28, 29, 53, 54, 55, 56, 57, 58, 59] (by decide +kernel) (by decide +kernel)
set_option maxRecDepth 20000 in
theorem gX5_init_X0_init_n11 : GoodIn wsX5_init (wsX0_init) := ggX5_init_X0_init
set_option maxRecDepth 20000 in
theorem ggX5_init_X1_init : GoodIn wsX5_init wsX1_init := goodIn_r _ [31, 32, 2, 3, 33, 34, 35, 36, 69, 70, 71, 72] (by decide +kernel) (by decide +kernel)
set_option maxRecDepth 20000 in
theorem gX5_init_X1_init_n20 : GoodIn wsX5_init (wsX1_init) := ggX5_init_X1_init
set_option maxRecDepth 20000 in
theorem ggX5_init_X7_init : GoodIn wsX5_init wsX7_init := goodIn_r _ [38, 39, 2, 3, 33, 40, 73, 74] (by decide +kernel) (by decide +kernel)
set_option maxRecDepth 20000 in
theorem gX5_init_X7_init_n27 : GoodIn wsX5_init (wsX7_init) := ggX5_init_X7_init
set_option maxRecDepth 20000 in
theorem ggX5_init_X3_init : GoodIn wsX5_init wsX3_init := goodIn_r _ [42, 43, 2, 3, 33, 44, 45, 46, 75, 76, 77, 78, 79] (by decide +kernel) (by decide +kernel)
set_option maxRecDepth 20000 in
theorem gX5_init_X3_init_n34 : GoodIn wsX5_init (wsX3_init) := ggX5_init_X3_init
set_option maxRecDepth 20000 in
theorem ggX5_init_X6_init : GoodIn wsX5_init wsX6_init := goodIn_r _ [48, 49, 2, 3, 33, 50, 51, 52, 80, 81, 82] (by decide +kernel) (by decide +kernel)
set_option maxRecDepth 20000 in
theorem gX5_init_X6_init_n41 : GoodIn wsX5_init (wsX6_init) := ggX5_init_X6_init
theorem dX5_init_0 : decode cX5_init 0 = .ok (.aload_n 0, 1) := by decide +kernel
theorem dX5_init_1 : decode cX5_init 1 = .ok (.invokespecial 3, 3) := by decide +kernel
theorem dX5_init_4 : decode cX5_init 4 = .ok (.aload_n 0, 1) := by decide +kernel
theorem dX5_init_5 : decode cX5_init 5 = .ok (.new 9, 3) := by decide +kernel
theorem dX5_init_8 : decode cX5_init 8 = .ok (.dup, 1) := by decide +kernel
theorem dX5_init_9 : decode cX5_init 9 = .ok (.invokespecial 11, 3) := by decide +kernel
theorem dX5_init_12 : decode cX5_init 12 = .ok (.putfield 12, 3) := by decide +kernel
theorem dX5_init_15 : decode cX5_init 15 = .ok (.aload_n 0, 1) := by decide +kernel
theorem dX5_init_16 : decode cX5_init 16 = .ok (.new 18, 3) := by decide +kernel
theorem dX5_init_19 : decode cX5_init 19 = .ok (.dup, 1) := by decide +kernel
theorem dX5_init_20 : decode cX5_init 20 = .ok (.invokespecial 20, 3) := by decide +kernel
theorem dX5_init_23 : decode cX5_init 23 = .ok (.putfield 21, 3) := by decide +kernel
theorem dX5_init_26 : decode cX5_init 26 = .ok (.aload_n 0, 1) := by decide +kernel
theorem dX5_init_27 : decode cX5_init 27 = .ok (.new 25, 3) := by decide +kernel
theorem dX5_init_30 : decode cX5_init 30 = .ok (.dup, 1) := by decide +kernel
theorem dX5_init_31 : decode cX5_init 31 = .ok (.invokespecial 27, 3) := by decide +kernel
theorem dX5_init_34 : decode cX5_init 34 = .ok (.putfield 28, 3) := by decide +kernel
theorem dX5_init_37 : decode cX5_init 37 = .ok (.aload_n 0, 1) := by decide +kernel
theorem dX5_init_38 : decode cX5_init 38 = .ok (.new 32, 3) := by decide +kernel
theorem dX5_init_41 : decode cX5_init 41 = .ok (.dup, 1) := by decide +kernel
theorem dX5_init_42 : decode cX5_init 42 = .ok (.invokespecial 34, 3) := by decide +kernel
theorem dX5_init_45 : decode cX5_init 45 = .ok (.putfield 35, 3) := by decide +kernel
theorem dX5_init_48 : decode cX5_init 48 = .ok (.aload_n 0, 1) := by decide +kernel
theorem dX5_init_49 : decode cX5_init 49 = .ok (.new 39, 3) := by decide +kernel
theorem dX5_init_52 : decode cX5_init 52 = .ok (.dup, 1) := by decide +kernel
theorem dX5_init_53 : decode cX5_init 53 = .ok (.invokespecial 41, 3) := by decide +kernel
theorem dX5_init_56 : decode cX5_init 56 = .ok (.putfield 42, 3) := by decide +kernel
theorem dX5_init_59 : decode cX5_init 59 = .ok (.return_, 1) := by decide +kernel
set_option maxRecDepth 20000 in
theorem ggX5_copyFrom_X0_copyFrom : GoodIn wsX5_copyFrom wsX0_copyFrom := goodIn_r _ [14, 15, 16, 17, 18, 19, 20, 21, 72, 73, 74, 75, 76, 77, 78] (by decide +kernel) (by decide +kernel)
set_option maxRecDepth 20000 in
theorem gX5_copyFrom_X0_copyFrom : GoodIn wsX5_copyFrom (wsV RX5 46 RX0 yX0_copyFrom wsX0_copyFrom) := goodIn_app (goodIn_of _ (by decide +kernel)) ggX5_copyFrom_X0_copyFrom
set_option maxRecDepth 20000 in
theorem ggX5_copyFrom_X1_copyFrom : GoodIn wsX5_copyFrom wsX1_copyFrom := goodIn_r _ [26, 27, 28, 29, 30, 31, 32, 33, 34, 79, 80, 81, 82] (by decide +kernel) (by decide +kernel)
set_option maxRecDepth 20000 in
theorem gX5_copyFrom_X1_copyFrom : GoodIn wsX5_copyFrom (wsV RX5 50 RX1 yX1_copyFrom wsX1_copyFrom) := goodIn_app (goodIn_of _ (by decide +kernel)) ggX5_copyFrom_X1_copyFrom
set_option maxRecDepth 20000 in
theorem ggX5_copyFrom_X7_copyFrom : GoodIn wsX5_copyFrom wsX7_copyFrom := goodIn_r _ [39, 40, 41, 29, 30, 31, 42, 83, 84] (by decide +kernel) (by decide +kernel)
set_option maxRecDepth 20000 in
theorem gX5_copyFrom_X7_copyFrom : GoodIn wsX5_copyFrom (wsV RX5 53 RX7 yX7_copyFrom wsX7_copyFrom) := goodIn_app (goodIn_of _ (by decide +kernel)) ggX5_copyFrom_X7_copyFrom
set_option maxRecDepth 20000 in
theorem ggX5_copyFrom_X3_copyFrom : GoodIn wsX5_copyFrom wsX3_copyFrom := goodIn_r _ [47, 48, 49, 29, 30, 31, 50, 51, 52, 53, 85, 86, 87, 88, 89] (by decide +kernel) (by decide +kernel)
set_option maxRecDepth 20000 in
theorem gX5_copyFrom_X3_copyFrom : GoodIn wsX5_copyFrom (wsV RX5 56 RX3 yX3_copyFrom wsX3_copyFrom) := goodIn_app (goodIn_of _ (by decide +kernel)) ggX5_copyFrom_X3_copyFrom
set_option maxRecDepth 20000 in
theorem ggX5_copyFrom_X6_copyFrom : GoodIn wsX5_copyFrom wsX6_copyFrom := goodIn_r _ [58, 59, 60, 29, 30, 31, 61, 62, 90, 91, 92] (by decide +kernel) (by decide +kernel)
set_option maxRecDepth 20000 in
theorem gX5_copyFrom_X6_copyFrom : GoodIn wsX5_copyFrom (wsV RX5 59 RX6 yX6_copyFrom wsX6_copyFrom) := goodIn_app (goodIn_of _ (by decide +kernel)) ggX5_copyFrom_X6_copyFrom
theorem dX5_copyFrom_0 : decode cX5_copyFrom 0 = .ok (.aload_n 0, 1) := by decide +kernel
theorem dX5_copyFrom_1 : decode cX5_copyFrom 1 = .ok (.getfield 12, 3) := by decide +kernel
theorem dX5_copyFrom_4 : decode cX5_copyFrom 4 = .ok (.aload_n 1, 1) := by decide +kernel
theorem dX5_copyFrom_5 : decode cX5_copyFrom 5 = .ok (.getfield 12, 3) := by decide +kernel
theorem dX5_copyFrom_8 : decode cX5_copyFrom 8 = .ok (.invokevirtual 46, 3) := by decide +kernel
theorem dX5_copyFrom_11 : decode cX5_copyFrom 11 = .ok (.aload_n 0, 1) := by decide +kernel
theorem dX5_copyFrom_12 : decode cX5_copyFrom 12 = .ok (.getfield 21, 3) := by decide +kernel
theorem dX5_copyFrom_15 : decode cX5_copyFrom 15 = .ok (.aload_n 1, 1) := by decide +kernel
theorem dX5_copyFrom_16 : decode cX5_copyFrom 16 = .ok (.getfield 21, 3) := by decide +kernel
theorem dX5_copyFrom_19 : decode cX5_copyFrom 19 = .ok (.invokevirtual 50, 3) := by decide +kernel
theorem dX5_copyFrom_22 : decode cX5_copyFrom 22 = .ok (.aload_n 0, 1) := by decide +kernel
theorem dX5_copyFrom_23 : decode cX5_copyFrom 23 = .ok (.getfield 28, 3) := by decide +kernel
theorem dX5_copyFrom_26 : decode cX5_copyFrom 26 = .ok (.aload_n 1, 1) := by decide +kernel
theorem dX5_copyFrom_27 : decode cX5_copyFrom 27 = .ok (.getfield 28, 3) := by decide +kernel
theorem dX5_copyFrom_30 : decode cX5_copyFrom 30 = .ok (.invokevirtual 53, 3) := by decide +kernel
theorem dX5_copyFrom_33 : decode cX5_copyFrom 33 = .ok (.aload_n 0, 1) := by decide +kernel
theorem dX5_copyFrom_34 : decode cX5_copyFrom 34 = .ok (.getfield 35, 3) := by decide +kernel
theorem dX5_copyFrom_37 : decode cX5_copyFrom 37 = .ok (.aload_n 1, 1) := by decide +kernel
theorem dX5_copyFrom_38 : decode cX5_copyFrom 38 = .ok (.getfield 35, 3) := by decide +kernel
theorem dX5_copyFrom_41 : decode cX5_copyFrom 41 = .ok (.invokevirtual 56, 3) := by decide +kernel
theorem dX5_copyFrom_44 : decode cX5_copyFrom 44 = .ok (.aload_n 0, 1) := by decide +kernel
theorem dX5_copyFrom_45 : decode cX5_copyFrom 45 = .ok (.getfield 42, 3) := by decide +kernel
theorem dX5_copyFrom_48 : decode cX5_copyFrom 48 = .ok (.aload_n 1, 1) := by decide +kernel
theorem dX5_copyFrom_49 : decode cX5_copyFrom 49 = .ok (.getfield 42, 3) := by decide +kernel
theorem dX5_copyFrom_52 : decode cX5_copyFrom 52 = .ok (.invokevirtual 59, 3) := by decide +kernel
theorem dX5_copyFrom_55 : decode cX5_copyFrom 55 = .ok (.aload_n 0, 1) := by decide +kernel
theorem dX5_copyFrom_56 : decode cX5_copyFrom 56 = .ok (.aload_n 1, 1) := by decide +kernel
theorem dX5_copyFrom_57 : decode cX5_copyFrom 57 = .ok (.getfield 62, 3) := by decide +kernel
theorem dX5_copyFrom_60 : decode cX5_copyFrom 60 = .ok (.putfield 62, 3) := by decide +kernel
theorem dX5_copyFrom_63 : decode cX5_copyFrom 63 = .ok (.aload_n 0, 1) := by decide +kernel
theorem dX5_copyFrom_64 : decode cX5_copyFrom 64 = .ok (.aload_n 1, 1) := by decide +kernel
theorem dX5_copyFrom_65 : decode cX5_copyFrom 65 = .ok (.getfield 66, 3) := by decide +kernel
theorem dX5_copyFrom_68 : decode cX5_copyFrom 68 = .ok (.putfield 66, 3) := by decide +kernel
theorem dX5_copyFrom_71 : decode cX5_copyFrom 71 = .ok (.aload_n 0, 1) := by decide +kernel
theorem dX5_copyFrom_72 : decode cX5_copyFrom 72 = .ok (.aload_n 1, 1) := by decide +kernel
theorem dX5_copyFrom_73 : decode cX5_copyFrom 73 = .ok (.getfield 69, 3) := by decide +kernel
theorem dX5_copyFrom_76 : decode cX5_copyFrom 76 = .ok (.putfield 69, 3) := by decide +kernel
theorem dX5_copyFrom_79 : decode cX5_copyFrom 79 = .ok (.aload_n 0, 1) := by decide +kernel
theorem dX5_copyFrom_80 : decode cX5_copyFrom 80 = .ok (.aload_n 1, 1) := by decide +kernel
theorem dX5_copyFrom_81 : decode cX5_copyFrom 81 = .ok (.getfield 72, 3) := by decide +kernel
theorem dX5_copyFrom_84 : decode cX5_copyFrom 84 = .ok (.putfield 72, 3) := by decide +kernel
theorem dX5_copyFrom_87 : decode cX5_copyFrom 87 = .ok (.return_, 1) := by decide +kernel
set_option maxRecDepth 20000 in
theorem ggX5_countTick_X6_countState : GoodIn wsX5_countTick wsX6_countState := goodIn_r _ [11, 12, 64, 65, 66] (by decide +kernel) (by decide +kernel)
set_option maxRecDepth 20000 in
theorem gX5_countTick_X6_countState : GoodIn wsX5_countTick (wsV RX5 75 RX6 yX6_countState wsX6_countState) := goodIn_app (goodIn_of _ (by decide +kernel)) ggX5_countTick_X6_countState
set_option maxRecDepth 20000 in
theorem ggX5_countTick_X6_beginLift : GoodIn wsX5_countTick wsX6_beginLift := goodIn_r _ [16, 17, 64, 65, 66] (by decide +kernel) (by decide +kernel)
set_option maxRecDepth 20000 in
theorem gX5_countTick_X6_beginLift : GoodIn wsX5_countTick (wsV RX5 82 RX6 yX6_beginLift wsX6_beginLift) := goodIn_app (goodIn_of _ (by decide +kernel)) ggX5_countTick_X6_beginLift
set_option maxRecDepth 20000 in
theorem ggX5_countTick_X6_followLift : GoodIn wsX5_countTick wsX6_followLift := goodIn_r _ [21, 17, 22, 23, 24, 25, 26, 27, 28, 29, 64, 65, 66] (by decide +kernel) (by decide +kernel)
set_option maxRecDepth 20000 in
theorem gX5_countTick_X6_followLift : GoodIn wsX5_countTick (wsV RX5 85 RX6 yX6_followLift wsX6_followLift) := goodIn_app (goodIn_of _ (by decide +kernel)) ggX5_countTick_X6_followLift
set_option maxRecDepth 20000 in
theorem ggX5_countTick_X3_add : GoodIn wsX5_countTick wsX3_add := goodIn_r _ [34, 35, 36, 37, 38, 39, 40, 41, 42, 33, 43, 44, 45, 46, 47, 67, 68, 69, 70, 71] (by decide +kernel) (by decide +kernel)
set_option maxRecDepth 20000 in
theorem gX5_countTick_X3_add : GoodIn wsX5_countTick (wsV RX5 89 RX3 yX3_add wsX3_add) := goodIn_app (goodIn_of _ (by decide +kernel)) ggX5_countTick_X3_add
theorem dX5_countTick_0 : decode cX5_countTick 0 = .ok (.aload_n 0, 1) := by decide +kernel
theorem dX5_countTick_1 : decode cX5_countTick 1 = .ok (.getfield 42, 3) := by decide +kernel
theorem dX5_countTick_4 : decode cX5_countTick 4 = .ok (.aload_n 0, 1) := by decide +kernel
theorem dX5_countTick_5 : decode cX5_countTick 5 = .ok (.getfield 62, 3) := by decide +kernel
theorem dX5_countTick_8 : decode cX5_countTick 8 = .ok (.invokevirtual 75, 3) := by decide +kernel
theorem dX5_countTick_11 : decode cX5_countTick 11 = .ok (.iload_n 1, 1) := by decide +kernel
theorem dX5_countTick_12 : decode cX5_countTick 12 = .ok (.iconst 4, 1) := by decide +kernel
theorem dX5_countTick_13 : decode cX5_countTick 13 = .ok (.if_icmp .ge 21, 3) := by decide +kernel
theorem dX5_countTick_16 : decode cX5_countTick 16 = .ok (.aload_n 0, 1) := by decide +kernel
theorem dX5_countTick_17 : decode cX5_countTick 17 = .ok (.getfield 12, 3) := by decide +kernel
theorem dX5_countTick_20 : decode cX5_countTick 20 = .ok (.getfield 79, 3) := by decide +kernel
theorem dX5_countTick_23 : decode cX5_countTick 23 = .ok (.iconst 4, 1) := by decide +kernel
theorem dX5_countTick_24 : decode cX5_countTick 24 = .ok (.if_icmp .ne 10, 3) := by decide +kernel
theorem dX5_countTick_27 : decode cX5_countTick 27 = .ok (.aload_n 0, 1) := by decide +kernel
theorem dX5_countTick_28 : decode cX5_countTick 28 = .ok (.getfield 42, 3) := by decide +kernel
theorem dX5_countTick_31 : decode cX5_countTick 31 = .ok (.invokevirtual 82, 3) := by decide +kernel
theorem dX5_countTick_34 : decode cX5_countTick 34 = .ok (.aload_n 0, 1) := by decide +kernel
theorem dX5_countTick_35 : decode cX5_countTick 35 = .ok (.getfield 42, 3) := by decide +kernel
theorem dX5_countTick_38 : decode cX5_countTick 38 = .ok (.iload_n 2, 1) := by decide +kernel
theorem dX5_countTick_39 : decode cX5_countTick 39 = .ok (.aload_n 0, 1) := by decide +kernel
theorem dX5_countTick_40 : decode cX5_countTick 40 = .ok (.getfield 12, 3) := by decide +kernel
theorem dX5_countTick_43 : decode cX5_countTick 43 = .ok (.getfield 79, 3) := by decide +kernel
theorem dX5_countTick_46 : decode cX5_countTick 46 = .ok (.ifCond .ne 7, 3) := by decide +kernel
theorem dX5_countTick_49 : decode cX5_countTick 49 = .ok (.iconst 1, 1) := by decide +kernel
theorem dX5_countTick_50 : decode cX5_countTick 50 = .ok (.goto 4, 3) := by decide +kernel
theorem dX5_countTick_53 : decode cX5_countTick 53 = .ok (.iconst 0, 1) := by decide +kernel
theorem dX5_countTick_54 : decode cX5_countTick 54 = .ok (.invokevirtual 85, 3) := by decide +kernel
theorem dX5_countTick_57 : decode cX5_countTick 57 = .ok (.istore_n 3, 1) := by decide +kernel
theorem dX5_countTick_58 : decode cX5_countTick 58 = .ok (.iload_n 3, 1) := by decide +kernel
theorem dX5_countTick_59 : decode cX5_countTick 59 = .ok (.iconst (-1), 1) := by decide +kernel
theorem dX5_countTick_60 : decode cX5_countTick 60 = .ok (.if_icmp .eq 16, 3) := by decide +kernel
theorem dX5_countTick_63 : decode cX5_countTick 63 = .ok (.aload_n 0, 1) := by decide +kernel
theorem dX5_countTick_64 : decode cX5_countTick 64 = .ok (.getfield 35, 3) := by decide +kernel
theorem dX5_countTick_67 : decode cX5_countTick 67 = .ok (.aload_n 0, 1) := by decide +kernel
theorem dX5_countTick_68 : decode cX5_countTick 68 = .ok (.getfield 66, 3) := by decide +kernel
theorem dX5_countTick_71 : decode cX5_countTick 71 = .ok (.iconst 3, 1) := by decide +kernel
theorem dX5_countTick_72 : decode cX5_countTick 72 = .ok (.iload_n 3, 1) := by decide +kernel
theorem dX5_countTick_73 : decode cX5_countTick 73 = .ok (.invokevirtual 89, 3) := by decide +kernel
theorem dX5_countTick_76 : decode cX5_countTick 76 = .ok (.return_, 1) := by decide +kernel
theorem dX6_init_0 : decode cX6_init 0 = .ok (.aload_n 0, 1) := by decide +kernel
theorem dX6_init_1 : decode cX6_init 1 = .ok (.invokespecial 3, 3) := by decide +kernel
theorem dX6_init_4 : decode cX6_init 4 = .ok (.aload_n 0, 1) := by decide +kernel
theorem dX6_init_5 : decode cX6_init 5 = .ok (.iconst 4, 1) := by decide +kernel
theorem dX6_init_6 : decode cX6_init 6 = .ok (.newarray .int, 2) := by decide +kernel
theorem dX6_init_8 : decode cX6_init 8 = .ok (.putfield 11, 3) := by decide +kernel
theorem dX6_init_11 : decode cX6_init 11 = .ok (.aload_n 0, 1) := by decide +kernel
theorem dX6_init_12 : decode cX6_init 12 = .ok (.bipush 8, 2) := by decide +kernel
theorem dX6_init_14 : decode cX6_init 14 = .ok (.newarray .int, 2) := by decide +kernel
theorem dX6_init_16 : decode cX6_init 16 = .ok (.putfield 15, 3) := by decide +kernel
theorem dX6_init_19 : decode cX6_init 19 = .ok (.aload_n 0, 1) := by decide +kernel
theorem dX6_init_20 : decode cX6_init 20 = .ok (.iconst (-1), 1) := by decide +kernel
theorem dX6_init_21 : decode cX6_init 21 = .ok (.putfield 18, 3) := by decide +kernel
theorem dX6_init_24 : decode cX6_init 24 = .ok (.return_, 1) := by decide +kernel
theorem dX6_copyFrom_0 : decode cX6_copyFrom 0 = .ok (.aload_n 1, 1) := by decide +kernel
theorem dX6_copyFrom_1 : decode cX6_copyFrom 1 = .ok (.getfield 11, 3) := by decide +kernel
theorem dX6_copyFrom_4 : decode cX6_copyFrom 4 = .ok (.iconst 0, 1) := by decide +kernel
theorem dX6_copyFrom_5 : decode cX6_copyFrom 5 = .ok (.aload_n 0, 1) := by decide +kernel
theorem dX6_copyFrom_6 : decode cX6_copyFrom 6 = .ok (.getfield 11, 3) := by decide +kernel
theorem dX6_copyFrom_9 : decode cX6_copyFrom 9 = .ok (.iconst 0, 1) := by decide +kernel
theorem dX6_copyFrom_10 : decode cX6_copyFrom 10 = .ok (.iconst 4, 1) := by decide +kernel
theorem dX6_copyFrom_11 : decode cX6_copyFrom 11 = .ok (.invokestatic 22, 3) := by decide +kernel
theorem dX6_copyFrom_14 : decode cX6_copyFrom 14 = .ok (.aload_n 1, 1) := by decide +kernel
theorem dX6_copyFrom_15 : decode cX6_copyFrom 15 = .ok (.getfield 15, 3) := by decide +kernel
theorem dX6_copyFrom_18 : decode cX6_copyFrom 18 = .ok (.iconst 0, 1) := by decide +kernel
theorem dX6_copyFrom_19 : decode cX6_copyFrom 19 = .ok (.aload_n 0, 1) := by decide +kernel
theorem dX6_copyFrom_20 : decode cX6_copyFrom 20 = .ok (.getfield 15, 3) := by decide +kernel
theorem dX6_copyFrom_23 : decode cX6_copyFrom 23 = .ok (.iconst 0, 1) := by decide +kernel
theorem dX6_copyFrom_24 : decode cX6_copyFrom 24 = .ok (.bipush 8, 2) := by decide +kernel
theorem dX6_copyFrom_26 : decode cX6_copyFrom 26 = .ok (.invokestatic 22, 3) := by decide +kernel
theorem dX6_copyFrom_29 : decode cX6_copyFrom 29 = .ok (.aload_n 0, 1) := by decide +kernel
theorem dX6_copyFrom_30 : decode cX6_copyFrom 30 = .ok (.aload_n 1, 1) := by decide +kernel
theorem dX6_copyFrom_31 : decode cX6_copyFrom 31 = .ok (.getfield 18, 3) := by decide +kernel
theorem dX6_copyFrom_34 : decode cX6_copyFrom 34 = .ok (.putfield 18, 3) := by decide +kernel
theorem dX6_copyFrom_37 : decode cX6_copyFrom 37 = .ok (.return_, 1) := by decide +kernel
theorem dX6_countState_0 : decode cX6_countState 0 = .ok (.iload_n 1, 1) := by decide +kernel
theorem dX6_countState_1 : decode cX6_countState 1 = .ok (.ifCond .lt 18, 3) := by decide +kernel
theorem dX6_countState_4 : decode cX6_countState 4 = .ok (.iload_n 1, 1) := by decide +kernel
theorem dX6_countState_5 : decode cX6_countState 5 = .ok (.iconst 4, 1) := by decide +kernel
theorem dX6_countState_6 : decode cX6_countState 6 = .ok (.if_icmp .ge 13, 3) := by decide +kernel
theorem dX6_countState_9 : decode cX6_countState 9 = .ok (.aload_n 0, 1) := by decide +kernel
theorem dX6_countState_10 : decode cX6_countState 10 = .ok (.getfield 11, 3) := by decide +kernel
theorem dX6_countState_13 : decode cX6_countState 13 = .ok (.iload_n 1, 1) := by decide +kernel
theorem dX6_countState_14 : decode cX6_countState 14 = .ok (.dup2, 1) := by decide +kernel
theorem dX6_countState_15 : decode cX6_countState 15 = .ok (.iaload, 1) := by decide +kernel
theorem dX6_countState_16 : decode cX6_countState 16 = .ok (.iconst 1, 1) := by decide +kernel
theorem dX6_countState_17 : decode cX6_countState 17 = .ok (.iadd, 1) := by decide +kernel
theorem dX6_countState_18 : decode cX6_countState 18 = .ok (.iastore, 1) := by decide +kernel
theorem dX6_countState_19 : decode cX6_countState 19 = .ok (.return_, 1) := by decide +kernel
theorem dX6_beginLift_0 : decode cX6_beginLift 0 = .ok (.aload_n 0, 1) := by decide +kernel
theorem dX6_beginLift_1 : decode cX6_beginLift 1 = .ok (.getfield 18, 3) := by decide +kernel
theorem dX6_beginLift_4 : decode cX6_beginLift 4 = .ok (.iconst (-1), 1) := by decide +kernel
theorem dX6_beginLift_5 : decode cX6_beginLift 5 = .ok (.if_icmp .ne 8, 3) := by decide +kernel
theorem dX6_beginLift_8 : decode cX6_beginLift 8 = .ok (.aload_n 0, 1) := by decide +kernel
theorem dX6_beginLift_9 : decode cX6_beginLift 9 = .ok (.iconst 0, 1) := by decide +kernel
theorem dX6_beginLift_10 : decode cX6_beginLift 10 = .ok (.putfield 18, 3) := by decide +kernel
theorem dX6_beginLift_13 : decode cX6_beginLift 13 = .ok (.return_, 1) := by decide +kernel
theorem dX6_followLift_0 : decode cX6_followLift 0 = .ok (.aload_n 0, 1) := by decide +kernel
theorem dX6_followLift_1 : decode cX6_followLift 1 = .ok (.getfield 18, 3) := by decide +kernel
theorem dX6_followLift_4 : decode cX6_followLift 4 = .ok (.ifCond .ge 5, 3) := by decide +kernel
theorem dX6_followLift_7 : decode cX6_followLift 7 = .ok (.iconst (-1), 1) := by decide +kernel
theorem dX6_followLift_8 : decode cX6_followLift 8 = .ok (.ireturn, 1) := by decide +kernel
theorem dX6_followLift_9 : decode cX6_followLift 9 = .ok (.aload_n 0, 1) := by decide +kernel
theorem dX6_followLift_10 : decode cX6_followLift 10 = .ok (.aload_n 0, 1) := by decide +kernel
theorem dX6_followLift_11 : decode cX6_followLift 11 = .ok (.getfield 18, 3) := by decide +kernel
theorem dX6_followLift_14 : decode cX6_followLift 14 = .ok (.iload_n 1, 1) := by decide +kernel
theorem dX6_followLift_15 : decode cX6_followLift 15 = .ok (.invokestatic 28, 3) := by decide +kernel
theorem dX6_followLift_18 : decode cX6_followLift 18 = .ok (.putfield 18, 3) := by decide +kernel
theorem dX6_followLift_21 : decode cX6_followLift 21 = .ok (.iload_n 2, 1) := by decide +kernel
theorem dX6_followLift_22 : decode cX6_followLift 22 = .ok (.ifCond .ne 5, 3) := by decide +kernel
theorem dX6_followLift_25 : decode cX6_followLift 25 = .ok (.iconst (-1), 1) := by decide +kernel
theorem dX6_followLift_26 : decode cX6_followLift 26 = .ok (.ireturn, 1) := by decide +kernel
theorem dX6_followLift_27 : decode cX6_followLift 27 = .ok (.aload_n 0, 1) := by decide +kernel
theorem dX6_followLift_28 : decode cX6_followLift 28 = .ok (.getfield 18, 3) := by decide +kernel
theorem dX6_followLift_31 : decode cX6_followLift 31 = .ok (.bipush 125, 2) := by decide +kernel
theorem dX6_followLift_33 : decode cX6_followLift 33 = .ok (.idiv, 1) := by decide +kernel
theorem dX6_followLift_34 : decode cX6_followLift 34 = .ok (.bipush 7, 2) := by decide +kernel
theorem dX6_followLift_36 : decode cX6_followLift 36 = .ok (.invokestatic 34, 3) := by decide +kernel
theorem dX6_followLift_39 : decode cX6_followLift 39 = .ok (.istore_n 3, 1) := by decide +kernel
theorem dX6_followLift_40 : decode cX6_followLift 40 = .ok (.aload_n 0, 1) := by decide +kernel
theorem dX6_followLift_41 : decode cX6_followLift 41 = .ok (.getfield 15, 3) := by decide +kernel
theorem dX6_followLift_44 : decode cX6_followLift 44 = .ok (.iload_n 3, 1) := by decide +kernel
theorem dX6_followLift_45 : decode cX6_followLift 45 = .ok (.dup2, 1) := by decide +kernel
theorem dX6_followLift_46 : decode cX6_followLift 46 = .ok (.iaload, 1) := by decide +kernel
theorem dX6_followLift_47 : decode cX6_followLift 47 = .ok (.iconst 1, 1) := by decide +kernel
theorem dX6_followLift_48 : decode cX6_followLift 48 = .ok (.iadd, 1) := by decide +kernel
theorem dX6_followLift_49 : decode cX6_followLift 49 = .ok (.iastore, 1) := by decide +kernel
theorem dX6_followLift_50 : decode cX6_followLift 50 = .ok (.aload_n 0, 1) := by decide +kernel
theorem dX6_followLift_51 : decode cX6_followLift 51 = .ok (.iconst (-1), 1) := by decide +kernel
theorem dX6_followLift_52 : decode cX6_followLift 52 = .ok (.putfield 18, 3) := by decide +kernel
theorem dX6_followLift_55 : decode cX6_followLift 55 = .ok (.iload_n 3, 1) := by decide +kernel
theorem dX6_followLift_56 : decode cX6_followLift 56 = .ok (.ireturn, 1) := by decide +kernel
theorem dX6_loadSpectrum_0 : decode cX6_loadSpectrum 0 = .ok (.lconst 0, 1) := by decide +kernel
theorem dX6_loadSpectrum_1 : decode cX6_loadSpectrum 1 = .ok (.lstore_n 1, 1) := by decide +kernel
theorem dX6_loadSpectrum_2 : decode cX6_loadSpectrum 2 = .ok (.lconst 0, 1) := by decide +kernel
theorem dX6_loadSpectrum_3 : decode cX6_loadSpectrum 3 = .ok (.lstore_n 3, 1) := by decide +kernel
theorem dX6_loadSpectrum_4 : decode cX6_loadSpectrum 4 = .ok (.iconst 0, 1) := by decide +kernel
theorem dX6_loadSpectrum_5 : decode cX6_loadSpectrum 5 = .ok (.istore 5, 2) := by decide +kernel
theorem dX6_loadSpectrum_7 : decode cX6_loadSpectrum 7 = .ok (.iload 5, 2) := by decide +kernel
theorem dX6_loadSpectrum_9 : decode cX6_loadSpectrum 9 = .ok (.bipush 8, 2) := by decide +kernel
theorem dX6_loadSpectrum_11 : decode cX6_loadSpectrum 11 = .ok (.if_icmp .ge 49, 3) := by decide +kernel
theorem dX6_loadSpectrum_14 : decode cX6_loadSpectrum 14 = .ok (.lload_n 1, 1) := by decide +kernel
theorem dX6_loadSpectrum_15 : decode cX6_loadSpectrum 15 = .ok (.aload_n 0, 1) := by decide +kernel
theorem dX6_loadSpectrum_16 : decode cX6_loadSpectrum 16 = .ok (.getfield 15, 3) := by decide +kernel
theorem dX6_loadSpectrum_19 : decode cX6_loadSpectrum 19 = .ok (.iload 5, 2) := by decide +kernel
theorem dX6_loadSpectrum_21 : decode cX6_loadSpectrum 21 = .ok (.iaload, 1) := by decide +kernel
theorem dX6_loadSpectrum_22 : decode cX6_loadSpectrum 22 = .ok (.i2l, 1) := by decide +kernel
theorem dX6_loadSpectrum_23 : decode cX6_loadSpectrum 23 = .ok (.iload 5, 2) := by decide +kernel
theorem dX6_loadSpectrum_25 : decode cX6_loadSpectrum 25 = .ok (.iconst 1, 1) := by decide +kernel
theorem dX6_loadSpectrum_26 : decode cX6_loadSpectrum 26 = .ok (.iadd, 1) := by decide +kernel
theorem dX6_loadSpectrum_27 : decode cX6_loadSpectrum 27 = .ok (.i2l, 1) := by decide +kernel
theorem dX6_loadSpectrum_28 : decode cX6_loadSpectrum 28 = .ok (.lmul, 1) := by decide +kernel
theorem dX6_loadSpectrum_29 : decode cX6_loadSpectrum 29 = .ok (.iload 5, 2) := by decide +kernel
theorem dX6_loadSpectrum_31 : decode cX6_loadSpectrum 31 = .ok (.iconst 1, 1) := by decide +kernel
theorem dX6_loadSpectrum_32 : decode cX6_loadSpectrum 32 = .ok (.iadd, 1) := by decide +kernel
theorem dX6_loadSpectrum_33 : decode cX6_loadSpectrum 33 = .ok (.i2l, 1) := by decide +kernel
theorem dX6_loadSpectrum_34 : decode cX6_loadSpectrum 34 = .ok (.lmul, 1) := by decide +kernel
theorem dX6_loadSpectrum_35 : decode cX6_loadSpectrum 35 = .ok (.iload 5, 2) := by decide +kernel
theorem dX6_loadSpectrum_37 : decode cX6_loadSpectrum 37 = .ok (.iconst 1, 1) := by decide +kernel
theorem dX6_loadSpectrum_38 : decode cX6_loadSpectrum 38 = .ok (.iadd, 1) := by decide +kernel
theorem dX6_loadSpectrum_39 : decode cX6_loadSpectrum 39 = .ok (.i2l, 1) := by decide +kernel
theorem dX6_loadSpectrum_40 : decode cX6_loadSpectrum 40 = .ok (.lmul, 1) := by decide +kernel
theorem dX6_loadSpectrum_41 : decode cX6_loadSpectrum 41 = .ok (.ladd, 1) := by decide +kernel
theorem dX6_loadSpectrum_42 : decode cX6_loadSpectrum 42 = .ok (.lstore_n 1, 1) := by decide +kernel
theorem dX6_loadSpectrum_43 : decode cX6_loadSpectrum 43 = .ok (.lload_n 3, 1) := by decide +kernel
theorem dX6_loadSpectrum_44 : decode cX6_loadSpectrum 44 = .ok (.aload_n 0, 1) := by decide +kernel
theorem dX6_loadSpectrum_45 : decode cX6_loadSpectrum 45 = .ok (.getfield 15, 3) := by decide +kernel
theorem dX6_loadSpectrum_48 : decode cX6_loadSpectrum 48 = .ok (.iload 5, 2) := by decide +kernel
theorem dX6_loadSpectrum_50 : decode cX6_loadSpectrum 50 = .ok (.iaload, 1) := by decide +kernel
theorem dX6_loadSpectrum_51 : decode cX6_loadSpectrum 51 = .ok (.i2l, 1) := by decide +kernel
theorem dX6_loadSpectrum_52 : decode cX6_loadSpectrum 52 = .ok (.ladd, 1) := by decide +kernel
theorem dX6_loadSpectrum_53 : decode cX6_loadSpectrum 53 = .ok (.lstore_n 3, 1) := by decide +kernel
theorem dX6_loadSpectrum_54 : decode cX6_loadSpectrum 54 = .ok (.iinc 5 1, 3) := by decide +kernel
theorem dX6_loadSpectrum_57 : decode cX6_loadSpectrum 57 = .ok (.goto (-50), 3) := by decide +kernel
theorem dX6_loadSpectrum_60 : decode cX6_loadSpectrum 60 = .ok (.lload_n 3, 1) := by decide +kernel
theorem dX6_loadSpectrum_61 : decode cX6_loadSpectrum 61 = .ok (.lconst 0, 1) := by decide +kernel
theorem dX6_loadSpectrum_62 : decode cX6_loadSpectrum 62 = .ok (.lcmp, 1) := by decide +kernel
theorem dX6_loadSpectrum_63 : decode cX6_loadSpectrum 63 = .ok (.ifCond .gt 7, 3) := by decide +kernel
theorem dX6_loadSpectrum_66 : decode cX6_loadSpectrum 66 = .ok (.iconst (-1), 1) := by decide +kernel
theorem dX6_loadSpectrum_67 : decode cX6_loadSpectrum 67 = .ok (.goto 15, 3) := by decide +kernel
theorem dX6_loadSpectrum_70 : decode cX6_loadSpectrum 70 = .ok (.ldc2_w 37, 3) := by decide +kernel
theorem dX6_loadSpectrum_73 : decode cX6_loadSpectrum 73 = .ok (.lload_n 1, 1) := by decide +kernel
theorem dX6_loadSpectrum_74 : decode cX6_loadSpectrum 74 = .ok (.lmul, 1) := by decide +kernel
theorem dX6_loadSpectrum_75 : decode cX6_loadSpectrum 75 = .ok (.ldc2_w 39, 3) := by decide +kernel
theorem dX6_loadSpectrum_78 : decode cX6_loadSpectrum 78 = .ok (.lload_n 3, 1) := by decide +kernel
theorem dX6_loadSpectrum_79 : decode cX6_loadSpectrum 79 = .ok (.lmul, 1) := by decide +kernel
theorem dX6_loadSpectrum_80 : decode cX6_loadSpectrum 80 = .ok (.ldiv, 1) := by decide +kernel
theorem dX6_loadSpectrum_81 : decode cX6_loadSpectrum 81 = .ok (.l2i, 1) := by decide +kernel
theorem dX6_loadSpectrum_82 : decode cX6_loadSpectrum 82 = .ok (.ireturn, 1) := by decide +kernel
theorem dX6_hash_0 : decode cX6_hash 0 = .ok (.lload_n 1, 1) := by decide +kernel
theorem dX6_hash_1 : decode cX6_hash 1 = .ok (.lstore_n 3, 1) := by decide +kernel
theorem dX6_hash_2 : decode cX6_hash 2 = .ok (.aload_n 0, 1) := by decide +kernel
theorem dX6_hash_3 : decode cX6_hash 3 = .ok (.getfield 11, 3) := by decide +kernel
theorem dX6_hash_6 : decode cX6_hash 6 = .ok (.astore 5, 2) := by decide +kernel
theorem dX6_hash_8 : decode cX6_hash 8 = .ok (.aload 5, 2) := by decide +kernel
theorem dX6_hash_10 : decode cX6_hash 10 = .ok (.arraylength, 1) := by decide +kernel
theorem dX6_hash_11 : decode cX6_hash 11 = .ok (.istore 6, 2) := by decide +kernel
theorem dX6_hash_13 : decode cX6_hash 13 = .ok (.iconst 0, 1) := by decide +kernel
theorem dX6_hash_14 : decode cX6_hash 14 = .ok (.istore 7, 2) := by decide +kernel
theorem dX6_hash_16 : decode cX6_hash 16 = .ok (.iload 7, 2) := by decide +kernel
theorem dX6_hash_18 : decode cX6_hash 18 = .ok (.iload 6, 2) := by decide +kernel
theorem dX6_hash_20 : decode cX6_hash 20 = .ok (.if_icmp .ge 26, 3) := by decide +kernel
theorem dX6_hash_23 : decode cX6_hash 23 = .ok (.aload 5, 2) := by decide +kernel
theorem dX6_hash_25 : decode cX6_hash 25 = .ok (.iload 7, 2) := by decide +kernel
theorem dX6_hash_27 : decode cX6_hash 27 = .ok (.iaload, 1) := by decide +kernel
theorem dX6_hash_28 : decode cX6_hash 28 = .ok (.istore 8, 2) := by decide +kernel
theorem dX6_hash_30 : decode cX6_hash 30 = .ok (.ldc2_w 41, 3) := by decide +kernel
theorem dX6_hash_33 : decode cX6_hash 33 = .ok (.lload_n 3, 1) := by decide +kernel
theorem dX6_hash_34 : decode cX6_hash 34 = .ok (.lmul, 1) := by decide +kernel
theorem dX6_hash_35 : decode cX6_hash 35 = .ok (.iload 8, 2) := by decide +kernel
theorem dX6_hash_37 : decode cX6_hash 37 = .ok (.i2l, 1) := by decide +kernel
theorem dX6_hash_38 : decode cX6_hash 38 = .ok (.ladd, 1) := by decide +kernel
theorem dX6_hash_39 : decode cX6_hash 39 = .ok (.lstore_n 3, 1) := by decide +kernel
theorem dX6_hash_40 : decode cX6_hash 40 = .ok (.iinc 7 1, 3) := by decide +kernel
theorem dX6_hash_43 : decode cX6_hash 43 = .ok (.goto (-27), 3) := by decide +kernel
theorem dX6_hash_46 : decode cX6_hash 46 = .ok (.aload_n 0, 1) := by decide +kernel
theorem dX6_hash_47 : decode cX6_hash 47 = .ok (.getfield 15, 3) := by decide +kernel
theorem dX6_hash_50 : decode cX6_hash 50 = .ok (.astore 5, 2) := by decide +kernel
theorem dX6_hash_52 : decode cX6_hash 52 = .ok (.aload 5, 2) := by decide +kernel
theorem dX6_hash_54 : decode cX6_hash 54 = .ok (.arraylength, 1) := by decide +kernel
theorem dX6_hash_55 : decode cX6_hash 55 = .ok (.istore 6, 2) := by decide +kernel
theorem dX6_hash_57 : decode cX6_hash 57 = .ok (.iconst 0, 1) := by decide +kernel
theorem dX6_hash_58 : decode cX6_hash 58 = .ok (.istore 7, 2) := by decide +kernel
theorem dX6_hash_60 : decode cX6_hash 60 = .ok (.iload 7, 2) := by decide +kernel
theorem dX6_hash_62 : decode cX6_hash 62 = .ok (.iload 6, 2) := by decide +kernel
theorem dX6_hash_64 : decode cX6_hash 64 = .ok (.if_icmp .ge 26, 3) := by decide +kernel
theorem dX6_hash_67 : decode cX6_hash 67 = .ok (.aload 5, 2) := by decide +kernel
theorem dX6_hash_69 : decode cX6_hash 69 = .ok (.iload 7, 2) := by decide +kernel
theorem dX6_hash_71 : decode cX6_hash 71 = .ok (.iaload, 1) := by decide +kernel
theorem dX6_hash_72 : decode cX6_hash 72 = .ok (.istore 8, 2) := by decide +kernel
theorem dX6_hash_74 : decode cX6_hash 74 = .ok (.ldc2_w 41, 3) := by decide +kernel
theorem dX6_hash_77 : decode cX6_hash 77 = .ok (.lload_n 3, 1) := by decide +kernel
theorem dX6_hash_78 : decode cX6_hash 78 = .ok (.lmul, 1) := by decide +kernel
theorem dX6_hash_79 : decode cX6_hash 79 = .ok (.iload 8, 2) := by decide +kernel
theorem dX6_hash_81 : decode cX6_hash 81 = .ok (.i2l, 1) := by decide +kernel
theorem dX6_hash_82 : decode cX6_hash 82 = .ok (.ladd, 1) := by decide +kernel
theorem dX6_hash_83 : decode cX6_hash 83 = .ok (.lstore_n 3, 1) := by decide +kernel
theorem dX6_hash_84 : decode cX6_hash 84 = .ok (.iinc 7 1, 3) := by decide +kernel
theorem dX6_hash_87 : decode cX6_hash 87 = .ok (.goto (-27), 3) := by decide +kernel
theorem dX6_hash_90 : decode cX6_hash 90 = .ok (.lload_n 3, 1) := by decide +kernel
theorem dX6_hash_91 : decode cX6_hash 91 = .ok (.lreturn, 1) := by decide +kernel
theorem dX7_init_0 : decode cX7_init 0 = .ok (.aload_n 0, 1) := by decide +kernel
theorem dX7_init_1 : decode cX7_init 1 = .ok (.invokespecial 1, 3) := by decide +kernel
theorem dX7_init_4 : decode cX7_init 4 = .ok (.aload_n 0, 1) := by decide +kernel
theorem dX7_init_5 : decode cX7_init 5 = .ok (.bipush 24, 2) := by decide +kernel
theorem dX7_init_7 : decode cX7_init 7 = .ok (.newarray .int, 2) := by decide +kernel
theorem dX7_init_9 : decode cX7_init 9 = .ok (.putfield 9, 3) := by decide +kernel
theorem dX7_init_12 : decode cX7_init 12 = .ok (.return_, 1) := by decide +kernel
theorem dX7_copyFrom_0 : decode cX7_copyFrom 0 = .ok (.aload_n 1, 1) := by decide +kernel
theorem dX7_copyFrom_1 : decode cX7_copyFrom 1 = .ok (.getfield 9, 3) := by decide +kernel
theorem dX7_copyFrom_4 : decode cX7_copyFrom 4 = .ok (.iconst 0, 1) := by decide +kernel
theorem dX7_copyFrom_5 : decode cX7_copyFrom 5 = .ok (.aload_n 0, 1) := by decide +kernel
theorem dX7_copyFrom_6 : decode cX7_copyFrom 6 = .ok (.getfield 9, 3) := by decide +kernel
theorem dX7_copyFrom_9 : decode cX7_copyFrom 9 = .ok (.iconst 0, 1) := by decide +kernel
theorem dX7_copyFrom_10 : decode cX7_copyFrom 10 = .ok (.aload_n 0, 1) := by decide +kernel
theorem dX7_copyFrom_11 : decode cX7_copyFrom 11 = .ok (.getfield 9, 3) := by decide +kernel
theorem dX7_copyFrom_14 : decode cX7_copyFrom 14 = .ok (.arraylength, 1) := by decide +kernel
theorem dX7_copyFrom_15 : decode cX7_copyFrom 15 = .ok (.invokestatic 13, 3) := by decide +kernel
theorem dX7_copyFrom_18 : decode cX7_copyFrom 18 = .ok (.aload_n 0, 1) := by decide +kernel
theorem dX7_copyFrom_19 : decode cX7_copyFrom 19 = .ok (.aload_n 1, 1) := by decide +kernel
theorem dX7_copyFrom_20 : decode cX7_copyFrom 20 = .ok (.getfield 19, 3) := by decide +kernel
theorem dX7_copyFrom_23 : decode cX7_copyFrom 23 = .ok (.putfield 19, 3) := by decide +kernel
theorem dX7_copyFrom_26 : decode cX7_copyFrom 26 = .ok (.return_, 1) := by decide +kernel
theorem dX7_add_0 : decode cX7_add 0 = .ok (.aload_n 0, 1) := by decide +kernel
theorem dX7_add_1 : decode cX7_add 1 = .ok (.getfield 19, 3) := by decide +kernel
theorem dX7_add_4 : decode cX7_add 4 = .ok (.iconst 4, 1) := by decide +kernel
theorem dX7_add_5 : decode cX7_add 5 = .ok (.imul, 1) := by decide +kernel
theorem dX7_add_6 : decode cX7_add 6 = .ok (.istore 5, 2) := by decide +kernel
theorem dX7_add_8 : decode cX7_add 8 = .ok (.iload 5, 2) := by decide +kernel
theorem dX7_add_10 : decode cX7_add 10 = .ok (.ifCond .lt 15, 3) := by decide +kernel
theorem dX7_add_13 : decode cX7_add 13 = .ok (.iload 5, 2) := by decide +kernel
theorem dX7_add_15 : decode cX7_add 15 = .ok (.iconst 4, 1) := by decide +kernel
theorem dX7_add_16 : decode cX7_add 16 = .ok (.iadd, 1) := by decide +kernel
theorem dX7_add_17 : decode cX7_add 17 = .ok (.aload_n 0, 1) := by decide +kernel
theorem dX7_add_18 : decode cX7_add 18 = .ok (.getfield 9, 3) := by decide +kernel
theorem dX7_add_21 : decode cX7_add 21 = .ok (.arraylength, 1) := by decide +kernel
theorem dX7_add_22 : decode cX7_add 22 = .ok (.if_icmp .le 4, 3) := by decide +kernel
theorem dX7_add_25 : decode cX7_add 25 = .ok (.return_, 1) := by decide +kernel
theorem dX7_add_26 : decode cX7_add 26 = .ok (.aload_n 0, 1) := by decide +kernel
theorem dX7_add_27 : decode cX7_add 27 = .ok (.getfield 9, 3) := by decide +kernel
theorem dX7_add_30 : decode cX7_add 30 = .ok (.iload 5, 2) := by decide +kernel
theorem dX7_add_32 : decode cX7_add 32 = .ok (.iload_n 1, 1) := by decide +kernel
theorem dX7_add_33 : decode cX7_add 33 = .ok (.iastore, 1) := by decide +kernel
theorem dX7_add_34 : decode cX7_add 34 = .ok (.aload_n 0, 1) := by decide +kernel
theorem dX7_add_35 : decode cX7_add 35 = .ok (.getfield 9, 3) := by decide +kernel
theorem dX7_add_38 : decode cX7_add 38 = .ok (.iload 5, 2) := by decide +kernel
theorem dX7_add_40 : decode cX7_add 40 = .ok (.iconst 1, 1) := by decide +kernel
theorem dX7_add_41 : decode cX7_add 41 = .ok (.iadd, 1) := by decide +kernel
theorem dX7_add_42 : decode cX7_add 42 = .ok (.iload_n 2, 1) := by decide +kernel
theorem dX7_add_43 : decode cX7_add 43 = .ok (.iastore, 1) := by decide +kernel
theorem dX7_add_44 : decode cX7_add 44 = .ok (.aload_n 0, 1) := by decide +kernel
theorem dX7_add_45 : decode cX7_add 45 = .ok (.getfield 9, 3) := by decide +kernel
theorem dX7_add_48 : decode cX7_add 48 = .ok (.iload 5, 2) := by decide +kernel
theorem dX7_add_50 : decode cX7_add 50 = .ok (.iconst 2, 1) := by decide +kernel
theorem dX7_add_51 : decode cX7_add 51 = .ok (.iadd, 1) := by decide +kernel
theorem dX7_add_52 : decode cX7_add 52 = .ok (.iload_n 3, 1) := by decide +kernel
theorem dX7_add_53 : decode cX7_add 53 = .ok (.iastore, 1) := by decide +kernel
theorem dX7_add_54 : decode cX7_add 54 = .ok (.aload_n 0, 1) := by decide +kernel
theorem dX7_add_55 : decode cX7_add 55 = .ok (.getfield 9, 3) := by decide +kernel
theorem dX7_add_58 : decode cX7_add 58 = .ok (.iload 5, 2) := by decide +kernel
theorem dX7_add_60 : decode cX7_add 60 = .ok (.iconst 3, 1) := by decide +kernel
theorem dX7_add_61 : decode cX7_add 61 = .ok (.iadd, 1) := by decide +kernel
theorem dX7_add_62 : decode cX7_add 62 = .ok (.iload 4, 2) := by decide +kernel
theorem dX7_add_64 : decode cX7_add 64 = .ok (.iastore, 1) := by decide +kernel
theorem dX7_add_65 : decode cX7_add 65 = .ok (.aload_n 0, 1) := by decide +kernel
theorem dX7_add_66 : decode cX7_add 66 = .ok (.dup, 1) := by decide +kernel
theorem dX7_add_67 : decode cX7_add 67 = .ok (.getfield 19, 3) := by decide +kernel
theorem dX7_add_70 : decode cX7_add 70 = .ok (.iconst 1, 1) := by decide +kernel
theorem dX7_add_71 : decode cX7_add 71 = .ok (.iadd, 1) := by decide +kernel
theorem dX7_add_72 : decode cX7_add 72 = .ok (.putfield 19, 3) := by decide +kernel
theorem dX7_add_75 : decode cX7_add 75 = .ok (.return_, 1) := by decide +kernel
theorem dX7_remove_0 : decode cX7_remove 0 = .ok (.iload_n 1, 1) := by decide +kernel
theorem dX7_remove_1 : decode cX7_remove 1 = .ok (.ifCond .lt 20, 3) := by decide +kernel
theorem dX7_remove_4 : decode cX7_remove 4 = .ok (.iload_n 1, 1) := by decide +kernel
theorem dX7_remove_5 : decode cX7_remove 5 = .ok (.aload_n 0, 1) := by decide +kernel
theorem dX7_remove_6 : decode cX7_remove 6 = .ok (.getfield 19, 3) := by decide +kernel
theorem dX7_remove_9 : decode cX7_remove 9 = .ok (.if_icmp .ge 12, 3) := by decide +kernel
theorem dX7_remove_12 : decode cX7_remove 12 = .ok (.aload_n 0, 1) := by decide +kernel
theorem dX7_remove_13 : decode cX7_remove 13 = .ok (.getfield 19, 3) := by decide +kernel
theorem dX7_remove_16 : decode cX7_remove 16 = .ok (.bipush 6, 2) := by decide +kernel
theorem dX7_remove_18 : decode cX7_remove 18 = .ok (.if_icmp .le 4, 3) := by decide +kernel
theorem dX7_remove_21 : decode cX7_remove 21 = .ok (.return_, 1) := by decide +kernel
theorem dX7_remove_22 : decode cX7_remove 22 = .ok (.iload_n 1, 1) := by decide +kernel
theorem dX7_remove_23 : decode cX7_remove 23 = .ok (.iconst 4, 1) := by decide +kernel
theorem dX7_remove_24 : decode cX7_remove 24 = .ok (.imul, 1) := by decide +kernel
theorem dX7_remove_25 : decode cX7_remove 25 = .ok (.istore_n 2, 1) := by decide +kernel
theorem dX7_remove_26 : decode cX7_remove 26 = .ok (.iload_n 2, 1) := by decide +kernel
theorem dX7_remove_27 : decode cX7_remove 27 = .ok (.aload_n 0, 1) := by decide +kernel
theorem dX7_remove_28 : decode cX7_remove 28 = .ok (.getfield 19, 3) := by decide +kernel
theorem dX7_remove_31 : decode cX7_remove 31 = .ok (.iconst 1, 1) := by decide +kernel
theorem dX7_remove_32 : decode cX7_remove 32 = .ok (.isub, 1) := by decide +kernel
theorem dX7_remove_33 : decode cX7_remove 33 = .ok (.iconst 4, 1) := by decide +kernel
theorem dX7_remove_34 : decode cX7_remove 34 = .ok (.imul, 1) := by decide +kernel
theorem dX7_remove_35 : decode cX7_remove 35 = .ok (.if_icmp .ge 23, 3) := by decide +kernel
theorem dX7_remove_38 : decode cX7_remove 38 = .ok (.aload_n 0, 1) := by decide +kernel
theorem dX7_remove_39 : decode cX7_remove 39 = .ok (.getfield 9, 3) := by decide +kernel
theorem dX7_remove_42 : decode cX7_remove 42 = .ok (.iload_n 2, 1) := by decide +kernel
theorem dX7_remove_43 : decode cX7_remove 43 = .ok (.aload_n 0, 1) := by decide +kernel
theorem dX7_remove_44 : decode cX7_remove 44 = .ok (.getfield 9, 3) := by decide +kernel
theorem dX7_remove_47 : decode cX7_remove 47 = .ok (.iload_n 2, 1) := by decide +kernel
theorem dX7_remove_48 : decode cX7_remove 48 = .ok (.iconst 4, 1) := by decide +kernel
theorem dX7_remove_49 : decode cX7_remove 49 = .ok (.iadd, 1) := by decide +kernel
theorem dX7_remove_50 : decode cX7_remove 50 = .ok (.iaload, 1) := by decide +kernel
theorem dX7_remove_51 : decode cX7_remove 51 = .ok (.iastore, 1) := by decide +kernel
theorem dX7_remove_52 : decode cX7_remove 52 = .ok (.iinc 2 1, 3) := by decide +kernel
theorem dX7_remove_55 : decode cX7_remove 55 = .ok (.goto (-29), 3) := by decide +kernel
theorem dX7_remove_58 : decode cX7_remove 58 = .ok (.aload_n 0, 1) := by decide +kernel
theorem dX7_remove_59 : decode cX7_remove 59 = .ok (.dup, 1) := by decide +kernel
theorem dX7_remove_60 : decode cX7_remove 60 = .ok (.getfield 19, 3) := by decide +kernel
theorem dX7_remove_63 : decode cX7_remove 63 = .ok (.iconst 1, 1) := by decide +kernel
theorem dX7_remove_64 : decode cX7_remove 64 = .ok (.isub, 1) := by decide +kernel
theorem dX7_remove_65 : decode cX7_remove 65 = .ok (.putfield 19, 3) := by decide +kernel
theorem dX7_remove_68 : decode cX7_remove 68 = .ok (.return_, 1) := by decide +kernel
set_option maxRecDepth 20000 in
theorem ggX7_violation_X0_radius : GoodIn wsX7_violation wsX0_radius := goodIn_r _ [12, 13, 14, 15, 5, 6, 7, 16, 17, 11, 18, 19, 29, 30, 31, 32, 33, 34, 35] (by decide +kernel) (by decide +kernel)
set_option maxRecDepth 20000 in
theorem gX7_violation_X0_radius : GoodIn wsX7_violation (wsV RX7 23 RX0 yX0_radius wsX0_radius) := goodIn_app (goodIn_of _ (by decide +kernel)) ggX7_violation_X0_radius
set_option maxRecDepth 20000 in
theorem ggX7_violation_X0_tip : GoodIn wsX7_violation wsX0_tip := goodIn_r _ [23, 13, 14, 16, 17, 11, 18, 19, 29, 30, 31, 32, 33, 34, 35] (by decide +kernel) (by decide +kernel)
set_option maxRecDepth 20000 in
theorem gX7_violation_X0_tip : GoodIn wsX7_violation (wsV RX7 29 RX0 yX0_tip wsX0_tip) := goodIn_app (goodIn_of _ (by decide +kernel)) ggX7_violation_X0_tip
set_option maxRecDepth 20000 in
theorem ggX7_violation_X8_clockwise : GoodIn wsX7_violation wsX8_clockwise := goodIn_r _ [26] (by decide +kernel) (by decide +kernel)
set_option maxRecDepth 20000 in
theorem gX7_violation_X8_clockwise_n35 : GoodIn wsX7_violation (wsX8_clockwise) := ggX7_violation_X8_clockwise
theorem dX7_violation_0 : decode cX7_violation 0 = .ok (.aload_n 1, 1) := by decide +kernel
theorem dX7_violation_1 : decode cX7_violation 1 = .ok (.invokevirtual 23, 3) := by decide +kernel
theorem dX7_violation_4 : decode cX7_violation 4 = .ok (.istore_n 2, 1) := by decide +kernel
theorem dX7_violation_5 : decode cX7_violation 5 = .ok (.aload_n 1, 1) := by decide +kernel
theorem dX7_violation_6 : decode cX7_violation 6 = .ok (.invokevirtual 29, 3) := by decide +kernel
theorem dX7_violation_9 : decode cX7_violation 9 = .ok (.istore_n 3, 1) := by decide +kernel
theorem dX7_violation_10 : decode cX7_violation 10 = .ok (.iconst 0, 1) := by decide +kernel
theorem dX7_violation_11 : decode cX7_violation 11 = .ok (.istore 4, 2) := by decide +kernel
theorem dX7_violation_13 : decode cX7_violation 13 = .ok (.iconst 0, 1) := by decide +kernel
theorem dX7_violation_14 : decode cX7_violation 14 = .ok (.istore 5, 2) := by decide +kernel
theorem dX7_violation_16 : decode cX7_violation 16 = .ok (.iload 5, 2) := by decide +kernel
theorem dX7_violation_18 : decode cX7_violation 18 = .ok (.aload_n 0, 1) := by decide +kernel
theorem dX7_violation_19 : decode cX7_violation 19 = .ok (.getfield 19, 3) := by decide +kernel
theorem dX7_violation_22 : decode cX7_violation 22 = .ok (.iconst 4, 1) := by decide +kernel
theorem dX7_violation_23 : decode cX7_violation 23 = .ok (.imul, 1) := by decide +kernel
theorem dX7_violation_24 : decode cX7_violation 24 = .ok (.if_icmp .ge 92, 3) := by decide +kernel
theorem dX7_violation_27 : decode cX7_violation 27 = .ok (.iload 5, 2) := by decide +kernel
theorem dX7_violation_29 : decode cX7_violation 29 = .ok (.iconst 4, 1) := by decide +kernel
theorem dX7_violation_30 : decode cX7_violation 30 = .ok (.iadd, 1) := by decide +kernel
theorem dX7_violation_31 : decode cX7_violation 31 = .ok (.aload_n 0, 1) := by decide +kernel
theorem dX7_violation_32 : decode cX7_violation 32 = .ok (.getfield 9, 3) := by decide +kernel
theorem dX7_violation_35 : decode cX7_violation 35 = .ok (.arraylength, 1) := by decide +kernel
theorem dX7_violation_36 : decode cX7_violation 36 = .ok (.if_icmp .gt 80, 3) := by decide +kernel
theorem dX7_violation_39 : decode cX7_violation 39 = .ok (.aload_n 0, 1) := by decide +kernel
theorem dX7_violation_40 : decode cX7_violation 40 = .ok (.getfield 9, 3) := by decide +kernel
theorem dX7_violation_43 : decode cX7_violation 43 = .ok (.iload 5, 2) := by decide +kernel
theorem dX7_violation_45 : decode cX7_violation 45 = .ok (.iaload, 1) := by decide +kernel
theorem dX7_violation_46 : decode cX7_violation 46 = .ok (.istore 6, 2) := by decide +kernel
theorem dX7_violation_48 : decode cX7_violation 48 = .ok (.iload 6, 2) := by decide +kernel
theorem dX7_violation_50 : decode cX7_violation 50 = .ok (.aload_n 1, 1) := by decide +kernel
theorem dX7_violation_51 : decode cX7_violation 51 = .ok (.getfield 32, 3) := by decide +kernel
theorem dX7_violation_54 : decode cX7_violation 54 = .ok (.invokestatic 35, 3) := by decide +kernel
theorem dX7_violation_57 : decode cX7_violation 57 = .ok (.iload 6, 2) := by decide +kernel
theorem dX7_violation_59 : decode cX7_violation 59 = .ok (.aload_n 0, 1) := by decide +kernel
theorem dX7_violation_60 : decode cX7_violation 60 = .ok (.getfield 9, 3) := by decide +kernel
theorem dX7_violation_63 : decode cX7_violation 63 = .ok (.iload 5, 2) := by decide +kernel
theorem dX7_violation_65 : decode cX7_violation 65 = .ok (.iconst 1, 1) := by decide +kernel
theorem dX7_violation_66 : decode cX7_violation 66 = .ok (.iadd, 1) := by decide +kernel
theorem dX7_violation_67 : decode cX7_violation 67 = .ok (.iaload, 1) := by decide +kernel
theorem dX7_violation_68 : decode cX7_violation 68 = .ok (.invokestatic 35, 3) := by decide +kernel
theorem dX7_violation_71 : decode cX7_violation 71 = .ok (.if_icmp .gt 39, 3) := by decide +kernel
theorem dX7_violation_74 : decode cX7_violation 74 = .ok (.iload 4, 2) := by decide +kernel
theorem dX7_violation_76 : decode cX7_violation 76 = .ok (.iload_n 2, 1) := by decide +kernel
theorem dX7_violation_77 : decode cX7_violation 77 = .ok (.aload_n 0, 1) := by decide +kernel
theorem dX7_violation_78 : decode cX7_violation 78 = .ok (.getfield 9, 3) := by decide +kernel
theorem dX7_violation_81 : decode cX7_violation 81 = .ok (.iload 5, 2) := by decide +kernel
theorem dX7_violation_83 : decode cX7_violation 83 = .ok (.iconst 2, 1) := by decide +kernel
theorem dX7_violation_84 : decode cX7_violation 84 = .ok (.iadd, 1) := by decide +kernel
theorem dX7_violation_85 : decode cX7_violation 85 = .ok (.iaload, 1) := by decide +kernel
theorem dX7_violation_86 : decode cX7_violation 86 = .ok (.isub, 1) := by decide +kernel
theorem dX7_violation_87 : decode cX7_violation 87 = .ok (.iconst 0, 1) := by decide +kernel
theorem dX7_violation_88 : decode cX7_violation 88 = .ok (.invokestatic 41, 3) := by decide +kernel
theorem dX7_violation_91 : decode cX7_violation 91 = .ok (.iload_n 3, 1) := by decide +kernel
theorem dX7_violation_92 : decode cX7_violation 92 = .ok (.aload_n 0, 1) := by decide +kernel
theorem dX7_violation_93 : decode cX7_violation 93 = .ok (.getfield 9, 3) := by decide +kernel
theorem dX7_violation_96 : decode cX7_violation 96 = .ok (.iload 5, 2) := by decide +kernel
theorem dX7_violation_98 : decode cX7_violation 98 = .ok (.iconst 3, 1) := by decide +kernel
theorem dX7_violation_99 : decode cX7_violation 99 = .ok (.iadd, 1) := by decide +kernel
theorem dX7_violation_100 : decode cX7_violation 100 = .ok (.iaload, 1) := by decide +kernel
theorem dX7_violation_101 : decode cX7_violation 101 = .ok (.isub, 1) := by decide +kernel
theorem dX7_violation_102 : decode cX7_violation 102 = .ok (.iconst 0, 1) := by decide +kernel
theorem dX7_violation_103 : decode cX7_violation 103 = .ok (.invokestatic 41, 3) := by decide +kernel
theorem dX7_violation_106 : decode cX7_violation 106 = .ok (.iadd, 1) := by decide +kernel
theorem dX7_violation_107 : decode cX7_violation 107 = .ok (.iadd, 1) := by decide +kernel
theorem dX7_violation_108 : decode cX7_violation 108 = .ok (.istore 4, 2) := by decide +kernel
theorem dX7_violation_110 : decode cX7_violation 110 = .ok (.iinc 5 4, 3) := by decide +kernel
theorem dX7_violation_113 : decode cX7_violation 113 = .ok (.goto (-97), 3) := by decide +kernel
theorem dX7_violation_116 : decode cX7_violation 116 = .ok (.iload 4, 2) := by decide +kernel
theorem dX7_violation_118 : decode cX7_violation 118 = .ok (.ireturn, 1) := by decide +kernel
theorem dX7_hash_0 : decode cX7_hash 0 = .ok (.ldc2_w 46, 3) := by decide +kernel
theorem dX7_hash_3 : decode cX7_hash 3 = .ok (.lload_n 1, 1) := by decide +kernel
theorem dX7_hash_4 : decode cX7_hash 4 = .ok (.lmul, 1) := by decide +kernel
theorem dX7_hash_5 : decode cX7_hash 5 = .ok (.aload_n 0, 1) := by decide +kernel
theorem dX7_hash_6 : decode cX7_hash 6 = .ok (.getfield 19, 3) := by decide +kernel
theorem dX7_hash_9 : decode cX7_hash 9 = .ok (.i2l, 1) := by decide +kernel
theorem dX7_hash_10 : decode cX7_hash 10 = .ok (.ladd, 1) := by decide +kernel
theorem dX7_hash_11 : decode cX7_hash 11 = .ok (.lstore_n 3, 1) := by decide +kernel
theorem dX7_hash_12 : decode cX7_hash 12 = .ok (.iconst 0, 1) := by decide +kernel
theorem dX7_hash_13 : decode cX7_hash 13 = .ok (.istore 5, 2) := by decide +kernel
theorem dX7_hash_15 : decode cX7_hash 15 = .ok (.iload 5, 2) := by decide +kernel
theorem dX7_hash_17 : decode cX7_hash 17 = .ok (.aload_n 0, 1) := by decide +kernel
theorem dX7_hash_18 : decode cX7_hash 18 = .ok (.getfield 19, 3) := by decide +kernel
theorem dX7_hash_21 : decode cX7_hash 21 = .ok (.iconst 4, 1) := by decide +kernel
theorem dX7_hash_22 : decode cX7_hash 22 = .ok (.imul, 1) := by decide +kernel
theorem dX7_hash_23 : decode cX7_hash 23 = .ok (.if_icmp .ge 34, 3) := by decide +kernel
theorem dX7_hash_26 : decode cX7_hash 26 = .ok (.iload 5, 2) := by decide +kernel
theorem dX7_hash_28 : decode cX7_hash 28 = .ok (.aload_n 0, 1) := by decide +kernel
theorem dX7_hash_29 : decode cX7_hash 29 = .ok (.getfield 9, 3) := by decide +kernel
theorem dX7_hash_32 : decode cX7_hash 32 = .ok (.arraylength, 1) := by decide +kernel
theorem dX7_hash_33 : decode cX7_hash 33 = .ok (.if_icmp .ge 24, 3) := by decide +kernel
theorem dX7_hash_36 : decode cX7_hash 36 = .ok (.ldc2_w 46, 3) := by decide +kernel
theorem dX7_hash_39 : decode cX7_hash 39 = .ok (.lload_n 3, 1) := by decide +kernel
theorem dX7_hash_40 : decode cX7_hash 40 = .ok (.lmul, 1) := by decide +kernel
theorem dX7_hash_41 : decode cX7_hash 41 = .ok (.aload_n 0, 1) := by decide +kernel
theorem dX7_hash_42 : decode cX7_hash 42 = .ok (.getfield 9, 3) := by decide +kernel
theorem dX7_hash_45 : decode cX7_hash 45 = .ok (.iload 5, 2) := by decide +kernel
theorem dX7_hash_47 : decode cX7_hash 47 = .ok (.iaload, 1) := by decide +kernel
theorem dX7_hash_48 : decode cX7_hash 48 = .ok (.i2l, 1) := by decide +kernel
theorem dX7_hash_49 : decode cX7_hash 49 = .ok (.ladd, 1) := by decide +kernel
theorem dX7_hash_50 : decode cX7_hash 50 = .ok (.lstore_n 3, 1) := by decide +kernel
theorem dX7_hash_51 : decode cX7_hash 51 = .ok (.iinc 5 1, 3) := by decide +kernel
theorem dX7_hash_54 : decode cX7_hash 54 = .ok (.goto (-39), 3) := by decide +kernel
theorem dX7_hash_57 : decode cX7_hash 57 = .ok (.lload_n 3, 1) := by decide +kernel
theorem dX7_hash_58 : decode cX7_hash 58 = .ok (.lreturn, 1) := by decide +kernel
set_option maxRecDepth 20000 in
theorem ggX8_init_X5_init : GoodIn wsX8_init wsX5_init := goodIn_r _ [24, 25, 2, 3, 26, 20, 21, 27, 28, 29, 30, 31, 32, 33, 34, 35, 36, 37, 38, 39, 40, 41, 42, 43, 44, 45, 46, 47, 48, 49, 50, 51, 52, 9, 53, 54, 55, 56, 57, 58, 59, 60, 61, 62, 63, 64, 65, 66, 67, 68, 69, 70, 71, 108, 109, 110, 111, 112, 113, 114, 80, 81, 82, 83, 84, 85, 86, 87, 88, 115, 116, 117, 118, 119, 120, 121, 122, 123, 124, 125, 126, 127, 128] (by decide +kernel) (by decide +kernel)
set_option maxRecDepth 20000 in
theorem gX8_init_X5_init_n9 : GoodIn wsX8_init (wsX5_init) := ggX8_init_X5_init
set_option maxRecDepth 20000 in
theorem ggX8_init_X4_init : GoodIn wsX8_init wsX4_init := goodIn_r _ [73, 74, 2, 3, 9, 75, 76, 98, 99, 100, 101, 102, 103] (by decide +kernel) (by decide +kernel)
set_option maxRecDepth 20000 in
theorem gX8_init_X4_init_n26 : GoodIn wsX8_init (wsX4_init) := ggX8_init_X4_init
set_option maxRecDepth 20000 in
theorem ggX8_init_X2_init : GoodIn wsX8_init wsX2_init := goodIn_r _ [78, 79, 2, 3] (by decide +kernel) (by decide +kernel)
set_option maxRecDepth 20000 in
theorem gX8_init_X2_init_n33 : GoodIn wsX8_init (wsX2_init) := ggX8_init_X2_init
set_option maxRecDepth 20000 in
theorem ggX8_init_X0_init : GoodIn wsX8_init wsX0_init := goodIn_r _ [45, 46, 2, 3, 47, 48, 49, 108, 109, 110, 111, 112, 113, 114] (by decide +kernel) (by decide +kernel)
set_option maxRecDepth 20000 in
theorem gX8_init_X0_init_n40 : GoodIn wsX8_init (wsX0_init) := ggX8_init_X0_init
theorem dX8_init_0 : decode cX8_init 0 = .ok (.aload_n 0, 1) := by decide +kernel
theorem dX8_init_1 : decode cX8_init 1 = .ok (.invokespecial 1, 3) := by decide +kernel
theorem dX8_init_4 : decode cX8_init 4 = .ok (.aload_n 0, 1) := by decide +kernel
theorem dX8_init_5 : decode cX8_init 5 = .ok (.new 7, 3) := by decide +kernel
theorem dX8_init_8 : decode cX8_init 8 = .ok (.dup, 1) := by decide +kernel
theorem dX8_init_9 : decode cX8_init 9 = .ok (.invokespecial 9, 3) := by decide +kernel
theorem dX8_init_12 : decode cX8_init 12 = .ok (.putfield 10, 3) := by decide +kernel
theorem dX8_init_15 : decode cX8_init 15 = .ok (.aload_n 0, 1) := by decide +kernel
theorem dX8_init_16 : decode cX8_init 16 = .ok (.iconst 4, 1) := by decide +kernel
theorem dX8_init_17 : decode cX8_init 17 = .ok (.anewarray 7, 3) := by decide +kernel
theorem dX8_init_20 : decode cX8_init 20 = .ok (.putfield 16, 3) := by decide +kernel
theorem dX8_init_23 : decode cX8_init 23 = .ok (.aload_n 0, 1) := by decide +kernel
theorem dX8_init_24 : decode cX8_init 24 = .ok (.bipush 80, 2) := by decide +kernel
theorem dX8_init_26 : decode cX8_init 26 = .ok (.newarray .int, 2) := by decide +kernel
theorem dX8_init_28 : decode cX8_init 28 = .ok (.putfield 20, 3) := by decide +kernel
theorem dX8_init_31 : decode cX8_init 31 = .ok (.aload_n 0, 1) := by decide +kernel
theorem dX8_init_32 : decode cX8_init 32 = .ok (.new 24, 3) := by decide +kernel
theorem dX8_init_35 : decode cX8_init 35 = .ok (.dup, 1) := by decide +kernel
theorem dX8_init_36 : decode cX8_init 36 = .ok (.invokespecial 26, 3) := by decide +kernel
theorem dX8_init_39 : decode cX8_init 39 = .ok (.putfield 27, 3) := by decide +kernel
theorem dX8_init_42 : decode cX8_init 42 = .ok (.aload_n 0, 1) := by decide +kernel
theorem dX8_init_43 : decode cX8_init 43 = .ok (.new 31, 3) := by decide +kernel
theorem dX8_init_46 : decode cX8_init 46 = .ok (.dup, 1) := by decide +kernel
theorem dX8_init_47 : decode cX8_init 47 = .ok (.invokespecial 33, 3) := by decide +kernel
theorem dX8_init_50 : decode cX8_init 50 = .ok (.putfield 34, 3) := by decide +kernel
theorem dX8_init_53 : decode cX8_init 53 = .ok (.aload_n 0, 1) := by decide +kernel
theorem dX8_init_54 : decode cX8_init 54 = .ok (.new 38, 3) := by decide +kernel
theorem dX8_init_57 : decode cX8_init 57 = .ok (.dup, 1) := by decide +kernel
theorem dX8_init_58 : decode cX8_init 58 = .ok (.invokespecial 40, 3) := by decide +kernel
theorem dX8_init_61 : decode cX8_init 61 = .ok (.putfield 41, 3) := by decide +kernel
theorem dX8_init_64 : decode cX8_init 64 = .ok (.return_, 1) := by decide +kernel
set_option maxRecDepth 20000 in
theorem ggX8_setOutrigger_X8_requireIndex : GoodIn wsX8_setOutrigger wsX8_requireIndex := goodIn_ca (goodIn_r _ [6, 7, 8] (by decide +kernel) (by decide +kernel)) (goodIn_sub (fun _ h => List.mem_cons_of_mem _ (List.mem_append_left _ (List.mem_append_right _ h))) (by decide +kernel))
set_option maxRecDepth 20000 in
theorem gX8_setOutrigger_X8_requireIndex : GoodIn wsX8_setOutrigger (va_wsS RX8 47 yX8_requireIndex wsX8_requireIndex) := goodIn_app (goodIn_of _ (by decide +kernel)) ggX8_setOutrigger_X8_requireIndex
set_option maxRecDepth 20000 in
theorem ggX8_setOutrigger_X8_requireArgument : GoodIn wsX8_setOutrigger wsX8_requireArgument := goodIn_ca (goodIn_r _ [11, 12, 13] (by decide +kernel) (by decide +kernel)) (goodIn_sub (fun _ h => List.mem_cons_of_mem _ (List.mem_append_right _ h)) (by decide +kernel))
set_option maxRecDepth 20000 in
theorem gX8_setOutrigger_X8_requireArgument : GoodIn wsX8_setOutrigger (va_wsS RX8 51 yX8_requireArgument wsX8_requireArgument) := goodIn_app (goodIn_of _ (by decide +kernel)) ggX8_setOutrigger_X8_requireArgument
set_option maxRecDepth 20000 in
theorem ggX8_setOutrigger_X8_save : GoodIn wsX8_setOutrigger wsX8_save := goodIn_r _ [17, 18, 19, 20, 21, 22, 1, 23, 24, 25, 26, 27, 28, 29, 30, 31, 32, 33, 34, 35, 36, 37, 38, 39, 40, 41, 42, 43, 44, 45, 46, 47, 48, 49, 50, 51, 52, 53, 54, 55, 56, 57, 58, 59, 60, 61, 62, 63, 64, 65, 66, 67, 68, 69, 70, 71, 72, 73, 74, 75, 76, 77, 78, 79, 80, 81, 82, 83, 84, 85, 86, 87, 88, 89, 90, 91, 92, 93, 94, 95, 96, 97, 98, 99, 100, 101, 102, 103, 104, 105, 106, 107, 108, 109, 110, 111, 112, 113, 114, 115, 116, 117, 118, 119, 120, 121, 122, 123, 124, 129, 130, 131, 132, 133, 134, 135, 136, 137, 138, 139, 140, 141, 142, 143, 144, 145, 146, 147, 148, 149, 150, 151, 152, 153, 154, 155, 156, 157, 158, 159, 160, 161, 162, 163, 164, 165, 166, 167] (by decide +kernel) (by decide +kernel)
set_option maxRecDepth 20000 in
theorem gX8_setOutrigger_X8_save : GoodIn wsX8_setOutrigger (wsV RX8 55 RX8 yX8_save wsX8_save) := goodIn_app (goodIn_of _ (by decide +kernel)) ggX8_setOutrigger_X8_save
set_option maxRecDepth 20000 in
theorem ggX8_setOutrigger_X1_extendOutrigger : GoodIn wsX8_setOutrigger wsX1_extendOutrigger := goodIn_r _ [128, 64, 154, 155, 156, 157] (by decide +kernel) (by decide +kernel)
set_option maxRecDepth 20000 in
theorem gX8_setOutrigger_X1_extendOutrigger : GoodIn wsX8_setOutrigger (wsV RX8 62 RX1 yX1_extendOutrigger wsX1_extendOutrigger) := goodIn_app (goodIn_of _ (by decide +kernel)) ggX8_setOutrigger_X1_extendOutrigger
