theorem dX9_wind_10 : decode cX9_wind 10 = .ok (.invokestatic 132, 3) := by decide +kernel
theorem dX9_wind_13 : decode cX9_wind 13 = .ok (.ifCond .ne 9, 3) := by decide +kernel
theorem dX9_wind_16 : decode cX9_wind 16 = .ok (.aload_n 0, 1) := by decide +kernel
theorem dX9_wind_17 : decode cX9_wind 17 = .ok (.iconst 1, 1) := by decide +kernel
theorem dX9_wind_18 : decode cX9_wind 18 = .ok (.invokevirtual 136, 3) := by decide +kernel
theorem dX9_wind_21 : decode cX9_wind 21 = .ok (.ireturn, 1) := by decide +kernel
theorem dX9_wind_22 : decode cX9_wind 22 = .ok (.aload_n 0, 1) := by decide +kernel
theorem dX9_wind_23 : decode cX9_wind 23 = .ok (.invokevirtual 35, 3) := by decide +kernel
theorem dX9_wind_26 : decode cX9_wind 26 = .ok (.iconst 0, 1) := by decide +kernel
theorem dX9_wind_27 : decode cX9_wind 27 = .ok (.istore_n 2, 1) := by decide +kernel
theorem dX9_wind_28 : decode cX9_wind 28 = .ok (.iload_n 2, 1) := by decide +kernel
theorem dX9_wind_29 : decode cX9_wind 29 = .ok (.iconst 3, 1) := by decide +kernel
theorem dX9_wind_30 : decode cX9_wind 30 = .ok (.if_icmp .ge 29, 3) := by decide +kernel
theorem dX9_wind_33 : decode cX9_wind 33 = .ok (.aload_n 0, 1) := by decide +kernel
theorem dX9_wind_34 : decode cX9_wind 34 = .ok (.getfield 7, 3) := by decide +kernel
theorem dX9_wind_37 : decode cX9_wind 37 = .ok (.bipush 14, 2) := by decide +kernel
theorem dX9_wind_39 : decode cX9_wind 39 = .ok (.iload_n 2, 1) := by decide +kernel
theorem dX9_wind_40 : decode cX9_wind 40 = .ok (.iadd, 1) := by decide +kernel
theorem dX9_wind_41 : decode cX9_wind 41 = .ok (.aload_n 0, 1) := by decide +kernel
theorem dX9_wind_42 : decode cX9_wind 42 = .ok (.getfield 7, 3) := by decide +kernel
theorem dX9_wind_45 : decode cX9_wind 45 = .ok (.bipush 14, 2) := by decide +kernel
theorem dX9_wind_47 : decode cX9_wind 47 = .ok (.iload_n 2, 1) := by decide +kernel
theorem dX9_wind_48 : decode cX9_wind 48 = .ok (.iadd, 1) := by decide +kernel
theorem dX9_wind_49 : decode cX9_wind 49 = .ok (.iconst 1, 1) := by decide +kernel
theorem dX9_wind_50 : decode cX9_wind 50 = .ok (.iadd, 1) := by decide +kernel
theorem dX9_wind_51 : decode cX9_wind 51 = .ok (.iaload, 1) := by decide +kernel
theorem dX9_wind_52 : decode cX9_wind 52 = .ok (.iastore, 1) := by decide +kernel
theorem dX9_wind_53 : decode cX9_wind 53 = .ok (.iinc 2 1, 3) := by decide +kernel
theorem dX9_wind_56 : decode cX9_wind 56 = .ok (.goto (-28), 3) := by decide +kernel
theorem dX9_wind_59 : decode cX9_wind 59 = .ok (.aload_n 0, 1) := by decide +kernel
theorem dX9_wind_60 : decode cX9_wind 60 = .ok (.getfield 7, 3) := by decide +kernel
theorem dX9_wind_63 : decode cX9_wind 63 = .ok (.bipush 17, 2) := by decide +kernel
theorem dX9_wind_65 : decode cX9_wind 65 = .ok (.iload_n 1, 1) := by decide +kernel
theorem dX9_wind_66 : decode cX9_wind 66 = .ok (.iastore, 1) := by decide +kernel
theorem dX9_wind_67 : decode cX9_wind 67 = .ok (.aload_n 0, 1) := by decide +kernel
theorem dX9_wind_68 : decode cX9_wind 68 = .ok (.invokevirtual 100, 3) := by decide +kernel
theorem dX9_wind_71 : decode cX9_wind 71 = .ok (.ireturn, 1) := by decide +kernel
set_option maxRecDepth 20000 in
theorem ggX9_attach_X9_in : GoodIn wsX9_attach wsX9_in := goodIn_r _ [7] (by decide +kernel) (by decide +kernel)
set_option maxRecDepth 20000 in
theorem gX9_attach_X9_in : GoodIn wsX9_attach (va_wsS RX9 132 yX9_in wsX9_in) := goodIn_app (goodIn_of _ (by decide +kernel)) ggX9_attach_X9_in
set_option maxRecDepth 20000 in
theorem ggX9_attach_X9_fails : GoodIn wsX9_attach wsX9_fails := goodIn_r _ [11, 1, 22, 23, 24, 25, 26, 27, 28, 29, 30, 31, 32, 33, 34] (by decide +kernel) (by decide +kernel)
set_option maxRecDepth 20000 in
theorem gX9_attach_X9_fails : GoodIn wsX9_attach (wsV RX9 136 RX9 yX9_fails wsX9_fails) := goodIn_app (goodIn_of _ (by decide +kernel)) ggX9_attach_X9_fails
set_option maxRecDepth 20000 in
theorem ggX9_attach_X9_change : GoodIn wsX9_attach wsX9_change := goodIn_r _ [15, 3, 16, 17, 18, 6, 19, 20, 21, 22, 23, 24, 25, 26, 27, 28, 29, 30, 31, 32, 33, 34] (by decide +kernel) (by decide +kernel)
set_option maxRecDepth 20000 in
theorem gX9_attach_X9_change : GoodIn wsX9_attach (wsV RX9 139 RX9 yX9_change wsX9_change) := goodIn_app (goodIn_of _ (by decide +kernel)) ggX9_attach_X9_change
theorem dX9_attach_0 : decode cX9_attach 0 = .ok (.aload_n 0, 1) := by decide +kernel
theorem dX9_attach_1 : decode cX9_attach 1 = .ok (.iconst 0, 1) := by decide +kernel
theorem dX9_attach_2 : decode cX9_attach 2 = .ok (.putfield 28, 3) := by decide +kernel
theorem dX9_attach_5 : decode cX9_attach 5 = .ok (.iload_n 1, 1) := by decide +kernel
theorem dX9_attach_6 : decode cX9_attach 6 = .ok (.iconst 0, 1) := by decide +kernel
theorem dX9_attach_7 : decode cX9_attach 7 = .ok (.ldc 145, 2) := by decide +kernel
theorem dX9_attach_9 : decode cX9_attach 9 = .ok (.invokestatic 132, 3) := by decide +kernel
theorem dX9_attach_12 : decode cX9_attach 12 = .ok (.ifCond .ne 9, 3) := by decide +kernel
theorem dX9_attach_15 : decode cX9_attach 15 = .ok (.aload_n 0, 1) := by decide +kernel
theorem dX9_attach_16 : decode cX9_attach 16 = .ok (.iconst 1, 1) := by decide +kernel
theorem dX9_attach_17 : decode cX9_attach 17 = .ok (.invokevirtual 136, 3) := by decide +kernel
theorem dX9_attach_20 : decode cX9_attach 20 = .ok (.ireturn, 1) := by decide +kernel
theorem dX9_attach_21 : decode cX9_attach 21 = .ok (.aload_n 0, 1) := by decide +kernel
theorem dX9_attach_22 : decode cX9_attach 22 = .ok (.getfield 7, 3) := by decide +kernel
theorem dX9_attach_25 : decode cX9_attach 25 = .ok (.iconst 4, 1) := by decide +kernel
theorem dX9_attach_26 : decode cX9_attach 26 = .ok (.iaload, 1) := by decide +kernel
theorem dX9_attach_27 : decode cX9_attach 27 = .ok (.ifCond .ne 22, 3) := by decide +kernel
theorem dX9_attach_30 : decode cX9_attach 30 = .ok (.aload_n 0, 1) := by decide +kernel
theorem dX9_attach_31 : decode cX9_attach 31 = .ok (.getfield 7, 3) := by decide +kernel
theorem dX9_attach_34 : decode cX9_attach 34 = .ok (.iconst 3, 1) := by decide +kernel
theorem dX9_attach_35 : decode cX9_attach 35 = .ok (.iaload, 1) := by decide +kernel
theorem dX9_attach_36 : decode cX9_attach 36 = .ok (.ifCond .ne 13, 3) := by decide +kernel
theorem dX9_attach_39 : decode cX9_attach 39 = .ok (.aload_n 0, 1) := by decide +kernel
theorem dX9_attach_40 : decode cX9_attach 40 = .ok (.bipush 6, 2) := by decide +kernel
theorem dX9_attach_42 : decode cX9_attach 42 = .ok (.iload_n 1, 1) := by decide +kernel
theorem dX9_attach_43 : decode cX9_attach 43 = .ok (.invokevirtual 139, 3) := by decide +kernel
theorem dX9_attach_46 : decode cX9_attach 46 = .ok (.goto 8, 3) := by decide +kernel
theorem dX9_attach_49 : decode cX9_attach 49 = .ok (.aload_n 0, 1) := by decide +kernel
theorem dX9_attach_50 : decode cX9_attach 50 = .ok (.iconst 2, 1) := by decide +kernel
theorem dX9_attach_51 : decode cX9_attach 51 = .ok (.invokevirtual 136, 3) := by decide +kernel
theorem dX9_attach_54 : decode cX9_attach 54 = .ok (.ireturn, 1) := by decide +kernel
set_option maxRecDepth 20000 in
theorem ggX9_setTare_X9_in : GoodIn wsX9_setTare wsX9_in := goodIn_r _ [5] (by decide +kernel) (by decide +kernel)
set_option maxRecDepth 20000 in
theorem gX9_setTare_X9_in : GoodIn wsX9_setTare (va_wsS RX9 132 yX9_in wsX9_in) := goodIn_app (goodIn_of _ (by decide +kernel)) ggX9_setTare_X9_in
set_option maxRecDepth 20000 in
theorem ggX9_setTare_X9_change : GoodIn wsX9_setTare wsX9_change := goodIn_r _ [9, 10, 11, 12, 13, 4, 14, 15, 16, 21, 22, 23, 24, 25, 26, 27, 28, 29, 30, 31, 32, 33] (by decide +kernel) (by decide +kernel)
set_option maxRecDepth 20000 in
theorem gX9_setTare_X9_change : GoodIn wsX9_setTare (wsV RX9 139 RX9 yX9_change wsX9_change) := goodIn_app (goodIn_of _ (by decide +kernel)) ggX9_setTare_X9_change
set_option maxRecDepth 20000 in
theorem ggX9_setTare_X9_fails : GoodIn wsX9_setTare wsX9_fails := goodIn_r _ [20, 1, 21, 22, 23, 24, 25, 26, 27, 28, 29, 30, 31, 32, 33] (by decide +kernel) (by decide +kernel)
set_option maxRecDepth 20000 in
theorem gX9_setTare_X9_fails : GoodIn wsX9_setTare (wsV RX9 136 RX9 yX9_fails wsX9_fails) := goodIn_app (goodIn_of _ (by decide +kernel)) ggX9_setTare_X9_fails
theorem dX9_setTare_0 : decode cX9_setTare 0 = .ok (.aload_n 0, 1) := by decide +kernel
theorem dX9_setTare_1 : decode cX9_setTare 1 = .ok (.iconst 0, 1) := by decide +kernel
theorem dX9_setTare_2 : decode cX9_setTare 2 = .ok (.putfield 28, 3) := by decide +kernel
theorem dX9_setTare_5 : decode cX9_setTare 5 = .ok (.iload_n 1, 1) := by decide +kernel
theorem dX9_setTare_6 : decode cX9_setTare 6 = .ok (.iconst 0, 1) := by decide +kernel
theorem dX9_setTare_7 : decode cX9_setTare 7 = .ok (.sipush 2000, 3) := by decide +kernel
theorem dX9_setTare_10 : decode cX9_setTare 10 = .ok (.invokestatic 132, 3) := by decide +kernel
theorem dX9_setTare_13 : decode cX9_setTare 13 = .ok (.ifCond .eq 12, 3) := by decide +kernel
theorem dX9_setTare_16 : decode cX9_setTare 16 = .ok (.aload_n 0, 1) := by decide +kernel
theorem dX9_setTare_17 : decode cX9_setTare 17 = .ok (.iconst 5, 1) := by decide +kernel
theorem dX9_setTare_18 : decode cX9_setTare 18 = .ok (.iload_n 1, 1) := by decide +kernel
theorem dX9_setTare_19 : decode cX9_setTare 19 = .ok (.invokevirtual 139, 3) := by decide +kernel
theorem dX9_setTare_22 : decode cX9_setTare 22 = .ok (.goto 8, 3) := by decide +kernel
theorem dX9_setTare_25 : decode cX9_setTare 25 = .ok (.aload_n 0, 1) := by decide +kernel
theorem dX9_setTare_26 : decode cX9_setTare 26 = .ok (.iconst 1, 1) := by decide +kernel
theorem dX9_setTare_27 : decode cX9_setTare 27 = .ok (.invokevirtual 136, 3) := by decide +kernel
theorem dX9_setTare_30 : decode cX9_setTare 30 = .ok (.ireturn, 1) := by decide +kernel
set_option maxRecDepth 20000 in
theorem ggX9_bypass_X9_in : GoodIn wsX9_bypass wsX9_in := goodIn_r _ [5] (by decide +kernel) (by decide +kernel)
set_option maxRecDepth 20000 in
theorem gX9_bypass_X9_in : GoodIn wsX9_bypass (va_wsS RX9 132 yX9_in wsX9_in) := goodIn_app (goodIn_of _ (by decide +kernel)) ggX9_bypass_X9_in
set_option maxRecDepth 20000 in
theorem ggX9_bypass_X9_change : GoodIn wsX9_bypass wsX9_change := goodIn_r _ [9, 10, 11, 12, 13, 4, 14, 15, 16, 21, 22, 23, 24, 25, 26, 27, 28, 29, 30, 31, 32, 33] (by decide +kernel) (by decide +kernel)
set_option maxRecDepth 20000 in
theorem gX9_bypass_X9_change : GoodIn wsX9_bypass (wsV RX9 139 RX9 yX9_change wsX9_change) := goodIn_app (goodIn_of _ (by decide +kernel)) ggX9_bypass_X9_change
set_option maxRecDepth 20000 in
theorem ggX9_bypass_X9_fails : GoodIn wsX9_bypass wsX9_fails := goodIn_r _ [20, 1, 21, 22, 23, 24, 25, 26, 27, 28, 29, 30, 31, 32, 33] (by decide +kernel) (by decide +kernel)
set_option maxRecDepth 20000 in
theorem gX9_bypass_X9_fails : GoodIn wsX9_bypass (wsV RX9 136 RX9 yX9_fails wsX9_fails) := goodIn_app (goodIn_of _ (by decide +kernel)) ggX9_bypass_X9_fails
theorem dX9_bypass_0 : decode cX9_bypass 0 = .ok (.aload_n 0, 1) := by decide +kernel
theorem dX9_bypass_1 : decode cX9_bypass 1 = .ok (.iconst 0, 1) := by decide +kernel
theorem dX9_bypass_2 : decode cX9_bypass 2 = .ok (.putfield 28, 3) := by decide +kernel
theorem dX9_bypass_5 : decode cX9_bypass 5 = .ok (.iload_n 1, 1) := by decide +kernel
theorem dX9_bypass_6 : decode cX9_bypass 6 = .ok (.iconst 0, 1) := by decide +kernel
theorem dX9_bypass_7 : decode cX9_bypass 7 = .ok (.sipush 1000, 3) := by decide +kernel
theorem dX9_bypass_10 : decode cX9_bypass 10 = .ok (.invokestatic 132, 3) := by decide +kernel
theorem dX9_bypass_13 : decode cX9_bypass 13 = .ok (.ifCond .eq 13, 3) := by decide +kernel
theorem dX9_bypass_16 : decode cX9_bypass 16 = .ok (.aload_n 0, 1) := by decide +kernel
theorem dX9_bypass_17 : decode cX9_bypass 17 = .ok (.bipush 9, 2) := by decide +kernel
theorem dX9_bypass_19 : decode cX9_bypass 19 = .ok (.iload_n 1, 1) := by decide +kernel
theorem dX9_bypass_20 : decode cX9_bypass 20 = .ok (.invokevirtual 139, 3) := by decide +kernel
theorem dX9_bypass_23 : decode cX9_bypass 23 = .ok (.goto 8, 3) := by decide +kernel
theorem dX9_bypass_26 : decode cX9_bypass 26 = .ok (.aload_n 0, 1) := by decide +kernel
theorem dX9_bypass_27 : decode cX9_bypass 27 = .ok (.iconst 1, 1) := by decide +kernel
theorem dX9_bypass_28 : decode cX9_bypass 28 = .ok (.invokevirtual 136, 3) := by decide +kernel
theorem dX9_bypass_31 : decode cX9_bypass 31 = .ok (.ireturn, 1) := by decide +kernel
theorem dX9_speed_0 : decode cX9_speed 0 = .ok (.aload_n 0, 1) := by decide +kernel
theorem dX9_speed_1 : decode cX9_speed 1 = .ok (.getfield 7, 3) := by decide +kernel
theorem dX9_speed_4 : decode cX9_speed 4 = .ok (.bipush 7, 2) := by decide +kernel
theorem dX9_speed_6 : decode cX9_speed 6 = .ok (.iaload, 1) := by decide +kernel
theorem dX9_speed_7 : decode cX9_speed 7 = .ok (.ifCond .ne 7, 3) := by decide +kernel
theorem dX9_speed_10 : decode cX9_speed 10 = .ok (.iload_n 1, 1) := by decide +kernel
theorem dX9_speed_11 : decode cX9_speed 11 = .ok (.goto 4, 3) := by decide +kernel
theorem dX9_speed_14 : decode cX9_speed 14 = .ok (.iload_n 2, 1) := by decide +kernel
theorem dX9_speed_15 : decode cX9_speed 15 = .ok (.ireturn, 1) := by decide +kernel
set_option maxRecDepth 20000 in
theorem ggX9_carry_X9_speed : GoodIn wsX9_carry wsX9_speed := goodIn_r _ [6, 1, 26, 27, 28, 29, 30, 31, 32, 33, 34, 35, 36, 37, 38] (by decide +kernel) (by decide +kernel)
set_option maxRecDepth 20000 in
theorem gX9_carry_X9_speed : GoodIn wsX9_carry (wsV RX9 156 RX9 yX9_speed wsX9_speed) := goodIn_app (goodIn_of _ (by decide +kernel)) ggX9_carry_X9_speed
set_option maxRecDepth 20000 in
theorem ggX9_carry_X9_greater : GoodIn wsX9_carry wsX9_greater := goodIn_r _ [9] (by decide +kernel) (by decide +kernel)
set_option maxRecDepth 20000 in
theorem gX9_carry_X9_greater : GoodIn wsX9_carry (va_wsS RX9 45 yX9_greater wsX9_greater) := goodIn_app (goodIn_of _ (by decide +kernel)) ggX9_carry_X9_greater
set_option maxRecDepth 20000 in
theorem ggX9_carry_X9_lesser : GoodIn wsX9_carry wsX9_lesser := goodIn_r _ [12] (by decide +kernel) (by decide +kernel)
set_option maxRecDepth 20000 in
theorem gX9_carry_X9_lesser : GoodIn wsX9_carry (va_wsS RX9 94 yX9_lesser wsX9_lesser) := goodIn_app (goodIn_of _ (by decide +kernel)) ggX9_carry_X9_lesser
set_option maxRecDepth 20000 in
theorem ggX9_carry_X9_height : GoodIn wsX9_carry wsX9_height := goodIn_r _ [16, 1, 17, 18, 5, 19, 20, 21, 22, 23, 24, 25, 26, 27, 28, 29, 30, 31, 32, 33, 34, 35, 36, 37, 38] (by decide +kernel) (by decide +kernel)
set_option maxRecDepth 20000 in
theorem gX9_carry_X9_height : GoodIn wsX9_carry (wsV RX9 129 RX9 yX9_height wsX9_height) := goodIn_app (goodIn_of _ (by decide +kernel)) ggX9_carry_X9_height
theorem dX9_carry_0 : decode cX9_carry 0 = .ok (.iload_n 1, 1) := by decide +kernel
theorem dX9_carry_1 : decode cX9_carry 1 = .ok (.tableswitch 294 0 6 #[43, 96, 154, 182, 208, 237, 266], 43) := by decide +kernel
theorem dX9_carry_44 : decode cX9_carry 44 = .ok (.aload_n 0, 1) := by decide +kernel
theorem dX9_carry_45 : decode cX9_carry 45 = .ok (.getfield 7, 3) := by decide +kernel
theorem dX9_carry_48 : decode cX9_carry 48 = .ok (.bipush 6, 2) := by decide +kernel
theorem dX9_carry_50 : decode cX9_carry 50 = .ok (.iaload, 1) := by decide +kernel
theorem dX9_carry_51 : decode cX9_carry 51 = .ok (.ifCond .le 26, 3) := by decide +kernel
theorem dX9_carry_54 : decode cX9_carry 54 = .ok (.aload_n 0, 1) := by decide +kernel
theorem dX9_carry_55 : decode cX9_carry 55 = .ok (.getfield 7, 3) := by decide +kernel
theorem dX9_carry_58 : decode cX9_carry 58 = .ok (.iconst 4, 1) := by decide +kernel
theorem dX9_carry_59 : decode cX9_carry 59 = .ok (.iaload, 1) := by decide +kernel
theorem dX9_carry_60 : decode cX9_carry 60 = .ok (.iconst 4, 1) := by decide +kernel
theorem dX9_carry_61 : decode cX9_carry 61 = .ok (.if_icmp .ge 16, 3) := by decide +kernel
theorem dX9_carry_64 : decode cX9_carry 64 = .ok (.aload_n 0, 1) := by decide +kernel
theorem dX9_carry_65 : decode cX9_carry 65 = .ok (.getfield 7, 3) := by decide +kernel
theorem dX9_carry_68 : decode cX9_carry 68 = .ok (.iconst 4, 1) := by decide +kernel
theorem dX9_carry_69 : decode cX9_carry 69 = .ok (.dup2, 1) := by decide +kernel
theorem dX9_carry_70 : decode cX9_carry 70 = .ok (.iaload, 1) := by decide +kernel
theorem dX9_carry_71 : decode cX9_carry 71 = .ok (.iconst 1, 1) := by decide +kernel
theorem dX9_carry_72 : decode cX9_carry 72 = .ok (.iadd, 1) := by decide +kernel
theorem dX9_carry_73 : decode cX9_carry 73 = .ok (.iastore, 1) := by decide +kernel
theorem dX9_carry_74 : decode cX9_carry 74 = .ok (.goto 250, 3) := by decide +kernel
theorem dX9_carry_77 : decode cX9_carry 77 = .ok (.aload_n 0, 1) := by decide +kernel
theorem dX9_carry_78 : decode cX9_carry 78 = .ok (.getfield 7, 3) := by decide +kernel
theorem dX9_carry_81 : decode cX9_carry 81 = .ok (.iconst 3, 1) := by decide +kernel
theorem dX9_carry_82 : decode cX9_carry 82 = .ok (.dup2, 1) := by decide +kernel
theorem dX9_carry_83 : decode cX9_carry 83 = .ok (.iaload, 1) := by decide +kernel
theorem dX9_carry_84 : decode cX9_carry 84 = .ok (.aload_n 0, 1) := by decide +kernel
theorem dX9_carry_85 : decode cX9_carry 85 = .ok (.bipush 20, 2) := by decide +kernel
theorem dX9_carry_87 : decode cX9_carry 87 = .ok (.bipush 10, 2) := by decide +kernel
theorem dX9_carry_89 : decode cX9_carry 89 = .ok (.invokevirtual 156, 3) := by decide +kernel
theorem dX9_carry_92 : decode cX9_carry 92 = .ok (.iadd, 1) := by decide +kernel
theorem dX9_carry_93 : decode cX9_carry 93 = .ok (.iastore, 1) := by decide +kernel
theorem dX9_carry_94 : decode cX9_carry 94 = .ok (.goto 230, 3) := by decide +kernel
theorem dX9_carry_97 : decode cX9_carry 97 = .ok (.aload_n 0, 1) := by decide +kernel
theorem dX9_carry_98 : decode cX9_carry 98 = .ok (.getfield 7, 3) := by decide +kernel
theorem dX9_carry_101 : decode cX9_carry 101 = .ok (.iconst 3, 1) := by decide +kernel
theorem dX9_carry_102 : decode cX9_carry 102 = .ok (.iaload, 1) := by decide +kernel
theorem dX9_carry_103 : decode cX9_carry 103 = .ok (.ifCond .le 31, 3) := by decide +kernel
theorem dX9_carry_106 : decode cX9_carry 106 = .ok (.aload_n 0, 1) := by decide +kernel
theorem dX9_carry_107 : decode cX9_carry 107 = .ok (.getfield 7, 3) := by decide +kernel
theorem dX9_carry_110 : decode cX9_carry 110 = .ok (.iconst 3, 1) := by decide +kernel
theorem dX9_carry_111 : decode cX9_carry 111 = .ok (.iconst 0, 1) := by decide +kernel
theorem dX9_carry_112 : decode cX9_carry 112 = .ok (.aload_n 0, 1) := by decide +kernel
theorem dX9_carry_113 : decode cX9_carry 113 = .ok (.getfield 7, 3) := by decide +kernel
theorem dX9_carry_116 : decode cX9_carry 116 = .ok (.iconst 3, 1) := by decide +kernel
theorem dX9_carry_117 : decode cX9_carry 117 = .ok (.iaload, 1) := by decide +kernel
theorem dX9_carry_118 : decode cX9_carry 118 = .ok (.aload_n 0, 1) := by decide +kernel
theorem dX9_carry_119 : decode cX9_carry 119 = .ok (.bipush 20, 2) := by decide +kernel
theorem dX9_carry_121 : decode cX9_carry 121 = .ok (.bipush 10, 2) := by decide +kernel
theorem dX9_carry_123 : decode cX9_carry 123 = .ok (.invokevirtual 156, 3) := by decide +kernel
theorem dX9_carry_126 : decode cX9_carry 126 = .ok (.isub, 1) := by decide +kernel
theorem dX9_carry_127 : decode cX9_carry 127 = .ok (.invokestatic 45, 3) := by decide +kernel
theorem dX9_carry_130 : decode cX9_carry 130 = .ok (.iastore, 1) := by decide +kernel
theorem dX9_carry_131 : decode cX9_carry 131 = .ok (.goto 193, 3) := by decide +kernel
theorem dX9_carry_134 : decode cX9_carry 134 = .ok (.aload_n 0, 1) := by decide +kernel
theorem dX9_carry_135 : decode cX9_carry 135 = .ok (.getfield 7, 3) := by decide +kernel
theorem dX9_carry_138 : decode cX9_carry 138 = .ok (.iconst 4, 1) := by decide +kernel
theorem dX9_carry_139 : decode cX9_carry 139 = .ok (.iconst 0, 1) := by decide +kernel
theorem dX9_carry_140 : decode cX9_carry 140 = .ok (.aload_n 0, 1) := by decide +kernel
theorem dX9_carry_141 : decode cX9_carry 141 = .ok (.getfield 7, 3) := by decide +kernel
theorem dX9_carry_144 : decode cX9_carry 144 = .ok (.iconst 4, 1) := by decide +kernel
theorem dX9_carry_145 : decode cX9_carry 145 = .ok (.iaload, 1) := by decide +kernel
theorem dX9_carry_146 : decode cX9_carry 146 = .ok (.iconst 1, 1) := by decide +kernel
theorem dX9_carry_147 : decode cX9_carry 147 = .ok (.isub, 1) := by decide +kernel
theorem dX9_carry_148 : decode cX9_carry 148 = .ok (.invokestatic 45, 3) := by decide +kernel
theorem dX9_carry_151 : decode cX9_carry 151 = .ok (.iastore, 1) := by decide +kernel
theorem dX9_carry_152 : decode cX9_carry 152 = .ok (.goto 172, 3) := by decide +kernel
theorem dX9_carry_155 : decode cX9_carry 155 = .ok (.aload_n 0, 1) := by decide +kernel
theorem dX9_carry_156 : decode cX9_carry 156 = .ok (.getfield 7, 3) := by decide +kernel
theorem dX9_carry_159 : decode cX9_carry 159 = .ok (.iconst 1, 1) := by decide +kernel
theorem dX9_carry_160 : decode cX9_carry 160 = .ok (.sipush 850, 3) := by decide +kernel
theorem dX9_carry_163 : decode cX9_carry 163 = .ok (.aload_n 0, 1) := by decide +kernel
theorem dX9_carry_164 : decode cX9_carry 164 = .ok (.getfield 7, 3) := by decide +kernel
theorem dX9_carry_167 : decode cX9_carry 167 = .ok (.iconst 1, 1) := by decide +kernel
theorem dX9_carry_168 : decode cX9_carry 168 = .ok (.iaload, 1) := by decide +kernel
theorem dX9_carry_169 : decode cX9_carry 169 = .ok (.aload_n 0, 1) := by decide +kernel
theorem dX9_carry_170 : decode cX9_carry 170 = .ok (.iconst 5, 1) := by decide +kernel
theorem dX9_carry_171 : decode cX9_carry 171 = .ok (.iconst 2, 1) := by decide +kernel
theorem dX9_carry_172 : decode cX9_carry 172 = .ok (.invokevirtual 156, 3) := by decide +kernel
theorem dX9_carry_175 : decode cX9_carry 175 = .ok (.iadd, 1) := by decide +kernel
theorem dX9_carry_176 : decode cX9_carry 176 = .ok (.invokestatic 94, 3) := by decide +kernel
theorem dX9_carry_179 : decode cX9_carry 179 = .ok (.iastore, 1) := by decide +kernel
theorem dX9_carry_180 : decode cX9_carry 180 = .ok (.goto 144, 3) := by decide +kernel
theorem dX9_carry_183 : decode cX9_carry 183 = .ok (.aload_n 0, 1) := by decide +kernel
theorem dX9_carry_184 : decode cX9_carry 184 = .ok (.getfield 7, 3) := by decide +kernel
theorem dX9_carry_187 : decode cX9_carry 187 = .ok (.iconst 1, 1) := by decide +kernel
theorem dX9_carry_188 : decode cX9_carry 188 = .ok (.iconst 0, 1) := by decide +kernel
theorem dX9_carry_189 : decode cX9_carry 189 = .ok (.aload_n 0, 1) := by decide +kernel
theorem dX9_carry_190 : decode cX9_carry 190 = .ok (.getfield 7, 3) := by decide +kernel
theorem dX9_carry_193 : decode cX9_carry 193 = .ok (.iconst 1, 1) := by decide +kernel
theorem dX9_carry_194 : decode cX9_carry 194 = .ok (.iaload, 1) := by decide +kernel
theorem dX9_carry_195 : decode cX9_carry 195 = .ok (.aload_n 0, 1) := by decide +kernel
theorem dX9_carry_196 : decode cX9_carry 196 = .ok (.iconst 5, 1) := by decide +kernel
theorem dX9_carry_197 : decode cX9_carry 197 = .ok (.iconst 2, 1) := by decide +kernel
theorem dX9_carry_198 : decode cX9_carry 198 = .ok (.invokevirtual 156, 3) := by decide +kernel
theorem dX9_carry_201 : decode cX9_carry 201 = .ok (.isub, 1) := by decide +kernel
theorem dX9_carry_202 : decode cX9_carry 202 = .ok (.invokestatic 45, 3) := by decide +kernel
theorem dX9_carry_205 : decode cX9_carry 205 = .ok (.iastore, 1) := by decide +kernel
theorem dX9_carry_206 : decode cX9_carry 206 = .ok (.goto 118, 3) := by decide +kernel
theorem dX9_carry_209 : decode cX9_carry 209 = .ok (.aload_n 0, 1) := by decide +kernel
theorem dX9_carry_210 : decode cX9_carry 210 = .ok (.getfield 7, 3) := by decide +kernel
theorem dX9_carry_213 : decode cX9_carry 213 = .ok (.iconst 0, 1) := by decide +kernel
theorem dX9_carry_214 : decode cX9_carry 214 = .ok (.sipush 6000, 3) := by decide +kernel
theorem dX9_carry_217 : decode cX9_carry 217 = .ok (.aload_n 0, 1) := by decide +kernel
theorem dX9_carry_218 : decode cX9_carry 218 = .ok (.getfield 7, 3) := by decide +kernel
theorem dX9_carry_221 : decode cX9_carry 221 = .ok (.iconst 0, 1) := by decide +kernel
theorem dX9_carry_222 : decode cX9_carry 222 = .ok (.iaload, 1) := by decide +kernel
theorem dX9_carry_223 : decode cX9_carry 223 = .ok (.aload_n 0, 1) := by decide +kernel
theorem dX9_carry_224 : decode cX9_carry 224 = .ok (.bipush 10, 2) := by decide +kernel
theorem dX9_carry_226 : decode cX9_carry 226 = .ok (.iconst 5, 1) := by decide +kernel
theorem dX9_carry_227 : decode cX9_carry 227 = .ok (.invokevirtual 156, 3) := by decide +kernel
theorem dX9_carry_230 : decode cX9_carry 230 = .ok (.iadd, 1) := by decide +kernel
theorem dX9_carry_231 : decode cX9_carry 231 = .ok (.invokestatic 94, 3) := by decide +kernel
theorem dX9_carry_234 : decode cX9_carry 234 = .ok (.iastore, 1) := by decide +kernel
theorem dX9_carry_235 : decode cX9_carry 235 = .ok (.goto 89, 3) := by decide +kernel
theorem dX9_carry_238 : decode cX9_carry 238 = .ok (.aload_n 0, 1) := by decide +kernel
theorem dX9_carry_239 : decode cX9_carry 239 = .ok (.getfield 7, 3) := by decide +kernel
theorem dX9_carry_242 : decode cX9_carry 242 = .ok (.iconst 0, 1) := by decide +kernel
theorem dX9_carry_243 : decode cX9_carry 243 = .ok (.sipush 1000, 3) := by decide +kernel
theorem dX9_carry_246 : decode cX9_carry 246 = .ok (.aload_n 0, 1) := by decide +kernel
theorem dX9_carry_247 : decode cX9_carry 247 = .ok (.getfield 7, 3) := by decide +kernel
theorem dX9_carry_250 : decode cX9_carry 250 = .ok (.iconst 0, 1) := by decide +kernel
theorem dX9_carry_251 : decode cX9_carry 251 = .ok (.iaload, 1) := by decide +kernel
theorem dX9_carry_252 : decode cX9_carry 252 = .ok (.aload_n 0, 1) := by decide +kernel
theorem dX9_carry_253 : decode cX9_carry 253 = .ok (.bipush 10, 2) := by decide +kernel
theorem dX9_carry_255 : decode cX9_carry 255 = .ok (.iconst 5, 1) := by decide +kernel
theorem dX9_carry_256 : decode cX9_carry 256 = .ok (.invokevirtual 156, 3) := by decide +kernel
theorem dX9_carry_259 : decode cX9_carry 259 = .ok (.isub, 1) := by decide +kernel
theorem dX9_carry_260 : decode cX9_carry 260 = .ok (.invokestatic 45, 3) := by decide +kernel
theorem dX9_carry_263 : decode cX9_carry 263 = .ok (.iastore, 1) := by decide +kernel
theorem dX9_carry_264 : decode cX9_carry 264 = .ok (.goto 60, 3) := by decide +kernel
theorem dX9_carry_267 : decode cX9_carry 267 = .ok (.aload_n 0, 1) := by decide +kernel
theorem dX9_carry_268 : decode cX9_carry 268 = .ok (.getfield 7, 3) := by decide +kernel
theorem dX9_carry_271 : decode cX9_carry 271 = .ok (.iconst 2, 1) := by decide +kernel
theorem dX9_carry_272 : decode cX9_carry 272 = .ok (.aload_n 0, 1) := by decide +kernel
theorem dX9_carry_273 : decode cX9_carry 273 = .ok (.getfield 7, 3) := by decide +kernel
theorem dX9_carry_276 : decode cX9_carry 276 = .ok (.iconst 2, 1) := by decide +kernel
theorem dX9_carry_277 : decode cX9_carry 277 = .ok (.iaload, 1) := by decide +kernel
theorem dX9_carry_278 : decode cX9_carry 278 = .ok (.aload_n 0, 1) := by decide +kernel
theorem dX9_carry_279 : decode cX9_carry 279 = .ok (.bipush 15, 2) := by decide +kernel
theorem dX9_carry_281 : decode cX9_carry 281 = .ok (.bipush 7, 2) := by decide +kernel
theorem dX9_carry_283 : decode cX9_carry 283 = .ok (.invokevirtual 156, 3) := by decide +kernel
theorem dX9_carry_286 : decode cX9_carry 286 = .ok (.iadd, 1) := by decide +kernel
theorem dX9_carry_287 : decode cX9_carry 287 = .ok (.sipush 3600, 3) := by decide +kernel
theorem dX9_carry_290 : decode cX9_carry 290 = .ok (.irem, 1) := by decide +kernel
theorem dX9_carry_291 : decode cX9_carry 291 = .ok (.iastore, 1) := by decide +kernel
theorem dX9_carry_292 : decode cX9_carry 292 = .ok (.goto 32, 3) := by decide +kernel
theorem dX9_carry_295 : decode cX9_carry 295 = .ok (.aload_n 0, 1) := by decide +kernel
theorem dX9_carry_296 : decode cX9_carry 296 = .ok (.getfield 7, 3) := by decide +kernel
theorem dX9_carry_299 : decode cX9_carry 299 = .ok (.iconst 2, 1) := by decide +kernel
theorem dX9_carry_300 : decode cX9_carry 300 = .ok (.aload_n 0, 1) := by decide +kernel
theorem dX9_carry_301 : decode cX9_carry 301 = .ok (.getfield 7, 3) := by decide +kernel
theorem dX9_carry_304 : decode cX9_carry 304 = .ok (.iconst 2, 1) := by decide +kernel
theorem dX9_carry_305 : decode cX9_carry 305 = .ok (.iaload, 1) := by decide +kernel
theorem dX9_carry_306 : decode cX9_carry 306 = .ok (.aload_n 0, 1) := by decide +kernel
theorem dX9_carry_307 : decode cX9_carry 307 = .ok (.bipush 15, 2) := by decide +kernel
theorem dX9_carry_309 : decode cX9_carry 309 = .ok (.bipush 7, 2) := by decide +kernel
theorem dX9_carry_311 : decode cX9_carry 311 = .ok (.invokevirtual 156, 3) := by decide +kernel
theorem dX9_carry_314 : decode cX9_carry 314 = .ok (.isub, 1) := by decide +kernel
theorem dX9_carry_315 : decode cX9_carry 315 = .ok (.sipush 3600, 3) := by decide +kernel
theorem dX9_carry_318 : decode cX9_carry 318 = .ok (.iadd, 1) := by decide +kernel
theorem dX9_carry_319 : decode cX9_carry 319 = .ok (.sipush 3600, 3) := by decide +kernel
theorem dX9_carry_322 : decode cX9_carry 322 = .ok (.irem, 1) := by decide +kernel
theorem dX9_carry_323 : decode cX9_carry 323 = .ok (.iastore, 1) := by decide +kernel
theorem dX9_carry_324 : decode cX9_carry 324 = .ok (.aload_n 0, 1) := by decide +kernel
theorem dX9_carry_325 : decode cX9_carry 325 = .ok (.getfield 7, 3) := by decide +kernel
theorem dX9_carry_328 : decode cX9_carry 328 = .ok (.iconst 3, 1) := by decide +kernel
theorem dX9_carry_329 : decode cX9_carry 329 = .ok (.aload_n 0, 1) := by decide +kernel
theorem dX9_carry_330 : decode cX9_carry 330 = .ok (.getfield 7, 3) := by decide +kernel
theorem dX9_carry_333 : decode cX9_carry 333 = .ok (.iconst 3, 1) := by decide +kernel
theorem dX9_carry_334 : decode cX9_carry 334 = .ok (.iaload, 1) := by decide +kernel
theorem dX9_carry_335 : decode cX9_carry 335 = .ok (.aload_n 0, 1) := by decide +kernel
theorem dX9_carry_336 : decode cX9_carry 336 = .ok (.invokevirtual 129, 3) := by decide +kernel
theorem dX9_carry_339 : decode cX9_carry 339 = .ok (.sipush 200, 3) := by decide +kernel
theorem dX9_carry_342 : decode cX9_carry 342 = .ok (.isub, 1) := by decide +kernel
theorem dX9_carry_343 : decode cX9_carry 343 = .ok (.invokestatic 94, 3) := by decide +kernel
theorem dX9_carry_346 : decode cX9_carry 346 = .ok (.iastore, 1) := by decide +kernel
theorem dX9_carry_347 : decode cX9_carry 347 = .ok (.return_, 1) := by decide +kernel
theorem dX9_remember_0 : decode cX9_remember 0 = .ok (.iconst 0, 1) := by decide +kernel
theorem dX9_remember_1 : decode cX9_remember 1 = .ok (.istore_n 1, 1) := by decide +kernel
theorem dX9_remember_2 : decode cX9_remember 2 = .ok (.iload_n 1, 1) := by decide +kernel
theorem dX9_remember_3 : decode cX9_remember 3 = .ok (.iconst 5, 1) := by decide +kernel
theorem dX9_remember_4 : decode cX9_remember 4 = .ok (.if_icmp .ge 21, 3) := by decide +kernel
theorem dX9_remember_7 : decode cX9_remember 7 = .ok (.aload_n 0, 1) := by decide +kernel
theorem dX9_remember_8 : decode cX9_remember 8 = .ok (.getfield 19, 3) := by decide +kernel
theorem dX9_remember_11 : decode cX9_remember 11 = .ok (.iload_n 1, 1) := by decide +kernel
theorem dX9_remember_12 : decode cX9_remember 12 = .ok (.aload_n 0, 1) := by decide +kernel
theorem dX9_remember_13 : decode cX9_remember 13 = .ok (.getfield 7, 3) := by decide +kernel
theorem dX9_remember_16 : decode cX9_remember 16 = .ok (.iload_n 1, 1) := by decide +kernel
theorem dX9_remember_17 : decode cX9_remember 17 = .ok (.iaload, 1) := by decide +kernel
theorem dX9_remember_18 : decode cX9_remember 18 = .ok (.iastore, 1) := by decide +kernel
theorem dX9_remember_19 : decode cX9_remember 19 = .ok (.iinc 1 1, 3) := by decide +kernel
theorem dX9_remember_22 : decode cX9_remember 22 = .ok (.goto (-20), 3) := by decide +kernel
theorem dX9_remember_25 : decode cX9_remember 25 = .ok (.return_, 1) := by decide +kernel
theorem dX9_takeBack_0 : decode cX9_takeBack 0 = .ok (.iconst 0, 1) := by decide +kernel
theorem dX9_takeBack_1 : decode cX9_takeBack 1 = .ok (.istore_n 1, 1) := by decide +kernel
theorem dX9_takeBack_2 : decode cX9_takeBack 2 = .ok (.iload_n 1, 1) := by decide +kernel
theorem dX9_takeBack_3 : decode cX9_takeBack 3 = .ok (.iconst 5, 1) := by decide +kernel
theorem dX9_takeBack_4 : decode cX9_takeBack 4 = .ok (.if_icmp .ge 21, 3) := by decide +kernel
theorem dX9_takeBack_7 : decode cX9_takeBack 7 = .ok (.aload_n 0, 1) := by decide +kernel
theorem dX9_takeBack_8 : decode cX9_takeBack 8 = .ok (.getfield 7, 3) := by decide +kernel
theorem dX9_takeBack_11 : decode cX9_takeBack 11 = .ok (.iload_n 1, 1) := by decide +kernel
theorem dX9_takeBack_12 : decode cX9_takeBack 12 = .ok (.aload_n 0, 1) := by decide +kernel
theorem dX9_takeBack_13 : decode cX9_takeBack 13 = .ok (.getfield 19, 3) := by decide +kernel
theorem dX9_takeBack_16 : decode cX9_takeBack 16 = .ok (.iload_n 1, 1) := by decide +kernel
theorem dX9_takeBack_17 : decode cX9_takeBack 17 = .ok (.iaload, 1) := by decide +kernel
theorem dX9_takeBack_18 : decode cX9_takeBack 18 = .ok (.iastore, 1) := by decide +kernel
theorem dX9_takeBack_19 : decode cX9_takeBack 19 = .ok (.iinc 1 1, 3) := by decide +kernel
theorem dX9_takeBack_22 : decode cX9_takeBack 22 = .ok (.goto (-20), 3) := by decide +kernel
theorem dX9_takeBack_25 : decode cX9_takeBack 25 = .ok (.return_, 1) := by decide +kernel
set_option maxRecDepth 20000 in
theorem ggX9_isAtEnd_X9_height : GoodIn wsX9_isAtEnd wsX9_height := goodIn_r _ [6, 1, 7, 8, 5, 9, 10, 11, 12, 13, 14, 15, 16, 17, 18, 19, 20, 21, 22, 23, 24, 25, 26, 27, 28] (by decide +kernel) (by decide +kernel)
set_option maxRecDepth 20000 in
theorem gX9_isAtEnd_X9_height : GoodIn wsX9_isAtEnd (wsV RX9 129 RX9 yX9_height wsX9_height) := goodIn_app (goodIn_of _ (by decide +kernel)) ggX9_isAtEnd_X9_height
theorem dX9_isAtEnd_0 : decode cX9_isAtEnd 0 = .ok (.iload_n 1, 1) := by decide +kernel
theorem dX9_isAtEnd_1 : decode cX9_isAtEnd 1 = .ok (.tableswitch 175 0 5 #[39, 82, 106, 124, 139, 157], 39) := by decide +kernel
theorem dX9_isAtEnd_40 : decode cX9_isAtEnd 40 = .ok (.aload_n 0, 1) := by decide +kernel
theorem dX9_isAtEnd_41 : decode cX9_isAtEnd 41 = .ok (.getfield 7, 3) := by decide +kernel
theorem dX9_isAtEnd_44 : decode cX9_isAtEnd 44 = .ok (.iconst 4, 1) := by decide +kernel
theorem dX9_isAtEnd_45 : decode cX9_isAtEnd 45 = .ok (.iaload, 1) := by decide +kernel
theorem dX9_isAtEnd_46 : decode cX9_isAtEnd 46 = .ok (.iconst 4, 1) := by decide +kernel
theorem dX9_isAtEnd_47 : decode cX9_isAtEnd 47 = .ok (.if_icmp .eq 13, 3) := by decide +kernel
theorem dX9_isAtEnd_50 : decode cX9_isAtEnd 50 = .ok (.aload_n 0, 1) := by decide +kernel
theorem dX9_isAtEnd_51 : decode cX9_isAtEnd 51 = .ok (.getfield 7, 3) := by decide +kernel
theorem dX9_isAtEnd_54 : decode cX9_isAtEnd 54 = .ok (.bipush 6, 2) := by decide +kernel
theorem dX9_isAtEnd_56 : decode cX9_isAtEnd 56 = .ok (.iaload, 1) := by decide +kernel
theorem dX9_isAtEnd_57 : decode cX9_isAtEnd 57 = .ok (.ifCond .ne 24, 3) := by decide +kernel
theorem dX9_isAtEnd_60 : decode cX9_isAtEnd 60 = .ok (.aload_n 0, 1) := by decide +kernel
theorem dX9_isAtEnd_61 : decode cX9_isAtEnd 61 = .ok (.getfield 7, 3) := by decide +kernel
theorem dX9_isAtEnd_64 : decode cX9_isAtEnd 64 = .ok (.iconst 3, 1) := by decide +kernel
theorem dX9_isAtEnd_65 : decode cX9_isAtEnd 65 = .ok (.iaload, 1) := by decide +kernel
theorem dX9_isAtEnd_66 : decode cX9_isAtEnd 66 = .ok (.aload_n 0, 1) := by decide +kernel
theorem dX9_isAtEnd_67 : decode cX9_isAtEnd 67 = .ok (.invokevirtual 129, 3) := by decide +kernel
theorem dX9_isAtEnd_70 : decode cX9_isAtEnd 70 = .ok (.sipush 200, 3) := by decide +kernel
theorem dX9_isAtEnd_73 : decode cX9_isAtEnd 73 = .ok (.isub, 1) := by decide +kernel
theorem dX9_isAtEnd_74 : decode cX9_isAtEnd 74 = .ok (.if_icmp .ne 7, 3) := by decide +kernel
theorem dX9_isAtEnd_77 : decode cX9_isAtEnd 77 = .ok (.iconst 1, 1) := by decide +kernel
theorem dX9_isAtEnd_78 : decode cX9_isAtEnd 78 = .ok (.goto 4, 3) := by decide +kernel
theorem dX9_isAtEnd_81 : decode cX9_isAtEnd 81 = .ok (.iconst 0, 1) := by decide +kernel
theorem dX9_isAtEnd_82 : decode cX9_isAtEnd 82 = .ok (.ireturn, 1) := by decide +kernel
theorem dX9_isAtEnd_83 : decode cX9_isAtEnd 83 = .ok (.aload_n 0, 1) := by decide +kernel
theorem dX9_isAtEnd_84 : decode cX9_isAtEnd 84 = .ok (.getfield 7, 3) := by decide +kernel
theorem dX9_isAtEnd_87 : decode cX9_isAtEnd 87 = .ok (.iconst 3, 1) := by decide +kernel
theorem dX9_isAtEnd_88 : decode cX9_isAtEnd 88 = .ok (.iaload, 1) := by decide +kernel
theorem dX9_isAtEnd_89 : decode cX9_isAtEnd 89 = .ok (.ifCond .ne 16, 3) := by decide +kernel
theorem dX9_isAtEnd_92 : decode cX9_isAtEnd 92 = .ok (.aload_n 0, 1) := by decide +kernel
theorem dX9_isAtEnd_93 : decode cX9_isAtEnd 93 = .ok (.getfield 7, 3) := by decide +kernel
theorem dX9_isAtEnd_96 : decode cX9_isAtEnd 96 = .ok (.iconst 4, 1) := by decide +kernel
theorem dX9_isAtEnd_97 : decode cX9_isAtEnd 97 = .ok (.iaload, 1) := by decide +kernel
theorem dX9_isAtEnd_98 : decode cX9_isAtEnd 98 = .ok (.ifCond .ne 7, 3) := by decide +kernel
theorem dX9_isAtEnd_101 : decode cX9_isAtEnd 101 = .ok (.iconst 1, 1) := by decide +kernel
theorem dX9_isAtEnd_102 : decode cX9_isAtEnd 102 = .ok (.goto 4, 3) := by decide +kernel
theorem dX9_isAtEnd_105 : decode cX9_isAtEnd 105 = .ok (.iconst 0, 1) := by decide +kernel
theorem dX9_isAtEnd_106 : decode cX9_isAtEnd 106 = .ok (.ireturn, 1) := by decide +kernel
theorem dX9_isAtEnd_107 : decode cX9_isAtEnd 107 = .ok (.aload_n 0, 1) := by decide +kernel
theorem dX9_isAtEnd_108 : decode cX9_isAtEnd 108 = .ok (.getfield 7, 3) := by decide +kernel
theorem dX9_isAtEnd_111 : decode cX9_isAtEnd 111 = .ok (.iconst 1, 1) := by decide +kernel
theorem dX9_isAtEnd_112 : decode cX9_isAtEnd 112 = .ok (.iaload, 1) := by decide +kernel
theorem dX9_isAtEnd_113 : decode cX9_isAtEnd 113 = .ok (.sipush 850, 3) := by decide +kernel
theorem dX9_isAtEnd_116 : decode cX9_isAtEnd 116 = .ok (.if_icmp .ne 7, 3) := by decide +kernel
theorem dX9_isAtEnd_119 : decode cX9_isAtEnd 119 = .ok (.iconst 1, 1) := by decide +kernel
theorem dX9_isAtEnd_120 : decode cX9_isAtEnd 120 = .ok (.goto 4, 3) := by decide +kernel
theorem dX9_isAtEnd_123 : decode cX9_isAtEnd 123 = .ok (.iconst 0, 1) := by decide +kernel
theorem dX9_isAtEnd_124 : decode cX9_isAtEnd 124 = .ok (.ireturn, 1) := by decide +kernel
theorem dX9_isAtEnd_125 : decode cX9_isAtEnd 125 = .ok (.aload_n 0, 1) := by decide +kernel
theorem dX9_isAtEnd_126 : decode cX9_isAtEnd 126 = .ok (.getfield 7, 3) := by decide +kernel
theorem dX9_isAtEnd_129 : decode cX9_isAtEnd 129 = .ok (.iconst 1, 1) := by decide +kernel
theorem dX9_isAtEnd_130 : decode cX9_isAtEnd 130 = .ok (.iaload, 1) := by decide +kernel
theorem dX9_isAtEnd_131 : decode cX9_isAtEnd 131 = .ok (.ifCond .ne 7, 3) := by decide +kernel
theorem dX9_isAtEnd_134 : decode cX9_isAtEnd 134 = .ok (.iconst 1, 1) := by decide +kernel
theorem dX9_isAtEnd_135 : decode cX9_isAtEnd 135 = .ok (.goto 4, 3) := by decide +kernel
theorem dX9_isAtEnd_138 : decode cX9_isAtEnd 138 = .ok (.iconst 0, 1) := by decide +kernel
theorem dX9_isAtEnd_139 : decode cX9_isAtEnd 139 = .ok (.ireturn, 1) := by decide +kernel
theorem dX9_isAtEnd_140 : decode cX9_isAtEnd 140 = .ok (.aload_n 0, 1) := by decide +kernel
theorem dX9_isAtEnd_141 : decode cX9_isAtEnd 141 = .ok (.getfield 7, 3) := by decide +kernel
theorem dX9_isAtEnd_144 : decode cX9_isAtEnd 144 = .ok (.iconst 0, 1) := by decide +kernel
theorem dX9_isAtEnd_145 : decode cX9_isAtEnd 145 = .ok (.iaload, 1) := by decide +kernel
theorem dX9_isAtEnd_146 : decode cX9_isAtEnd 146 = .ok (.sipush 6000, 3) := by decide +kernel
theorem dX9_isAtEnd_149 : decode cX9_isAtEnd 149 = .ok (.if_icmp .ne 7, 3) := by decide +kernel
theorem dX9_isAtEnd_152 : decode cX9_isAtEnd 152 = .ok (.iconst 1, 1) := by decide +kernel
theorem dX9_isAtEnd_153 : decode cX9_isAtEnd 153 = .ok (.goto 4, 3) := by decide +kernel
theorem dX9_isAtEnd_156 : decode cX9_isAtEnd 156 = .ok (.iconst 0, 1) := by decide +kernel
theorem dX9_isAtEnd_157 : decode cX9_isAtEnd 157 = .ok (.ireturn, 1) := by decide +kernel
theorem dX9_isAtEnd_158 : decode cX9_isAtEnd 158 = .ok (.aload_n 0, 1) := by decide +kernel
theorem dX9_isAtEnd_159 : decode cX9_isAtEnd 159 = .ok (.getfield 7, 3) := by decide +kernel
theorem dX9_isAtEnd_162 : decode cX9_isAtEnd 162 = .ok (.iconst 0, 1) := by decide +kernel
theorem dX9_isAtEnd_163 : decode cX9_isAtEnd 163 = .ok (.iaload, 1) := by decide +kernel
theorem dX9_isAtEnd_164 : decode cX9_isAtEnd 164 = .ok (.sipush 1000, 3) := by decide +kernel
theorem dX9_isAtEnd_167 : decode cX9_isAtEnd 167 = .ok (.if_icmp .ne 7, 3) := by decide +kernel
theorem dX9_isAtEnd_170 : decode cX9_isAtEnd 170 = .ok (.iconst 1, 1) := by decide +kernel
theorem dX9_isAtEnd_171 : decode cX9_isAtEnd 171 = .ok (.goto 4, 3) := by decide +kernel
theorem dX9_isAtEnd_174 : decode cX9_isAtEnd 174 = .ok (.iconst 0, 1) := by decide +kernel
theorem dX9_isAtEnd_175 : decode cX9_isAtEnd 175 = .ok (.ireturn, 1) := by decide +kernel
theorem dX9_isAtEnd_176 : decode cX9_isAtEnd 176 = .ok (.iconst 0, 1) := by decide +kernel
theorem dX9_isAtEnd_177 : decode cX9_isAtEnd 177 = .ok (.ireturn, 1) := by decide +kernel
set_option maxRecDepth 20000 in
theorem ggX9_isWorseZone_X9_violation : GoodIn wsX9_isWorseZone wsX9_violation := goodIn_r _ [5, 6, 7, 8, 9, 4, 10, 11, 12, 13, 14, 15, 16, 17, 18, 19, 20, 21, 22, 23, 24, 25, 26, 27, 28, 29, 50, 51, 52, 53, 54, 55, 56, 57, 58, 59, 60, 61, 62] (by decide +kernel) (by decide +kernel)
set_option maxRecDepth 20000 in
theorem gX9_isWorseZone_X9_violation : GoodIn wsX9_isWorseZone (wsV RX9 153 RX9 yX9_violation wsX9_violation) := goodIn_app (goodIn_of _ (by decide +kernel)) ggX9_isWorseZone_X9_violation
set_option maxRecDepth 20000 in
theorem ggX9_isWorseZone_X9_remember : GoodIn wsX9_isWorseZone wsX9_remember := goodIn_r _ [33, 34, 6, 50, 51, 52, 53, 54, 55, 56, 57, 58, 59, 60, 61, 62] (by decide +kernel) (by decide +kernel)
set_option maxRecDepth 20000 in
theorem gX9_isWorseZone_X9_remember : GoodIn wsX9_isWorseZone (wsV RX9 159 RX9 yX9_remember wsX9_remember) := goodIn_app (goodIn_of _ (by decide +kernel)) ggX9_isWorseZone_X9_remember
set_option maxRecDepth 20000 in
theorem ggX9_isWorseZone_X9_carry : GoodIn wsX9_isWorseZone wsX9_carry := goodIn_r _ [38, 6, 39, 40, 41, 4, 42, 20, 21, 22, 43, 44, 45, 23, 24, 25, 26, 27, 28, 29, 14, 15, 16, 17, 18, 19, 50, 51, 52, 53, 54, 55, 56, 57, 58, 59, 60, 61, 62] (by decide +kernel) (by decide +kernel)
set_option maxRecDepth 20000 in
theorem gX9_isWorseZone_X9_carry : GoodIn wsX9_isWorseZone (wsV RX9 162 RX9 yX9_carry wsX9_carry) := goodIn_app (goodIn_of _ (by decide +kernel)) ggX9_isWorseZone_X9_carry
set_option maxRecDepth 20000 in
theorem ggX9_isWorseZone_X9_takeBack : GoodIn wsX9_isWorseZone wsX9_takeBack := goodIn_r _ [49, 6, 34, 50, 51, 52, 53, 54, 55, 56, 57, 58, 59, 60, 61, 62] (by decide +kernel) (by decide +kernel)
set_option maxRecDepth 20000 in
theorem gX9_isWorseZone_X9_takeBack : GoodIn wsX9_isWorseZone (wsV RX9 166 RX9 yX9_takeBack wsX9_takeBack) := goodIn_app (goodIn_of _ (by decide +kernel)) ggX9_isWorseZone_X9_takeBack
theorem dX9_isWorseZone_0 : decode cX9_isWorseZone 0 = .ok (.aload_n 0, 1) := by decide +kernel
theorem dX9_isWorseZone_1 : decode cX9_isWorseZone 1 = .ok (.invokevirtual 153, 3) := by decide +kernel
theorem dX9_isWorseZone_4 : decode cX9_isWorseZone 4 = .ok (.istore_n 2, 1) := by decide +kernel
theorem dX9_isWorseZone_5 : decode cX9_isWorseZone 5 = .ok (.aload_n 0, 1) := by decide +kernel
theorem dX9_isWorseZone_6 : decode cX9_isWorseZone 6 = .ok (.invokevirtual 159, 3) := by decide +kernel
theorem dX9_isWorseZone_9 : decode cX9_isWorseZone 9 = .ok (.aload_n 0, 1) := by decide +kernel
theorem dX9_isWorseZone_10 : decode cX9_isWorseZone 10 = .ok (.iload_n 1, 1) := by decide +kernel
theorem dX9_isWorseZone_11 : decode cX9_isWorseZone 11 = .ok (.invokevirtual 162, 3) := by decide +kernel
theorem dX9_isWorseZone_14 : decode cX9_isWorseZone 14 = .ok (.aload_n 0, 1) := by decide +kernel
theorem dX9_isWorseZone_15 : decode cX9_isWorseZone 15 = .ok (.invokevirtual 153, 3) := by decide +kernel
theorem dX9_isWorseZone_18 : decode cX9_isWorseZone 18 = .ok (.istore_n 3, 1) := by decide +kernel
theorem dX9_isWorseZone_19 : decode cX9_isWorseZone 19 = .ok (.aload_n 0, 1) := by decide +kernel
theorem dX9_isWorseZone_20 : decode cX9_isWorseZone 20 = .ok (.invokevirtual 166, 3) := by decide +kernel
theorem dX9_isWorseZone_23 : decode cX9_isWorseZone 23 = .ok (.iload_n 3, 1) := by decide +kernel
theorem dX9_isWorseZone_24 : decode cX9_isWorseZone 24 = .ok (.iload_n 2, 1) := by decide +kernel
theorem dX9_isWorseZone_25 : decode cX9_isWorseZone 25 = .ok (.if_icmp .le 7, 3) := by decide +kernel
theorem dX9_isWorseZone_28 : decode cX9_isWorseZone 28 = .ok (.iconst 1, 1) := by decide +kernel
theorem dX9_isWorseZone_29 : decode cX9_isWorseZone 29 = .ok (.goto 4, 3) := by decide +kernel
theorem dX9_isWorseZone_32 : decode cX9_isWorseZone 32 = .ok (.iconst 0, 1) := by decide +kernel
theorem dX9_isWorseZone_33 : decode cX9_isWorseZone 33 = .ok (.ireturn, 1) := by decide +kernel
set_option maxRecDepth 20000 in
theorem ggX9_isOverloadAhead_X9_utilization : GoodIn wsX9_isOverloadAhead wsX9_utilization := goodIn_r _ [6, 1, 7, 8, 9, 5, 10, 11, 12, 13, 14, 15, 16, 17, 18, 19, 20, 21, 22, 23, 24, 25, 26, 27, 28, 29, 30, 31, 32, 33, 34, 35, 36, 37, 38, 39, 40, 41, 42, 43, 44, 45, 46, 47, 48, 49, 50, 51, 52, 53, 54, 55, 56, 57, 58, 59, 60, 61, 62, 63, 64, 65, 66, 67, 68, 69, 70, 71, 72, 73, 74, 75, 76, 77, 78, 79, 80, 81, 82, 83, 84, 85, 86, 87, 88, 89, 90, 91, 92, 93, 94, 95, 96, 97, 98, 99, 100, 101, 102, 103, 104] (by decide +kernel) (by decide +kernel)
set_option maxRecDepth 20000 in
theorem gX9_isOverloadAhead_X9_utilization : GoodIn wsX9_isOverloadAhead (wsV RX9 169 RX9 yX9_utilization wsX9_utilization) := goodIn_app (goodIn_of _ (by decide +kernel)) ggX9_isOverloadAhead_X9_utilization
set_option maxRecDepth 20000 in
theorem ggX9_isOverloadAhead_X9_utilizationAt : GoodIn wsX9_isOverloadAhead wsX9_utilizationAt := goodIn_r _ [50, 1, 13, 51, 52, 53, 5, 54, 12, 31, 32, 33, 55, 56, 57, 58, 59, 60, 61, 62, 63, 64, 65, 66, 67, 68, 69, 70, 71, 72, 73, 74, 75, 76, 77, 78, 79, 80, 81, 82, 83, 84, 85, 86, 87, 88, 89, 90, 91, 92, 93, 94, 95, 96, 97, 98, 99, 100, 101, 102, 103, 104] (by decide +kernel) (by decide +kernel)
set_option maxRecDepth 20000 in
theorem gX9_isOverloadAhead_X9_utilizationAt : GoodIn wsX9_isOverloadAhead (wsV RX9 126 RX9 yX9_utilizationAt wsX9_utilizationAt) := goodIn_app (goodIn_of _ (by decide +kernel)) ggX9_isOverloadAhead_X9_utilizationAt
theorem dX9_isOverloadAhead_0 : decode cX9_isOverloadAhead 0 = .ok (.iload_n 1, 1) := by decide +kernel
theorem dX9_isOverloadAhead_1 : decode cX9_isOverloadAhead 1 = .ok (.bipush 6, 2) := by decide +kernel
theorem dX9_isOverloadAhead_3 : decode cX9_isOverloadAhead 3 = .ok (.if_icmp .lt 14, 3) := by decide +kernel
theorem dX9_isOverloadAhead_6 : decode cX9_isOverloadAhead 6 = .ok (.aload_n 0, 1) := by decide +kernel
theorem dX9_isOverloadAhead_7 : decode cX9_isOverloadAhead 7 = .ok (.getfield 7, 3) := by decide +kernel
theorem dX9_isOverloadAhead_10 : decode cX9_isOverloadAhead 10 = .ok (.bipush 7, 2) := by decide +kernel
theorem dX9_isOverloadAhead_12 : decode cX9_isOverloadAhead 12 = .ok (.iaload, 1) := by decide +kernel
theorem dX9_isOverloadAhead_13 : decode cX9_isOverloadAhead 13 = .ok (.iconst 3, 1) := by decide +kernel
theorem dX9_isOverloadAhead_14 : decode cX9_isOverloadAhead 14 = .ok (.if_icmp .ne 5, 3) := by decide +kernel
theorem dX9_isOverloadAhead_17 : decode cX9_isOverloadAhead 17 = .ok (.iconst 0, 1) := by decide +kernel
theorem dX9_isOverloadAhead_18 : decode cX9_isOverloadAhead 18 = .ok (.ireturn, 1) := by decide +kernel
theorem dX9_isOverloadAhead_19 : decode cX9_isOverloadAhead 19 = .ok (.aload_n 0, 1) := by decide +kernel
theorem dX9_isOverloadAhead_20 : decode cX9_isOverloadAhead 20 = .ok (.invokevirtual 169, 3) := by decide +kernel
theorem dX9_isOverloadAhead_23 : decode cX9_isOverloadAhead 23 = .ok (.istore_n 2, 1) := by decide +kernel
theorem dX9_isOverloadAhead_24 : decode cX9_isOverloadAhead 24 = .ok (.aload_n 0, 1) := by decide +kernel
theorem dX9_isOverloadAhead_25 : decode cX9_isOverloadAhead 25 = .ok (.aload_n 0, 1) := by decide +kernel
theorem dX9_isOverloadAhead_26 : decode cX9_isOverloadAhead 26 = .ok (.getfield 7, 3) := by decide +kernel
theorem dX9_isOverloadAhead_29 : decode cX9_isOverloadAhead 29 = .ok (.iconst 2, 1) := by decide +kernel
theorem dX9_isOverloadAhead_30 : decode cX9_isOverloadAhead 30 = .ok (.iaload, 1) := by decide +kernel
theorem dX9_isOverloadAhead_31 : decode cX9_isOverloadAhead 31 = .ok (.iload_n 1, 1) := by decide +kernel
theorem dX9_isOverloadAhead_32 : decode cX9_isOverloadAhead 32 = .ok (.bipush 6, 2) := by decide +kernel
theorem dX9_isOverloadAhead_34 : decode cX9_isOverloadAhead 34 = .ok (.if_icmp .ne 8, 3) := by decide +kernel
theorem dX9_isOverloadAhead_37 : decode cX9_isOverloadAhead 37 = .ok (.bipush 50, 2) := by decide +kernel
theorem dX9_isOverloadAhead_39 : decode cX9_isOverloadAhead 39 = .ok (.goto 6, 3) := by decide +kernel
theorem dX9_isOverloadAhead_42 : decode cX9_isOverloadAhead 42 = .ok (.sipush 3550, 3) := by decide +kernel
theorem dX9_isOverloadAhead_45 : decode cX9_isOverloadAhead 45 = .ok (.iadd, 1) := by decide +kernel
theorem dX9_isOverloadAhead_46 : decode cX9_isOverloadAhead 46 = .ok (.sipush 3600, 3) := by decide +kernel
theorem dX9_isOverloadAhead_49 : decode cX9_isOverloadAhead 49 = .ok (.irem, 1) := by decide +kernel
theorem dX9_isOverloadAhead_50 : decode cX9_isOverloadAhead 50 = .ok (.invokevirtual 126, 3) := by decide +kernel
theorem dX9_isOverloadAhead_53 : decode cX9_isOverloadAhead 53 = .ok (.istore_n 3, 1) := by decide +kernel
theorem dX9_isOverloadAhead_54 : decode cX9_isOverloadAhead 54 = .ok (.iload_n 3, 1) := by decide +kernel
theorem dX9_isOverloadAhead_55 : decode cX9_isOverloadAhead 55 = .ok (.sipush 1000, 3) := by decide +kernel
theorem dX9_isOverloadAhead_58 : decode cX9_isOverloadAhead 58 = .ok (.if_icmp .lt 12, 3) := by decide +kernel
theorem dX9_isOverloadAhead_61 : decode cX9_isOverloadAhead 61 = .ok (.iload_n 3, 1) := by decide +kernel
theorem dX9_isOverloadAhead_62 : decode cX9_isOverloadAhead 62 = .ok (.iload_n 2, 1) := by decide +kernel
theorem dX9_isOverloadAhead_63 : decode cX9_isOverloadAhead 63 = .ok (.if_icmp .le 7, 3) := by decide +kernel
theorem dX9_isOverloadAhead_66 : decode cX9_isOverloadAhead 66 = .ok (.iconst 1, 1) := by decide +kernel
theorem dX9_isOverloadAhead_67 : decode cX9_isOverloadAhead 67 = .ok (.goto 4, 3) := by decide +kernel
theorem dX9_isOverloadAhead_70 : decode cX9_isOverloadAhead 70 = .ok (.iconst 0, 1) := by decide +kernel
theorem dX9_isOverloadAhead_71 : decode cX9_isOverloadAhead 71 = .ok (.ireturn, 1) := by decide +kernel
set_option maxRecDepth 20000 in
theorem ggX9_isPermitted_X9_isAtEnd : GoodIn wsX9_isPermitted wsX9_isAtEnd := goodIn_r _ [6, 1, 7, 8, 9, 5, 10, 11, 12, 13, 14, 15, 16, 17, 18, 19, 132, 133, 134, 135, 136, 137, 138, 139, 140, 141, 142, 143, 144] (by decide +kernel) (by decide +kernel)
set_option maxRecDepth 20000 in
theorem gX9_isPermitted_X9_isAtEnd : GoodIn wsX9_isPermitted (wsV RX9 172 RX9 yX9_isAtEnd wsX9_isAtEnd) := goodIn_app (goodIn_of _ (by decide +kernel)) ggX9_isPermitted_X9_isAtEnd
set_option maxRecDepth 20000 in
theorem ggX9_isPermitted_X9_isWorseZone : GoodIn wsX9_isPermitted wsX9_isWorseZone := goodIn_r _ [23, 24, 25, 26, 5, 27, 1, 28, 29, 30, 31, 32, 33, 34, 14, 15, 16, 17, 18, 19, 35, 36, 37, 7, 8, 9, 10, 11, 12, 13, 38, 39, 40, 41, 42, 43, 44, 45, 46, 47, 48, 49, 50, 51, 52, 53, 54, 55, 56, 57, 132, 133, 134, 135, 136, 137, 138, 139, 140, 141, 142, 143, 144] (by decide +kernel) (by decide +kernel)
set_option maxRecDepth 20000 in
theorem gX9_isPermitted_X9_isWorseZone : GoodIn wsX9_isPermitted (wsV RX9 176 RX9 yX9_isWorseZone wsX9_isWorseZone) := goodIn_app (goodIn_of _ (by decide +kernel)) ggX9_isPermitted_X9_isWorseZone
set_option maxRecDepth 20000 in
theorem ggX9_isPermitted_X9_isOverloadAhead : GoodIn wsX9_isPermitted wsX9_isOverloadAhead := goodIn_r _ [61, 1, 62, 63, 64, 5, 65, 66, 67, 68, 69, 70, 71, 72, 73, 74, 75, 76, 28, 29, 30, 31, 32, 33, 34, 14, 15, 16, 17, 18, 19, 35, 36, 37, 77, 78, 79, 80, 81, 82, 83, 84, 85, 86, 87, 88, 89, 90, 91, 92, 93, 94, 95, 96, 97, 98, 99, 100, 101, 102, 103, 104, 105, 106, 107, 108, 109, 110, 111, 112, 113, 51, 52, 53, 114, 115, 116, 117, 118, 119, 120, 121, 122, 123, 124, 125, 126, 127, 128, 129, 130, 131, 132, 133, 134, 135, 136, 137, 138, 139, 140, 141, 142, 143, 144] (by decide +kernel) (by decide +kernel)
set_option maxRecDepth 20000 in
theorem gX9_isPermitted_X9_isOverloadAhead : GoodIn wsX9_isPermitted (wsV RX9 179 RX9 yX9_isOverloadAhead wsX9_isOverloadAhead) := goodIn_app (goodIn_of _ (by decide +kernel)) ggX9_isPermitted_X9_isOverloadAhead
theorem dX9_isPermitted_0 : decode cX9_isPermitted 0 = .ok (.aload_n 0, 1) := by decide +kernel
theorem dX9_isPermitted_1 : decode cX9_isPermitted 1 = .ok (.getfield 7, 3) := by decide +kernel
theorem dX9_isPermitted_4 : decode cX9_isPermitted 4 = .ok (.bipush 7, 2) := by decide +kernel
theorem dX9_isPermitted_6 : decode cX9_isPermitted 6 = .ok (.iaload, 1) := by decide +kernel
theorem dX9_isPermitted_7 : decode cX9_isPermitted 7 = .ok (.iconst 2, 1) := by decide +kernel
theorem dX9_isPermitted_8 : decode cX9_isPermitted 8 = .ok (.if_icmp .ne 21, 3) := by decide +kernel
theorem dX9_isPermitted_11 : decode cX9_isPermitted 11 = .ok (.iload_n 1, 1) := by decide +kernel
theorem dX9_isPermitted_12 : decode cX9_isPermitted 12 = .ok (.ifCond .eq 13, 3) := by decide +kernel
theorem dX9_isPermitted_15 : decode cX9_isPermitted 15 = .ok (.iload_n 1, 1) := by decide +kernel
theorem dX9_isPermitted_16 : decode cX9_isPermitted 16 = .ok (.iconst 3, 1) := by decide +kernel
theorem dX9_isPermitted_17 : decode cX9_isPermitted 17 = .ok (.if_icmp .eq 8, 3) := by decide +kernel
theorem dX9_isPermitted_20 : decode cX9_isPermitted 20 = .ok (.iload_n 1, 1) := by decide +kernel
theorem dX9_isPermitted_21 : decode cX9_isPermitted 21 = .ok (.iconst 4, 1) := by decide +kernel
theorem dX9_isPermitted_22 : decode cX9_isPermitted 22 = .ok (.if_icmp .ne 7, 3) := by decide +kernel
theorem dX9_isPermitted_25 : decode cX9_isPermitted 25 = .ok (.iconst 1, 1) := by decide +kernel
theorem dX9_isPermitted_26 : decode cX9_isPermitted 26 = .ok (.goto 4, 3) := by decide +kernel
theorem dX9_isPermitted_29 : decode cX9_isPermitted 29 = .ok (.iconst 0, 1) := by decide +kernel
theorem dX9_isPermitted_30 : decode cX9_isPermitted 30 = .ok (.istore_n 2, 1) := by decide +kernel
theorem dX9_isPermitted_31 : decode cX9_isPermitted 31 = .ok (.aload_n 0, 1) := by decide +kernel
theorem dX9_isPermitted_32 : decode cX9_isPermitted 32 = .ok (.iload_n 1, 1) := by decide +kernel
theorem dX9_isPermitted_33 : decode cX9_isPermitted 33 = .ok (.invokevirtual 172, 3) := by decide +kernel
theorem dX9_isPermitted_36 : decode cX9_isPermitted 36 = .ok (.ifCond .ne 27, 3) := by decide +kernel
theorem dX9_isPermitted_39 : decode cX9_isPermitted 39 = .ok (.iload_n 2, 1) := by decide +kernel
theorem dX9_isPermitted_40 : decode cX9_isPermitted 40 = .ok (.ifCond .ne 23, 3) := by decide +kernel
theorem dX9_isPermitted_43 : decode cX9_isPermitted 43 = .ok (.aload_n 0, 1) := by decide +kernel
theorem dX9_isPermitted_44 : decode cX9_isPermitted 44 = .ok (.iload_n 1, 1) := by decide +kernel
theorem dX9_isPermitted_45 : decode cX9_isPermitted 45 = .ok (.invokevirtual 176, 3) := by decide +kernel
theorem dX9_isPermitted_48 : decode cX9_isPermitted 48 = .ok (.ifCond .ne 15, 3) := by decide +kernel
theorem dX9_isPermitted_51 : decode cX9_isPermitted 51 = .ok (.aload_n 0, 1) := by decide +kernel
theorem dX9_isPermitted_52 : decode cX9_isPermitted 52 = .ok (.iload_n 1, 1) := by decide +kernel
theorem dX9_isPermitted_53 : decode cX9_isPermitted 53 = .ok (.invokevirtual 179, 3) := by decide +kernel
theorem dX9_isPermitted_56 : decode cX9_isPermitted 56 = .ok (.ifCond .ne 7, 3) := by decide +kernel
theorem dX9_isPermitted_59 : decode cX9_isPermitted 59 = .ok (.iconst 1, 1) := by decide +kernel
theorem dX9_isPermitted_60 : decode cX9_isPermitted 60 = .ok (.goto 4, 3) := by decide +kernel
theorem dX9_isPermitted_63 : decode cX9_isPermitted 63 = .ok (.iconst 0, 1) := by decide +kernel
theorem dX9_isPermitted_64 : decode cX9_isPermitted 64 = .ok (.ireturn, 1) := by decide +kernel
theorem dX9_log_0 : decode cX9_log 0 = .ok (.aload_n 0, 1) := by decide +kernel
theorem dX9_log_1 : decode cX9_log 1 = .ok (.getfield 7, 3) := by decide +kernel
theorem dX9_log_4 : decode cX9_log 4 = .ok (.sipush 143, 3) := by decide +kernel
theorem dX9_log_7 : decode cX9_log 7 = .ok (.iaload, 1) := by decide +kernel
theorem dX9_log_8 : decode cX9_log 8 = .ok (.bipush 30, 2) := by decide +kernel
theorem dX9_log_10 : decode cX9_log 10 = .ok (.if_icmp .ne 51, 3) := by decide +kernel
theorem dX9_log_13 : decode cX9_log 13 = .ok (.iconst 0, 1) := by decide +kernel
theorem dX9_log_14 : decode cX9_log 14 = .ok (.istore_n 3, 1) := by decide +kernel
theorem dX9_log_15 : decode cX9_log 15 = .ok (.iload_n 3, 1) := by decide +kernel
theorem dX9_log_16 : decode cX9_log 16 = .ok (.bipush 87, 2) := by decide +kernel
theorem dX9_log_18 : decode cX9_log 18 = .ok (.if_icmp .ge 31, 3) := by decide +kernel
theorem dX9_log_21 : decode cX9_log 21 = .ok (.aload_n 0, 1) := by decide +kernel
theorem dX9_log_22 : decode cX9_log 22 = .ok (.getfield 7, 3) := by decide +kernel
theorem dX9_log_25 : decode cX9_log 25 = .ok (.sipush 144, 3) := by decide +kernel
theorem dX9_log_28 : decode cX9_log 28 = .ok (.iload_n 3, 1) := by decide +kernel
theorem dX9_log_29 : decode cX9_log 29 = .ok (.iadd, 1) := by decide +kernel
theorem dX9_log_30 : decode cX9_log 30 = .ok (.aload_n 0, 1) := by decide +kernel
theorem dX9_log_31 : decode cX9_log 31 = .ok (.getfield 7, 3) := by decide +kernel
theorem dX9_log_34 : decode cX9_log 34 = .ok (.sipush 144, 3) := by decide +kernel
theorem dX9_log_37 : decode cX9_log 37 = .ok (.iload_n 3, 1) := by decide +kernel
theorem dX9_log_38 : decode cX9_log 38 = .ok (.iadd, 1) := by decide +kernel
theorem dX9_log_39 : decode cX9_log 39 = .ok (.iconst 3, 1) := by decide +kernel
theorem dX9_log_40 : decode cX9_log 40 = .ok (.iadd, 1) := by decide +kernel
theorem dX9_log_41 : decode cX9_log 41 = .ok (.iaload, 1) := by decide +kernel
theorem dX9_log_42 : decode cX9_log 42 = .ok (.iastore, 1) := by decide +kernel
theorem dX9_log_43 : decode cX9_log 43 = .ok (.iinc 3 1, 3) := by decide +kernel
theorem dX9_log_46 : decode cX9_log 46 = .ok (.goto (-31), 3) := by decide +kernel
theorem dX9_log_49 : decode cX9_log 49 = .ok (.aload_n 0, 1) := by decide +kernel
theorem dX9_log_50 : decode cX9_log 50 = .ok (.getfield 7, 3) := by decide +kernel
theorem dX9_log_53 : decode cX9_log 53 = .ok (.sipush 143, 3) := by decide +kernel
theorem dX9_log_56 : decode cX9_log 56 = .ok (.dup2, 1) := by decide +kernel
theorem dX9_log_57 : decode cX9_log 57 = .ok (.iaload, 1) := by decide +kernel
theorem dX9_log_58 : decode cX9_log 58 = .ok (.iconst 1, 1) := by decide +kernel
theorem dX9_log_59 : decode cX9_log 59 = .ok (.isub, 1) := by decide +kernel
theorem dX9_log_60 : decode cX9_log 60 = .ok (.iastore, 1) := by decide +kernel
theorem dX9_log_61 : decode cX9_log 61 = .ok (.sipush 144, 3) := by decide +kernel
theorem dX9_log_64 : decode cX9_log 64 = .ok (.iconst 3, 1) := by decide +kernel
theorem dX9_log_65 : decode cX9_log 65 = .ok (.aload_n 0, 1) := by decide +kernel
theorem dX9_log_66 : decode cX9_log 66 = .ok (.getfield 7, 3) := by decide +kernel
theorem dX9_log_69 : decode cX9_log 69 = .ok (.sipush 143, 3) := by decide +kernel
theorem dX9_log_72 : decode cX9_log 72 = .ok (.iaload, 1) := by decide +kernel
theorem dX9_log_73 : decode cX9_log 73 = .ok (.imul, 1) := by decide +kernel
theorem dX9_log_74 : decode cX9_log 74 = .ok (.iadd, 1) := by decide +kernel
theorem dX9_log_75 : decode cX9_log 75 = .ok (.istore_n 3, 1) := by decide +kernel
theorem dX9_log_76 : decode cX9_log 76 = .ok (.aload_n 0, 1) := by decide +kernel
theorem dX9_log_77 : decode cX9_log 77 = .ok (.getfield 7, 3) := by decide +kernel
theorem dX9_log_80 : decode cX9_log 80 = .ok (.iload_n 3, 1) := by decide +kernel
theorem dX9_log_81 : decode cX9_log 81 = .ok (.aload_n 0, 1) := by decide +kernel
theorem dX9_log_82 : decode cX9_log 82 = .ok (.getfield 7, 3) := by decide +kernel
theorem dX9_log_85 : decode cX9_log 85 = .ok (.bipush 8, 2) := by decide +kernel
theorem dX9_log_87 : decode cX9_log 87 = .ok (.iaload, 1) := by decide +kernel
theorem dX9_log_88 : decode cX9_log 88 = .ok (.iastore, 1) := by decide +kernel
theorem dX9_log_89 : decode cX9_log 89 = .ok (.aload_n 0, 1) := by decide +kernel
theorem dX9_log_90 : decode cX9_log 90 = .ok (.getfield 7, 3) := by decide +kernel
theorem dX9_log_93 : decode cX9_log 93 = .ok (.iload_n 3, 1) := by decide +kernel
theorem dX9_log_94 : decode cX9_log 94 = .ok (.iconst 1, 1) := by decide +kernel
theorem dX9_log_95 : decode cX9_log 95 = .ok (.iadd, 1) := by decide +kernel
theorem dX9_log_96 : decode cX9_log 96 = .ok (.iload_n 1, 1) := by decide +kernel
theorem dX9_log_97 : decode cX9_log 97 = .ok (.iastore, 1) := by decide +kernel
theorem dX9_log_98 : decode cX9_log 98 = .ok (.aload_n 0, 1) := by decide +kernel
theorem dX9_log_99 : decode cX9_log 99 = .ok (.getfield 7, 3) := by decide +kernel
theorem dX9_log_102 : decode cX9_log 102 = .ok (.iload_n 3, 1) := by decide +kernel
theorem dX9_log_103 : decode cX9_log 103 = .ok (.iconst 2, 1) := by decide +kernel
theorem dX9_log_104 : decode cX9_log 104 = .ok (.iadd, 1) := by decide +kernel
theorem dX9_log_105 : decode cX9_log 105 = .ok (.iload_n 2, 1) := by decide +kernel
theorem dX9_log_106 : decode cX9_log 106 = .ok (.iastore, 1) := by decide +kernel
theorem dX9_log_107 : decode cX9_log 107 = .ok (.aload_n 0, 1) := by decide +kernel
theorem dX9_log_108 : decode cX9_log 108 = .ok (.getfield 7, 3) := by decide +kernel
theorem dX9_log_111 : decode cX9_log 111 = .ok (.sipush 143, 3) := by decide +kernel
theorem dX9_log_114 : decode cX9_log 114 = .ok (.dup2, 1) := by decide +kernel
theorem dX9_log_115 : decode cX9_log 115 = .ok (.iaload, 1) := by decide +kernel
theorem dX9_log_116 : decode cX9_log 116 = .ok (.iconst 1, 1) := by decide +kernel
theorem dX9_log_117 : decode cX9_log 117 = .ok (.iadd, 1) := by decide +kernel
theorem dX9_log_118 : decode cX9_log 118 = .ok (.iastore, 1) := by decide +kernel
theorem dX9_log_119 : decode cX9_log 119 = .ok (.return_, 1) := by decide +kernel
set_option maxRecDepth 20000 in
theorem ggX9_move_X9_isPermitted : GoodIn wsX9_move wsX9_isPermitted := goodIn_r _ [6, 1, 7, 8, 9, 5, 10, 11, 12, 13, 14, 15, 16, 17, 18, 19, 20, 21, 22, 23, 24, 25, 26, 27, 28, 29, 30, 31, 32, 33, 34, 35, 36, 37, 38, 39, 40, 41, 42, 43, 44, 45, 46, 47, 48, 49, 50, 51, 52, 53, 54, 55, 56, 57, 58, 59, 60, 61, 62, 63, 64, 65, 66, 67, 68, 69, 70, 71, 72, 73, 74, 75, 76, 77, 78, 79, 80, 81, 82, 83, 84, 85, 86, 87, 88, 89, 90, 91, 92, 93, 94, 95, 96, 97, 98, 99, 100, 101, 102, 103, 104, 105, 106, 107, 108, 109, 110, 111, 112, 113, 114, 115, 116, 117, 118, 119, 120, 121, 122, 123, 124, 125, 126, 127, 128, 129, 130, 131, 132, 133, 134, 135, 140, 141, 142, 143, 144, 145, 146, 147, 148, 149, 150, 151, 152] (by decide +kernel) (by decide +kernel)
set_option maxRecDepth 20000 in
theorem gX9_move_X9_isPermitted : GoodIn wsX9_move (wsV RX9 182 RX9 yX9_isPermitted wsX9_isPermitted) := goodIn_app (goodIn_of _ (by decide +kernel)) ggX9_move_X9_isPermitted
set_option maxRecDepth 20000 in
theorem ggX9_move_X9_carry : GoodIn wsX9_move wsX9_carry := goodIn_r _ [50, 1, 51, 52, 53, 5, 54, 39, 40, 41, 55, 56, 57, 11, 12, 13, 14, 15, 16, 17, 18, 19, 20, 21, 22, 23, 140, 141, 142, 143, 144, 145, 146, 147, 148, 149, 150, 151, 152] (by decide +kernel) (by decide +kernel)
set_option maxRecDepth 20000 in
theorem gX9_move_X9_carry : GoodIn wsX9_move (wsV RX9 162 RX9 yX9_carry wsX9_carry) := goodIn_app (goodIn_of _ (by decide +kernel)) ggX9_move_X9_carry
set_option maxRecDepth 20000 in
theorem ggX9_move_X9_log : GoodIn wsX9_move wsX9_log := goodIn_r _ [139, 1, 140, 141, 142, 143, 144, 145, 146, 147, 148, 149, 150, 151, 152] (by decide +kernel) (by decide +kernel)
set_option maxRecDepth 20000 in
theorem gX9_move_X9_log : GoodIn wsX9_move (wsV RX9 185 RX9 yX9_log wsX9_log) := goodIn_app (goodIn_of _ (by decide +kernel)) ggX9_move_X9_log
theorem dX9_move_0 : decode cX9_move 0 = .ok (.iconst 0, 1) := by decide +kernel
theorem dX9_move_1 : decode cX9_move 1 = .ok (.istore_n 2, 1) := by decide +kernel
theorem dX9_move_2 : decode cX9_move 2 = .ok (.iconst 0, 1) := by decide +kernel
theorem dX9_move_3 : decode cX9_move 3 = .ok (.istore_n 3, 1) := by decide +kernel
theorem dX9_move_4 : decode cX9_move 4 = .ok (.iload_n 3, 1) := by decide +kernel
theorem dX9_move_5 : decode cX9_move 5 = .ok (.bipush 8, 2) := by decide +kernel
theorem dX9_move_7 : decode cX9_move 7 = .ok (.if_icmp .ge 60, 3) := by decide +kernel
theorem dX9_move_10 : decode cX9_move 10 = .ok (.iload_n 1, 1) := by decide +kernel
theorem dX9_move_11 : decode cX9_move 11 = .ok (.iload_n 3, 1) := by decide +kernel
theorem dX9_move_12 : decode cX9_move 12 = .ok (.ishr, 1) := by decide +kernel
theorem dX9_move_13 : decode cX9_move 13 = .ok (.iconst 1, 1) := by decide +kernel
theorem dX9_move_14 : decode cX9_move 14 = .ok (.iand, 1) := by decide +kernel
theorem dX9_move_15 : decode cX9_move 15 = .ok (.iconst 1, 1) := by decide +kernel
theorem dX9_move_16 : decode cX9_move 16 = .ok (.if_icmp .ne 45, 3) := by decide +kernel
theorem dX9_move_19 : decode cX9_move 19 = .ok (.aload_n 0, 1) := by decide +kernel
theorem dX9_move_20 : decode cX9_move 20 = .ok (.iload_n 3, 1) := by decide +kernel
theorem dX9_move_21 : decode cX9_move 21 = .ok (.invokevirtual 182, 3) := by decide +kernel
theorem dX9_move_24 : decode cX9_move 24 = .ok (.ifCond .eq 11, 3) := by decide +kernel
theorem dX9_move_27 : decode cX9_move 27 = .ok (.aload_n 0, 1) := by decide +kernel
theorem dX9_move_28 : decode cX9_move 28 = .ok (.iload_n 3, 1) := by decide +kernel
theorem dX9_move_29 : decode cX9_move 29 = .ok (.invokevirtual 162, 3) := by decide +kernel
theorem dX9_move_32 : decode cX9_move 32 = .ok (.goto 29, 3) := by decide +kernel
theorem dX9_move_35 : decode cX9_move 35 = .ok (.iload_n 2, 1) := by decide +kernel
theorem dX9_move_36 : decode cX9_move 36 = .ok (.iconst 1, 1) := by decide +kernel
theorem dX9_move_37 : decode cX9_move 37 = .ok (.iload_n 3, 1) := by decide +kernel
theorem dX9_move_38 : decode cX9_move 38 = .ok (.ishl, 1) := by decide +kernel
theorem dX9_move_39 : decode cX9_move 39 = .ok (.ior, 1) := by decide +kernel
theorem dX9_move_40 : decode cX9_move 40 = .ok (.istore_n 2, 1) := by decide +kernel
theorem dX9_move_41 : decode cX9_move 41 = .ok (.aload_n 0, 1) := by decide +kernel
theorem dX9_move_42 : decode cX9_move 42 = .ok (.getfield 7, 3) := by decide +kernel
theorem dX9_move_45 : decode cX9_move 45 = .ok (.bipush 11, 2) := by decide +kernel
theorem dX9_move_47 : decode cX9_move 47 = .ok (.iaload, 1) := by decide +kernel
theorem dX9_move_48 : decode cX9_move 48 = .ok (.iload_n 3, 1) := by decide +kernel
theorem dX9_move_49 : decode cX9_move 49 = .ok (.ishr, 1) := by decide +kernel
theorem dX9_move_50 : decode cX9_move 50 = .ok (.iconst 1, 1) := by decide +kernel
theorem dX9_move_51 : decode cX9_move 51 = .ok (.iand, 1) := by decide +kernel
theorem dX9_move_52 : decode cX9_move 52 = .ok (.ifCond .ne 9, 3) := by decide +kernel
theorem dX9_move_55 : decode cX9_move 55 = .ok (.aload_n 0, 1) := by decide +kernel
theorem dX9_move_56 : decode cX9_move 56 = .ok (.iconst 0, 1) := by decide +kernel
theorem dX9_move_57 : decode cX9_move 57 = .ok (.iload_n 3, 1) := by decide +kernel
theorem dX9_move_58 : decode cX9_move 58 = .ok (.invokevirtual 185, 3) := by decide +kernel
theorem dX9_move_61 : decode cX9_move 61 = .ok (.iinc 3 1, 3) := by decide +kernel
theorem dX9_move_64 : decode cX9_move 64 = .ok (.goto (-60), 3) := by decide +kernel
theorem dX9_move_67 : decode cX9_move 67 = .ok (.iload_n 2, 1) := by decide +kernel
theorem dX9_move_68 : decode cX9_move 68 = .ok (.ireturn, 1) := by decide +kernel
theorem dX9_nextState_0 : decode cX9_nextState 0 = .ok (.aload_n 0, 1) := by decide +kernel
theorem dX9_nextState_1 : decode cX9_nextState 1 = .ok (.getfield 7, 3) := by decide +kernel
theorem dX9_nextState_4 : decode cX9_nextState 4 = .ok (.bipush 9, 2) := by decide +kernel
theorem dX9_nextState_6 : decode cX9_nextState 6 = .ok (.iaload, 1) := by decide +kernel
theorem dX9_nextState_7 : decode cX9_nextState 7 = .ok (.ifCond .le 5, 3) := by decide +kernel
theorem dX9_nextState_10 : decode cX9_nextState 10 = .ok (.iconst 3, 1) := by decide +kernel
theorem dX9_nextState_11 : decode cX9_nextState 11 = .ok (.ireturn, 1) := by decide +kernel
theorem dX9_nextState_12 : decode cX9_nextState 12 = .ok (.iload_n 1, 1) := by decide +kernel
theorem dX9_nextState_13 : decode cX9_nextState 13 = .ok (.sipush 1000, 3) := by decide +kernel
theorem dX9_nextState_16 : decode cX9_nextState 16 = .ok (.if_icmp .ge 21, 3) := by decide +kernel
theorem dX9_nextState_19 : decode cX9_nextState 19 = .ok (.aload_n 0, 1) := by decide +kernel
theorem dX9_nextState_20 : decode cX9_nextState 20 = .ok (.getfield 7, 3) := by decide +kernel
theorem dX9_nextState_23 : decode cX9_nextState 23 = .ok (.bipush 7, 2) := by decide +kernel
theorem dX9_nextState_25 : decode cX9_nextState 25 = .ok (.iaload, 1) := by decide +kernel
theorem dX9_nextState_26 : decode cX9_nextState 26 = .ok (.iconst 2, 1) := by decide +kernel
theorem dX9_nextState_27 : decode cX9_nextState 27 = .ok (.if_icmp .ne 12, 3) := by decide +kernel
theorem dX9_nextState_30 : decode cX9_nextState 30 = .ok (.iload_n 1, 1) := by decide +kernel
theorem dX9_nextState_31 : decode cX9_nextState 31 = .ok (.sipush 950, 3) := by decide +kernel
theorem dX9_nextState_34 : decode cX9_nextState 34 = .ok (.if_icmp .lt 5, 3) := by decide +kernel
theorem dX9_nextState_37 : decode cX9_nextState 37 = .ok (.iconst 2, 1) := by decide +kernel
theorem dX9_nextState_38 : decode cX9_nextState 38 = .ok (.ireturn, 1) := by decide +kernel
theorem dX9_nextState_39 : decode cX9_nextState 39 = .ok (.aload_n 0, 1) := by decide +kernel
theorem dX9_nextState_40 : decode cX9_nextState 40 = .ok (.getfield 7, 3) := by decide +kernel
theorem dX9_nextState_43 : decode cX9_nextState 43 = .ok (.bipush 7, 2) := by decide +kernel
theorem dX9_nextState_45 : decode cX9_nextState 45 = .ok (.iaload, 1) := by decide +kernel
theorem dX9_nextState_46 : decode cX9_nextState 46 = .ok (.iconst 1, 1) := by decide +kernel
theorem dX9_nextState_47 : decode cX9_nextState 47 = .ok (.if_icmp .eq 14, 3) := by decide +kernel
theorem dX9_nextState_50 : decode cX9_nextState 50 = .ok (.aload_n 0, 1) := by decide +kernel
theorem dX9_nextState_51 : decode cX9_nextState 51 = .ok (.getfield 7, 3) := by decide +kernel
theorem dX9_nextState_54 : decode cX9_nextState 54 = .ok (.bipush 7, 2) := by decide +kernel
theorem dX9_nextState_56 : decode cX9_nextState 56 = .ok (.iaload, 1) := by decide +kernel
theorem dX9_nextState_57 : decode cX9_nextState 57 = .ok (.iconst 2, 1) := by decide +kernel
theorem dX9_nextState_58 : decode cX9_nextState 58 = .ok (.if_icmp .ne 7, 3) := by decide +kernel
theorem dX9_nextState_61 : decode cX9_nextState 61 = .ok (.iconst 1, 1) := by decide +kernel
theorem dX9_nextState_62 : decode cX9_nextState 62 = .ok (.goto 4, 3) := by decide +kernel
theorem dX9_nextState_65 : decode cX9_nextState 65 = .ok (.iconst 0, 1) := by decide +kernel
theorem dX9_nextState_66 : decode cX9_nextState 66 = .ok (.istore_n 2, 1) := by decide +kernel
theorem dX9_nextState_67 : decode cX9_nextState 67 = .ok (.iload_n 1, 1) := by decide +kernel
theorem dX9_nextState_68 : decode cX9_nextState 68 = .ok (.sipush 900, 3) := by decide +kernel
theorem dX9_nextState_71 : decode cX9_nextState 71 = .ok (.if_icmp .ge 14, 3) := by decide +kernel
theorem dX9_nextState_74 : decode cX9_nextState 74 = .ok (.iload_n 2, 1) := by decide +kernel
theorem dX9_nextState_75 : decode cX9_nextState 75 = .ok (.ifCond .eq 14, 3) := by decide +kernel
theorem dX9_nextState_78 : decode cX9_nextState 78 = .ok (.iload_n 1, 1) := by decide +kernel
theorem dX9_nextState_79 : decode cX9_nextState 79 = .ok (.sipush 850, 3) := by decide +kernel
theorem dX9_nextState_82 : decode cX9_nextState 82 = .ok (.if_icmp .lt 7, 3) := by decide +kernel
theorem dX9_nextState_85 : decode cX9_nextState 85 = .ok (.iconst 1, 1) := by decide +kernel
theorem dX9_nextState_86 : decode cX9_nextState 86 = .ok (.goto 4, 3) := by decide +kernel
theorem dX9_nextState_89 : decode cX9_nextState 89 = .ok (.iconst 0, 1) := by decide +kernel
theorem dX9_nextState_90 : decode cX9_nextState 90 = .ok (.ireturn, 1) := by decide +kernel
set_option maxRecDepth 20000 in
theorem ggX9_follow_X9_greater : GoodIn wsX9_follow wsX9_greater := goodIn_r _ [5] (by decide +kernel) (by decide +kernel)
set_option maxRecDepth 20000 in
theorem gX9_follow_X9_greater : GoodIn wsX9_follow (va_wsS RX9 45 yX9_greater wsX9_greater) := goodIn_app (goodIn_of _ (by decide +kernel)) ggX9_follow_X9_greater
set_option maxRecDepth 20000 in
theorem ggX9_follow_X9_lesser : GoodIn wsX9_follow wsX9_lesser := goodIn_r _ [8] (by decide +kernel) (by decide +kernel)
set_option maxRecDepth 20000 in
theorem gX9_follow_X9_lesser : GoodIn wsX9_follow (va_wsS RX9 94 yX9_lesser wsX9_lesser) := goodIn_app (goodIn_of _ (by decide +kernel)) ggX9_follow_X9_lesser
set_option maxRecDepth 20000 in
theorem ggX9_follow_X9_log : GoodIn wsX9_follow wsX9_log := goodIn_r _ [12, 1, 13, 14, 15, 16, 17, 18, 19, 20, 21, 22, 23, 24, 25] (by decide +kernel) (by decide +kernel)
set_option maxRecDepth 20000 in
theorem gX9_follow_X9_log : GoodIn wsX9_follow (wsV RX9 185 RX9 yX9_log wsX9_log) := goodIn_app (goodIn_of _ (by decide +kernel)) ggX9_follow_X9_log
theorem dX9_follow_0 : decode cX9_follow 0 = .ok (.iload_n 1, 1) := by decide +kernel
theorem dX9_follow_1 : decode cX9_follow 1 = .ok (.iconst 4, 1) := by decide +kernel
theorem dX9_follow_2 : decode cX9_follow 2 = .ok (.if_icmp .ge 39, 3) := by decide +kernel
theorem dX9_follow_5 : decode cX9_follow 5 = .ok (.aload_n 0, 1) := by decide +kernel
theorem dX9_follow_6 : decode cX9_follow 6 = .ok (.getfield 7, 3) := by decide +kernel
theorem dX9_follow_9 : decode cX9_follow 9 = .ok (.iconst 4, 1) := by decide +kernel
theorem dX9_follow_10 : decode cX9_follow 10 = .ok (.iaload, 1) := by decide +kernel
theorem dX9_follow_11 : decode cX9_follow 11 = .ok (.iconst 4, 1) := by decide +kernel
theorem dX9_follow_12 : decode cX9_follow 12 = .ok (.if_icmp .ne 29, 3) := by decide +kernel
theorem dX9_follow_15 : decode cX9_follow 15 = .ok (.aload_n 0, 1) := by decide +kernel
theorem dX9_follow_16 : decode cX9_follow 16 = .ok (.getfield 7, 3) := by decide +kernel
theorem dX9_follow_19 : decode cX9_follow 19 = .ok (.bipush 12, 2) := by decide +kernel
theorem dX9_follow_21 : decode cX9_follow 21 = .ok (.iaload, 1) := by decide +kernel
theorem dX9_follow_22 : decode cX9_follow 22 = .ok (.ifCond .ne 19, 3) := by decide +kernel
theorem dX9_follow_25 : decode cX9_follow 25 = .ok (.aload_n 0, 1) := by decide +kernel
theorem dX9_follow_26 : decode cX9_follow 26 = .ok (.getfield 7, 3) := by decide +kernel
theorem dX9_follow_29 : decode cX9_follow 29 = .ok (.bipush 12, 2) := by decide +kernel
theorem dX9_follow_31 : decode cX9_follow 31 = .ok (.iconst 1, 1) := by decide +kernel
theorem dX9_follow_32 : decode cX9_follow 32 = .ok (.iastore, 1) := by decide +kernel
theorem dX9_follow_33 : decode cX9_follow 33 = .ok (.aload_n 0, 1) := by decide +kernel
theorem dX9_follow_34 : decode cX9_follow 34 = .ok (.getfield 7, 3) := by decide +kernel
theorem dX9_follow_37 : decode cX9_follow 37 = .ok (.bipush 13, 2) := by decide +kernel
theorem dX9_follow_39 : decode cX9_follow 39 = .ok (.iconst 0, 1) := by decide +kernel
theorem dX9_follow_40 : decode cX9_follow 40 = .ok (.iastore, 1) := by decide +kernel
theorem dX9_follow_41 : decode cX9_follow 41 = .ok (.aload_n 0, 1) := by decide +kernel
theorem dX9_follow_42 : decode cX9_follow 42 = .ok (.getfield 7, 3) := by decide +kernel
theorem dX9_follow_45 : decode cX9_follow 45 = .ok (.bipush 12, 2) := by decide +kernel
theorem dX9_follow_47 : decode cX9_follow 47 = .ok (.iaload, 1) := by decide +kernel
theorem dX9_follow_48 : decode cX9_follow 48 = .ok (.iconst 1, 1) := by decide +kernel
theorem dX9_follow_49 : decode cX9_follow 49 = .ok (.if_icmp .ne 82, 3) := by decide +kernel
theorem dX9_follow_52 : decode cX9_follow 52 = .ok (.aload_n 0, 1) := by decide +kernel
theorem dX9_follow_53 : decode cX9_follow 53 = .ok (.getfield 7, 3) := by decide +kernel
theorem dX9_follow_56 : decode cX9_follow 56 = .ok (.bipush 13, 2) := by decide +kernel
theorem dX9_follow_58 : decode cX9_follow 58 = .ok (.aload_n 0, 1) := by decide +kernel
theorem dX9_follow_59 : decode cX9_follow 59 = .ok (.getfield 7, 3) := by decide +kernel
theorem dX9_follow_62 : decode cX9_follow 62 = .ok (.bipush 13, 2) := by decide +kernel
theorem dX9_follow_64 : decode cX9_follow 64 = .ok (.iaload, 1) := by decide +kernel
theorem dX9_follow_65 : decode cX9_follow 65 = .ok (.iload_n 2, 1) := by decide +kernel
theorem dX9_follow_66 : decode cX9_follow 66 = .ok (.invokestatic 45, 3) := by decide +kernel
theorem dX9_follow_69 : decode cX9_follow 69 = .ok (.iastore, 1) := by decide +kernel
theorem dX9_follow_70 : decode cX9_follow 70 = .ok (.aload_n 0, 1) := by decide +kernel
theorem dX9_follow_71 : decode cX9_follow 71 = .ok (.getfield 7, 3) := by decide +kernel
theorem dX9_follow_74 : decode cX9_follow 74 = .ok (.iconst 4, 1) := by decide +kernel
theorem dX9_follow_75 : decode cX9_follow 75 = .ok (.iaload, 1) := by decide +kernel
theorem dX9_follow_76 : decode cX9_follow 76 = .ok (.ifCond .ne 55, 3) := by decide +kernel
theorem dX9_follow_79 : decode cX9_follow 79 = .ok (.bipush 7, 2) := by decide +kernel
theorem dX9_follow_81 : decode cX9_follow 81 = .ok (.aload_n 0, 1) := by decide +kernel
theorem dX9_follow_82 : decode cX9_follow 82 = .ok (.getfield 7, 3) := by decide +kernel
theorem dX9_follow_85 : decode cX9_follow 85 = .ok (.bipush 13, 2) := by decide +kernel
theorem dX9_follow_87 : decode cX9_follow 87 = .ok (.iaload, 1) := by decide +kernel
theorem dX9_follow_88 : decode cX9_follow 88 = .ok (.bipush 125, 2) := by decide +kernel
theorem dX9_follow_90 : decode cX9_follow 90 = .ok (.idiv, 1) := by decide +kernel
theorem dX9_follow_91 : decode cX9_follow 91 = .ok (.invokestatic 94, 3) := by decide +kernel
theorem dX9_follow_94 : decode cX9_follow 94 = .ok (.istore_n 3, 1) := by decide +kernel
theorem dX9_follow_95 : decode cX9_follow 95 = .ok (.aload_n 0, 1) := by decide +kernel
theorem dX9_follow_96 : decode cX9_follow 96 = .ok (.getfield 7, 3) := by decide +kernel
theorem dX9_follow_99 : decode cX9_follow 99 = .ok (.bipush 12, 2) := by decide +kernel
theorem dX9_follow_101 : decode cX9_follow 101 = .ok (.iconst 0, 1) := by decide +kernel
theorem dX9_follow_102 : decode cX9_follow 102 = .ok (.iastore, 1) := by decide +kernel
theorem dX9_follow_103 : decode cX9_follow 103 = .ok (.aload_n 0, 1) := by decide +kernel
theorem dX9_follow_104 : decode cX9_follow 104 = .ok (.getfield 7, 3) := by decide +kernel
theorem dX9_follow_107 : decode cX9_follow 107 = .ok (.bipush 13, 2) := by decide +kernel
theorem dX9_follow_109 : decode cX9_follow 109 = .ok (.iconst 0, 1) := by decide +kernel
theorem dX9_follow_110 : decode cX9_follow 110 = .ok (.iastore, 1) := by decide +kernel
theorem dX9_follow_111 : decode cX9_follow 111 = .ok (.aload_n 0, 1) := by decide +kernel
theorem dX9_follow_112 : decode cX9_follow 112 = .ok (.getfield 7, 3) := by decide +kernel
theorem dX9_follow_115 : decode cX9_follow 115 = .ok (.sipush 238, 3) := by decide +kernel
theorem dX9_follow_118 : decode cX9_follow 118 = .ok (.iload_n 3, 1) := by decide +kernel
theorem dX9_follow_119 : decode cX9_follow 119 = .ok (.iadd, 1) := by decide +kernel
theorem dX9_follow_120 : decode cX9_follow 120 = .ok (.dup2, 1) := by decide +kernel
theorem dX9_follow_121 : decode cX9_follow 121 = .ok (.iaload, 1) := by decide +kernel
theorem dX9_follow_122 : decode cX9_follow 122 = .ok (.iconst 1, 1) := by decide +kernel
theorem dX9_follow_123 : decode cX9_follow 123 = .ok (.iadd, 1) := by decide +kernel
theorem dX9_follow_124 : decode cX9_follow 124 = .ok (.iastore, 1) := by decide +kernel
theorem dX9_follow_125 : decode cX9_follow 125 = .ok (.aload_n 0, 1) := by decide +kernel
theorem dX9_follow_126 : decode cX9_follow 126 = .ok (.iconst 3, 1) := by decide +kernel
theorem dX9_follow_127 : decode cX9_follow 127 = .ok (.iload_n 3, 1) := by decide +kernel
theorem dX9_follow_128 : decode cX9_follow 128 = .ok (.invokevirtual 185, 3) := by decide +kernel
theorem dX9_follow_131 : decode cX9_follow 131 = .ok (.return_, 1) := by decide +kernel
set_option maxRecDepth 20000 in
theorem ggX9_tick_X9_greater : GoodIn wsX9_tick wsX9_greater := goodIn_r _ [5] (by decide +kernel) (by decide +kernel)
set_option maxRecDepth 20000 in
theorem gX9_tick_X9_greater : GoodIn wsX9_tick (va_wsS RX9 45 yX9_greater wsX9_greater) := goodIn_app (goodIn_of _ (by decide +kernel)) ggX9_tick_X9_greater
set_option maxRecDepth 20000 in
theorem ggX9_tick_X9_move : GoodIn wsX9_tick wsX9_move := goodIn_r _ [9, 1, 10, 11, 12, 4, 13, 14, 15, 16, 17, 18, 19, 20, 21, 22, 23, 24, 25, 26, 27, 28, 29, 30, 31, 32, 33, 34, 35, 36, 37, 38, 39, 40, 41, 42, 43, 44, 45, 2, 3, 5, 46, 47, 48, 49, 50, 51, 52, 53, 54, 55, 56, 57, 58, 59, 60, 61, 62, 63, 64, 65, 66, 67, 68, 69, 70, 71, 72, 73, 74, 75, 76, 77, 78, 79, 80, 81, 82, 83, 84, 85, 86, 87, 88, 89, 90, 91, 92, 93, 94, 95, 96, 97, 98, 99, 100, 101, 102, 103, 104, 105, 106, 107, 108, 109, 110, 111, 112, 113, 114, 115, 116, 117, 118, 119, 120, 121, 122, 123, 124, 125, 126, 127, 128, 129, 130, 131, 132, 133, 134, 135, 136, 137, 138, 139, 140, 141, 142, 143, 152, 153, 154, 155, 156, 157, 158, 159, 160, 161, 162, 163, 164] (by decide +kernel) (by decide +kernel)
set_option maxRecDepth 20000 in
theorem gX9_tick_X9_move : GoodIn wsX9_tick (wsV RX9 189 RX9 yX9_move wsX9_move) := goodIn_app (goodIn_of _ (by decide +kernel)) ggX9_tick_X9_move
set_option maxRecDepth 20000 in
theorem ggX9_tick_X9_utilization : GoodIn wsX9_tick wsX9_utilization := goodIn_r _ [73, 1, 74, 75, 76, 4, 77, 78, 79, 80, 81, 82, 83, 84, 39, 40, 41, 42, 43, 44, 45, 25, 26, 27, 28, 29, 30, 2, 3, 5, 85, 86, 87, 88, 89, 90, 91, 92, 93, 94, 95, 96, 97, 98, 99, 100, 101, 102, 103, 104, 105, 106, 107, 108, 109, 110, 111, 112, 113, 114, 115, 116, 117, 118, 119, 120, 121, 59, 60, 61, 122, 123, 124, 125, 126, 127, 128, 129, 130, 131, 132, 133, 134, 135, 136, 137, 138, 139, 152, 153, 154, 155, 156, 157, 158, 159, 160, 161, 162, 163, 164] (by decide +kernel) (by decide +kernel)
set_option maxRecDepth 20000 in
theorem gX9_tick_X9_utilization : GoodIn wsX9_tick (wsV RX9 169 RX9 yX9_utilization wsX9_utilization) := goodIn_app (goodIn_of _ (by decide +kernel)) ggX9_tick_X9_utilization
set_option maxRecDepth 20000 in
theorem ggX9_tick_X9_nextState : GoodIn wsX9_tick wsX9_nextState := goodIn_r _ [147, 1, 152, 153, 154, 155, 156, 157, 158, 159, 160, 161, 162, 163, 164] (by decide +kernel) (by decide +kernel)
set_option maxRecDepth 20000 in
theorem gX9_tick_X9_nextState : GoodIn wsX9_tick (wsV RX9 192 RX9 yX9_nextState wsX9_nextState) := goodIn_app (goodIn_of _ (by decide +kernel)) ggX9_tick_X9_nextState
set_option maxRecDepth 20000 in
theorem ggX9_tick_X9_log : GoodIn wsX9_tick wsX9_log := goodIn_r _ [143, 1, 152, 153, 154, 155, 156, 157, 158, 159, 160, 161, 162, 163, 164] (by decide +kernel) (by decide +kernel)
set_option maxRecDepth 20000 in
theorem gX9_tick_X9_log : GoodIn wsX9_tick (wsV RX9 185 RX9 yX9_log wsX9_log) := goodIn_app (goodIn_of _ (by decide +kernel)) ggX9_tick_X9_log
set_option maxRecDepth 20000 in
theorem ggX9_tick_X9_follow : GoodIn wsX9_tick wsX9_follow := goodIn_r _ [151, 1, 2, 3, 4, 5, 59, 60, 61, 140, 141, 142, 143, 152, 153, 154, 155, 156, 157, 158, 159, 160, 161, 162, 163, 164] (by decide +kernel) (by decide +kernel)
set_option maxRecDepth 20000 in
theorem gX9_tick_X9_follow : GoodIn wsX9_tick (wsV RX9 195 RX9 yX9_follow wsX9_follow) := goodIn_app (goodIn_of _ (by decide +kernel)) ggX9_tick_X9_follow
theorem dX9_tick_0 : decode cX9_tick 0 = .ok (.aload_n 0, 1) := by decide +kernel
theorem dX9_tick_1 : decode cX9_tick 1 = .ok (.getfield 7, 3) := by decide +kernel
theorem dX9_tick_4 : decode cX9_tick 4 = .ok (.iconst 4, 1) := by decide +kernel
theorem dX9_tick_5 : decode cX9_tick 5 = .ok (.iaload, 1) := by decide +kernel
theorem dX9_tick_6 : decode cX9_tick 6 = .ok (.istore_n 2, 1) := by decide +kernel
theorem dX9_tick_7 : decode cX9_tick 7 = .ok (.aload_n 0, 1) := by decide +kernel
theorem dX9_tick_8 : decode cX9_tick 8 = .ok (.getfield 7, 3) := by decide +kernel
theorem dX9_tick_11 : decode cX9_tick 11 = .ok (.bipush 8, 2) := by decide +kernel
theorem dX9_tick_13 : decode cX9_tick 13 = .ok (.dup2, 1) := by decide +kernel
theorem dX9_tick_14 : decode cX9_tick 14 = .ok (.iaload, 1) := by decide +kernel
theorem dX9_tick_15 : decode cX9_tick 15 = .ok (.iconst 1, 1) := by decide +kernel
theorem dX9_tick_16 : decode cX9_tick 16 = .ok (.iadd, 1) := by decide +kernel
theorem dX9_tick_17 : decode cX9_tick 17 = .ok (.iastore, 1) := by decide +kernel
theorem dX9_tick_18 : decode cX9_tick 18 = .ok (.aload_n 0, 1) := by decide +kernel
theorem dX9_tick_19 : decode cX9_tick 19 = .ok (.getfield 7, 3) := by decide +kernel
theorem dX9_tick_22 : decode cX9_tick 22 = .ok (.bipush 9, 2) := by decide +kernel
theorem dX9_tick_24 : decode cX9_tick 24 = .ok (.iconst 0, 1) := by decide +kernel
theorem dX9_tick_25 : decode cX9_tick 25 = .ok (.aload_n 0, 1) := by decide +kernel
theorem dX9_tick_26 : decode cX9_tick 26 = .ok (.getfield 7, 3) := by decide +kernel
theorem dX9_tick_29 : decode cX9_tick 29 = .ok (.bipush 9, 2) := by decide +kernel
theorem dX9_tick_31 : decode cX9_tick 31 = .ok (.iaload, 1) := by decide +kernel
theorem dX9_tick_32 : decode cX9_tick 32 = .ok (.iconst 1, 1) := by decide +kernel
theorem dX9_tick_33 : decode cX9_tick 33 = .ok (.isub, 1) := by decide +kernel
theorem dX9_tick_34 : decode cX9_tick 34 = .ok (.invokestatic 45, 3) := by decide +kernel
theorem dX9_tick_37 : decode cX9_tick 37 = .ok (.iastore, 1) := by decide +kernel
theorem dX9_tick_38 : decode cX9_tick 38 = .ok (.aload_n 0, 1) := by decide +kernel
theorem dX9_tick_39 : decode cX9_tick 39 = .ok (.iload_n 1, 1) := by decide +kernel
theorem dX9_tick_40 : decode cX9_tick 40 = .ok (.invokevirtual 189, 3) := by decide +kernel
theorem dX9_tick_43 : decode cX9_tick 43 = .ok (.istore_n 3, 1) := by decide +kernel
theorem dX9_tick_44 : decode cX9_tick 44 = .ok (.aload_n 0, 1) := by decide +kernel
theorem dX9_tick_45 : decode cX9_tick 45 = .ok (.getfield 7, 3) := by decide +kernel
theorem dX9_tick_48 : decode cX9_tick 48 = .ok (.bipush 11, 2) := by decide +kernel
theorem dX9_tick_50 : decode cX9_tick 50 = .ok (.iload_n 3, 1) := by decide +kernel
theorem dX9_tick_51 : decode cX9_tick 51 = .ok (.iastore, 1) := by decide +kernel
theorem dX9_tick_52 : decode cX9_tick 52 = .ok (.aload_n 0, 1) := by decide +kernel
theorem dX9_tick_53 : decode cX9_tick 53 = .ok (.invokevirtual 169, 3) := by decide +kernel
theorem dX9_tick_56 : decode cX9_tick 56 = .ok (.istore 4, 2) := by decide +kernel
theorem dX9_tick_58 : decode cX9_tick 58 = .ok (.aload_n 0, 1) := by decide +kernel
theorem dX9_tick_59 : decode cX9_tick 59 = .ok (.iload 4, 2) := by decide +kernel
theorem dX9_tick_61 : decode cX9_tick 61 = .ok (.invokevirtual 192, 3) := by decide +kernel
theorem dX9_tick_64 : decode cX9_tick 64 = .ok (.istore 5, 2) := by decide +kernel
theorem dX9_tick_66 : decode cX9_tick 66 = .ok (.iload 5, 2) := by decide +kernel
theorem dX9_tick_68 : decode cX9_tick 68 = .ok (.aload_n 0, 1) := by decide +kernel
theorem dX9_tick_69 : decode cX9_tick 69 = .ok (.getfield 7, 3) := by decide +kernel
theorem dX9_tick_72 : decode cX9_tick 72 = .ok (.bipush 7, 2) := by decide +kernel
theorem dX9_tick_74 : decode cX9_tick 74 = .ok (.iaload, 1) := by decide +kernel
theorem dX9_tick_75 : decode cX9_tick 75 = .ok (.if_icmp .eq 7, 3) := by decide +kernel
theorem dX9_tick_78 : decode cX9_tick 78 = .ok (.iconst 1, 1) := by decide +kernel
theorem dX9_tick_79 : decode cX9_tick 79 = .ok (.goto 4, 3) := by decide +kernel
theorem dX9_tick_82 : decode cX9_tick 82 = .ok (.iconst 0, 1) := by decide +kernel
theorem dX9_tick_83 : decode cX9_tick 83 = .ok (.istore 6, 2) := by decide +kernel
theorem dX9_tick_85 : decode cX9_tick 85 = .ok (.aload_n 0, 1) := by decide +kernel
theorem dX9_tick_86 : decode cX9_tick 86 = .ok (.getfield 7, 3) := by decide +kernel
theorem dX9_tick_89 : decode cX9_tick 89 = .ok (.bipush 7, 2) := by decide +kernel
theorem dX9_tick_91 : decode cX9_tick 91 = .ok (.iload 5, 2) := by decide +kernel
theorem dX9_tick_93 : decode cX9_tick 93 = .ok (.iastore, 1) := by decide +kernel
theorem dX9_tick_94 : decode cX9_tick 94 = .ok (.iload 6, 2) := by decide +kernel
theorem dX9_tick_96 : decode cX9_tick 96 = .ok (.ifCond .eq 10, 3) := by decide +kernel
theorem dX9_tick_99 : decode cX9_tick 99 = .ok (.aload_n 0, 1) := by decide +kernel
theorem dX9_tick_100 : decode cX9_tick 100 = .ok (.iconst 1, 1) := by decide +kernel
theorem dX9_tick_101 : decode cX9_tick 101 = .ok (.iload 5, 2) := by decide +kernel
theorem dX9_tick_103 : decode cX9_tick 103 = .ok (.invokevirtual 185, 3) := by decide +kernel
theorem dX9_tick_106 : decode cX9_tick 106 = .ok (.iload 6, 2) := by decide +kernel
theorem dX9_tick_108 : decode cX9_tick 108 = .ok (.ifCond .eq 16, 3) := by decide +kernel
theorem dX9_tick_111 : decode cX9_tick 111 = .ok (.iload 5, 2) := by decide +kernel
theorem dX9_tick_113 : decode cX9_tick 113 = .ok (.iconst 2, 1) := by decide +kernel
theorem dX9_tick_114 : decode cX9_tick 114 = .ok (.if_icmp .ne 10, 3) := by decide +kernel
theorem dX9_tick_117 : decode cX9_tick 117 = .ok (.aload_n 0, 1) := by decide +kernel
theorem dX9_tick_118 : decode cX9_tick 118 = .ok (.iconst 2, 1) := by decide +kernel
theorem dX9_tick_119 : decode cX9_tick 119 = .ok (.iload 4, 2) := by decide +kernel
theorem dX9_tick_121 : decode cX9_tick 121 = .ok (.invokevirtual 185, 3) := by decide +kernel
theorem dX9_tick_124 : decode cX9_tick 124 = .ok (.aload_n 0, 1) := by decide +kernel
theorem dX9_tick_125 : decode cX9_tick 125 = .ok (.getfield 7, 3) := by decide +kernel
theorem dX9_tick_128 : decode cX9_tick 128 = .ok (.sipush 234, 3) := by decide +kernel
theorem dX9_tick_131 : decode cX9_tick 131 = .ok (.iload 5, 2) := by decide +kernel
theorem dX9_tick_133 : decode cX9_tick 133 = .ok (.iadd, 1) := by decide +kernel
theorem dX9_tick_134 : decode cX9_tick 134 = .ok (.dup2, 1) := by decide +kernel
theorem dX9_tick_135 : decode cX9_tick 135 = .ok (.iaload, 1) := by decide +kernel
theorem dX9_tick_136 : decode cX9_tick 136 = .ok (.iconst 1, 1) := by decide +kernel
theorem dX9_tick_137 : decode cX9_tick 137 = .ok (.iadd, 1) := by decide +kernel
theorem dX9_tick_138 : decode cX9_tick 138 = .ok (.iastore, 1) := by decide +kernel
theorem dX9_tick_139 : decode cX9_tick 139 = .ok (.aload_n 0, 1) := by decide +kernel
theorem dX9_tick_140 : decode cX9_tick 140 = .ok (.iload_n 2, 1) := by decide +kernel
theorem dX9_tick_141 : decode cX9_tick 141 = .ok (.iload 4, 2) := by decide +kernel
theorem dX9_tick_143 : decode cX9_tick 143 = .ok (.invokevirtual 195, 3) := by decide +kernel
theorem dX9_tick_146 : decode cX9_tick 146 = .ok (.iload_n 3, 1) := by decide +kernel
theorem dX9_tick_147 : decode cX9_tick 147 = .ok (.ifCond .ne 7, 3) := by decide +kernel
theorem dX9_tick_150 : decode cX9_tick 150 = .ok (.iconst 1, 1) := by decide +kernel
theorem dX9_tick_151 : decode cX9_tick 151 = .ok (.goto 4, 3) := by decide +kernel
theorem dX9_tick_154 : decode cX9_tick 154 = .ok (.iconst 0, 1) := by decide +kernel
theorem dX9_tick_155 : decode cX9_tick 155 = .ok (.ireturn, 1) := by decide +kernel
set_option maxRecDepth 20000 in
theorem ggX9_isMotions_X9_in : GoodIn wsX9_isMotions wsX9_in := goodIn_r _ [4] (by decide +kernel) (by decide +kernel)
set_option maxRecDepth 20000 in
theorem gX9_isMotions_X9_in : GoodIn wsX9_isMotions (va_wsS RX9 132 yX9_in wsX9_in) := goodIn_app (goodIn_of _ (by decide +kernel)) ggX9_isMotions_X9_in
theorem dX9_isMotions_0 : decode cX9_isMotions 0 = .ok (.iload_n 0, 1) := by decide +kernel
theorem dX9_isMotions_1 : decode cX9_isMotions 1 = .ok (.iconst 0, 1) := by decide +kernel
theorem dX9_isMotions_2 : decode cX9_isMotions 2 = .ok (.sipush 255, 3) := by decide +kernel
theorem dX9_isMotions_5 : decode cX9_isMotions 5 = .ok (.invokestatic 132, 3) := by decide +kernel
theorem dX9_isMotions_8 : decode cX9_isMotions 8 = .ok (.ifCond .eq 18, 3) := by decide +kernel
theorem dX9_isMotions_11 : decode cX9_isMotions 11 = .ok (.iload_n 0, 1) := by decide +kernel
theorem dX9_isMotions_12 : decode cX9_isMotions 12 = .ok (.iload_n 0, 1) := by decide +kernel
theorem dX9_isMotions_13 : decode cX9_isMotions 13 = .ok (.iconst 1, 1) := by decide +kernel
theorem dX9_isMotions_14 : decode cX9_isMotions 14 = .ok (.ishr, 1) := by decide +kernel
theorem dX9_isMotions_15 : decode cX9_isMotions 15 = .ok (.iand, 1) := by decide +kernel
theorem dX9_isMotions_16 : decode cX9_isMotions 16 = .ok (.bipush 85, 2) := by decide +kernel
theorem dX9_isMotions_18 : decode cX9_isMotions 18 = .ok (.iand, 1) := by decide +kernel
theorem dX9_isMotions_19 : decode cX9_isMotions 19 = .ok (.ifCond .ne 7, 3) := by decide +kernel
theorem dX9_isMotions_22 : decode cX9_isMotions 22 = .ok (.iconst 1, 1) := by decide +kernel
theorem dX9_isMotions_23 : decode cX9_isMotions 23 = .ok (.goto 4, 3) := by decide +kernel
theorem dX9_isMotions_26 : decode cX9_isMotions 26 = .ok (.iconst 0, 1) := by decide +kernel
theorem dX9_isMotions_27 : decode cX9_isMotions 27 = .ok (.ireturn, 1) := by decide +kernel
set_option maxRecDepth 20000 in
theorem ggX9_run_X9_isMotions : GoodIn wsX9_run wsX9_isMotions := goodIn_r _ [5, 6, 7, 4, 8] (by decide +kernel) (by decide +kernel)
set_option maxRecDepth 20000 in
theorem gX9_run_X9_isMotions : GoodIn wsX9_run (va_wsS RX9 198 yX9_isMotions wsX9_isMotions) := goodIn_app (goodIn_of _ (by decide +kernel)) ggX9_run_X9_isMotions
set_option maxRecDepth 20000 in
theorem ggX9_run_X9_in : GoodIn wsX9_run wsX9_in := goodIn_r _ [8] (by decide +kernel) (by decide +kernel)
set_option maxRecDepth 20000 in
theorem gX9_run_X9_in : GoodIn wsX9_run (va_wsS RX9 132 yX9_in wsX9_in) := goodIn_app (goodIn_of _ (by decide +kernel)) ggX9_run_X9_in
set_option maxRecDepth 20000 in
theorem ggX9_run_X9_fails : GoodIn wsX9_run wsX9_fails := goodIn_r _ [12, 1, 173, 174, 175, 176, 177, 178, 179, 180, 181, 182, 183, 184, 185] (by decide +kernel) (by decide +kernel)
set_option maxRecDepth 20000 in
theorem gX9_run_X9_fails : GoodIn wsX9_run (wsV RX9 136 RX9 yX9_fails wsX9_fails) := goodIn_app (goodIn_of _ (by decide +kernel)) ggX9_run_X9_fails
set_option maxRecDepth 20000 in
theorem ggX9_run_X9_keep : GoodIn wsX9_run wsX9_keep := goodIn_r _ [16, 17, 18, 19, 173, 174, 175, 176, 177, 178, 179, 180, 181, 182, 183, 184, 185] (by decide +kernel) (by decide +kernel)
set_option maxRecDepth 20000 in
theorem gX9_run_X9_keep : GoodIn wsX9_run (wsV RX9 35 RX9 yX9_keep wsX9_keep) := goodIn_app (goodIn_of _ (by decide +kernel)) ggX9_run_X9_keep
set_option maxRecDepth 20000 in
theorem ggX9_run_X9_tick : GoodIn wsX9_run wsX9_tick := goodIn_r _ [23, 19, 24, 25, 4, 26, 27, 28, 29, 30, 31, 32, 33, 34, 35, 36, 37, 38, 39, 40, 41, 42, 43, 44, 45, 46, 47, 48, 49, 50, 51, 52, 53, 54, 55, 56, 57, 58, 59, 60, 61, 62, 63, 64, 65, 66, 67, 68, 69, 70, 71, 72, 73, 74, 75, 76, 77, 78, 79, 80, 81, 82, 83, 84, 85, 86, 87, 88, 89, 90, 91, 92, 93, 94, 95, 96, 97, 98, 99, 100, 101, 102, 103, 104, 105, 106, 107, 108, 109, 110, 111, 112, 113, 114, 115, 116, 117, 118, 119, 120, 121, 122, 123, 124, 125, 126, 127, 128, 129, 130, 131, 132, 133, 134, 135, 136, 137, 138, 139, 140, 141, 142, 143, 144, 145, 146, 147, 148, 149, 150, 151, 152, 153, 154, 155, 156, 157, 158, 159, 160, 161, 162, 163, 164, 165, 166, 167, 168, 169, 170, 171, 172, 173, 174, 175, 176, 177, 178, 179, 180, 181, 182, 183, 184, 185] (by decide +kernel) (by decide +kernel)
set_option maxRecDepth 20000 in
theorem gX9_run_X9_tick : GoodIn wsX9_run (wsV RX9 201 RX9 yX9_tick wsX9_tick) := goodIn_app (goodIn_of _ (by decide +kernel)) ggX9_run_X9_tick
theorem dX9_run_0 : decode cX9_run 0 = .ok (.aload_n 0, 1) := by decide +kernel
theorem dX9_run_1 : decode cX9_run 1 = .ok (.iconst 0, 1) := by decide +kernel
theorem dX9_run_2 : decode cX9_run 2 = .ok (.putfield 28, 3) := by decide +kernel
theorem dX9_run_5 : decode cX9_run 5 = .ok (.iload_n 1, 1) := by decide +kernel
theorem dX9_run_6 : decode cX9_run 6 = .ok (.invokestatic 198, 3) := by decide +kernel
theorem dX9_run_9 : decode cX9_run 9 = .ok (.ifCond .eq 13, 3) := by decide +kernel
theorem dX9_run_12 : decode cX9_run 12 = .ok (.iload_n 2, 1) := by decide +kernel
theorem dX9_run_13 : decode cX9_run 13 = .ok (.iconst 1, 1) := by decide +kernel
theorem dX9_run_14 : decode cX9_run 14 = .ok (.bipush 100, 2) := by decide +kernel
theorem dX9_run_16 : decode cX9_run 16 = .ok (.invokestatic 132, 3) := by decide +kernel
theorem dX9_run_19 : decode cX9_run 19 = .ok (.ifCond .ne 9, 3) := by decide +kernel
theorem dX9_run_22 : decode cX9_run 22 = .ok (.aload_n 0, 1) := by decide +kernel
theorem dX9_run_23 : decode cX9_run 23 = .ok (.iconst 1, 1) := by decide +kernel
theorem dX9_run_24 : decode cX9_run 24 = .ok (.invokevirtual 136, 3) := by decide +kernel
theorem dX9_run_27 : decode cX9_run 27 = .ok (.ireturn, 1) := by decide +kernel
theorem dX9_run_28 : decode cX9_run 28 = .ok (.aload_n 0, 1) := by decide +kernel
theorem dX9_run_29 : decode cX9_run 29 = .ok (.invokevirtual 35, 3) := by decide +kernel
theorem dX9_run_32 : decode cX9_run 32 = .ok (.iconst 0, 1) := by decide +kernel
theorem dX9_run_33 : decode cX9_run 33 = .ok (.istore_n 3, 1) := by decide +kernel
theorem dX9_run_34 : decode cX9_run 34 = .ok (.iconst 0, 1) := by decide +kernel
theorem dX9_run_35 : decode cX9_run 35 = .ok (.istore 4, 2) := by decide +kernel
theorem dX9_run_37 : decode cX9_run 37 = .ok (.iload 4, 2) := by decide +kernel
theorem dX9_run_39 : decode cX9_run 39 = .ok (.iload_n 2, 1) := by decide +kernel
theorem dX9_run_40 : decode cX9_run 40 = .ok (.if_icmp .ge 25, 3) := by decide +kernel
theorem dX9_run_43 : decode cX9_run 43 = .ok (.iload_n 3, 1) := by decide +kernel
theorem dX9_run_44 : decode cX9_run 44 = .ok (.aload_n 0, 1) := by decide +kernel
theorem dX9_run_45 : decode cX9_run 45 = .ok (.iload_n 1, 1) := by decide +kernel
theorem dX9_run_46 : decode cX9_run 46 = .ok (.invokevirtual 201, 3) := by decide +kernel
theorem dX9_run_49 : decode cX9_run 49 = .ok (.ifCond .eq 7, 3) := by decide +kernel
theorem dX9_run_52 : decode cX9_run 52 = .ok (.iconst 1, 1) := by decide +kernel
theorem dX9_run_53 : decode cX9_run 53 = .ok (.goto 4, 3) := by decide +kernel
theorem dX9_run_56 : decode cX9_run 56 = .ok (.iconst 0, 1) := by decide +kernel
theorem dX9_run_57 : decode cX9_run 57 = .ok (.iadd, 1) := by decide +kernel
theorem dX9_run_58 : decode cX9_run 58 = .ok (.istore_n 3, 1) := by decide +kernel
theorem dX9_run_59 : decode cX9_run 59 = .ok (.iinc 4 1, 3) := by decide +kernel
theorem dX9_run_62 : decode cX9_run 62 = .ok (.goto (-25), 3) := by decide +kernel
theorem dX9_run_65 : decode cX9_run 65 = .ok (.iload_n 3, 1) := by decide +kernel
theorem dX9_run_66 : decode cX9_run 66 = .ok (.ireturn, 1) := by decide +kernel
set_option maxRecDepth 20000 in
theorem ggX9_permittedNow_X9_isPermitted : GoodIn wsX9_permittedNow wsX9_isPermitted := goodIn_r _ [5, 6, 7, 8, 9, 4, 10, 11, 12, 13, 14, 15, 16, 17, 18, 19, 20, 21, 22, 23, 24, 25, 26, 27, 28, 29, 30, 31, 32, 33, 34, 35, 36, 37, 38, 39, 40, 41, 42, 43, 44, 45, 46, 47, 48, 49, 50, 51, 52, 53, 54, 55, 56, 57, 58, 59, 60, 61, 62, 63, 64, 65, 66, 67, 68, 69, 70, 71, 72, 73, 74, 75, 76, 77, 78, 79, 80, 81, 82, 83, 84, 85, 86, 87, 88, 89, 90, 91, 92, 93, 94, 95, 96, 97, 98, 99, 100, 101, 102, 103, 104, 105, 106, 107, 108, 109, 110, 111, 112, 113, 114, 115, 116, 117, 118, 119, 120, 121, 122, 123, 124, 125, 126, 127, 128, 129, 130, 131, 132, 133, 134, 135, 136, 137, 138, 139, 140, 141, 142, 143, 144, 145, 146, 147, 148] (by decide +kernel) (by decide +kernel)
set_option maxRecDepth 20000 in
theorem gX9_permittedNow_X9_isPermitted : GoodIn wsX9_permittedNow (wsV RX9 182 RX9 yX9_isPermitted wsX9_isPermitted) := goodIn_app (goodIn_of _ (by decide +kernel)) ggX9_permittedNow_X9_isPermitted
theorem dX9_permittedNow_0 : decode cX9_permittedNow 0 = .ok (.iconst 0, 1) := by decide +kernel
theorem dX9_permittedNow_1 : decode cX9_permittedNow 1 = .ok (.istore_n 1, 1) := by decide +kernel
theorem dX9_permittedNow_2 : decode cX9_permittedNow 2 = .ok (.iconst 0, 1) := by decide +kernel
theorem dX9_permittedNow_3 : decode cX9_permittedNow 3 = .ok (.istore_n 2, 1) := by decide +kernel
theorem dX9_permittedNow_4 : decode cX9_permittedNow 4 = .ok (.iload_n 2, 1) := by decide +kernel
theorem dX9_permittedNow_5 : decode cX9_permittedNow 5 = .ok (.bipush 8, 2) := by decide +kernel
theorem dX9_permittedNow_7 : decode cX9_permittedNow 7 = .ok (.if_icmp .ge 27, 3) := by decide +kernel
theorem dX9_permittedNow_10 : decode cX9_permittedNow 10 = .ok (.iload_n 1, 1) := by decide +kernel
theorem dX9_permittedNow_11 : decode cX9_permittedNow 11 = .ok (.aload_n 0, 1) := by decide +kernel
theorem dX9_permittedNow_12 : decode cX9_permittedNow 12 = .ok (.iload_n 2, 1) := by decide +kernel
theorem dX9_permittedNow_13 : decode cX9_permittedNow 13 = .ok (.invokevirtual 182, 3) := by decide +kernel
theorem dX9_permittedNow_16 : decode cX9_permittedNow 16 = .ok (.ifCond .eq 9, 3) := by decide +kernel
theorem dX9_permittedNow_19 : decode cX9_permittedNow 19 = .ok (.iconst 1, 1) := by decide +kernel
theorem dX9_permittedNow_20 : decode cX9_permittedNow 20 = .ok (.iload_n 2, 1) := by decide +kernel
theorem dX9_permittedNow_21 : decode cX9_permittedNow 21 = .ok (.ishl, 1) := by decide +kernel
theorem dX9_permittedNow_22 : decode cX9_permittedNow 22 = .ok (.goto 4, 3) := by decide +kernel
theorem dX9_permittedNow_25 : decode cX9_permittedNow 25 = .ok (.iconst 0, 1) := by decide +kernel
theorem dX9_permittedNow_26 : decode cX9_permittedNow 26 = .ok (.ior, 1) := by decide +kernel
theorem dX9_permittedNow_27 : decode cX9_permittedNow 27 = .ok (.istore_n 1, 1) := by decide +kernel
theorem dX9_permittedNow_28 : decode cX9_permittedNow 28 = .ok (.iinc 2 1, 3) := by decide +kernel
theorem dX9_permittedNow_31 : decode cX9_permittedNow 31 = .ok (.goto (-27), 3) := by decide +kernel
theorem dX9_permittedNow_34 : decode cX9_permittedNow 34 = .ok (.iload_n 1, 1) := by decide +kernel
theorem dX9_permittedNow_35 : decode cX9_permittedNow 35 = .ok (.ireturn, 1) := by decide +kernel
set_option maxRecDepth 20000 in
theorem ggX9_permitted_X9_permittedNow : GoodIn wsX9_permitted wsX9_permittedNow := goodIn_r _ [6, 7, 8, 9, 5, 10, 11, 12, 13, 14, 15, 16, 17, 18, 19, 20, 21, 22, 23, 24, 25, 26, 27, 28, 29, 30, 31, 32, 33, 34, 35, 36, 37, 38, 39, 40, 41, 42, 43, 44, 45, 46, 47, 48, 49, 50, 51, 52, 53, 54, 55, 56, 57, 58, 59, 60, 61, 62, 63, 64, 65, 66, 67, 68, 69, 70, 71, 72, 73, 74, 75, 76, 77, 78, 79, 80, 81, 82, 83, 84, 85, 86, 87, 88, 89, 90, 91, 92, 93, 94, 95, 96, 97, 98, 99, 100, 101, 102, 103, 104, 105, 106, 107, 108, 109, 110, 111, 112, 113, 114, 115, 116, 117, 118, 119, 120, 121, 122, 123, 124, 125, 126, 127, 128, 129, 130, 131, 132, 133, 134, 135, 136, 137, 138, 139, 140, 141, 142, 143, 144, 145, 146, 147, 148, 149, 150, 151, 152, 153] (by decide +kernel) (by decide +kernel)
set_option maxRecDepth 20000 in
theorem gX9_permitted_X9_permittedNow : GoodIn wsX9_permitted (wsV RX9 204 RX9 yX9_permittedNow wsX9_permittedNow) := goodIn_app (goodIn_of _ (by decide +kernel)) ggX9_permitted_X9_permittedNow
theorem dX9_permitted_0 : decode cX9_permitted 0 = .ok (.aload_n 0, 1) := by decide +kernel
theorem dX9_permitted_1 : decode cX9_permitted 1 = .ok (.iconst 0, 1) := by decide +kernel
theorem dX9_permitted_2 : decode cX9_permitted 2 = .ok (.putfield 28, 3) := by decide +kernel
theorem dX9_permitted_5 : decode cX9_permitted 5 = .ok (.aload_n 0, 1) := by decide +kernel
theorem dX9_permitted_6 : decode cX9_permitted 6 = .ok (.invokevirtual 204, 3) := by decide +kernel
theorem dX9_permitted_9 : decode cX9_permitted 9 = .ok (.ireturn, 1) := by decide +kernel
set_option maxRecDepth 20000 in
theorem ggX9_predicted_X9_in : GoodIn wsX9_predicted wsX9_in := goodIn_r _ [5] (by decide +kernel) (by decide +kernel)
set_option maxRecDepth 20000 in
theorem gX9_predicted_X9_in : GoodIn wsX9_predicted (va_wsS RX9 132 yX9_in wsX9_in) := goodIn_app (goodIn_of _ (by decide +kernel)) ggX9_predicted_X9_in
set_option maxRecDepth 20000 in
theorem ggX9_predicted_X9_fails : GoodIn wsX9_predicted wsX9_fails := goodIn_r _ [9, 1, 124, 125, 126, 127, 128, 129, 130, 131, 132, 133, 134, 135, 136] (by decide +kernel) (by decide +kernel)
set_option maxRecDepth 20000 in
theorem gX9_predicted_X9_fails : GoodIn wsX9_predicted (wsV RX9 136 RX9 yX9_fails wsX9_fails) := goodIn_app (goodIn_of _ (by decide +kernel)) ggX9_predicted_X9_fails
set_option maxRecDepth 20000 in
theorem ggX9_predicted_X9_remember : GoodIn wsX9_predicted wsX9_remember := goodIn_r _ [13, 14, 15, 124, 125, 126, 127, 128, 129, 130, 131, 132, 133, 134, 135, 136] (by decide +kernel) (by decide +kernel)
set_option maxRecDepth 20000 in
theorem gX9_predicted_X9_remember : GoodIn wsX9_predicted (wsV RX9 159 RX9 yX9_remember wsX9_remember) := goodIn_app (goodIn_of _ (by decide +kernel)) ggX9_predicted_X9_remember
set_option maxRecDepth 20000 in
theorem ggX9_predicted_X9_carry : GoodIn wsX9_predicted wsX9_carry := goodIn_r _ [19, 15, 20, 21, 22, 4, 23, 24, 25, 26, 27, 28, 29, 30, 31, 32, 33, 34, 35, 36, 37, 38, 39, 40, 41, 42, 124, 125, 126, 127, 128, 129, 130, 131, 132, 133, 134, 135, 136] (by decide +kernel) (by decide +kernel)
set_option maxRecDepth 20000 in
theorem gX9_predicted_X9_carry : GoodIn wsX9_predicted (wsV RX9 162 RX9 yX9_carry wsX9_carry) := goodIn_app (goodIn_of _ (by decide +kernel)) ggX9_predicted_X9_carry
set_option maxRecDepth 20000 in
theorem ggX9_predicted_X9_utilization : GoodIn wsX9_predicted wsX9_utilization := goodIn_r _ [46, 15, 47, 48, 49, 4, 50, 51, 52, 53, 54, 55, 56, 57, 58, 59, 60, 61, 62, 63, 64, 37, 38, 39, 40, 41, 42, 24, 25, 26, 65, 66, 67, 68, 69, 70, 71, 72, 73, 74, 75, 76, 77, 78, 79, 80, 81, 82, 83, 84, 85, 86, 87, 88, 89, 90, 91, 92, 93, 94, 95, 96, 97, 98, 99, 100, 101, 27, 28, 29, 102, 103, 104, 105, 106, 107, 108, 109, 110, 111, 112, 113, 114, 115, 116, 117, 118, 119, 124, 125, 126, 127, 128, 129, 130, 131, 132, 133, 134, 135, 136] (by decide +kernel) (by decide +kernel)
set_option maxRecDepth 20000 in
theorem gX9_predicted_X9_utilization : GoodIn wsX9_predicted (wsV RX9 169 RX9 yX9_utilization wsX9_utilization) := goodIn_app (goodIn_of _ (by decide +kernel)) ggX9_predicted_X9_utilization
set_option maxRecDepth 20000 in
theorem ggX9_predicted_X9_takeBack : GoodIn wsX9_predicted wsX9_takeBack := goodIn_r _ [123, 15, 14, 124, 125, 126, 127, 128, 129, 130, 131, 132, 133, 134, 135, 136] (by decide +kernel) (by decide +kernel)
set_option maxRecDepth 20000 in
theorem gX9_predicted_X9_takeBack : GoodIn wsX9_predicted (wsV RX9 166 RX9 yX9_takeBack wsX9_takeBack) := goodIn_app (goodIn_of _ (by decide +kernel)) ggX9_predicted_X9_takeBack
