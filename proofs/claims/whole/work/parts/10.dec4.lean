theorem dX9_measure_10 : decode cX9_measure 10 = .ok (.invokevirtual 65, 3) := by decide +kernel
theorem dX9_measure_13 : decode cX9_measure 13 = .ok (.lsub, 1) := by decide +kernel
theorem dX9_measure_14 : decode cX9_measure 14 = .ok (.lstore_n 1, 1) := by decide +kernel
theorem dX9_measure_15 : decode cX9_measure 15 = .ok (.aload_n 0, 1) := by decide +kernel
theorem dX9_measure_16 : decode cX9_measure 16 = .ok (.invokevirtual 55, 3) := by decide +kernel
theorem dX9_measure_19 : decode cX9_measure 19 = .ok (.istore_n 3, 1) := by decide +kernel
theorem dX9_measure_20 : decode cX9_measure 20 = .ok (.aload_n 0, 1) := by decide +kernel
theorem dX9_measure_21 : decode cX9_measure 21 = .ok (.aload_n 0, 1) := by decide +kernel
theorem dX9_measure_22 : decode cX9_measure 22 = .ok (.lload_n 1, 1) := by decide +kernel
theorem dX9_measure_23 : decode cX9_measure 23 = .ok (.iload_n 3, 1) := by decide +kernel
theorem dX9_measure_24 : decode cX9_measure 24 = .ok (.sipush 150, 3) := by decide +kernel
theorem dX9_measure_27 : decode cX9_measure 27 = .ok (.iadd, 1) := by decide +kernel
theorem dX9_measure_28 : decode cX9_measure 28 = .ok (.invokevirtual 74, 3) := by decide +kernel
theorem dX9_measure_31 : decode cX9_measure 31 = .ok (.putfield 78, 3) := by decide +kernel
theorem dX9_measure_34 : decode cX9_measure 34 = .ok (.iconst 0, 1) := by decide +kernel
theorem dX9_measure_35 : decode cX9_measure 35 = .ok (.istore 4, 2) := by decide +kernel
theorem dX9_measure_37 : decode cX9_measure 37 = .ok (.iload 4, 2) := by decide +kernel
theorem dX9_measure_39 : decode cX9_measure 39 = .ok (.iconst 3, 1) := by decide +kernel
theorem dX9_measure_40 : decode cX9_measure 40 = .ok (.if_icmp .ge 41, 3) := by decide +kernel
theorem dX9_measure_43 : decode cX9_measure 43 = .ok (.aload_n 0, 1) := by decide +kernel
theorem dX9_measure_44 : decode cX9_measure 44 = .ok (.iload_n 3, 1) := by decide +kernel
theorem dX9_measure_45 : decode cX9_measure 45 = .ok (.aload_n 0, 1) := by decide +kernel
theorem dX9_measure_46 : decode cX9_measure 46 = .ok (.aload_n 0, 1) := by decide +kernel
theorem dX9_measure_47 : decode cX9_measure 47 = .ok (.getfield 78, 3) := by decide +kernel
theorem dX9_measure_50 : decode cX9_measure 50 = .ok (.i2l, 1) := by decide +kernel
theorem dX9_measure_51 : decode cX9_measure 51 = .ok (.invokevirtual 61, 3) := by decide +kernel
theorem dX9_measure_54 : decode cX9_measure 54 = .ok (.iadd, 1) := by decide +kernel
theorem dX9_measure_55 : decode cX9_measure 55 = .ok (.putfield 81, 3) := by decide +kernel
theorem dX9_measure_58 : decode cX9_measure 58 = .ok (.aload_n 0, 1) := by decide +kernel
theorem dX9_measure_59 : decode cX9_measure 59 = .ok (.aload_n 0, 1) := by decide +kernel
theorem dX9_measure_60 : decode cX9_measure 60 = .ok (.lload_n 1, 1) := by decide +kernel
theorem dX9_measure_61 : decode cX9_measure 61 = .ok (.aload_n 0, 1) := by decide +kernel
theorem dX9_measure_62 : decode cX9_measure 62 = .ok (.getfield 81, 3) := by decide +kernel
theorem dX9_measure_65 : decode cX9_measure 65 = .ok (.sipush 150, 3) := by decide +kernel
theorem dX9_measure_68 : decode cX9_measure 68 = .ok (.iadd, 1) := by decide +kernel
theorem dX9_measure_69 : decode cX9_measure 69 = .ok (.invokevirtual 74, 3) := by decide +kernel
theorem dX9_measure_72 : decode cX9_measure 72 = .ok (.putfield 78, 3) := by decide +kernel
theorem dX9_measure_75 : decode cX9_measure 75 = .ok (.iinc 4 1, 3) := by decide +kernel
theorem dX9_measure_78 : decode cX9_measure 78 = .ok (.goto (-41), 3) := by decide +kernel
theorem dX9_measure_81 : decode cX9_measure 81 = .ok (.return_, 1) := by decide +kernel
set_option maxRecDepth 20000 in
theorem ggX9_netLoad_X9_greater : GoodIn wsX9_netLoad wsX9_greater := goodIn_r _ [6] (by decide +kernel) (by decide +kernel)
set_option maxRecDepth 20000 in
theorem gX9_netLoad_X9_greater : GoodIn wsX9_netLoad (va_wsS RX9 45 yX9_greater wsX9_greater) := goodIn_app (goodIn_of _ (by decide +kernel)) ggX9_netLoad_X9_greater
theorem dX9_netLoad_0 : decode cX9_netLoad 0 = .ok (.iconst 0, 1) := by decide +kernel
theorem dX9_netLoad_1 : decode cX9_netLoad 1 = .ok (.aload_n 0, 1) := by decide +kernel
theorem dX9_netLoad_2 : decode cX9_netLoad 2 = .ok (.getfield 78, 3) := by decide +kernel
theorem dX9_netLoad_5 : decode cX9_netLoad 5 = .ok (.aload_n 0, 1) := by decide +kernel
theorem dX9_netLoad_6 : decode cX9_netLoad 6 = .ok (.getfield 7, 3) := by decide +kernel
theorem dX9_netLoad_9 : decode cX9_netLoad 9 = .ok (.iconst 5, 1) := by decide +kernel
theorem dX9_netLoad_10 : decode cX9_netLoad 10 = .ok (.iaload, 1) := by decide +kernel
theorem dX9_netLoad_11 : decode cX9_netLoad 11 = .ok (.isub, 1) := by decide +kernel
theorem dX9_netLoad_12 : decode cX9_netLoad 12 = .ok (.invokestatic 45, 3) := by decide +kernel
theorem dX9_netLoad_15 : decode cX9_netLoad 15 = .ok (.ireturn, 1) := by decide +kernel
theorem dX9_rowLength_0 : decode cX9_rowLength 0 = .ok (.iload_n 0, 1) := by decide +kernel
theorem dX9_rowLength_1 : decode cX9_rowLength 1 = .ok (.ifCond .ne 9, 3) := by decide +kernel
theorem dX9_rowLength_4 : decode cX9_rowLength 4 = .ok (.sipush 1000, 3) := by decide +kernel
theorem dX9_rowLength_7 : decode cX9_rowLength 7 = .ok (.goto 28, 3) := by decide +kernel
theorem dX9_rowLength_10 : decode cX9_rowLength 10 = .ok (.iload_n 0, 1) := by decide +kernel
theorem dX9_rowLength_11 : decode cX9_rowLength 11 = .ok (.iconst 1, 1) := by decide +kernel
theorem dX9_rowLength_12 : decode cX9_rowLength 12 = .ok (.if_icmp .ne 9, 3) := by decide +kernel
theorem dX9_rowLength_15 : decode cX9_rowLength 15 = .ok (.sipush 2000, 3) := by decide +kernel
theorem dX9_rowLength_18 : decode cX9_rowLength 18 = .ok (.goto 17, 3) := by decide +kernel
theorem dX9_rowLength_21 : decode cX9_rowLength 21 = .ok (.iload_n 0, 1) := by decide +kernel
theorem dX9_rowLength_22 : decode cX9_rowLength 22 = .ok (.iconst 2, 1) := by decide +kernel
theorem dX9_rowLength_23 : decode cX9_rowLength 23 = .ok (.if_icmp .ne 9, 3) := by decide +kernel
theorem dX9_rowLength_26 : decode cX9_rowLength 26 = .ok (.sipush 3500, 3) := by decide +kernel
theorem dX9_rowLength_29 : decode cX9_rowLength 29 = .ok (.goto 6, 3) := by decide +kernel
theorem dX9_rowLength_32 : decode cX9_rowLength 32 = .ok (.sipush 6000, 3) := by decide +kernel
theorem dX9_rowLength_35 : decode cX9_rowLength 35 = .ok (.ireturn, 1) := by decide +kernel
theorem dX9_columnRadius_0 : decode cX9_columnRadius 0 = .ok (.iload_n 0, 1) := by decide +kernel
theorem dX9_columnRadius_1 : decode cX9_columnRadius 1 = .ok (.tableswitch 55 0 4 #[35, 39, 43, 47, 51], 35) := by decide +kernel
theorem dX9_columnRadius_36 : decode cX9_columnRadius 36 = .ok (.sipush 300, 3) := by decide +kernel
theorem dX9_columnRadius_39 : decode cX9_columnRadius 39 = .ok (.ireturn, 1) := by decide +kernel
theorem dX9_columnRadius_40 : decode cX9_columnRadius 40 = .ok (.sipush 600, 3) := by decide +kernel
theorem dX9_columnRadius_43 : decode cX9_columnRadius 43 = .ok (.ireturn, 1) := by decide +kernel
theorem dX9_columnRadius_44 : decode cX9_columnRadius 44 = .ok (.sipush 1000, 3) := by decide +kernel
theorem dX9_columnRadius_47 : decode cX9_columnRadius 47 = .ok (.ireturn, 1) := by decide +kernel
theorem dX9_columnRadius_48 : decode cX9_columnRadius 48 = .ok (.sipush 1500, 3) := by decide +kernel
theorem dX9_columnRadius_51 : decode cX9_columnRadius 51 = .ok (.ireturn, 1) := by decide +kernel
theorem dX9_columnRadius_52 : decode cX9_columnRadius 52 = .ok (.sipush 2200, 3) := by decide +kernel
theorem dX9_columnRadius_55 : decode cX9_columnRadius 55 = .ok (.ireturn, 1) := by decide +kernel
theorem dX9_columnRadius_56 : decode cX9_columnRadius 56 = .ok (.sipush 3000, 3) := by decide +kernel
theorem dX9_columnRadius_59 : decode cX9_columnRadius 59 = .ok (.ireturn, 1) := by decide +kernel
theorem dX9_valueAt_0 : decode cX9_valueAt 0 = .ok (.aload_n 0, 1) := by decide +kernel
theorem dX9_valueAt_1 : decode cX9_valueAt 1 = .ok (.getfield 7, 3) := by decide +kernel
theorem dX9_valueAt_4 : decode cX9_valueAt 4 = .ok (.bipush 47, 2) := by decide +kernel
theorem dX9_valueAt_6 : decode cX9_valueAt 6 = .ok (.bipush 24, 2) := by decide +kernel
theorem dX9_valueAt_8 : decode cX9_valueAt 8 = .ok (.iload_n 1, 1) := by decide +kernel
theorem dX9_valueAt_9 : decode cX9_valueAt 9 = .ok (.imul, 1) := by decide +kernel
theorem dX9_valueAt_10 : decode cX9_valueAt 10 = .ok (.iadd, 1) := by decide +kernel
theorem dX9_valueAt_11 : decode cX9_valueAt 11 = .ok (.bipush 6, 2) := by decide +kernel
theorem dX9_valueAt_13 : decode cX9_valueAt 13 = .ok (.iload_n 2, 1) := by decide +kernel
theorem dX9_valueAt_14 : decode cX9_valueAt 14 = .ok (.imul, 1) := by decide +kernel
theorem dX9_valueAt_15 : decode cX9_valueAt 15 = .ok (.iadd, 1) := by decide +kernel
theorem dX9_valueAt_16 : decode cX9_valueAt 16 = .ok (.iload_n 3, 1) := by decide +kernel
theorem dX9_valueAt_17 : decode cX9_valueAt 17 = .ok (.iadd, 1) := by decide +kernel
theorem dX9_valueAt_18 : decode cX9_valueAt 18 = .ok (.iaload, 1) := by decide +kernel
theorem dX9_valueAt_19 : decode cX9_valueAt 19 = .ok (.i2l, 1) := by decide +kernel
theorem dX9_valueAt_20 : decode cX9_valueAt 20 = .ok (.lreturn, 1) := by decide +kernel
set_option maxRecDepth 20000 in
theorem ggX9_capacityOf_X9_greater : GoodIn wsX9_capacityOf wsX9_greater := goodIn_r _ [4] (by decide +kernel) (by decide +kernel)
set_option maxRecDepth 20000 in
theorem gX9_capacityOf_X9_greater : GoodIn wsX9_capacityOf (va_wsS RX9 45 yX9_greater wsX9_greater) := goodIn_app (goodIn_of _ (by decide +kernel)) ggX9_capacityOf_X9_greater
set_option maxRecDepth 20000 in
theorem ggX9_capacityOf_X9_rowLength : GoodIn wsX9_capacityOf wsX9_rowLength := goodIn_r _ [7] (by decide +kernel) (by decide +kernel)
set_option maxRecDepth 20000 in
theorem gX9_capacityOf_X9_rowLength : GoodIn wsX9_capacityOf (va_wsS RX9 84 yX9_rowLength wsX9_rowLength) := goodIn_app (goodIn_of _ (by decide +kernel)) ggX9_capacityOf_X9_rowLength
set_option maxRecDepth 20000 in
theorem ggX9_capacityOf_X9_columnRadius : GoodIn wsX9_capacityOf wsX9_columnRadius := goodIn_r _ [10] (by decide +kernel) (by decide +kernel)
set_option maxRecDepth 20000 in
theorem gX9_capacityOf_X9_columnRadius : GoodIn wsX9_capacityOf (va_wsS RX9 87 yX9_columnRadius wsX9_columnRadius) := goodIn_app (goodIn_of _ (by decide +kernel)) ggX9_capacityOf_X9_columnRadius
set_option maxRecDepth 20000 in
theorem ggX9_capacityOf_X9_valueAt : GoodIn wsX9_capacityOf wsX9_valueAt := goodIn_r _ [14, 15, 16, 17, 18, 19, 20, 21, 22, 23, 24, 25, 26, 27, 28] (by decide +kernel) (by decide +kernel)
set_option maxRecDepth 20000 in
theorem gX9_capacityOf_X9_valueAt : GoodIn wsX9_capacityOf (wsV RX9 90 RX9 yX9_valueAt wsX9_valueAt) := goodIn_app (goodIn_of _ (by decide +kernel)) ggX9_capacityOf_X9_valueAt
theorem dX9_capacityOf_0 : decode cX9_capacityOf 0 = .ok (.iload_n 3, 1) := by decide +kernel
theorem dX9_capacityOf_1 : decode cX9_capacityOf 1 = .ok (.sipush 3000, 3) := by decide +kernel
theorem dX9_capacityOf_4 : decode cX9_capacityOf 4 = .ok (.if_icmp .le 5, 3) := by decide +kernel
theorem dX9_capacityOf_7 : decode cX9_capacityOf 7 = .ok (.iconst 0, 1) := by decide +kernel
theorem dX9_capacityOf_8 : decode cX9_capacityOf 8 = .ok (.ireturn, 1) := by decide +kernel
theorem dX9_capacityOf_9 : decode cX9_capacityOf 9 = .ok (.sipush 300, 3) := by decide +kernel
theorem dX9_capacityOf_12 : decode cX9_capacityOf 12 = .ok (.iload_n 3, 1) := by decide +kernel
theorem dX9_capacityOf_13 : decode cX9_capacityOf 13 = .ok (.invokestatic 45, 3) := by decide +kernel
theorem dX9_capacityOf_16 : decode cX9_capacityOf 16 = .ok (.istore 4, 2) := by decide +kernel
theorem dX9_capacityOf_18 : decode cX9_capacityOf 18 = .ok (.iconst 0, 1) := by decide +kernel
theorem dX9_capacityOf_19 : decode cX9_capacityOf 19 = .ok (.istore 5, 2) := by decide +kernel
theorem dX9_capacityOf_21 : decode cX9_capacityOf 21 = .ok (.iload 5, 2) := by decide +kernel
theorem dX9_capacityOf_23 : decode cX9_capacityOf 23 = .ok (.iconst 2, 1) := by decide +kernel
theorem dX9_capacityOf_24 : decode cX9_capacityOf 24 = .ok (.if_icmp .ge 20, 3) := by decide +kernel
theorem dX9_capacityOf_27 : decode cX9_capacityOf 27 = .ok (.iload 5, 2) := by decide +kernel
theorem dX9_capacityOf_29 : decode cX9_capacityOf 29 = .ok (.iconst 1, 1) := by decide +kernel
theorem dX9_capacityOf_30 : decode cX9_capacityOf 30 = .ok (.iadd, 1) := by decide +kernel
theorem dX9_capacityOf_31 : decode cX9_capacityOf 31 = .ok (.invokestatic 84, 3) := by decide +kernel
theorem dX9_capacityOf_34 : decode cX9_capacityOf 34 = .ok (.iload_n 2, 1) := by decide +kernel
theorem dX9_capacityOf_35 : decode cX9_capacityOf 35 = .ok (.if_icmp .ge 9, 3) := by decide +kernel
theorem dX9_capacityOf_38 : decode cX9_capacityOf 38 = .ok (.iinc 5 1, 3) := by decide +kernel
theorem dX9_capacityOf_41 : decode cX9_capacityOf 41 = .ok (.goto (-20), 3) := by decide +kernel
theorem dX9_capacityOf_44 : decode cX9_capacityOf 44 = .ok (.iconst 0, 1) := by decide +kernel
theorem dX9_capacityOf_45 : decode cX9_capacityOf 45 = .ok (.istore 6, 2) := by decide +kernel
theorem dX9_capacityOf_47 : decode cX9_capacityOf 47 = .ok (.iload 6, 2) := by decide +kernel
theorem dX9_capacityOf_49 : decode cX9_capacityOf 49 = .ok (.iconst 4, 1) := by decide +kernel
theorem dX9_capacityOf_50 : decode cX9_capacityOf 50 = .ok (.if_icmp .ge 21, 3) := by decide +kernel
theorem dX9_capacityOf_53 : decode cX9_capacityOf 53 = .ok (.iload 6, 2) := by decide +kernel
theorem dX9_capacityOf_55 : decode cX9_capacityOf 55 = .ok (.iconst 1, 1) := by decide +kernel
theorem dX9_capacityOf_56 : decode cX9_capacityOf 56 = .ok (.iadd, 1) := by decide +kernel
theorem dX9_capacityOf_57 : decode cX9_capacityOf 57 = .ok (.invokestatic 87, 3) := by decide +kernel
theorem dX9_capacityOf_60 : decode cX9_capacityOf 60 = .ok (.iload 4, 2) := by decide +kernel
theorem dX9_capacityOf_62 : decode cX9_capacityOf 62 = .ok (.if_icmp .ge 9, 3) := by decide +kernel
theorem dX9_capacityOf_65 : decode cX9_capacityOf 65 = .ok (.iinc 6 1, 3) := by decide +kernel
theorem dX9_capacityOf_68 : decode cX9_capacityOf 68 = .ok (.goto (-21), 3) := by decide +kernel
theorem dX9_capacityOf_71 : decode cX9_capacityOf 71 = .ok (.iload 6, 2) := by decide +kernel
theorem dX9_capacityOf_73 : decode cX9_capacityOf 73 = .ok (.iconst 1, 1) := by decide +kernel
theorem dX9_capacityOf_74 : decode cX9_capacityOf 74 = .ok (.iadd, 1) := by decide +kernel
theorem dX9_capacityOf_75 : decode cX9_capacityOf 75 = .ok (.invokestatic 87, 3) := by decide +kernel
theorem dX9_capacityOf_78 : decode cX9_capacityOf 78 = .ok (.iload 4, 2) := by decide +kernel
theorem dX9_capacityOf_80 : decode cX9_capacityOf 80 = .ok (.isub, 1) := by decide +kernel
theorem dX9_capacityOf_81 : decode cX9_capacityOf 81 = .ok (.i2l, 1) := by decide +kernel
theorem dX9_capacityOf_82 : decode cX9_capacityOf 82 = .ok (.lstore 7, 2) := by decide +kernel
theorem dX9_capacityOf_84 : decode cX9_capacityOf 84 = .ok (.iload 4, 2) := by decide +kernel
theorem dX9_capacityOf_86 : decode cX9_capacityOf 86 = .ok (.iload 6, 2) := by decide +kernel
theorem dX9_capacityOf_88 : decode cX9_capacityOf 88 = .ok (.invokestatic 87, 3) := by decide +kernel
theorem dX9_capacityOf_91 : decode cX9_capacityOf 91 = .ok (.isub, 1) := by decide +kernel
theorem dX9_capacityOf_92 : decode cX9_capacityOf 92 = .ok (.i2l, 1) := by decide +kernel
theorem dX9_capacityOf_93 : decode cX9_capacityOf 93 = .ok (.lstore 9, 2) := by decide +kernel
theorem dX9_capacityOf_95 : decode cX9_capacityOf 95 = .ok (.aload_n 0, 1) := by decide +kernel
theorem dX9_capacityOf_96 : decode cX9_capacityOf 96 = .ok (.iload_n 1, 1) := by decide +kernel
theorem dX9_capacityOf_97 : decode cX9_capacityOf 97 = .ok (.iload 5, 2) := by decide +kernel
theorem dX9_capacityOf_99 : decode cX9_capacityOf 99 = .ok (.iload 6, 2) := by decide +kernel
theorem dX9_capacityOf_101 : decode cX9_capacityOf 101 = .ok (.invokevirtual 90, 3) := by decide +kernel
theorem dX9_capacityOf_104 : decode cX9_capacityOf 104 = .ok (.lload 7, 2) := by decide +kernel
theorem dX9_capacityOf_106 : decode cX9_capacityOf 106 = .ok (.lmul, 1) := by decide +kernel
theorem dX9_capacityOf_107 : decode cX9_capacityOf 107 = .ok (.aload_n 0, 1) := by decide +kernel
theorem dX9_capacityOf_108 : decode cX9_capacityOf 108 = .ok (.iload_n 1, 1) := by decide +kernel
theorem dX9_capacityOf_109 : decode cX9_capacityOf 109 = .ok (.iload 5, 2) := by decide +kernel
theorem dX9_capacityOf_111 : decode cX9_capacityOf 111 = .ok (.iload 6, 2) := by decide +kernel
theorem dX9_capacityOf_113 : decode cX9_capacityOf 113 = .ok (.iconst 1, 1) := by decide +kernel
theorem dX9_capacityOf_114 : decode cX9_capacityOf 114 = .ok (.iadd, 1) := by decide +kernel
theorem dX9_capacityOf_115 : decode cX9_capacityOf 115 = .ok (.invokevirtual 90, 3) := by decide +kernel
theorem dX9_capacityOf_118 : decode cX9_capacityOf 118 = .ok (.lload 9, 2) := by decide +kernel
theorem dX9_capacityOf_120 : decode cX9_capacityOf 120 = .ok (.lmul, 1) := by decide +kernel
theorem dX9_capacityOf_121 : decode cX9_capacityOf 121 = .ok (.ladd, 1) := by decide +kernel
theorem dX9_capacityOf_122 : decode cX9_capacityOf 122 = .ok (.lstore 11, 2) := by decide +kernel
theorem dX9_capacityOf_124 : decode cX9_capacityOf 124 = .ok (.aload_n 0, 1) := by decide +kernel
theorem dX9_capacityOf_125 : decode cX9_capacityOf 125 = .ok (.iload_n 1, 1) := by decide +kernel
theorem dX9_capacityOf_126 : decode cX9_capacityOf 126 = .ok (.iload 5, 2) := by decide +kernel
theorem dX9_capacityOf_128 : decode cX9_capacityOf 128 = .ok (.iconst 1, 1) := by decide +kernel
theorem dX9_capacityOf_129 : decode cX9_capacityOf 129 = .ok (.iadd, 1) := by decide +kernel
theorem dX9_capacityOf_130 : decode cX9_capacityOf 130 = .ok (.iload 6, 2) := by decide +kernel
theorem dX9_capacityOf_132 : decode cX9_capacityOf 132 = .ok (.invokevirtual 90, 3) := by decide +kernel
theorem dX9_capacityOf_135 : decode cX9_capacityOf 135 = .ok (.lload 7, 2) := by decide +kernel
theorem dX9_capacityOf_137 : decode cX9_capacityOf 137 = .ok (.lmul, 1) := by decide +kernel
theorem dX9_capacityOf_138 : decode cX9_capacityOf 138 = .ok (.aload_n 0, 1) := by decide +kernel
theorem dX9_capacityOf_139 : decode cX9_capacityOf 139 = .ok (.iload_n 1, 1) := by decide +kernel
theorem dX9_capacityOf_140 : decode cX9_capacityOf 140 = .ok (.iload 5, 2) := by decide +kernel
theorem dX9_capacityOf_142 : decode cX9_capacityOf 142 = .ok (.iconst 1, 1) := by decide +kernel
theorem dX9_capacityOf_143 : decode cX9_capacityOf 143 = .ok (.iadd, 1) := by decide +kernel
theorem dX9_capacityOf_144 : decode cX9_capacityOf 144 = .ok (.iload 6, 2) := by decide +kernel
theorem dX9_capacityOf_146 : decode cX9_capacityOf 146 = .ok (.iconst 1, 1) := by decide +kernel
theorem dX9_capacityOf_147 : decode cX9_capacityOf 147 = .ok (.iadd, 1) := by decide +kernel
theorem dX9_capacityOf_148 : decode cX9_capacityOf 148 = .ok (.invokevirtual 90, 3) := by decide +kernel
theorem dX9_capacityOf_151 : decode cX9_capacityOf 151 = .ok (.lload 9, 2) := by decide +kernel
theorem dX9_capacityOf_153 : decode cX9_capacityOf 153 = .ok (.lmul, 1) := by decide +kernel
theorem dX9_capacityOf_154 : decode cX9_capacityOf 154 = .ok (.ladd, 1) := by decide +kernel
theorem dX9_capacityOf_155 : decode cX9_capacityOf 155 = .ok (.lstore 13, 2) := by decide +kernel
theorem dX9_capacityOf_157 : decode cX9_capacityOf 157 = .ok (.iload 6, 2) := by decide +kernel
theorem dX9_capacityOf_159 : decode cX9_capacityOf 159 = .ok (.iconst 1, 1) := by decide +kernel
theorem dX9_capacityOf_160 : decode cX9_capacityOf 160 = .ok (.iadd, 1) := by decide +kernel
theorem dX9_capacityOf_161 : decode cX9_capacityOf 161 = .ok (.invokestatic 87, 3) := by decide +kernel
theorem dX9_capacityOf_164 : decode cX9_capacityOf 164 = .ok (.iload 6, 2) := by decide +kernel
theorem dX9_capacityOf_166 : decode cX9_capacityOf 166 = .ok (.invokestatic 87, 3) := by decide +kernel
theorem dX9_capacityOf_169 : decode cX9_capacityOf 169 = .ok (.isub, 1) := by decide +kernel
theorem dX9_capacityOf_170 : decode cX9_capacityOf 170 = .ok (.i2l, 1) := by decide +kernel
theorem dX9_capacityOf_171 : decode cX9_capacityOf 171 = .ok (.iload 5, 2) := by decide +kernel
theorem dX9_capacityOf_173 : decode cX9_capacityOf 173 = .ok (.iconst 1, 1) := by decide +kernel
theorem dX9_capacityOf_174 : decode cX9_capacityOf 174 = .ok (.iadd, 1) := by decide +kernel
theorem dX9_capacityOf_175 : decode cX9_capacityOf 175 = .ok (.invokestatic 84, 3) := by decide +kernel
theorem dX9_capacityOf_178 : decode cX9_capacityOf 178 = .ok (.iload 5, 2) := by decide +kernel
theorem dX9_capacityOf_180 : decode cX9_capacityOf 180 = .ok (.invokestatic 84, 3) := by decide +kernel
theorem dX9_capacityOf_183 : decode cX9_capacityOf 183 = .ok (.isub, 1) := by decide +kernel
theorem dX9_capacityOf_184 : decode cX9_capacityOf 184 = .ok (.i2l, 1) := by decide +kernel
theorem dX9_capacityOf_185 : decode cX9_capacityOf 185 = .ok (.lmul, 1) := by decide +kernel
theorem dX9_capacityOf_186 : decode cX9_capacityOf 186 = .ok (.lstore 15, 2) := by decide +kernel
theorem dX9_capacityOf_188 : decode cX9_capacityOf 188 = .ok (.lload 11, 2) := by decide +kernel
theorem dX9_capacityOf_190 : decode cX9_capacityOf 190 = .ok (.iload 5, 2) := by decide +kernel
theorem dX9_capacityOf_192 : decode cX9_capacityOf 192 = .ok (.iconst 1, 1) := by decide +kernel
theorem dX9_capacityOf_193 : decode cX9_capacityOf 193 = .ok (.iadd, 1) := by decide +kernel
theorem dX9_capacityOf_194 : decode cX9_capacityOf 194 = .ok (.invokestatic 84, 3) := by decide +kernel
theorem dX9_capacityOf_197 : decode cX9_capacityOf 197 = .ok (.iload_n 2, 1) := by decide +kernel
theorem dX9_capacityOf_198 : decode cX9_capacityOf 198 = .ok (.isub, 1) := by decide +kernel
theorem dX9_capacityOf_199 : decode cX9_capacityOf 199 = .ok (.i2l, 1) := by decide +kernel
theorem dX9_capacityOf_200 : decode cX9_capacityOf 200 = .ok (.lmul, 1) := by decide +kernel
theorem dX9_capacityOf_201 : decode cX9_capacityOf 201 = .ok (.lload 13, 2) := by decide +kernel
theorem dX9_capacityOf_203 : decode cX9_capacityOf 203 = .ok (.iload_n 2, 1) := by decide +kernel
theorem dX9_capacityOf_204 : decode cX9_capacityOf 204 = .ok (.iload 5, 2) := by decide +kernel
theorem dX9_capacityOf_206 : decode cX9_capacityOf 206 = .ok (.invokestatic 84, 3) := by decide +kernel
theorem dX9_capacityOf_209 : decode cX9_capacityOf 209 = .ok (.isub, 1) := by decide +kernel
theorem dX9_capacityOf_210 : decode cX9_capacityOf 210 = .ok (.i2l, 1) := by decide +kernel
theorem dX9_capacityOf_211 : decode cX9_capacityOf 211 = .ok (.lmul, 1) := by decide +kernel
theorem dX9_capacityOf_212 : decode cX9_capacityOf 212 = .ok (.ladd, 1) := by decide +kernel
theorem dX9_capacityOf_213 : decode cX9_capacityOf 213 = .ok (.lload 15, 2) := by decide +kernel
theorem dX9_capacityOf_215 : decode cX9_capacityOf 215 = .ok (.ldiv, 1) := by decide +kernel
theorem dX9_capacityOf_216 : decode cX9_capacityOf 216 = .ok (.l2i, 1) := by decide +kernel
theorem dX9_capacityOf_217 : decode cX9_capacityOf 217 = .ok (.ireturn, 1) := by decide +kernel
set_option maxRecDepth 20000 in
theorem ggX9_apart_X9_lesser : GoodIn wsX9_apart wsX9_lesser := goodIn_r _ [4] (by decide +kernel) (by decide +kernel)
set_option maxRecDepth 20000 in
theorem gX9_apart_X9_lesser : GoodIn wsX9_apart (va_wsS RX9 94 yX9_lesser wsX9_lesser) := goodIn_app (goodIn_of _ (by decide +kernel)) ggX9_apart_X9_lesser
theorem dX9_apart_0 : decode cX9_apart 0 = .ok (.iload_n 0, 1) := by decide +kernel
theorem dX9_apart_1 : decode cX9_apart 1 = .ok (.iload_n 1, 1) := by decide +kernel
theorem dX9_apart_2 : decode cX9_apart 2 = .ok (.isub, 1) := by decide +kernel
theorem dX9_apart_3 : decode cX9_apart 3 = .ok (.sipush 3600, 3) := by decide +kernel
theorem dX9_apart_6 : decode cX9_apart 6 = .ok (.iadd, 1) := by decide +kernel
theorem dX9_apart_7 : decode cX9_apart 7 = .ok (.sipush 3600, 3) := by decide +kernel
theorem dX9_apart_10 : decode cX9_apart 10 = .ok (.irem, 1) := by decide +kernel
theorem dX9_apart_11 : decode cX9_apart 11 = .ok (.istore_n 2, 1) := by decide +kernel
theorem dX9_apart_12 : decode cX9_apart 12 = .ok (.iload_n 2, 1) := by decide +kernel
theorem dX9_apart_13 : decode cX9_apart 13 = .ok (.sipush 3600, 3) := by decide +kernel
theorem dX9_apart_16 : decode cX9_apart 16 = .ok (.iload_n 2, 1) := by decide +kernel
theorem dX9_apart_17 : decode cX9_apart 17 = .ok (.isub, 1) := by decide +kernel
theorem dX9_apart_18 : decode cX9_apart 18 = .ok (.invokestatic 94, 3) := by decide +kernel
theorem dX9_apart_21 : decode cX9_apart 21 = .ok (.ireturn, 1) := by decide +kernel
set_option maxRecDepth 20000 in
theorem ggX9_tableAt_X9_apart : GoodIn wsX9_tableAt wsX9_apart := goodIn_r _ [5, 6, 7, 4, 8] (by decide +kernel) (by decide +kernel)
set_option maxRecDepth 20000 in
theorem gX9_tableAt_X9_apart : GoodIn wsX9_tableAt (va_wsS RX9 97 yX9_apart wsX9_apart) := goodIn_app (goodIn_of _ (by decide +kernel)) ggX9_tableAt_X9_apart
set_option maxRecDepth 20000 in
theorem ggX9_tableAt_X9_lesser : GoodIn wsX9_tableAt wsX9_lesser := goodIn_r _ [8] (by decide +kernel) (by decide +kernel)
set_option maxRecDepth 20000 in
theorem gX9_tableAt_X9_lesser : GoodIn wsX9_tableAt (va_wsS RX9 94 yX9_lesser wsX9_lesser) := goodIn_app (goodIn_of _ (by decide +kernel)) ggX9_tableAt_X9_lesser
theorem dX9_tableAt_0 : decode cX9_tableAt 0 = .ok (.iconst 3, 1) := by decide +kernel
theorem dX9_tableAt_1 : decode cX9_tableAt 1 = .ok (.istore_n 2, 1) := by decide +kernel
theorem dX9_tableAt_2 : decode cX9_tableAt 2 = .ok (.iconst 0, 1) := by decide +kernel
theorem dX9_tableAt_3 : decode cX9_tableAt 3 = .ok (.istore_n 3, 1) := by decide +kernel
theorem dX9_tableAt_4 : decode cX9_tableAt 4 = .ok (.iload_n 3, 1) := by decide +kernel
theorem dX9_tableAt_5 : decode cX9_tableAt 5 = .ok (.iconst 4, 1) := by decide +kernel
theorem dX9_tableAt_6 : decode cX9_tableAt 6 = .ok (.if_icmp .ge 56, 3) := by decide +kernel
theorem dX9_tableAt_9 : decode cX9_tableAt 9 = .ok (.aload_n 0, 1) := by decide +kernel
theorem dX9_tableAt_10 : decode cX9_tableAt 10 = .ok (.getfield 7, 3) := by decide +kernel
theorem dX9_tableAt_13 : decode cX9_tableAt 13 = .ok (.bipush 10, 2) := by decide +kernel
theorem dX9_tableAt_15 : decode cX9_tableAt 15 = .ok (.iaload, 1) := by decide +kernel
theorem dX9_tableAt_16 : decode cX9_tableAt 16 = .ok (.ifCond .ne 46, 3) := by decide +kernel
theorem dX9_tableAt_19 : decode cX9_tableAt 19 = .ok (.iload_n 1, 1) := by decide +kernel
theorem dX9_tableAt_20 : decode cX9_tableAt 20 = .ok (.sipush 450, 3) := by decide +kernel
theorem dX9_tableAt_23 : decode cX9_tableAt 23 = .ok (.sipush 900, 3) := by decide +kernel
theorem dX9_tableAt_26 : decode cX9_tableAt 26 = .ok (.iload_n 3, 1) := by decide +kernel
theorem dX9_tableAt_27 : decode cX9_tableAt 27 = .ok (.imul, 1) := by decide +kernel
theorem dX9_tableAt_28 : decode cX9_tableAt 28 = .ok (.iadd, 1) := by decide +kernel
theorem dX9_tableAt_29 : decode cX9_tableAt 29 = .ok (.invokestatic 97, 3) := by decide +kernel
theorem dX9_tableAt_32 : decode cX9_tableAt 32 = .ok (.sipush 900, 3) := by decide +kernel
theorem dX9_tableAt_35 : decode cX9_tableAt 35 = .ok (.if_icmp .ge 19, 3) := by decide +kernel
theorem dX9_tableAt_38 : decode cX9_tableAt 38 = .ok (.iload_n 2, 1) := by decide +kernel
theorem dX9_tableAt_39 : decode cX9_tableAt 39 = .ok (.aload_n 0, 1) := by decide +kernel
theorem dX9_tableAt_40 : decode cX9_tableAt 40 = .ok (.getfield 7, 3) := by decide +kernel
theorem dX9_tableAt_43 : decode cX9_tableAt 43 = .ok (.bipush 43, 2) := by decide +kernel
theorem dX9_tableAt_45 : decode cX9_tableAt 45 = .ok (.iload_n 3, 1) := by decide +kernel
theorem dX9_tableAt_46 : decode cX9_tableAt 46 = .ok (.iadd, 1) := by decide +kernel
theorem dX9_tableAt_47 : decode cX9_tableAt 47 = .ok (.iaload, 1) := by decide +kernel
theorem dX9_tableAt_48 : decode cX9_tableAt 48 = .ok (.invokestatic 94, 3) := by decide +kernel
theorem dX9_tableAt_51 : decode cX9_tableAt 51 = .ok (.goto 4, 3) := by decide +kernel
theorem dX9_tableAt_54 : decode cX9_tableAt 54 = .ok (.iload_n 2, 1) := by decide +kernel
theorem dX9_tableAt_55 : decode cX9_tableAt 55 = .ok (.istore_n 2, 1) := by decide +kernel
theorem dX9_tableAt_56 : decode cX9_tableAt 56 = .ok (.iinc 3 1, 3) := by decide +kernel
theorem dX9_tableAt_59 : decode cX9_tableAt 59 = .ok (.goto (-55), 3) := by decide +kernel
theorem dX9_tableAt_62 : decode cX9_tableAt 62 = .ok (.iload_n 2, 1) := by decide +kernel
theorem dX9_tableAt_63 : decode cX9_tableAt 63 = .ok (.ireturn, 1) := by decide +kernel
set_option maxRecDepth 20000 in
theorem ggX9_windNow_X9_greater : GoodIn wsX9_windNow wsX9_greater := goodIn_r _ [5] (by decide +kernel) (by decide +kernel)
set_option maxRecDepth 20000 in
theorem gX9_windNow_X9_greater : GoodIn wsX9_windNow (va_wsS RX9 45 yX9_greater wsX9_greater) := goodIn_app (goodIn_of _ (by decide +kernel)) ggX9_windNow_X9_greater
theorem dX9_windNow_0 : decode cX9_windNow 0 = .ok (.iconst 0, 1) := by decide +kernel
theorem dX9_windNow_1 : decode cX9_windNow 1 = .ok (.istore_n 1, 1) := by decide +kernel
theorem dX9_windNow_2 : decode cX9_windNow 2 = .ok (.iconst 0, 1) := by decide +kernel
theorem dX9_windNow_3 : decode cX9_windNow 3 = .ok (.istore_n 2, 1) := by decide +kernel
theorem dX9_windNow_4 : decode cX9_windNow 4 = .ok (.iload_n 2, 1) := by decide +kernel
theorem dX9_windNow_5 : decode cX9_windNow 5 = .ok (.iconst 4, 1) := by decide +kernel
theorem dX9_windNow_6 : decode cX9_windNow 6 = .ok (.if_icmp .ge 23, 3) := by decide +kernel
theorem dX9_windNow_9 : decode cX9_windNow 9 = .ok (.iload_n 1, 1) := by decide +kernel
theorem dX9_windNow_10 : decode cX9_windNow 10 = .ok (.aload_n 0, 1) := by decide +kernel
theorem dX9_windNow_11 : decode cX9_windNow 11 = .ok (.getfield 7, 3) := by decide +kernel
theorem dX9_windNow_14 : decode cX9_windNow 14 = .ok (.bipush 14, 2) := by decide +kernel
theorem dX9_windNow_16 : decode cX9_windNow 16 = .ok (.iload_n 2, 1) := by decide +kernel
theorem dX9_windNow_17 : decode cX9_windNow 17 = .ok (.iadd, 1) := by decide +kernel
theorem dX9_windNow_18 : decode cX9_windNow 18 = .ok (.iaload, 1) := by decide +kernel
theorem dX9_windNow_19 : decode cX9_windNow 19 = .ok (.invokestatic 45, 3) := by decide +kernel
theorem dX9_windNow_22 : decode cX9_windNow 22 = .ok (.istore_n 1, 1) := by decide +kernel
theorem dX9_windNow_23 : decode cX9_windNow 23 = .ok (.iinc 2 1, 3) := by decide +kernel
theorem dX9_windNow_26 : decode cX9_windNow 26 = .ok (.goto (-22), 3) := by decide +kernel
theorem dX9_windNow_29 : decode cX9_windNow 29 = .ok (.iload_n 1, 1) := by decide +kernel
theorem dX9_windNow_30 : decode cX9_windNow 30 = .ok (.ireturn, 1) := by decide +kernel
set_option maxRecDepth 20000 in
theorem ggX9_ratedFor_X9_windNow : GoodIn wsX9_ratedFor wsX9_windNow := goodIn_r _ [6, 7, 8, 9, 5, 10, 35, 36, 37, 38, 39, 40, 41, 42, 43, 44, 45, 46, 47] (by decide +kernel) (by decide +kernel)
set_option maxRecDepth 20000 in
theorem gX9_ratedFor_X9_windNow : GoodIn wsX9_ratedFor (wsV RX9 100 RX9 yX9_windNow wsX9_windNow) := goodIn_app (goodIn_of _ (by decide +kernel)) ggX9_ratedFor_X9_windNow
set_option maxRecDepth 20000 in
theorem ggX9_ratedFor_X9_greater : GoodIn wsX9_ratedFor wsX9_greater := goodIn_r _ [10] (by decide +kernel) (by decide +kernel)
set_option maxRecDepth 20000 in
theorem gX9_ratedFor_X9_greater : GoodIn wsX9_ratedFor (va_wsS RX9 45 yX9_greater wsX9_greater) := goodIn_app (goodIn_of _ (by decide +kernel)) ggX9_ratedFor_X9_greater
set_option maxRecDepth 20000 in
theorem ggX9_ratedFor_X9_tableAt : GoodIn wsX9_ratedFor wsX9_tableAt := goodIn_r _ [14, 7, 15, 16, 5, 17, 18, 19, 20, 35, 36, 37, 38, 39, 40, 41, 42, 43, 44, 45, 46, 47] (by decide +kernel) (by decide +kernel)
set_option maxRecDepth 20000 in
theorem gX9_ratedFor_X9_tableAt : GoodIn wsX9_ratedFor (wsV RX9 103 RX9 yX9_tableAt wsX9_tableAt) := goodIn_app (goodIn_of _ (by decide +kernel)) ggX9_ratedFor_X9_tableAt
set_option maxRecDepth 20000 in
theorem ggX9_ratedFor_X9_capacityOf : GoodIn wsX9_ratedFor wsX9_capacityOf := goodIn_r _ [24, 8, 9, 5, 10, 25, 26, 27, 28, 29, 30, 31, 32, 33, 34, 7, 35, 36, 37, 38, 39, 40, 41, 42, 43, 44, 45, 46, 47] (by decide +kernel) (by decide +kernel)
set_option maxRecDepth 20000 in
theorem gX9_ratedFor_X9_capacityOf : GoodIn wsX9_ratedFor (wsV RX9 106 RX9 yX9_capacityOf wsX9_capacityOf) := goodIn_app (goodIn_of _ (by decide +kernel)) ggX9_ratedFor_X9_capacityOf
theorem dX9_ratedFor_0 : decode cX9_ratedFor 0 = .ok (.aload_n 0, 1) := by decide +kernel
theorem dX9_ratedFor_1 : decode cX9_ratedFor 1 = .ok (.invokevirtual 100, 3) := by decide +kernel
theorem dX9_ratedFor_4 : decode cX9_ratedFor 4 = .ok (.istore 4, 2) := by decide +kernel
theorem dX9_ratedFor_6 : decode cX9_ratedFor 6 = .ok (.iload 4, 2) := by decide +kernel
theorem dX9_ratedFor_8 : decode cX9_ratedFor 8 = .ok (.bipush 100, 2) := by decide +kernel
theorem dX9_ratedFor_10 : decode cX9_ratedFor 10 = .ok (.if_icmp .gt 9, 3) := by decide +kernel
theorem dX9_ratedFor_13 : decode cX9_ratedFor 13 = .ok (.sipush 1000, 3) := by decide +kernel
theorem dX9_ratedFor_16 : decode cX9_ratedFor 16 = .ok (.goto 18, 3) := by decide +kernel
theorem dX9_ratedFor_19 : decode cX9_ratedFor 19 = .ok (.iconst 0, 1) := by decide +kernel
theorem dX9_ratedFor_20 : decode cX9_ratedFor 20 = .ok (.sipush 1000, 3) := by decide +kernel
theorem dX9_ratedFor_23 : decode cX9_ratedFor 23 = .ok (.iconst 2, 1) := by decide +kernel
theorem dX9_ratedFor_24 : decode cX9_ratedFor 24 = .ok (.iload 4, 2) := by decide +kernel
theorem dX9_ratedFor_26 : decode cX9_ratedFor 26 = .ok (.bipush 100, 2) := by decide +kernel
theorem dX9_ratedFor_28 : decode cX9_ratedFor 28 = .ok (.isub, 1) := by decide +kernel
theorem dX9_ratedFor_29 : decode cX9_ratedFor 29 = .ok (.imul, 1) := by decide +kernel
theorem dX9_ratedFor_30 : decode cX9_ratedFor 30 = .ok (.isub, 1) := by decide +kernel
theorem dX9_ratedFor_31 : decode cX9_ratedFor 31 = .ok (.invokestatic 45, 3) := by decide +kernel
theorem dX9_ratedFor_34 : decode cX9_ratedFor 34 = .ok (.istore 5, 2) := by decide +kernel
theorem dX9_ratedFor_36 : decode cX9_ratedFor 36 = .ok (.aload_n 0, 1) := by decide +kernel
theorem dX9_ratedFor_37 : decode cX9_ratedFor 37 = .ok (.aload_n 0, 1) := by decide +kernel
theorem dX9_ratedFor_38 : decode cX9_ratedFor 38 = .ok (.iload_n 3, 1) := by decide +kernel
theorem dX9_ratedFor_39 : decode cX9_ratedFor 39 = .ok (.invokevirtual 103, 3) := by decide +kernel
theorem dX9_ratedFor_42 : decode cX9_ratedFor 42 = .ok (.iload_n 1, 1) := by decide +kernel
theorem dX9_ratedFor_43 : decode cX9_ratedFor 43 = .ok (.iload_n 2, 1) := by decide +kernel
theorem dX9_ratedFor_44 : decode cX9_ratedFor 44 = .ok (.invokevirtual 106, 3) := by decide +kernel
theorem dX9_ratedFor_47 : decode cX9_ratedFor 47 = .ok (.i2l, 1) := by decide +kernel
theorem dX9_ratedFor_48 : decode cX9_ratedFor 48 = .ok (.iload 5, 2) := by decide +kernel
theorem dX9_ratedFor_50 : decode cX9_ratedFor 50 = .ok (.i2l, 1) := by decide +kernel
theorem dX9_ratedFor_51 : decode cX9_ratedFor 51 = .ok (.lmul, 1) := by decide +kernel
theorem dX9_ratedFor_52 : decode cX9_ratedFor 52 = .ok (.ldc2_w 110, 3) := by decide +kernel
theorem dX9_ratedFor_55 : decode cX9_ratedFor 55 = .ok (.ldiv, 1) := by decide +kernel
theorem dX9_ratedFor_56 : decode cX9_ratedFor 56 = .ok (.l2i, 1) := by decide +kernel
theorem dX9_ratedFor_57 : decode cX9_ratedFor 57 = .ok (.ireturn, 1) := by decide +kernel
theorem dX9_utilizationOf_0 : decode cX9_utilizationOf 0 = .ok (.iload_n 0, 1) := by decide +kernel
theorem dX9_utilizationOf_1 : decode cX9_utilizationOf 1 = .ok (.ifCond .ne 5, 3) := by decide +kernel
theorem dX9_utilizationOf_4 : decode cX9_utilizationOf 4 = .ok (.iconst 0, 1) := by decide +kernel
theorem dX9_utilizationOf_5 : decode cX9_utilizationOf 5 = .ok (.ireturn, 1) := by decide +kernel
theorem dX9_utilizationOf_6 : decode cX9_utilizationOf 6 = .ok (.iload_n 1, 1) := by decide +kernel
theorem dX9_utilizationOf_7 : decode cX9_utilizationOf 7 = .ok (.ifCond .ne 7, 3) := by decide +kernel
theorem dX9_utilizationOf_10 : decode cX9_utilizationOf 10 = .ok (.sipush 9999, 3) := by decide +kernel
theorem dX9_utilizationOf_13 : decode cX9_utilizationOf 13 = .ok (.ireturn, 1) := by decide +kernel
theorem dX9_utilizationOf_14 : decode cX9_utilizationOf 14 = .ok (.ldc2_w 110, 3) := by decide +kernel
theorem dX9_utilizationOf_17 : decode cX9_utilizationOf 17 = .ok (.iload_n 0, 1) := by decide +kernel
theorem dX9_utilizationOf_18 : decode cX9_utilizationOf 18 = .ok (.i2l, 1) := by decide +kernel
theorem dX9_utilizationOf_19 : decode cX9_utilizationOf 19 = .ok (.lmul, 1) := by decide +kernel
theorem dX9_utilizationOf_20 : decode cX9_utilizationOf 20 = .ok (.iload_n 1, 1) := by decide +kernel
theorem dX9_utilizationOf_21 : decode cX9_utilizationOf 21 = .ok (.i2l, 1) := by decide +kernel
theorem dX9_utilizationOf_22 : decode cX9_utilizationOf 22 = .ok (.ldiv, 1) := by decide +kernel
theorem dX9_utilizationOf_23 : decode cX9_utilizationOf 23 = .ok (.lstore_n 2, 1) := by decide +kernel
theorem dX9_utilizationOf_24 : decode cX9_utilizationOf 24 = .ok (.lload_n 2, 1) := by decide +kernel
theorem dX9_utilizationOf_25 : decode cX9_utilizationOf 25 = .ok (.ldc2_w 112, 3) := by decide +kernel
theorem dX9_utilizationOf_28 : decode cX9_utilizationOf 28 = .ok (.lcmp, 1) := by decide +kernel
theorem dX9_utilizationOf_29 : decode cX9_utilizationOf 29 = .ok (.ifCond .le 9, 3) := by decide +kernel
theorem dX9_utilizationOf_32 : decode cX9_utilizationOf 32 = .ok (.sipush 9999, 3) := by decide +kernel
theorem dX9_utilizationOf_35 : decode cX9_utilizationOf 35 = .ok (.goto 5, 3) := by decide +kernel
theorem dX9_utilizationOf_38 : decode cX9_utilizationOf 38 = .ok (.lload_n 2, 1) := by decide +kernel
theorem dX9_utilizationOf_39 : decode cX9_utilizationOf 39 = .ok (.l2i, 1) := by decide +kernel
theorem dX9_utilizationOf_40 : decode cX9_utilizationOf 40 = .ok (.ireturn, 1) := by decide +kernel
set_option maxRecDepth 20000 in
theorem ggX9_utilizationAt_X9_netLoad : GoodIn wsX9_utilizationAt wsX9_netLoad := goodIn_r _ [7, 8, 1, 9, 10, 6, 11, 49, 50, 51, 52, 53, 54, 55, 56, 57, 58, 59, 60, 61] (by decide +kernel) (by decide +kernel)
set_option maxRecDepth 20000 in
theorem gX9_utilizationAt_X9_netLoad : GoodIn wsX9_utilizationAt (wsV RX9 114 RX9 yX9_netLoad wsX9_netLoad) := goodIn_app (goodIn_of _ (by decide +kernel)) ggX9_utilizationAt_X9_netLoad
set_option maxRecDepth 20000 in
theorem ggX9_utilizationAt_X9_ratedFor : GoodIn wsX9_utilizationAt wsX9_ratedFor := goodIn_r _ [15, 16, 17, 18, 19, 6, 20, 1, 9, 10, 11, 21, 22, 23, 24, 25, 26, 27, 28, 29, 30, 31, 32, 33, 34, 35, 36, 37, 38, 39, 40, 41, 42, 43, 44, 49, 50, 51, 52, 53, 54, 55, 56, 57, 58, 59, 60, 61] (by decide +kernel) (by decide +kernel)
set_option maxRecDepth 20000 in
theorem gX9_utilizationAt_X9_ratedFor : GoodIn wsX9_utilizationAt (wsV RX9 117 RX9 yX9_ratedFor wsX9_ratedFor) := goodIn_app (goodIn_of _ (by decide +kernel)) ggX9_utilizationAt_X9_ratedFor
set_option maxRecDepth 20000 in
theorem ggX9_utilizationAt_X9_utilizationOf : GoodIn wsX9_utilizationAt wsX9_utilizationOf := goodIn_r _ [47, 16, 48] (by decide +kernel) (by decide +kernel)
set_option maxRecDepth 20000 in
theorem gX9_utilizationAt_X9_utilizationOf : GoodIn wsX9_utilizationAt (va_wsS RX9 120 yX9_utilizationOf wsX9_utilizationOf) := goodIn_app (goodIn_of _ (by decide +kernel)) ggX9_utilizationAt_X9_utilizationOf
theorem dX9_utilizationAt_0 : decode cX9_utilizationAt 0 = .ok (.aload_n 0, 1) := by decide +kernel
theorem dX9_utilizationAt_1 : decode cX9_utilizationAt 1 = .ok (.invokevirtual 114, 3) := by decide +kernel
theorem dX9_utilizationAt_4 : decode cX9_utilizationAt 4 = .ok (.aload_n 0, 1) := by decide +kernel
theorem dX9_utilizationAt_5 : decode cX9_utilizationAt 5 = .ok (.aload_n 0, 1) := by decide +kernel
theorem dX9_utilizationAt_6 : decode cX9_utilizationAt 6 = .ok (.getfield 7, 3) := by decide +kernel
theorem dX9_utilizationAt_9 : decode cX9_utilizationAt 9 = .ok (.iconst 0, 1) := by decide +kernel
theorem dX9_utilizationAt_10 : decode cX9_utilizationAt 10 = .ok (.iaload, 1) := by decide +kernel
theorem dX9_utilizationAt_11 : decode cX9_utilizationAt 11 = .ok (.aload_n 0, 1) := by decide +kernel
theorem dX9_utilizationAt_12 : decode cX9_utilizationAt 12 = .ok (.getfield 81, 3) := by decide +kernel
theorem dX9_utilizationAt_15 : decode cX9_utilizationAt 15 = .ok (.iload_n 1, 1) := by decide +kernel
theorem dX9_utilizationAt_16 : decode cX9_utilizationAt 16 = .ok (.invokevirtual 117, 3) := by decide +kernel
theorem dX9_utilizationAt_19 : decode cX9_utilizationAt 19 = .ok (.invokestatic 120, 3) := by decide +kernel
theorem dX9_utilizationAt_22 : decode cX9_utilizationAt 22 = .ok (.ireturn, 1) := by decide +kernel
set_option maxRecDepth 20000 in
theorem ggX9_utilization_X9_measure : GoodIn wsX9_utilization wsX9_measure := goodIn_r _ [6, 7, 8, 9, 10, 11, 12, 5, 13, 1, 14, 15, 16, 17, 18, 19, 20, 21, 22, 23, 24, 25, 26, 27, 28, 29, 30, 31, 32, 33, 34, 35, 36, 37, 38, 39, 40, 41, 42, 88, 89, 90, 91, 92, 93, 94, 95, 96, 97, 98, 99, 100] (by decide +kernel) (by decide +kernel)
set_option maxRecDepth 20000 in
theorem gX9_utilization_X9_measure : GoodIn wsX9_utilization (wsV RX9 123 RX9 yX9_measure wsX9_measure) := goodIn_app (goodIn_of _ (by decide +kernel)) ggX9_utilization_X9_measure
set_option maxRecDepth 20000 in
theorem ggX9_utilization_X9_utilizationAt : GoodIn wsX9_utilization wsX9_utilizationAt := goodIn_r _ [46, 1, 9, 47, 48, 49, 5, 50, 8, 27, 28, 29, 51, 52, 53, 54, 55, 56, 57, 58, 59, 60, 61, 62, 63, 64, 65, 66, 67, 68, 69, 70, 71, 72, 73, 74, 75, 76, 77, 78, 79, 80, 81, 82, 83, 84, 85, 86, 87, 88, 89, 90, 91, 92, 93, 94, 95, 96, 97, 98, 99, 100] (by decide +kernel) (by decide +kernel)
set_option maxRecDepth 20000 in
theorem gX9_utilization_X9_utilizationAt : GoodIn wsX9_utilization (wsV RX9 126 RX9 yX9_utilizationAt wsX9_utilizationAt) := goodIn_app (goodIn_of _ (by decide +kernel)) ggX9_utilization_X9_utilizationAt
theorem dX9_utilization_0 : decode cX9_utilization 0 = .ok (.aload_n 0, 1) := by decide +kernel
theorem dX9_utilization_1 : decode cX9_utilization 1 = .ok (.invokevirtual 123, 3) := by decide +kernel
theorem dX9_utilization_4 : decode cX9_utilization 4 = .ok (.aload_n 0, 1) := by decide +kernel
theorem dX9_utilization_5 : decode cX9_utilization 5 = .ok (.aload_n 0, 1) := by decide +kernel
theorem dX9_utilization_6 : decode cX9_utilization 6 = .ok (.getfield 7, 3) := by decide +kernel
theorem dX9_utilization_9 : decode cX9_utilization 9 = .ok (.iconst 2, 1) := by decide +kernel
theorem dX9_utilization_10 : decode cX9_utilization 10 = .ok (.iaload, 1) := by decide +kernel
theorem dX9_utilization_11 : decode cX9_utilization 11 = .ok (.invokevirtual 126, 3) := by decide +kernel
theorem dX9_utilization_14 : decode cX9_utilization 14 = .ok (.ireturn, 1) := by decide +kernel
set_option maxRecDepth 20000 in
theorem ggX9_violation_X9_radius : GoodIn wsX9_violation wsX9_radius := goodIn_r _ [6, 1, 7, 8, 5, 9, 10, 11, 12, 13, 14, 15, 16, 17, 18, 26, 27, 28, 29, 30, 31, 32, 33, 34, 35, 36, 37, 38] (by decide +kernel) (by decide +kernel)
set_option maxRecDepth 20000 in
theorem gX9_violation_X9_radius : GoodIn wsX9_violation (wsV RX9 55 RX9 yX9_radius wsX9_radius) := goodIn_app (goodIn_of _ (by decide +kernel)) ggX9_violation_X9_radius
set_option maxRecDepth 20000 in
theorem ggX9_violation_X9_greater : GoodIn wsX9_violation wsX9_greater := goodIn_r _ [18] (by decide +kernel) (by decide +kernel)
set_option maxRecDepth 20000 in
theorem gX9_violation_X9_greater : GoodIn wsX9_violation (va_wsS RX9 45 yX9_greater wsX9_greater) := goodIn_app (goodIn_of _ (by decide +kernel)) ggX9_violation_X9_greater
set_option maxRecDepth 20000 in
theorem ggX9_violation_X9_height : GoodIn wsX9_violation wsX9_height := goodIn_r _ [22, 1, 23, 24, 5, 25, 10, 11, 12, 13, 14, 15, 26, 27, 28, 29, 30, 31, 32, 33, 34, 35, 36, 37, 38] (by decide +kernel) (by decide +kernel)
set_option maxRecDepth 20000 in
theorem gX9_violation_X9_height : GoodIn wsX9_violation (wsV RX9 129 RX9 yX9_height wsX9_height) := goodIn_app (goodIn_of _ (by decide +kernel)) ggX9_violation_X9_height
theorem dX9_violation_0 : decode cX9_violation 0 = .ok (.iconst 0, 1) := by decide +kernel
theorem dX9_violation_1 : decode cX9_violation 1 = .ok (.istore_n 1, 1) := by decide +kernel
theorem dX9_violation_2 : decode cX9_violation 2 = .ok (.iconst 0, 1) := by decide +kernel
theorem dX9_violation_3 : decode cX9_violation 3 = .ok (.istore_n 2, 1) := by decide +kernel
theorem dX9_violation_4 : decode cX9_violation 4 = .ok (.iload_n 2, 1) := by decide +kernel
theorem dX9_violation_5 : decode cX9_violation 5 = .ok (.aload_n 0, 1) := by decide +kernel
theorem dX9_violation_6 : decode cX9_violation 6 = .ok (.getfield 7, 3) := by decide +kernel
theorem dX9_violation_9 : decode cX9_violation 9 = .ok (.bipush 18, 2) := by decide +kernel
theorem dX9_violation_11 : decode cX9_violation 11 = .ok (.iaload, 1) := by decide +kernel
theorem dX9_violation_12 : decode cX9_violation 12 = .ok (.if_icmp .ge 121, 3) := by decide +kernel
theorem dX9_violation_15 : decode cX9_violation 15 = .ok (.bipush 19, 2) := by decide +kernel
theorem dX9_violation_17 : decode cX9_violation 17 = .ok (.iconst 4, 1) := by decide +kernel
theorem dX9_violation_18 : decode cX9_violation 18 = .ok (.iload_n 2, 1) := by decide +kernel
theorem dX9_violation_19 : decode cX9_violation 19 = .ok (.imul, 1) := by decide +kernel
theorem dX9_violation_20 : decode cX9_violation 20 = .ok (.iadd, 1) := by decide +kernel
theorem dX9_violation_21 : decode cX9_violation 21 = .ok (.istore_n 3, 1) := by decide +kernel
theorem dX9_violation_22 : decode cX9_violation 22 = .ok (.aload_n 0, 1) := by decide +kernel
theorem dX9_violation_23 : decode cX9_violation 23 = .ok (.getfield 7, 3) := by decide +kernel
theorem dX9_violation_26 : decode cX9_violation 26 = .ok (.iload_n 3, 1) := by decide +kernel
theorem dX9_violation_27 : decode cX9_violation 27 = .ok (.iconst 1, 1) := by decide +kernel
theorem dX9_violation_28 : decode cX9_violation 28 = .ok (.iadd, 1) := by decide +kernel
theorem dX9_violation_29 : decode cX9_violation 29 = .ok (.iaload, 1) := by decide +kernel
theorem dX9_violation_30 : decode cX9_violation 30 = .ok (.aload_n 0, 1) := by decide +kernel
theorem dX9_violation_31 : decode cX9_violation 31 = .ok (.getfield 7, 3) := by decide +kernel
theorem dX9_violation_34 : decode cX9_violation 34 = .ok (.iload_n 3, 1) := by decide +kernel
theorem dX9_violation_35 : decode cX9_violation 35 = .ok (.iaload, 1) := by decide +kernel
theorem dX9_violation_36 : decode cX9_violation 36 = .ok (.isub, 1) := by decide +kernel
theorem dX9_violation_37 : decode cX9_violation 37 = .ok (.sipush 3600, 3) := by decide +kernel
theorem dX9_violation_40 : decode cX9_violation 40 = .ok (.iadd, 1) := by decide +kernel
theorem dX9_violation_41 : decode cX9_violation 41 = .ok (.sipush 3600, 3) := by decide +kernel
theorem dX9_violation_44 : decode cX9_violation 44 = .ok (.irem, 1) := by decide +kernel
theorem dX9_violation_45 : decode cX9_violation 45 = .ok (.istore 4, 2) := by decide +kernel
theorem dX9_violation_47 : decode cX9_violation 47 = .ok (.aload_n 0, 1) := by decide +kernel
theorem dX9_violation_48 : decode cX9_violation 48 = .ok (.getfield 7, 3) := by decide +kernel
theorem dX9_violation_51 : decode cX9_violation 51 = .ok (.iconst 2, 1) := by decide +kernel
theorem dX9_violation_52 : decode cX9_violation 52 = .ok (.iaload, 1) := by decide +kernel
theorem dX9_violation_53 : decode cX9_violation 53 = .ok (.aload_n 0, 1) := by decide +kernel
theorem dX9_violation_54 : decode cX9_violation 54 = .ok (.getfield 7, 3) := by decide +kernel
theorem dX9_violation_57 : decode cX9_violation 57 = .ok (.iload_n 3, 1) := by decide +kernel
theorem dX9_violation_58 : decode cX9_violation 58 = .ok (.iaload, 1) := by decide +kernel
theorem dX9_violation_59 : decode cX9_violation 59 = .ok (.isub, 1) := by decide +kernel
theorem dX9_violation_60 : decode cX9_violation 60 = .ok (.sipush 3600, 3) := by decide +kernel
theorem dX9_violation_63 : decode cX9_violation 63 = .ok (.iadd, 1) := by decide +kernel
theorem dX9_violation_64 : decode cX9_violation 64 = .ok (.sipush 3600, 3) := by decide +kernel
theorem dX9_violation_67 : decode cX9_violation 67 = .ok (.irem, 1) := by decide +kernel
theorem dX9_violation_68 : decode cX9_violation 68 = .ok (.iload 4, 2) := by decide +kernel
theorem dX9_violation_70 : decode cX9_violation 70 = .ok (.if_icmp .gt 7, 3) := by decide +kernel
theorem dX9_violation_73 : decode cX9_violation 73 = .ok (.iconst 1, 1) := by decide +kernel
theorem dX9_violation_74 : decode cX9_violation 74 = .ok (.goto 4, 3) := by decide +kernel
theorem dX9_violation_77 : decode cX9_violation 77 = .ok (.iconst 0, 1) := by decide +kernel
theorem dX9_violation_78 : decode cX9_violation 78 = .ok (.istore 5, 2) := by decide +kernel
theorem dX9_violation_80 : decode cX9_violation 80 = .ok (.iload_n 1, 1) := by decide +kernel
theorem dX9_violation_81 : decode cX9_violation 81 = .ok (.iload 5, 2) := by decide +kernel
theorem dX9_violation_83 : decode cX9_violation 83 = .ok (.ifCond .eq 41, 3) := by decide +kernel
theorem dX9_violation_86 : decode cX9_violation 86 = .ok (.iconst 0, 1) := by decide +kernel
theorem dX9_violation_87 : decode cX9_violation 87 = .ok (.aload_n 0, 1) := by decide +kernel
theorem dX9_violation_88 : decode cX9_violation 88 = .ok (.invokevirtual 55, 3) := by decide +kernel
theorem dX9_violation_91 : decode cX9_violation 91 = .ok (.aload_n 0, 1) := by decide +kernel
theorem dX9_violation_92 : decode cX9_violation 92 = .ok (.getfield 7, 3) := by decide +kernel
theorem dX9_violation_95 : decode cX9_violation 95 = .ok (.iload_n 3, 1) := by decide +kernel
theorem dX9_violation_96 : decode cX9_violation 96 = .ok (.iconst 2, 1) := by decide +kernel
theorem dX9_violation_97 : decode cX9_violation 97 = .ok (.iadd, 1) := by decide +kernel
theorem dX9_violation_98 : decode cX9_violation 98 = .ok (.iaload, 1) := by decide +kernel
theorem dX9_violation_99 : decode cX9_violation 99 = .ok (.isub, 1) := by decide +kernel
theorem dX9_violation_100 : decode cX9_violation 100 = .ok (.invokestatic 45, 3) := by decide +kernel
theorem dX9_violation_103 : decode cX9_violation 103 = .ok (.iconst 0, 1) := by decide +kernel
theorem dX9_violation_104 : decode cX9_violation 104 = .ok (.aload_n 0, 1) := by decide +kernel
theorem dX9_violation_105 : decode cX9_violation 105 = .ok (.invokevirtual 129, 3) := by decide +kernel
theorem dX9_violation_108 : decode cX9_violation 108 = .ok (.aload_n 0, 1) := by decide +kernel
theorem dX9_violation_109 : decode cX9_violation 109 = .ok (.getfield 7, 3) := by decide +kernel
theorem dX9_violation_112 : decode cX9_violation 112 = .ok (.iload_n 3, 1) := by decide +kernel
theorem dX9_violation_113 : decode cX9_violation 113 = .ok (.iconst 3, 1) := by decide +kernel
theorem dX9_violation_114 : decode cX9_violation 114 = .ok (.iadd, 1) := by decide +kernel
theorem dX9_violation_115 : decode cX9_violation 115 = .ok (.iaload, 1) := by decide +kernel
theorem dX9_violation_116 : decode cX9_violation 116 = .ok (.isub, 1) := by decide +kernel
theorem dX9_violation_117 : decode cX9_violation 117 = .ok (.invokestatic 45, 3) := by decide +kernel
theorem dX9_violation_120 : decode cX9_violation 120 = .ok (.iadd, 1) := by decide +kernel
theorem dX9_violation_121 : decode cX9_violation 121 = .ok (.goto 4, 3) := by decide +kernel
theorem dX9_violation_124 : decode cX9_violation 124 = .ok (.iconst 0, 1) := by decide +kernel
theorem dX9_violation_125 : decode cX9_violation 125 = .ok (.iadd, 1) := by decide +kernel
theorem dX9_violation_126 : decode cX9_violation 126 = .ok (.istore_n 1, 1) := by decide +kernel
theorem dX9_violation_127 : decode cX9_violation 127 = .ok (.iinc 2 1, 3) := by decide +kernel
theorem dX9_violation_130 : decode cX9_violation 130 = .ok (.goto (-126), 3) := by decide +kernel
theorem dX9_violation_133 : decode cX9_violation 133 = .ok (.iload_n 1, 1) := by decide +kernel
theorem dX9_violation_134 : decode cX9_violation 134 = .ok (.ireturn, 1) := by decide +kernel
set_option maxRecDepth 20000 in
theorem ggX9_setOutrigger_X9_in : GoodIn wsX9_setOutrigger wsX9_in := goodIn_r _ [5] (by decide +kernel) (by decide +kernel)
set_option maxRecDepth 20000 in
theorem gX9_setOutrigger_X9_in : GoodIn wsX9_setOutrigger (va_wsS RX9 132 yX9_in wsX9_in) := goodIn_app (goodIn_of _ (by decide +kernel)) ggX9_setOutrigger_X9_in
set_option maxRecDepth 20000 in
theorem ggX9_setOutrigger_X9_fails : GoodIn wsX9_setOutrigger wsX9_fails := goodIn_r _ [9, 1, 21, 22, 23, 24, 25, 26, 27, 28, 29, 30, 31, 32, 33] (by decide +kernel) (by decide +kernel)
set_option maxRecDepth 20000 in
theorem gX9_setOutrigger_X9_fails : GoodIn wsX9_setOutrigger (wsV RX9 136 RX9 yX9_fails wsX9_fails) := goodIn_app (goodIn_of _ (by decide +kernel)) ggX9_setOutrigger_X9_fails
set_option maxRecDepth 20000 in
theorem ggX9_setOutrigger_X9_change : GoodIn wsX9_setOutrigger wsX9_change := goodIn_r _ [13, 14, 15, 16, 17, 4, 18, 19, 20, 21, 22, 23, 24, 25, 26, 27, 28, 29, 30, 31, 32, 33] (by decide +kernel) (by decide +kernel)
set_option maxRecDepth 20000 in
theorem gX9_setOutrigger_X9_change : GoodIn wsX9_setOutrigger (wsV RX9 139 RX9 yX9_change wsX9_change) := goodIn_app (goodIn_of _ (by decide +kernel)) ggX9_setOutrigger_X9_change
theorem dX9_setOutrigger_0 : decode cX9_setOutrigger 0 = .ok (.aload_n 0, 1) := by decide +kernel
theorem dX9_setOutrigger_1 : decode cX9_setOutrigger 1 = .ok (.iconst 0, 1) := by decide +kernel
theorem dX9_setOutrigger_2 : decode cX9_setOutrigger 2 = .ok (.putfield 28, 3) := by decide +kernel
theorem dX9_setOutrigger_5 : decode cX9_setOutrigger 5 = .ok (.iload_n 1, 1) := by decide +kernel
theorem dX9_setOutrigger_6 : decode cX9_setOutrigger 6 = .ok (.iconst 0, 1) := by decide +kernel
theorem dX9_setOutrigger_7 : decode cX9_setOutrigger 7 = .ok (.iconst 3, 1) := by decide +kernel
theorem dX9_setOutrigger_8 : decode cX9_setOutrigger 8 = .ok (.invokestatic 132, 3) := by decide +kernel
theorem dX9_setOutrigger_11 : decode cX9_setOutrigger 11 = .ok (.ifCond .ne 9, 3) := by decide +kernel
theorem dX9_setOutrigger_14 : decode cX9_setOutrigger 14 = .ok (.aload_n 0, 1) := by decide +kernel
theorem dX9_setOutrigger_15 : decode cX9_setOutrigger 15 = .ok (.iconst 1, 1) := by decide +kernel
theorem dX9_setOutrigger_16 : decode cX9_setOutrigger 16 = .ok (.invokevirtual 136, 3) := by decide +kernel
theorem dX9_setOutrigger_19 : decode cX9_setOutrigger 19 = .ok (.ireturn, 1) := by decide +kernel
theorem dX9_setOutrigger_20 : decode cX9_setOutrigger 20 = .ok (.iload_n 2, 1) := by decide +kernel
theorem dX9_setOutrigger_21 : decode cX9_setOutrigger 21 = .ok (.iconst 0, 1) := by decide +kernel
theorem dX9_setOutrigger_22 : decode cX9_setOutrigger 22 = .ok (.iconst 2, 1) := by decide +kernel
theorem dX9_setOutrigger_23 : decode cX9_setOutrigger 23 = .ok (.invokestatic 132, 3) := by decide +kernel
theorem dX9_setOutrigger_26 : decode cX9_setOutrigger 26 = .ok (.ifCond .eq 15, 3) := by decide +kernel
theorem dX9_setOutrigger_29 : decode cX9_setOutrigger 29 = .ok (.aload_n 0, 1) := by decide +kernel
theorem dX9_setOutrigger_30 : decode cX9_setOutrigger 30 = .ok (.bipush 43, 2) := by decide +kernel
theorem dX9_setOutrigger_32 : decode cX9_setOutrigger 32 = .ok (.iload_n 1, 1) := by decide +kernel
theorem dX9_setOutrigger_33 : decode cX9_setOutrigger 33 = .ok (.iadd, 1) := by decide +kernel
theorem dX9_setOutrigger_34 : decode cX9_setOutrigger 34 = .ok (.iload_n 2, 1) := by decide +kernel
theorem dX9_setOutrigger_35 : decode cX9_setOutrigger 35 = .ok (.invokevirtual 139, 3) := by decide +kernel
theorem dX9_setOutrigger_38 : decode cX9_setOutrigger 38 = .ok (.goto 8, 3) := by decide +kernel
theorem dX9_setOutrigger_41 : decode cX9_setOutrigger 41 = .ok (.aload_n 0, 1) := by decide +kernel
theorem dX9_setOutrigger_42 : decode cX9_setOutrigger 42 = .ok (.iconst 2, 1) := by decide +kernel
theorem dX9_setOutrigger_43 : decode cX9_setOutrigger 43 = .ok (.invokevirtual 136, 3) := by decide +kernel
theorem dX9_setOutrigger_46 : decode cX9_setOutrigger 46 = .ok (.ireturn, 1) := by decide +kernel
set_option maxRecDepth 20000 in
theorem ggX9_setOnWheels_X9_change : GoodIn wsX9_setOnWheels wsX9_change := goodIn_r _ [6, 7, 8, 9, 10, 5, 11, 12, 13, 14, 15, 16, 17, 18, 19, 20, 21, 22, 23, 24, 25, 26] (by decide +kernel) (by decide +kernel)
set_option maxRecDepth 20000 in
theorem gX9_setOnWheels_X9_change : GoodIn wsX9_setOnWheels (wsV RX9 139 RX9 yX9_change wsX9_change) := goodIn_app (goodIn_of _ (by decide +kernel)) ggX9_setOnWheels_X9_change
theorem dX9_setOnWheels_0 : decode cX9_setOnWheels 0 = .ok (.aload_n 0, 1) := by decide +kernel
theorem dX9_setOnWheels_1 : decode cX9_setOnWheels 1 = .ok (.iconst 0, 1) := by decide +kernel
theorem dX9_setOnWheels_2 : decode cX9_setOnWheels 2 = .ok (.putfield 28, 3) := by decide +kernel
theorem dX9_setOnWheels_5 : decode cX9_setOnWheels 5 = .ok (.aload_n 0, 1) := by decide +kernel
theorem dX9_setOnWheels_6 : decode cX9_setOnWheels 6 = .ok (.bipush 10, 2) := by decide +kernel
theorem dX9_setOnWheels_8 : decode cX9_setOnWheels 8 = .ok (.iload_n 1, 1) := by decide +kernel
theorem dX9_setOnWheels_9 : decode cX9_setOnWheels 9 = .ok (.ifCond .eq 7, 3) := by decide +kernel
theorem dX9_setOnWheels_12 : decode cX9_setOnWheels 12 = .ok (.iconst 1, 1) := by decide +kernel
theorem dX9_setOnWheels_13 : decode cX9_setOnWheels 13 = .ok (.goto 4, 3) := by decide +kernel
theorem dX9_setOnWheels_16 : decode cX9_setOnWheels 16 = .ok (.iconst 0, 1) := by decide +kernel
theorem dX9_setOnWheels_17 : decode cX9_setOnWheels 17 = .ok (.invokevirtual 139, 3) := by decide +kernel
theorem dX9_setOnWheels_20 : decode cX9_setOnWheels 20 = .ok (.iconst 1, 1) := by decide +kernel
theorem dX9_setOnWheels_21 : decode cX9_setOnWheels 21 = .ok (.if_icmp .ne 7, 3) := by decide +kernel
theorem dX9_setOnWheels_24 : decode cX9_setOnWheels 24 = .ok (.iconst 1, 1) := by decide +kernel
theorem dX9_setOnWheels_25 : decode cX9_setOnWheels 25 = .ok (.goto 4, 3) := by decide +kernel
theorem dX9_setOnWheels_28 : decode cX9_setOnWheels 28 = .ok (.iconst 0, 1) := by decide +kernel
theorem dX9_setOnWheels_29 : decode cX9_setOnWheels 29 = .ok (.ireturn, 1) := by decide +kernel
set_option maxRecDepth 20000 in
theorem ggX9_isPlace_X9_in : GoodIn wsX9_isPlace wsX9_in := goodIn_r _ [4] (by decide +kernel) (by decide +kernel)
set_option maxRecDepth 20000 in
theorem gX9_isPlace_X9_in : GoodIn wsX9_isPlace (va_wsS RX9 132 yX9_in wsX9_in) := goodIn_app (goodIn_of _ (by decide +kernel)) ggX9_isPlace_X9_in
theorem dX9_isPlace_0 : decode cX9_isPlace 0 = .ok (.iload_n 0, 1) := by decide +kernel
theorem dX9_isPlace_1 : decode cX9_isPlace 1 = .ok (.iconst 0, 1) := by decide +kernel
theorem dX9_isPlace_2 : decode cX9_isPlace 2 = .ok (.iconst 3, 1) := by decide +kernel
theorem dX9_isPlace_3 : decode cX9_isPlace 3 = .ok (.invokestatic 132, 3) := by decide +kernel
theorem dX9_isPlace_6 : decode cX9_isPlace 6 = .ok (.ifCond .eq 25, 3) := by decide +kernel
theorem dX9_isPlace_9 : decode cX9_isPlace 9 = .ok (.iload_n 1, 1) := by decide +kernel
theorem dX9_isPlace_10 : decode cX9_isPlace 10 = .ok (.iconst 0, 1) := by decide +kernel
theorem dX9_isPlace_11 : decode cX9_isPlace 11 = .ok (.iconst 3, 1) := by decide +kernel
theorem dX9_isPlace_12 : decode cX9_isPlace 12 = .ok (.invokestatic 132, 3) := by decide +kernel
theorem dX9_isPlace_15 : decode cX9_isPlace 15 = .ok (.ifCond .eq 16, 3) := by decide +kernel
theorem dX9_isPlace_18 : decode cX9_isPlace 18 = .ok (.iload_n 2, 1) := by decide +kernel
theorem dX9_isPlace_19 : decode cX9_isPlace 19 = .ok (.iconst 0, 1) := by decide +kernel
theorem dX9_isPlace_20 : decode cX9_isPlace 20 = .ok (.iconst 5, 1) := by decide +kernel
theorem dX9_isPlace_21 : decode cX9_isPlace 21 = .ok (.invokestatic 132, 3) := by decide +kernel
theorem dX9_isPlace_24 : decode cX9_isPlace 24 = .ok (.ifCond .eq 7, 3) := by decide +kernel
theorem dX9_isPlace_27 : decode cX9_isPlace 27 = .ok (.iconst 1, 1) := by decide +kernel
theorem dX9_isPlace_28 : decode cX9_isPlace 28 = .ok (.goto 4, 3) := by decide +kernel
theorem dX9_isPlace_31 : decode cX9_isPlace 31 = .ok (.iconst 0, 1) := by decide +kernel
theorem dX9_isPlace_32 : decode cX9_isPlace 32 = .ok (.ireturn, 1) := by decide +kernel
set_option maxRecDepth 20000 in
theorem ggX9_setCapacity_X9_isPlace : GoodIn wsX9_setCapacity wsX9_isPlace := goodIn_r _ [6, 7, 8, 5, 9] (by decide +kernel) (by decide +kernel)
set_option maxRecDepth 20000 in
theorem gX9_setCapacity_X9_isPlace : GoodIn wsX9_setCapacity (va_wsS RX9 142 yX9_isPlace wsX9_isPlace) := goodIn_app (goodIn_of _ (by decide +kernel)) ggX9_setCapacity_X9_isPlace
set_option maxRecDepth 20000 in
theorem ggX9_setCapacity_X9_fails : GoodIn wsX9_setCapacity wsX9_fails := goodIn_r _ [13, 1, 25, 26, 27, 28, 29, 30, 31, 32, 33, 34, 35, 36, 37] (by decide +kernel) (by decide +kernel)
set_option maxRecDepth 20000 in
theorem gX9_setCapacity_X9_fails : GoodIn wsX9_setCapacity (wsV RX9 136 RX9 yX9_fails wsX9_fails) := goodIn_app (goodIn_of _ (by decide +kernel)) ggX9_setCapacity_X9_fails
set_option maxRecDepth 20000 in
theorem ggX9_setCapacity_X9_in : GoodIn wsX9_setCapacity wsX9_in := goodIn_r _ [9] (by decide +kernel) (by decide +kernel)
set_option maxRecDepth 20000 in
theorem gX9_setCapacity_X9_in : GoodIn wsX9_setCapacity (va_wsS RX9 132 yX9_in wsX9_in) := goodIn_app (goodIn_of _ (by decide +kernel)) ggX9_setCapacity_X9_in
set_option maxRecDepth 20000 in
theorem ggX9_setCapacity_X9_change : GoodIn wsX9_setCapacity wsX9_change := goodIn_r _ [17, 18, 19, 20, 21, 5, 22, 23, 24, 25, 26, 27, 28, 29, 30, 31, 32, 33, 34, 35, 36, 37] (by decide +kernel) (by decide +kernel)
set_option maxRecDepth 20000 in
theorem gX9_setCapacity_X9_change : GoodIn wsX9_setCapacity (wsV RX9 139 RX9 yX9_change wsX9_change) := goodIn_app (goodIn_of _ (by decide +kernel)) ggX9_setCapacity_X9_change
theorem dX9_setCapacity_0 : decode cX9_setCapacity 0 = .ok (.aload_n 0, 1) := by decide +kernel
theorem dX9_setCapacity_1 : decode cX9_setCapacity 1 = .ok (.iconst 0, 1) := by decide +kernel
theorem dX9_setCapacity_2 : decode cX9_setCapacity 2 = .ok (.putfield 28, 3) := by decide +kernel
theorem dX9_setCapacity_5 : decode cX9_setCapacity 5 = .ok (.iload_n 1, 1) := by decide +kernel
theorem dX9_setCapacity_6 : decode cX9_setCapacity 6 = .ok (.iload_n 2, 1) := by decide +kernel
theorem dX9_setCapacity_7 : decode cX9_setCapacity 7 = .ok (.iload_n 3, 1) := by decide +kernel
theorem dX9_setCapacity_8 : decode cX9_setCapacity 8 = .ok (.invokestatic 142, 3) := by decide +kernel
theorem dX9_setCapacity_11 : decode cX9_setCapacity 11 = .ok (.ifCond .ne 9, 3) := by decide +kernel
theorem dX9_setCapacity_14 : decode cX9_setCapacity 14 = .ok (.aload_n 0, 1) := by decide +kernel
theorem dX9_setCapacity_15 : decode cX9_setCapacity 15 = .ok (.iconst 1, 1) := by decide +kernel
theorem dX9_setCapacity_16 : decode cX9_setCapacity 16 = .ok (.invokevirtual 136, 3) := by decide +kernel
theorem dX9_setCapacity_19 : decode cX9_setCapacity 19 = .ok (.ireturn, 1) := by decide +kernel
theorem dX9_setCapacity_20 : decode cX9_setCapacity 20 = .ok (.iload 4, 2) := by decide +kernel
theorem dX9_setCapacity_22 : decode cX9_setCapacity 22 = .ok (.iconst 0, 1) := by decide +kernel
theorem dX9_setCapacity_23 : decode cX9_setCapacity 23 = .ok (.ldc 145, 2) := by decide +kernel
theorem dX9_setCapacity_25 : decode cX9_setCapacity 25 = .ok (.invokestatic 132, 3) := by decide +kernel
theorem dX9_setCapacity_28 : decode cX9_setCapacity 28 = .ok (.ifCond .eq 26, 3) := by decide +kernel
theorem dX9_setCapacity_31 : decode cX9_setCapacity 31 = .ok (.aload_n 0, 1) := by decide +kernel
theorem dX9_setCapacity_32 : decode cX9_setCapacity 32 = .ok (.bipush 47, 2) := by decide +kernel
theorem dX9_setCapacity_34 : decode cX9_setCapacity 34 = .ok (.bipush 24, 2) := by decide +kernel
theorem dX9_setCapacity_36 : decode cX9_setCapacity 36 = .ok (.iload_n 1, 1) := by decide +kernel
theorem dX9_setCapacity_37 : decode cX9_setCapacity 37 = .ok (.imul, 1) := by decide +kernel
theorem dX9_setCapacity_38 : decode cX9_setCapacity 38 = .ok (.iadd, 1) := by decide +kernel
theorem dX9_setCapacity_39 : decode cX9_setCapacity 39 = .ok (.bipush 6, 2) := by decide +kernel
theorem dX9_setCapacity_41 : decode cX9_setCapacity 41 = .ok (.iload_n 2, 1) := by decide +kernel
theorem dX9_setCapacity_42 : decode cX9_setCapacity 42 = .ok (.imul, 1) := by decide +kernel
theorem dX9_setCapacity_43 : decode cX9_setCapacity 43 = .ok (.iadd, 1) := by decide +kernel
theorem dX9_setCapacity_44 : decode cX9_setCapacity 44 = .ok (.iload_n 3, 1) := by decide +kernel
theorem dX9_setCapacity_45 : decode cX9_setCapacity 45 = .ok (.iadd, 1) := by decide +kernel
theorem dX9_setCapacity_46 : decode cX9_setCapacity 46 = .ok (.iload 4, 2) := by decide +kernel
theorem dX9_setCapacity_48 : decode cX9_setCapacity 48 = .ok (.invokevirtual 139, 3) := by decide +kernel
theorem dX9_setCapacity_51 : decode cX9_setCapacity 51 = .ok (.goto 8, 3) := by decide +kernel
theorem dX9_setCapacity_54 : decode cX9_setCapacity 54 = .ok (.aload_n 0, 1) := by decide +kernel
theorem dX9_setCapacity_55 : decode cX9_setCapacity 55 = .ok (.iconst 2, 1) := by decide +kernel
theorem dX9_setCapacity_56 : decode cX9_setCapacity 56 = .ok (.invokevirtual 136, 3) := by decide +kernel
theorem dX9_setCapacity_59 : decode cX9_setCapacity 59 = .ok (.ireturn, 1) := by decide +kernel
theorem dX9_sumOf_0 : decode cX9_sumOf 0 = .ok (.iconst 0, 1) := by decide +kernel
theorem dX9_sumOf_1 : decode cX9_sumOf 1 = .ok (.istore_n 2, 1) := by decide +kernel
theorem dX9_sumOf_2 : decode cX9_sumOf 2 = .ok (.iconst 0, 1) := by decide +kernel
theorem dX9_sumOf_3 : decode cX9_sumOf 3 = .ok (.istore_n 3, 1) := by decide +kernel
theorem dX9_sumOf_4 : decode cX9_sumOf 4 = .ok (.iload_n 3, 1) := by decide +kernel
theorem dX9_sumOf_5 : decode cX9_sumOf 5 = .ok (.bipush 24, 2) := by decide +kernel
theorem dX9_sumOf_7 : decode cX9_sumOf 7 = .ok (.if_icmp .ge 26, 3) := by decide +kernel
theorem dX9_sumOf_10 : decode cX9_sumOf 10 = .ok (.iload_n 2, 1) := by decide +kernel
theorem dX9_sumOf_11 : decode cX9_sumOf 11 = .ok (.aload_n 0, 1) := by decide +kernel
theorem dX9_sumOf_12 : decode cX9_sumOf 12 = .ok (.getfield 7, 3) := by decide +kernel
theorem dX9_sumOf_15 : decode cX9_sumOf 15 = .ok (.bipush 47, 2) := by decide +kernel
theorem dX9_sumOf_17 : decode cX9_sumOf 17 = .ok (.bipush 24, 2) := by decide +kernel
theorem dX9_sumOf_19 : decode cX9_sumOf 19 = .ok (.iload_n 1, 1) := by decide +kernel
theorem dX9_sumOf_20 : decode cX9_sumOf 20 = .ok (.imul, 1) := by decide +kernel
theorem dX9_sumOf_21 : decode cX9_sumOf 21 = .ok (.iadd, 1) := by decide +kernel
theorem dX9_sumOf_22 : decode cX9_sumOf 22 = .ok (.iload_n 3, 1) := by decide +kernel
theorem dX9_sumOf_23 : decode cX9_sumOf 23 = .ok (.iadd, 1) := by decide +kernel
theorem dX9_sumOf_24 : decode cX9_sumOf 24 = .ok (.iaload, 1) := by decide +kernel
theorem dX9_sumOf_25 : decode cX9_sumOf 25 = .ok (.iadd, 1) := by decide +kernel
theorem dX9_sumOf_26 : decode cX9_sumOf 26 = .ok (.istore_n 2, 1) := by decide +kernel
theorem dX9_sumOf_27 : decode cX9_sumOf 27 = .ok (.iinc 3 1, 3) := by decide +kernel
theorem dX9_sumOf_30 : decode cX9_sumOf 30 = .ok (.goto (-26), 3) := by decide +kernel
theorem dX9_sumOf_33 : decode cX9_sumOf 33 = .ok (.iload_n 2, 1) := by decide +kernel
theorem dX9_sumOf_34 : decode cX9_sumOf 34 = .ok (.ireturn, 1) := by decide +kernel
set_option maxRecDepth 20000 in
theorem ggX9_fillTable_X9_in : GoodIn wsX9_fillTable wsX9_in := goodIn_r _ [8] (by decide +kernel) (by decide +kernel)
set_option maxRecDepth 20000 in
theorem gX9_fillTable_X9_in : GoodIn wsX9_fillTable (va_wsS RX9 132 yX9_in wsX9_in) := goodIn_app (goodIn_of _ (by decide +kernel)) ggX9_fillTable_X9_in
set_option maxRecDepth 20000 in
theorem ggX9_fillTable_X9_fails : GoodIn wsX9_fillTable wsX9_fails := goodIn_r _ [12, 1, 29, 30, 31, 32, 33, 34, 35, 36, 37, 38, 39, 40, 41] (by decide +kernel) (by decide +kernel)
set_option maxRecDepth 20000 in
theorem gX9_fillTable_X9_fails : GoodIn wsX9_fillTable (wsV RX9 136 RX9 yX9_fails wsX9_fails) := goodIn_app (goodIn_of _ (by decide +kernel)) ggX9_fillTable_X9_fails
set_option maxRecDepth 20000 in
theorem ggX9_fillTable_X9_keep : GoodIn wsX9_fillTable wsX9_keep := goodIn_r _ [16, 17, 18, 4, 29, 30, 31, 32, 33, 34, 35, 36, 37, 38, 39, 40, 41] (by decide +kernel) (by decide +kernel)
set_option maxRecDepth 20000 in
theorem gX9_fillTable_X9_keep : GoodIn wsX9_fillTable (wsV RX9 35 RX9 yX9_keep wsX9_keep) := goodIn_app (goodIn_of _ (by decide +kernel)) ggX9_fillTable_X9_keep
set_option maxRecDepth 20000 in
theorem ggX9_fillTable_X9_columnRadius : GoodIn wsX9_fillTable wsX9_columnRadius := goodIn_r _ [21] (by decide +kernel) (by decide +kernel)
set_option maxRecDepth 20000 in
theorem gX9_fillTable_X9_columnRadius : GoodIn wsX9_fillTable (va_wsS RX9 87 yX9_columnRadius wsX9_columnRadius) := goodIn_app (goodIn_of _ (by decide +kernel)) ggX9_fillTable_X9_columnRadius
set_option maxRecDepth 20000 in
theorem ggX9_fillTable_X9_lesser : GoodIn wsX9_fillTable wsX9_lesser := goodIn_r _ [24] (by decide +kernel) (by decide +kernel)
set_option maxRecDepth 20000 in
theorem gX9_fillTable_X9_lesser : GoodIn wsX9_fillTable (va_wsS RX9 94 yX9_lesser wsX9_lesser) := goodIn_app (goodIn_of _ (by decide +kernel)) ggX9_fillTable_X9_lesser
set_option maxRecDepth 20000 in
theorem ggX9_fillTable_X9_sumOf : GoodIn wsX9_fillTable wsX9_sumOf := goodIn_r _ [28, 4, 29, 30, 31, 32, 33, 34, 35, 36, 37, 38, 39, 40, 41] (by decide +kernel) (by decide +kernel)
set_option maxRecDepth 20000 in
theorem gX9_fillTable_X9_sumOf : GoodIn wsX9_fillTable (wsV RX9 147 RX9 yX9_sumOf wsX9_sumOf) := goodIn_app (goodIn_of _ (by decide +kernel)) ggX9_fillTable_X9_sumOf
theorem dX9_fillTable_0 : decode cX9_fillTable 0 = .ok (.aload_n 0, 1) := by decide +kernel
theorem dX9_fillTable_1 : decode cX9_fillTable 1 = .ok (.iconst 0, 1) := by decide +kernel
theorem dX9_fillTable_2 : decode cX9_fillTable 2 = .ok (.putfield 28, 3) := by decide +kernel
theorem dX9_fillTable_5 : decode cX9_fillTable 5 = .ok (.iload_n 1, 1) := by decide +kernel
theorem dX9_fillTable_6 : decode cX9_fillTable 6 = .ok (.iconst 0, 1) := by decide +kernel
theorem dX9_fillTable_7 : decode cX9_fillTable 7 = .ok (.iconst 3, 1) := by decide +kernel
theorem dX9_fillTable_8 : decode cX9_fillTable 8 = .ok (.invokestatic 132, 3) := by decide +kernel
theorem dX9_fillTable_11 : decode cX9_fillTable 11 = .ok (.ifCond .ne 9, 3) := by decide +kernel
theorem dX9_fillTable_14 : decode cX9_fillTable 14 = .ok (.aload_n 0, 1) := by decide +kernel
theorem dX9_fillTable_15 : decode cX9_fillTable 15 = .ok (.iconst 1, 1) := by decide +kernel
theorem dX9_fillTable_16 : decode cX9_fillTable 16 = .ok (.invokevirtual 136, 3) := by decide +kernel
theorem dX9_fillTable_19 : decode cX9_fillTable 19 = .ok (.ireturn, 1) := by decide +kernel
theorem dX9_fillTable_20 : decode cX9_fillTable 20 = .ok (.iload_n 2, 1) := by decide +kernel
theorem dX9_fillTable_21 : decode cX9_fillTable 21 = .ok (.iconst 0, 1) := by decide +kernel
theorem dX9_fillTable_22 : decode cX9_fillTable 22 = .ok (.ldc 146, 2) := by decide +kernel
theorem dX9_fillTable_24 : decode cX9_fillTable 24 = .ok (.invokestatic 132, 3) := by decide +kernel
theorem dX9_fillTable_27 : decode cX9_fillTable 27 = .ok (.ifCond .ne 9, 3) := by decide +kernel
theorem dX9_fillTable_30 : decode cX9_fillTable 30 = .ok (.aload_n 0, 1) := by decide +kernel
theorem dX9_fillTable_31 : decode cX9_fillTable 31 = .ok (.iconst 2, 1) := by decide +kernel
theorem dX9_fillTable_32 : decode cX9_fillTable 32 = .ok (.invokevirtual 136, 3) := by decide +kernel
theorem dX9_fillTable_35 : decode cX9_fillTable 35 = .ok (.ireturn, 1) := by decide +kernel
theorem dX9_fillTable_36 : decode cX9_fillTable 36 = .ok (.aload_n 0, 1) := by decide +kernel
theorem dX9_fillTable_37 : decode cX9_fillTable 37 = .ok (.invokevirtual 35, 3) := by decide +kernel
theorem dX9_fillTable_40 : decode cX9_fillTable 40 = .ok (.iconst 0, 1) := by decide +kernel
theorem dX9_fillTable_41 : decode cX9_fillTable 41 = .ok (.istore_n 3, 1) := by decide +kernel
theorem dX9_fillTable_42 : decode cX9_fillTable 42 = .ok (.iload_n 3, 1) := by decide +kernel
theorem dX9_fillTable_43 : decode cX9_fillTable 43 = .ok (.bipush 24, 2) := by decide +kernel
theorem dX9_fillTable_45 : decode cX9_fillTable 45 = .ok (.if_icmp .ge 56, 3) := by decide +kernel
theorem dX9_fillTable_48 : decode cX9_fillTable 48 = .ok (.ldc 145, 2) := by decide +kernel
theorem dX9_fillTable_50 : decode cX9_fillTable 50 = .ok (.sipush 1000, 3) := by decide +kernel
theorem dX9_fillTable_53 : decode cX9_fillTable 53 = .ok (.iload_n 2, 1) := by decide +kernel
theorem dX9_fillTable_54 : decode cX9_fillTable 54 = .ok (.imul, 1) := by decide +kernel
theorem dX9_fillTable_55 : decode cX9_fillTable 55 = .ok (.iload_n 3, 1) := by decide +kernel
theorem dX9_fillTable_56 : decode cX9_fillTable 56 = .ok (.bipush 6, 2) := by decide +kernel
theorem dX9_fillTable_58 : decode cX9_fillTable 58 = .ok (.irem, 1) := by decide +kernel
theorem dX9_fillTable_59 : decode cX9_fillTable 59 = .ok (.invokestatic 87, 3) := by decide +kernel
theorem dX9_fillTable_62 : decode cX9_fillTable 62 = .ok (.idiv, 1) := by decide +kernel
theorem dX9_fillTable_63 : decode cX9_fillTable 63 = .ok (.invokestatic 94, 3) := by decide +kernel
theorem dX9_fillTable_66 : decode cX9_fillTable 66 = .ok (.istore 4, 2) := by decide +kernel
theorem dX9_fillTable_68 : decode cX9_fillTable 68 = .ok (.aload_n 0, 1) := by decide +kernel
theorem dX9_fillTable_69 : decode cX9_fillTable 69 = .ok (.getfield 7, 3) := by decide +kernel
theorem dX9_fillTable_72 : decode cX9_fillTable 72 = .ok (.bipush 47, 2) := by decide +kernel
theorem dX9_fillTable_74 : decode cX9_fillTable 74 = .ok (.bipush 24, 2) := by decide +kernel
theorem dX9_fillTable_76 : decode cX9_fillTable 76 = .ok (.iload_n 1, 1) := by decide +kernel
theorem dX9_fillTable_77 : decode cX9_fillTable 77 = .ok (.imul, 1) := by decide +kernel
theorem dX9_fillTable_78 : decode cX9_fillTable 78 = .ok (.iadd, 1) := by decide +kernel
theorem dX9_fillTable_79 : decode cX9_fillTable 79 = .ok (.iload_n 3, 1) := by decide +kernel
theorem dX9_fillTable_80 : decode cX9_fillTable 80 = .ok (.iadd, 1) := by decide +kernel
theorem dX9_fillTable_81 : decode cX9_fillTable 81 = .ok (.iload 4, 2) := by decide +kernel
theorem dX9_fillTable_83 : decode cX9_fillTable 83 = .ok (.bipush 10, 2) := by decide +kernel
theorem dX9_fillTable_85 : decode cX9_fillTable 85 = .ok (.iload_n 3, 1) := by decide +kernel
theorem dX9_fillTable_86 : decode cX9_fillTable 86 = .ok (.bipush 6, 2) := by decide +kernel
theorem dX9_fillTable_88 : decode cX9_fillTable 88 = .ok (.idiv, 1) := by decide +kernel
theorem dX9_fillTable_89 : decode cX9_fillTable 89 = .ok (.isub, 1) := by decide +kernel
theorem dX9_fillTable_90 : decode cX9_fillTable 90 = .ok (.imul, 1) := by decide +kernel
theorem dX9_fillTable_91 : decode cX9_fillTable 91 = .ok (.bipush 10, 2) := by decide +kernel
theorem dX9_fillTable_93 : decode cX9_fillTable 93 = .ok (.idiv, 1) := by decide +kernel
theorem dX9_fillTable_94 : decode cX9_fillTable 94 = .ok (.iastore, 1) := by decide +kernel
theorem dX9_fillTable_95 : decode cX9_fillTable 95 = .ok (.iinc 3 1, 3) := by decide +kernel
theorem dX9_fillTable_98 : decode cX9_fillTable 98 = .ok (.goto (-56), 3) := by decide +kernel
theorem dX9_fillTable_101 : decode cX9_fillTable 101 = .ok (.aload_n 0, 1) := by decide +kernel
theorem dX9_fillTable_102 : decode cX9_fillTable 102 = .ok (.iload_n 1, 1) := by decide +kernel
theorem dX9_fillTable_103 : decode cX9_fillTable 103 = .ok (.invokevirtual 147, 3) := by decide +kernel
theorem dX9_fillTable_106 : decode cX9_fillTable 106 = .ok (.ireturn, 1) := by decide +kernel
set_option maxRecDepth 20000 in
theorem ggX9_capacity_X9_isPlace : GoodIn wsX9_capacity wsX9_isPlace := goodIn_r _ [5, 6, 7, 4, 8] (by decide +kernel) (by decide +kernel)
set_option maxRecDepth 20000 in
theorem gX9_capacity_X9_isPlace : GoodIn wsX9_capacity (va_wsS RX9 142 yX9_isPlace wsX9_isPlace) := goodIn_app (goodIn_of _ (by decide +kernel)) ggX9_capacity_X9_isPlace
set_option maxRecDepth 20000 in
theorem ggX9_capacity_X9_valueAt : GoodIn wsX9_capacity wsX9_valueAt := goodIn_r _ [12, 13, 18, 19, 20, 21, 22, 23, 24, 25, 26, 27, 28, 29, 30] (by decide +kernel) (by decide +kernel)
set_option maxRecDepth 20000 in
theorem gX9_capacity_X9_valueAt : GoodIn wsX9_capacity (wsV RX9 90 RX9 yX9_valueAt wsX9_valueAt) := goodIn_app (goodIn_of _ (by decide +kernel)) ggX9_capacity_X9_valueAt
set_option maxRecDepth 20000 in
theorem ggX9_capacity_X9_fails : GoodIn wsX9_capacity wsX9_fails := goodIn_r _ [17, 1, 18, 19, 20, 21, 22, 23, 24, 25, 26, 27, 28, 29, 30] (by decide +kernel) (by decide +kernel)
set_option maxRecDepth 20000 in
theorem gX9_capacity_X9_fails : GoodIn wsX9_capacity (wsV RX9 136 RX9 yX9_fails wsX9_fails) := goodIn_app (goodIn_of _ (by decide +kernel)) ggX9_capacity_X9_fails
theorem dX9_capacity_0 : decode cX9_capacity 0 = .ok (.aload_n 0, 1) := by decide +kernel
theorem dX9_capacity_1 : decode cX9_capacity 1 = .ok (.iconst 0, 1) := by decide +kernel
theorem dX9_capacity_2 : decode cX9_capacity 2 = .ok (.putfield 28, 3) := by decide +kernel
theorem dX9_capacity_5 : decode cX9_capacity 5 = .ok (.iload_n 1, 1) := by decide +kernel
theorem dX9_capacity_6 : decode cX9_capacity 6 = .ok (.iload_n 2, 1) := by decide +kernel
theorem dX9_capacity_7 : decode cX9_capacity 7 = .ok (.iload_n 3, 1) := by decide +kernel
theorem dX9_capacity_8 : decode cX9_capacity 8 = .ok (.invokestatic 142, 3) := by decide +kernel
theorem dX9_capacity_11 : decode cX9_capacity 11 = .ok (.ifCond .eq 14, 3) := by decide +kernel
theorem dX9_capacity_14 : decode cX9_capacity 14 = .ok (.aload_n 0, 1) := by decide +kernel
theorem dX9_capacity_15 : decode cX9_capacity 15 = .ok (.iload_n 1, 1) := by decide +kernel
theorem dX9_capacity_16 : decode cX9_capacity 16 = .ok (.iload_n 2, 1) := by decide +kernel
theorem dX9_capacity_17 : decode cX9_capacity 17 = .ok (.iload_n 3, 1) := by decide +kernel
theorem dX9_capacity_18 : decode cX9_capacity 18 = .ok (.invokevirtual 90, 3) := by decide +kernel
theorem dX9_capacity_21 : decode cX9_capacity 21 = .ok (.l2i, 1) := by decide +kernel
theorem dX9_capacity_22 : decode cX9_capacity 22 = .ok (.goto 8, 3) := by decide +kernel
theorem dX9_capacity_25 : decode cX9_capacity 25 = .ok (.aload_n 0, 1) := by decide +kernel
theorem dX9_capacity_26 : decode cX9_capacity 26 = .ok (.iconst 1, 1) := by decide +kernel
theorem dX9_capacity_27 : decode cX9_capacity 27 = .ok (.invokevirtual 136, 3) := by decide +kernel
theorem dX9_capacity_30 : decode cX9_capacity 30 = .ok (.ireturn, 1) := by decide +kernel
set_option maxRecDepth 20000 in
theorem ggX9_addZone_X9_in : GoodIn wsX9_addZone wsX9_in := goodIn_r _ [6] (by decide +kernel) (by decide +kernel)
set_option maxRecDepth 20000 in
theorem gX9_addZone_X9_in : GoodIn wsX9_addZone (va_wsS RX9 132 yX9_in wsX9_in) := goodIn_app (goodIn_of _ (by decide +kernel)) ggX9_addZone_X9_in
set_option maxRecDepth 20000 in
theorem ggX9_addZone_X9_fails : GoodIn wsX9_addZone wsX9_fails := goodIn_r _ [10, 1, 17, 18, 19, 20, 21, 22, 23, 24, 25, 26, 27, 28, 29] (by decide +kernel) (by decide +kernel)
set_option maxRecDepth 20000 in
theorem gX9_addZone_X9_fails : GoodIn wsX9_addZone (wsV RX9 136 RX9 yX9_fails wsX9_fails) := goodIn_app (goodIn_of _ (by decide +kernel)) ggX9_addZone_X9_fails
set_option maxRecDepth 20000 in
theorem ggX9_addZone_X9_keep : GoodIn wsX9_addZone wsX9_keep := goodIn_r _ [14, 15, 16, 2, 17, 18, 19, 20, 21, 22, 23, 24, 25, 26, 27, 28, 29] (by decide +kernel) (by decide +kernel)
set_option maxRecDepth 20000 in
theorem gX9_addZone_X9_keep : GoodIn wsX9_addZone (wsV RX9 35 RX9 yX9_keep wsX9_keep) := goodIn_app (goodIn_of _ (by decide +kernel)) ggX9_addZone_X9_keep
theorem dX9_addZone_0 : decode cX9_addZone 0 = .ok (.aload_n 0, 1) := by decide +kernel
theorem dX9_addZone_1 : decode cX9_addZone 1 = .ok (.iconst 0, 1) := by decide +kernel
theorem dX9_addZone_2 : decode cX9_addZone 2 = .ok (.putfield 28, 3) := by decide +kernel
theorem dX9_addZone_5 : decode cX9_addZone 5 = .ok (.iload_n 1, 1) := by decide +kernel
theorem dX9_addZone_6 : decode cX9_addZone 6 = .ok (.iconst 0, 1) := by decide +kernel
theorem dX9_addZone_7 : decode cX9_addZone 7 = .ok (.sipush 3599, 3) := by decide +kernel
theorem dX9_addZone_10 : decode cX9_addZone 10 = .ok (.invokestatic 132, 3) := by decide +kernel
theorem dX9_addZone_13 : decode cX9_addZone 13 = .ok (.ifCond .eq 37, 3) := by decide +kernel
theorem dX9_addZone_16 : decode cX9_addZone 16 = .ok (.iload_n 2, 1) := by decide +kernel
theorem dX9_addZone_17 : decode cX9_addZone 17 = .ok (.iconst 0, 1) := by decide +kernel
theorem dX9_addZone_18 : decode cX9_addZone 18 = .ok (.sipush 3599, 3) := by decide +kernel
theorem dX9_addZone_21 : decode cX9_addZone 21 = .ok (.invokestatic 132, 3) := by decide +kernel
theorem dX9_addZone_24 : decode cX9_addZone 24 = .ok (.ifCond .eq 26, 3) := by decide +kernel
theorem dX9_addZone_27 : decode cX9_addZone 27 = .ok (.iload_n 3, 1) := by decide +kernel
theorem dX9_addZone_28 : decode cX9_addZone 28 = .ok (.iconst 0, 1) := by decide +kernel
theorem dX9_addZone_29 : decode cX9_addZone 29 = .ok (.sipush 10000, 3) := by decide +kernel
theorem dX9_addZone_32 : decode cX9_addZone 32 = .ok (.invokestatic 132, 3) := by decide +kernel
theorem dX9_addZone_35 : decode cX9_addZone 35 = .ok (.ifCond .eq 15, 3) := by decide +kernel
theorem dX9_addZone_38 : decode cX9_addZone 38 = .ok (.iload 4, 2) := by decide +kernel
theorem dX9_addZone_40 : decode cX9_addZone 40 = .ok (.iconst 0, 1) := by decide +kernel
theorem dX9_addZone_41 : decode cX9_addZone 41 = .ok (.sipush 10000, 3) := by decide +kernel
theorem dX9_addZone_44 : decode cX9_addZone 44 = .ok (.invokestatic 132, 3) := by decide +kernel
theorem dX9_addZone_47 : decode cX9_addZone 47 = .ok (.ifCond .ne 9, 3) := by decide +kernel
theorem dX9_addZone_50 : decode cX9_addZone 50 = .ok (.aload_n 0, 1) := by decide +kernel
theorem dX9_addZone_51 : decode cX9_addZone 51 = .ok (.iconst 1, 1) := by decide +kernel
theorem dX9_addZone_52 : decode cX9_addZone 52 = .ok (.invokevirtual 136, 3) := by decide +kernel
theorem dX9_addZone_55 : decode cX9_addZone 55 = .ok (.ireturn, 1) := by decide +kernel
theorem dX9_addZone_56 : decode cX9_addZone 56 = .ok (.aload_n 0, 1) := by decide +kernel
theorem dX9_addZone_57 : decode cX9_addZone 57 = .ok (.getfield 7, 3) := by decide +kernel
theorem dX9_addZone_60 : decode cX9_addZone 60 = .ok (.bipush 18, 2) := by decide +kernel
theorem dX9_addZone_62 : decode cX9_addZone 62 = .ok (.iaload, 1) := by decide +kernel
theorem dX9_addZone_63 : decode cX9_addZone 63 = .ok (.bipush 6, 2) := by decide +kernel
theorem dX9_addZone_65 : decode cX9_addZone 65 = .ok (.if_icmp .ne 9, 3) := by decide +kernel
theorem dX9_addZone_68 : decode cX9_addZone 68 = .ok (.aload_n 0, 1) := by decide +kernel
theorem dX9_addZone_69 : decode cX9_addZone 69 = .ok (.iconst 2, 1) := by decide +kernel
theorem dX9_addZone_70 : decode cX9_addZone 70 = .ok (.invokevirtual 136, 3) := by decide +kernel
theorem dX9_addZone_73 : decode cX9_addZone 73 = .ok (.ireturn, 1) := by decide +kernel
theorem dX9_addZone_74 : decode cX9_addZone 74 = .ok (.aload_n 0, 1) := by decide +kernel
theorem dX9_addZone_75 : decode cX9_addZone 75 = .ok (.invokevirtual 35, 3) := by decide +kernel
theorem dX9_addZone_78 : decode cX9_addZone 78 = .ok (.bipush 19, 2) := by decide +kernel
theorem dX9_addZone_80 : decode cX9_addZone 80 = .ok (.iconst 4, 1) := by decide +kernel
theorem dX9_addZone_81 : decode cX9_addZone 81 = .ok (.aload_n 0, 1) := by decide +kernel
theorem dX9_addZone_82 : decode cX9_addZone 82 = .ok (.getfield 7, 3) := by decide +kernel
theorem dX9_addZone_85 : decode cX9_addZone 85 = .ok (.bipush 18, 2) := by decide +kernel
theorem dX9_addZone_87 : decode cX9_addZone 87 = .ok (.iaload, 1) := by decide +kernel
theorem dX9_addZone_88 : decode cX9_addZone 88 = .ok (.imul, 1) := by decide +kernel
theorem dX9_addZone_89 : decode cX9_addZone 89 = .ok (.iadd, 1) := by decide +kernel
theorem dX9_addZone_90 : decode cX9_addZone 90 = .ok (.istore 5, 2) := by decide +kernel
theorem dX9_addZone_92 : decode cX9_addZone 92 = .ok (.aload_n 0, 1) := by decide +kernel
theorem dX9_addZone_93 : decode cX9_addZone 93 = .ok (.getfield 7, 3) := by decide +kernel
theorem dX9_addZone_96 : decode cX9_addZone 96 = .ok (.iload 5, 2) := by decide +kernel
theorem dX9_addZone_98 : decode cX9_addZone 98 = .ok (.iload_n 1, 1) := by decide +kernel
theorem dX9_addZone_99 : decode cX9_addZone 99 = .ok (.iastore, 1) := by decide +kernel
theorem dX9_addZone_100 : decode cX9_addZone 100 = .ok (.aload_n 0, 1) := by decide +kernel
theorem dX9_addZone_101 : decode cX9_addZone 101 = .ok (.getfield 7, 3) := by decide +kernel
theorem dX9_addZone_104 : decode cX9_addZone 104 = .ok (.iload 5, 2) := by decide +kernel
theorem dX9_addZone_106 : decode cX9_addZone 106 = .ok (.iconst 1, 1) := by decide +kernel
theorem dX9_addZone_107 : decode cX9_addZone 107 = .ok (.iadd, 1) := by decide +kernel
theorem dX9_addZone_108 : decode cX9_addZone 108 = .ok (.iload_n 2, 1) := by decide +kernel
theorem dX9_addZone_109 : decode cX9_addZone 109 = .ok (.iastore, 1) := by decide +kernel
theorem dX9_addZone_110 : decode cX9_addZone 110 = .ok (.aload_n 0, 1) := by decide +kernel
theorem dX9_addZone_111 : decode cX9_addZone 111 = .ok (.getfield 7, 3) := by decide +kernel
theorem dX9_addZone_114 : decode cX9_addZone 114 = .ok (.iload 5, 2) := by decide +kernel
theorem dX9_addZone_116 : decode cX9_addZone 116 = .ok (.iconst 2, 1) := by decide +kernel
theorem dX9_addZone_117 : decode cX9_addZone 117 = .ok (.iadd, 1) := by decide +kernel
theorem dX9_addZone_118 : decode cX9_addZone 118 = .ok (.iload_n 3, 1) := by decide +kernel
theorem dX9_addZone_119 : decode cX9_addZone 119 = .ok (.iastore, 1) := by decide +kernel
theorem dX9_addZone_120 : decode cX9_addZone 120 = .ok (.aload_n 0, 1) := by decide +kernel
theorem dX9_addZone_121 : decode cX9_addZone 121 = .ok (.getfield 7, 3) := by decide +kernel
theorem dX9_addZone_124 : decode cX9_addZone 124 = .ok (.iload 5, 2) := by decide +kernel
theorem dX9_addZone_126 : decode cX9_addZone 126 = .ok (.iconst 3, 1) := by decide +kernel
theorem dX9_addZone_127 : decode cX9_addZone 127 = .ok (.iadd, 1) := by decide +kernel
theorem dX9_addZone_128 : decode cX9_addZone 128 = .ok (.iload 4, 2) := by decide +kernel
theorem dX9_addZone_130 : decode cX9_addZone 130 = .ok (.iastore, 1) := by decide +kernel
theorem dX9_addZone_131 : decode cX9_addZone 131 = .ok (.aload_n 0, 1) := by decide +kernel
theorem dX9_addZone_132 : decode cX9_addZone 132 = .ok (.getfield 7, 3) := by decide +kernel
theorem dX9_addZone_135 : decode cX9_addZone 135 = .ok (.bipush 18, 2) := by decide +kernel
theorem dX9_addZone_137 : decode cX9_addZone 137 = .ok (.dup2, 1) := by decide +kernel
theorem dX9_addZone_138 : decode cX9_addZone 138 = .ok (.iaload, 1) := by decide +kernel
theorem dX9_addZone_139 : decode cX9_addZone 139 = .ok (.iconst 1, 1) := by decide +kernel
theorem dX9_addZone_140 : decode cX9_addZone 140 = .ok (.iadd, 1) := by decide +kernel
theorem dX9_addZone_141 : decode cX9_addZone 141 = .ok (.iastore, 1) := by decide +kernel
theorem dX9_addZone_142 : decode cX9_addZone 142 = .ok (.aload_n 0, 1) := by decide +kernel
theorem dX9_addZone_143 : decode cX9_addZone 143 = .ok (.getfield 7, 3) := by decide +kernel
theorem dX9_addZone_146 : decode cX9_addZone 146 = .ok (.bipush 18, 2) := by decide +kernel
theorem dX9_addZone_148 : decode cX9_addZone 148 = .ok (.iaload, 1) := by decide +kernel
theorem dX9_addZone_149 : decode cX9_addZone 149 = .ok (.ireturn, 1) := by decide +kernel
set_option maxRecDepth 20000 in
theorem ggX9_removeZone_X9_in : GoodIn wsX9_removeZone wsX9_in := goodIn_r _ [6] (by decide +kernel) (by decide +kernel)
set_option maxRecDepth 20000 in
theorem gX9_removeZone_X9_in : GoodIn wsX9_removeZone (va_wsS RX9 132 yX9_in wsX9_in) := goodIn_app (goodIn_of _ (by decide +kernel)) ggX9_removeZone_X9_in
set_option maxRecDepth 20000 in
theorem ggX9_removeZone_X9_fails : GoodIn wsX9_removeZone wsX9_fails := goodIn_r _ [10, 1, 17, 18, 19, 20, 21, 22, 23, 24, 25, 26, 27, 28, 29] (by decide +kernel) (by decide +kernel)
set_option maxRecDepth 20000 in
theorem gX9_removeZone_X9_fails : GoodIn wsX9_removeZone (wsV RX9 136 RX9 yX9_fails wsX9_fails) := goodIn_app (goodIn_of _ (by decide +kernel)) ggX9_removeZone_X9_fails
set_option maxRecDepth 20000 in
theorem ggX9_removeZone_X9_keep : GoodIn wsX9_removeZone wsX9_keep := goodIn_r _ [14, 15, 16, 2, 17, 18, 19, 20, 21, 22, 23, 24, 25, 26, 27, 28, 29] (by decide +kernel) (by decide +kernel)
set_option maxRecDepth 20000 in
theorem gX9_removeZone_X9_keep : GoodIn wsX9_removeZone (wsV RX9 35 RX9 yX9_keep wsX9_keep) := goodIn_app (goodIn_of _ (by decide +kernel)) ggX9_removeZone_X9_keep
theorem dX9_removeZone_0 : decode cX9_removeZone 0 = .ok (.aload_n 0, 1) := by decide +kernel
theorem dX9_removeZone_1 : decode cX9_removeZone 1 = .ok (.iconst 0, 1) := by decide +kernel
theorem dX9_removeZone_2 : decode cX9_removeZone 2 = .ok (.putfield 28, 3) := by decide +kernel
theorem dX9_removeZone_5 : decode cX9_removeZone 5 = .ok (.iload_n 1, 1) := by decide +kernel
theorem dX9_removeZone_6 : decode cX9_removeZone 6 = .ok (.iconst 0, 1) := by decide +kernel
theorem dX9_removeZone_7 : decode cX9_removeZone 7 = .ok (.aload_n 0, 1) := by decide +kernel
theorem dX9_removeZone_8 : decode cX9_removeZone 8 = .ok (.getfield 7, 3) := by decide +kernel
theorem dX9_removeZone_11 : decode cX9_removeZone 11 = .ok (.bipush 18, 2) := by decide +kernel
theorem dX9_removeZone_13 : decode cX9_removeZone 13 = .ok (.iaload, 1) := by decide +kernel
theorem dX9_removeZone_14 : decode cX9_removeZone 14 = .ok (.iconst 1, 1) := by decide +kernel
theorem dX9_removeZone_15 : decode cX9_removeZone 15 = .ok (.isub, 1) := by decide +kernel
theorem dX9_removeZone_16 : decode cX9_removeZone 16 = .ok (.invokestatic 132, 3) := by decide +kernel
theorem dX9_removeZone_19 : decode cX9_removeZone 19 = .ok (.ifCond .ne 9, 3) := by decide +kernel
theorem dX9_removeZone_22 : decode cX9_removeZone 22 = .ok (.aload_n 0, 1) := by decide +kernel
theorem dX9_removeZone_23 : decode cX9_removeZone 23 = .ok (.iconst 1, 1) := by decide +kernel
theorem dX9_removeZone_24 : decode cX9_removeZone 24 = .ok (.invokevirtual 136, 3) := by decide +kernel
theorem dX9_removeZone_27 : decode cX9_removeZone 27 = .ok (.ireturn, 1) := by decide +kernel
theorem dX9_removeZone_28 : decode cX9_removeZone 28 = .ok (.aload_n 0, 1) := by decide +kernel
theorem dX9_removeZone_29 : decode cX9_removeZone 29 = .ok (.invokevirtual 35, 3) := by decide +kernel
theorem dX9_removeZone_32 : decode cX9_removeZone 32 = .ok (.aload_n 0, 1) := by decide +kernel
theorem dX9_removeZone_33 : decode cX9_removeZone 33 = .ok (.getfield 7, 3) := by decide +kernel
theorem dX9_removeZone_36 : decode cX9_removeZone 36 = .ok (.bipush 18, 2) := by decide +kernel
theorem dX9_removeZone_38 : decode cX9_removeZone 38 = .ok (.dup2, 1) := by decide +kernel
theorem dX9_removeZone_39 : decode cX9_removeZone 39 = .ok (.iaload, 1) := by decide +kernel
theorem dX9_removeZone_40 : decode cX9_removeZone 40 = .ok (.iconst 1, 1) := by decide +kernel
theorem dX9_removeZone_41 : decode cX9_removeZone 41 = .ok (.isub, 1) := by decide +kernel
theorem dX9_removeZone_42 : decode cX9_removeZone 42 = .ok (.iastore, 1) := by decide +kernel
theorem dX9_removeZone_43 : decode cX9_removeZone 43 = .ok (.bipush 19, 2) := by decide +kernel
theorem dX9_removeZone_45 : decode cX9_removeZone 45 = .ok (.iconst 4, 1) := by decide +kernel
theorem dX9_removeZone_46 : decode cX9_removeZone 46 = .ok (.iload_n 1, 1) := by decide +kernel
theorem dX9_removeZone_47 : decode cX9_removeZone 47 = .ok (.imul, 1) := by decide +kernel
theorem dX9_removeZone_48 : decode cX9_removeZone 48 = .ok (.iadd, 1) := by decide +kernel
theorem dX9_removeZone_49 : decode cX9_removeZone 49 = .ok (.istore_n 2, 1) := by decide +kernel
theorem dX9_removeZone_50 : decode cX9_removeZone 50 = .ok (.iload_n 2, 1) := by decide +kernel
theorem dX9_removeZone_51 : decode cX9_removeZone 51 = .ok (.bipush 19, 2) := by decide +kernel
theorem dX9_removeZone_53 : decode cX9_removeZone 53 = .ok (.iconst 4, 1) := by decide +kernel
theorem dX9_removeZone_54 : decode cX9_removeZone 54 = .ok (.aload_n 0, 1) := by decide +kernel
theorem dX9_removeZone_55 : decode cX9_removeZone 55 = .ok (.getfield 7, 3) := by decide +kernel
theorem dX9_removeZone_58 : decode cX9_removeZone 58 = .ok (.bipush 18, 2) := by decide +kernel
theorem dX9_removeZone_60 : decode cX9_removeZone 60 = .ok (.iaload, 1) := by decide +kernel
theorem dX9_removeZone_61 : decode cX9_removeZone 61 = .ok (.imul, 1) := by decide +kernel
theorem dX9_removeZone_62 : decode cX9_removeZone 62 = .ok (.iadd, 1) := by decide +kernel
theorem dX9_removeZone_63 : decode cX9_removeZone 63 = .ok (.if_icmp .ge 23, 3) := by decide +kernel
theorem dX9_removeZone_66 : decode cX9_removeZone 66 = .ok (.aload_n 0, 1) := by decide +kernel
theorem dX9_removeZone_67 : decode cX9_removeZone 67 = .ok (.getfield 7, 3) := by decide +kernel
theorem dX9_removeZone_70 : decode cX9_removeZone 70 = .ok (.iload_n 2, 1) := by decide +kernel
theorem dX9_removeZone_71 : decode cX9_removeZone 71 = .ok (.aload_n 0, 1) := by decide +kernel
theorem dX9_removeZone_72 : decode cX9_removeZone 72 = .ok (.getfield 7, 3) := by decide +kernel
theorem dX9_removeZone_75 : decode cX9_removeZone 75 = .ok (.iload_n 2, 1) := by decide +kernel
theorem dX9_removeZone_76 : decode cX9_removeZone 76 = .ok (.iconst 4, 1) := by decide +kernel
theorem dX9_removeZone_77 : decode cX9_removeZone 77 = .ok (.iadd, 1) := by decide +kernel
theorem dX9_removeZone_78 : decode cX9_removeZone 78 = .ok (.iaload, 1) := by decide +kernel
theorem dX9_removeZone_79 : decode cX9_removeZone 79 = .ok (.iastore, 1) := by decide +kernel
theorem dX9_removeZone_80 : decode cX9_removeZone 80 = .ok (.iinc 2 1, 3) := by decide +kernel
theorem dX9_removeZone_83 : decode cX9_removeZone 83 = .ok (.goto (-33), 3) := by decide +kernel
theorem dX9_removeZone_86 : decode cX9_removeZone 86 = .ok (.aload_n 0, 1) := by decide +kernel
theorem dX9_removeZone_87 : decode cX9_removeZone 87 = .ok (.getfield 7, 3) := by decide +kernel
theorem dX9_removeZone_90 : decode cX9_removeZone 90 = .ok (.bipush 18, 2) := by decide +kernel
theorem dX9_removeZone_92 : decode cX9_removeZone 92 = .ok (.iaload, 1) := by decide +kernel
theorem dX9_removeZone_93 : decode cX9_removeZone 93 = .ok (.ireturn, 1) := by decide +kernel
set_option maxRecDepth 20000 in
theorem ggX9_isPosition_X9_in : GoodIn wsX9_isPosition wsX9_in := goodIn_r _ [4] (by decide +kernel) (by decide +kernel)
set_option maxRecDepth 20000 in
theorem gX9_isPosition_X9_in : GoodIn wsX9_isPosition (va_wsS RX9 132 yX9_in wsX9_in) := goodIn_app (goodIn_of _ (by decide +kernel)) ggX9_isPosition_X9_in
theorem dX9_isPosition_0 : decode cX9_isPosition 0 = .ok (.iload_n 0, 1) := by decide +kernel
theorem dX9_isPosition_1 : decode cX9_isPosition 1 = .ok (.sipush 1000, 3) := by decide +kernel
theorem dX9_isPosition_4 : decode cX9_isPosition 4 = .ok (.sipush 6000, 3) := by decide +kernel
theorem dX9_isPosition_7 : decode cX9_isPosition 7 = .ok (.invokestatic 132, 3) := by decide +kernel
theorem dX9_isPosition_10 : decode cX9_isPosition 10 = .ok (.ifCond .eq 29, 3) := by decide +kernel
theorem dX9_isPosition_13 : decode cX9_isPosition 13 = .ok (.iload_n 1, 1) := by decide +kernel
theorem dX9_isPosition_14 : decode cX9_isPosition 14 = .ok (.iconst 0, 1) := by decide +kernel
theorem dX9_isPosition_15 : decode cX9_isPosition 15 = .ok (.sipush 850, 3) := by decide +kernel
theorem dX9_isPosition_18 : decode cX9_isPosition 18 = .ok (.invokestatic 132, 3) := by decide +kernel
theorem dX9_isPosition_21 : decode cX9_isPosition 21 = .ok (.ifCond .eq 18, 3) := by decide +kernel
theorem dX9_isPosition_24 : decode cX9_isPosition 24 = .ok (.iload_n 2, 1) := by decide +kernel
theorem dX9_isPosition_25 : decode cX9_isPosition 25 = .ok (.iconst 0, 1) := by decide +kernel
theorem dX9_isPosition_26 : decode cX9_isPosition 26 = .ok (.sipush 3599, 3) := by decide +kernel
theorem dX9_isPosition_29 : decode cX9_isPosition 29 = .ok (.invokestatic 132, 3) := by decide +kernel
theorem dX9_isPosition_32 : decode cX9_isPosition 32 = .ok (.ifCond .eq 7, 3) := by decide +kernel
theorem dX9_isPosition_35 : decode cX9_isPosition 35 = .ok (.iconst 1, 1) := by decide +kernel
theorem dX9_isPosition_36 : decode cX9_isPosition 36 = .ok (.goto 4, 3) := by decide +kernel
theorem dX9_isPosition_39 : decode cX9_isPosition 39 = .ok (.iconst 0, 1) := by decide +kernel
theorem dX9_isPosition_40 : decode cX9_isPosition 40 = .ok (.ireturn, 1) := by decide +kernel
set_option maxRecDepth 20000 in
theorem ggX9_setBoom_X9_isPosition : GoodIn wsX9_setBoom wsX9_isPosition := goodIn_r _ [6, 7, 8, 5, 9] (by decide +kernel) (by decide +kernel)
set_option maxRecDepth 20000 in
theorem gX9_setBoom_X9_isPosition : GoodIn wsX9_setBoom (va_wsS RX9 150 yX9_isPosition wsX9_isPosition) := goodIn_app (goodIn_of _ (by decide +kernel)) ggX9_setBoom_X9_isPosition
set_option maxRecDepth 20000 in
theorem ggX9_setBoom_X9_fails : GoodIn wsX9_setBoom wsX9_fails := goodIn_r _ [13, 1, 47, 48, 49, 50, 51, 52, 53, 54, 55, 56, 57, 58, 59] (by decide +kernel) (by decide +kernel)
set_option maxRecDepth 20000 in
theorem gX9_setBoom_X9_fails : GoodIn wsX9_setBoom (wsV RX9 136 RX9 yX9_fails wsX9_fails) := goodIn_app (goodIn_of _ (by decide +kernel)) ggX9_setBoom_X9_fails
set_option maxRecDepth 20000 in
theorem ggX9_setBoom_X9_keep : GoodIn wsX9_setBoom wsX9_keep := goodIn_r _ [17, 18, 19, 2, 47, 48, 49, 50, 51, 52, 53, 54, 55, 56, 57, 58, 59] (by decide +kernel) (by decide +kernel)
set_option maxRecDepth 20000 in
theorem gX9_setBoom_X9_keep : GoodIn wsX9_setBoom (wsV RX9 35 RX9 yX9_keep wsX9_keep) := goodIn_app (goodIn_of _ (by decide +kernel)) ggX9_setBoom_X9_keep
set_option maxRecDepth 20000 in
theorem ggX9_setBoom_X9_violation : GoodIn wsX9_setBoom wsX9_violation := goodIn_r _ [23, 2, 24, 25, 26, 5, 27, 28, 29, 30, 31, 32, 33, 34, 35, 36, 37, 38, 39, 40, 41, 42, 43, 44, 45, 46, 47, 48, 49, 50, 51, 52, 53, 54, 55, 56, 57, 58, 59] (by decide +kernel) (by decide +kernel)
set_option maxRecDepth 20000 in
theorem gX9_setBoom_X9_violation : GoodIn wsX9_setBoom (wsV RX9 153 RX9 yX9_violation wsX9_violation) := goodIn_app (goodIn_of _ (by decide +kernel)) ggX9_setBoom_X9_violation
theorem dX9_setBoom_0 : decode cX9_setBoom 0 = .ok (.aload_n 0, 1) := by decide +kernel
theorem dX9_setBoom_1 : decode cX9_setBoom 1 = .ok (.iconst 0, 1) := by decide +kernel
theorem dX9_setBoom_2 : decode cX9_setBoom 2 = .ok (.putfield 28, 3) := by decide +kernel
theorem dX9_setBoom_5 : decode cX9_setBoom 5 = .ok (.iload_n 1, 1) := by decide +kernel
theorem dX9_setBoom_6 : decode cX9_setBoom 6 = .ok (.iload_n 2, 1) := by decide +kernel
theorem dX9_setBoom_7 : decode cX9_setBoom 7 = .ok (.iload_n 3, 1) := by decide +kernel
theorem dX9_setBoom_8 : decode cX9_setBoom 8 = .ok (.invokestatic 150, 3) := by decide +kernel
theorem dX9_setBoom_11 : decode cX9_setBoom 11 = .ok (.ifCond .ne 9, 3) := by decide +kernel
theorem dX9_setBoom_14 : decode cX9_setBoom 14 = .ok (.aload_n 0, 1) := by decide +kernel
theorem dX9_setBoom_15 : decode cX9_setBoom 15 = .ok (.iconst 1, 1) := by decide +kernel
theorem dX9_setBoom_16 : decode cX9_setBoom 16 = .ok (.invokevirtual 136, 3) := by decide +kernel
theorem dX9_setBoom_19 : decode cX9_setBoom 19 = .ok (.ireturn, 1) := by decide +kernel
theorem dX9_setBoom_20 : decode cX9_setBoom 20 = .ok (.aload_n 0, 1) := by decide +kernel
theorem dX9_setBoom_21 : decode cX9_setBoom 21 = .ok (.getfield 7, 3) := by decide +kernel
theorem dX9_setBoom_24 : decode cX9_setBoom 24 = .ok (.iconst 4, 1) := by decide +kernel
theorem dX9_setBoom_25 : decode cX9_setBoom 25 = .ok (.iaload, 1) := by decide +kernel
theorem dX9_setBoom_26 : decode cX9_setBoom 26 = .ok (.ifCond .eq 9, 3) := by decide +kernel
theorem dX9_setBoom_29 : decode cX9_setBoom 29 = .ok (.aload_n 0, 1) := by decide +kernel
theorem dX9_setBoom_30 : decode cX9_setBoom 30 = .ok (.iconst 2, 1) := by decide +kernel
theorem dX9_setBoom_31 : decode cX9_setBoom 31 = .ok (.invokevirtual 136, 3) := by decide +kernel
theorem dX9_setBoom_34 : decode cX9_setBoom 34 = .ok (.ireturn, 1) := by decide +kernel
theorem dX9_setBoom_35 : decode cX9_setBoom 35 = .ok (.aload_n 0, 1) := by decide +kernel
theorem dX9_setBoom_36 : decode cX9_setBoom 36 = .ok (.invokevirtual 35, 3) := by decide +kernel
theorem dX9_setBoom_39 : decode cX9_setBoom 39 = .ok (.aload_n 0, 1) := by decide +kernel
theorem dX9_setBoom_40 : decode cX9_setBoom 40 = .ok (.getfield 7, 3) := by decide +kernel
theorem dX9_setBoom_43 : decode cX9_setBoom 43 = .ok (.iconst 0, 1) := by decide +kernel
theorem dX9_setBoom_44 : decode cX9_setBoom 44 = .ok (.iload_n 1, 1) := by decide +kernel
theorem dX9_setBoom_45 : decode cX9_setBoom 45 = .ok (.iastore, 1) := by decide +kernel
theorem dX9_setBoom_46 : decode cX9_setBoom 46 = .ok (.aload_n 0, 1) := by decide +kernel
theorem dX9_setBoom_47 : decode cX9_setBoom 47 = .ok (.getfield 7, 3) := by decide +kernel
theorem dX9_setBoom_50 : decode cX9_setBoom 50 = .ok (.iconst 1, 1) := by decide +kernel
theorem dX9_setBoom_51 : decode cX9_setBoom 51 = .ok (.iload_n 2, 1) := by decide +kernel
theorem dX9_setBoom_52 : decode cX9_setBoom 52 = .ok (.iastore, 1) := by decide +kernel
theorem dX9_setBoom_53 : decode cX9_setBoom 53 = .ok (.aload_n 0, 1) := by decide +kernel
theorem dX9_setBoom_54 : decode cX9_setBoom 54 = .ok (.getfield 7, 3) := by decide +kernel
theorem dX9_setBoom_57 : decode cX9_setBoom 57 = .ok (.iconst 2, 1) := by decide +kernel
theorem dX9_setBoom_58 : decode cX9_setBoom 58 = .ok (.iload_n 3, 1) := by decide +kernel
theorem dX9_setBoom_59 : decode cX9_setBoom 59 = .ok (.iastore, 1) := by decide +kernel
theorem dX9_setBoom_60 : decode cX9_setBoom 60 = .ok (.aload_n 0, 1) := by decide +kernel
theorem dX9_setBoom_61 : decode cX9_setBoom 61 = .ok (.getfield 7, 3) := by decide +kernel
theorem dX9_setBoom_64 : decode cX9_setBoom 64 = .ok (.iconst 3, 1) := by decide +kernel
theorem dX9_setBoom_65 : decode cX9_setBoom 65 = .ok (.iconst 0, 1) := by decide +kernel
theorem dX9_setBoom_66 : decode cX9_setBoom 66 = .ok (.iastore, 1) := by decide +kernel
theorem dX9_setBoom_67 : decode cX9_setBoom 67 = .ok (.aload_n 0, 1) := by decide +kernel
theorem dX9_setBoom_68 : decode cX9_setBoom 68 = .ok (.invokevirtual 153, 3) := by decide +kernel
theorem dX9_setBoom_71 : decode cX9_setBoom 71 = .ok (.ireturn, 1) := by decide +kernel
set_option maxRecDepth 20000 in
theorem ggX9_wind_X9_in : GoodIn wsX9_wind wsX9_in := goodIn_r _ [6] (by decide +kernel) (by decide +kernel)
set_option maxRecDepth 20000 in
theorem gX9_wind_X9_in : GoodIn wsX9_wind (va_wsS RX9 132 yX9_in wsX9_in) := goodIn_app (goodIn_of _ (by decide +kernel)) ggX9_wind_X9_in
set_option maxRecDepth 20000 in
theorem ggX9_wind_X9_fails : GoodIn wsX9_wind wsX9_fails := goodIn_r _ [10, 1, 24, 25, 26, 27, 28, 29, 30, 31, 32, 33, 34, 35, 36] (by decide +kernel) (by decide +kernel)
set_option maxRecDepth 20000 in
theorem gX9_wind_X9_fails : GoodIn wsX9_wind (wsV RX9 136 RX9 yX9_fails wsX9_fails) := goodIn_app (goodIn_of _ (by decide +kernel)) ggX9_wind_X9_fails
set_option maxRecDepth 20000 in
theorem ggX9_wind_X9_keep : GoodIn wsX9_wind wsX9_keep := goodIn_r _ [14, 15, 16, 2, 24, 25, 26, 27, 28, 29, 30, 31, 32, 33, 34, 35, 36] (by decide +kernel) (by decide +kernel)
set_option maxRecDepth 20000 in
theorem gX9_wind_X9_keep : GoodIn wsX9_wind (wsV RX9 35 RX9 yX9_keep wsX9_keep) := goodIn_app (goodIn_of _ (by decide +kernel)) ggX9_wind_X9_keep
set_option maxRecDepth 20000 in
theorem ggX9_wind_X9_windNow : GoodIn wsX9_wind wsX9_windNow := goodIn_r _ [20, 2, 21, 22, 5, 23, 24, 25, 26, 27, 28, 29, 30, 31, 32, 33, 34, 35, 36] (by decide +kernel) (by decide +kernel)
set_option maxRecDepth 20000 in
theorem gX9_wind_X9_windNow : GoodIn wsX9_wind (wsV RX9 100 RX9 yX9_windNow wsX9_windNow) := goodIn_app (goodIn_of _ (by decide +kernel)) ggX9_wind_X9_windNow
theorem dX9_wind_0 : decode cX9_wind 0 = .ok (.aload_n 0, 1) := by decide +kernel
theorem dX9_wind_1 : decode cX9_wind 1 = .ok (.iconst 0, 1) := by decide +kernel
theorem dX9_wind_2 : decode cX9_wind 2 = .ok (.putfield 28, 3) := by decide +kernel
theorem dX9_wind_5 : decode cX9_wind 5 = .ok (.iload_n 1, 1) := by decide +kernel
theorem dX9_wind_6 : decode cX9_wind 6 = .ok (.iconst 0, 1) := by decide +kernel
theorem dX9_wind_7 : decode cX9_wind 7 = .ok (.sipush 1000, 3) := by decide +kernel
