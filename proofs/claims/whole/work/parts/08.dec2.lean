theorem dX8_setOutrigger_0 : decode cX8_setOutrigger 0 = .ok (.iload_n 1, 1) := by decide +kernel
theorem dX8_setOutrigger_1 : decode cX8_setOutrigger 1 = .ok (.iconst 4, 1) := by decide +kernel
theorem dX8_setOutrigger_2 : decode cX8_setOutrigger 2 = .ok (.invokestatic 47, 3) := by decide +kernel
theorem dX8_setOutrigger_5 : decode cX8_setOutrigger 5 = .ok (.iload_n 2, 1) := by decide +kernel
theorem dX8_setOutrigger_6 : decode cX8_setOutrigger 6 = .ok (.iconst 0, 1) := by decide +kernel
theorem dX8_setOutrigger_7 : decode cX8_setOutrigger 7 = .ok (.iconst 2, 1) := by decide +kernel
theorem dX8_setOutrigger_8 : decode cX8_setOutrigger 8 = .ok (.invokestatic 51, 3) := by decide +kernel
theorem dX8_setOutrigger_11 : decode cX8_setOutrigger 11 = .ok (.aload_n 0, 1) := by decide +kernel
theorem dX8_setOutrigger_12 : decode cX8_setOutrigger 12 = .ok (.invokevirtual 55, 3) := by decide +kernel
theorem dX8_setOutrigger_15 : decode cX8_setOutrigger 15 = .ok (.aload_n 0, 1) := by decide +kernel
theorem dX8_setOutrigger_16 : decode cX8_setOutrigger 16 = .ok (.getfield 10, 3) := by decide +kernel
theorem dX8_setOutrigger_19 : decode cX8_setOutrigger 19 = .ok (.getfield 58, 3) := by decide +kernel
theorem dX8_setOutrigger_22 : decode cX8_setOutrigger 22 = .ok (.iload_n 1, 1) := by decide +kernel
theorem dX8_setOutrigger_23 : decode cX8_setOutrigger 23 = .ok (.iload_n 2, 1) := by decide +kernel
theorem dX8_setOutrigger_24 : decode cX8_setOutrigger 24 = .ok (.invokevirtual 62, 3) := by decide +kernel
theorem dX8_setOutrigger_27 : decode cX8_setOutrigger 27 = .ok (.ireturn, 1) := by decide +kernel
set_option maxRecDepth 20000 in
theorem ggX8_setOnWheels_X8_save : GoodIn wsX8_setOnWheels wsX8_save := goodIn_r _ [8, 9, 10, 11, 12, 13, 1, 14, 15, 16, 17, 18, 19, 20, 21, 22, 23, 24, 25, 26, 27, 28, 29, 30, 31, 32, 33, 34, 35, 36, 37, 38, 39, 40, 41, 42, 43, 44, 45, 46, 47, 48, 49, 50, 51, 52, 53, 54, 55, 56, 57, 58, 59, 60, 61, 62, 63, 64, 65, 66, 67, 68, 69, 70, 71, 72, 73, 74, 75, 76, 77, 78, 79, 80, 81, 82, 83, 84, 85, 86, 87, 88, 89, 90, 91, 92, 93, 94, 95, 96, 97, 98, 99, 100, 101, 102, 103, 104, 105, 106, 107, 108, 109, 110, 111, 112, 113, 114, 115, 116, 117, 118, 119, 120, 121, 122, 123, 124, 125, 126, 127, 128, 129, 130, 131, 132, 133, 138, 139, 140, 141, 142, 143, 144, 134, 135, 136, 137, 145, 146, 147, 148, 149, 150, 151, 152, 153, 154] (by decide +kernel) (by decide +kernel)
set_option maxRecDepth 20000 in
theorem gX8_setOnWheels_X8_save : GoodIn wsX8_setOnWheels (wsV RX8 55 RX8 yX8_save wsX8_save) := goodIn_app (goodIn_of _ (by decide +kernel)) ggX8_setOnWheels_X8_save
theorem dX8_setOnWheels_0 : decode cX8_setOnWheels 0 = .ok (.aload_n 0, 1) := by decide +kernel
theorem dX8_setOnWheels_1 : decode cX8_setOnWheels 1 = .ok (.invokevirtual 55, 3) := by decide +kernel
theorem dX8_setOnWheels_4 : decode cX8_setOnWheels 4 = .ok (.aload_n 0, 1) := by decide +kernel
theorem dX8_setOnWheels_5 : decode cX8_setOnWheels 5 = .ok (.getfield 10, 3) := by decide +kernel
theorem dX8_setOnWheels_8 : decode cX8_setOnWheels 8 = .ok (.getfield 58, 3) := by decide +kernel
theorem dX8_setOnWheels_11 : decode cX8_setOnWheels 11 = .ok (.getfield 66, 3) := by decide +kernel
theorem dX8_setOnWheels_14 : decode cX8_setOnWheels 14 = .ok (.istore_n 2, 1) := by decide +kernel
theorem dX8_setOnWheels_15 : decode cX8_setOnWheels 15 = .ok (.aload_n 0, 1) := by decide +kernel
theorem dX8_setOnWheels_16 : decode cX8_setOnWheels 16 = .ok (.getfield 10, 3) := by decide +kernel
theorem dX8_setOnWheels_19 : decode cX8_setOnWheels 19 = .ok (.getfield 58, 3) := by decide +kernel
theorem dX8_setOnWheels_22 : decode cX8_setOnWheels 22 = .ok (.iload_n 1, 1) := by decide +kernel
theorem dX8_setOnWheels_23 : decode cX8_setOnWheels 23 = .ok (.putfield 66, 3) := by decide +kernel
theorem dX8_setOnWheels_26 : decode cX8_setOnWheels 26 = .ok (.iload_n 2, 1) := by decide +kernel
theorem dX8_setOnWheels_27 : decode cX8_setOnWheels 27 = .ok (.ireturn, 1) := by decide +kernel
set_option maxRecDepth 20000 in
theorem ggX8_setCapacity_X8_requirePlace : GoodIn wsX8_setCapacity wsX8_requirePlace := goodIn_ca (goodIn_r _ [7, 8, 9, 6, 10, 11, 12] (by decide +kernel) (by decide +kernel)) (goodIn_sub (fun _ h => List.mem_cons_of_mem _ (List.mem_append_left _ (List.mem_append_right _ h))) (by decide +kernel))
set_option maxRecDepth 20000 in
theorem gX8_setCapacity_X8_requirePlace : GoodIn wsX8_setCapacity (va_wsS RX8 70 yX8_requirePlace wsX8_requirePlace) := goodIn_app (goodIn_of _ (by decide +kernel)) ggX8_setCapacity_X8_requirePlace
set_option maxRecDepth 20000 in
theorem ggX8_setCapacity_X8_requireArgument : GoodIn wsX8_setCapacity wsX8_requireArgument := goodIn_ca (goodIn_r _ [15, 16, 17] (by decide +kernel) (by decide +kernel)) (goodIn_sub (fun _ h => List.mem_cons_of_mem _ (List.mem_append_right _ h)) (by decide +kernel))
set_option maxRecDepth 20000 in
theorem gX8_setCapacity_X8_requireArgument : GoodIn wsX8_setCapacity (va_wsS RX8 51 yX8_requireArgument wsX8_requireArgument) := goodIn_app (goodIn_of _ (by decide +kernel)) ggX8_setCapacity_X8_requireArgument
set_option maxRecDepth 20000 in
theorem ggX8_setCapacity_X8_save : GoodIn wsX8_setCapacity wsX8_save := goodIn_r _ [21, 22, 23, 24, 25, 26, 2, 27, 28, 29, 30, 31, 32, 33, 34, 35, 36, 37, 38, 39, 40, 41, 42, 43, 44, 45, 46, 47, 48, 49, 50, 51, 52, 53, 54, 55, 56, 57, 58, 59, 60, 61, 62, 63, 64, 65, 66, 67, 68, 69, 70, 71, 72, 73, 74, 75, 76, 77, 78, 79, 80, 81, 82, 83, 84, 85, 86, 87, 88, 89, 90, 91, 92, 93, 94, 95, 96, 97, 98, 99, 100, 101, 102, 103, 104, 105, 106, 107, 108, 109, 110, 111, 112, 113, 114, 115, 116, 117, 118, 119, 120, 121, 122, 123, 124, 125, 126, 127, 128, 137, 138, 139, 140, 141, 142, 143, 144, 145, 146, 147, 148, 149, 150, 151, 152, 153, 154, 155, 156, 157, 158, 159, 160, 161, 162, 163, 164, 165, 166, 167, 168, 169, 170, 171, 172, 173, 174, 175] (by decide +kernel) (by decide +kernel)
set_option maxRecDepth 20000 in
theorem gX8_setCapacity_X8_save : GoodIn wsX8_setCapacity (wsV RX8 55 RX8 yX8_save wsX8_save) := goodIn_app (goodIn_of _ (by decide +kernel)) ggX8_setCapacity_X8_save
set_option maxRecDepth 20000 in
theorem ggX8_setCapacity_X1_valueAt : GoodIn wsX8_setCapacity wsX1_valueAt := goodIn_r _ [132, 67, 162, 163, 164, 165] (by decide +kernel) (by decide +kernel)
set_option maxRecDepth 20000 in
theorem gX8_setCapacity_X1_valueAt : GoodIn wsX8_setCapacity (wsV RX8 74 RX1 yX1_valueAt wsX1_valueAt) := goodIn_app (goodIn_of _ (by decide +kernel)) ggX8_setCapacity_X1_valueAt
set_option maxRecDepth 20000 in
theorem ggX8_setCapacity_X1_putValue : GoodIn wsX8_setCapacity wsX1_putValue := goodIn_r _ [136, 67, 162, 163, 164, 165] (by decide +kernel) (by decide +kernel)
set_option maxRecDepth 20000 in
theorem gX8_setCapacity_X1_putValue : GoodIn wsX8_setCapacity (wsV RX8 78 RX1 yX1_putValue wsX1_putValue) := goodIn_app (goodIn_of _ (by decide +kernel)) ggX8_setCapacity_X1_putValue
theorem dX8_setCapacity_0 : decode cX8_setCapacity 0 = .ok (.iload_n 1, 1) := by decide +kernel
theorem dX8_setCapacity_1 : decode cX8_setCapacity 1 = .ok (.iload_n 2, 1) := by decide +kernel
theorem dX8_setCapacity_2 : decode cX8_setCapacity 2 = .ok (.iload_n 3, 1) := by decide +kernel
theorem dX8_setCapacity_3 : decode cX8_setCapacity 3 = .ok (.invokestatic 70, 3) := by decide +kernel
theorem dX8_setCapacity_6 : decode cX8_setCapacity 6 = .ok (.iload 4, 2) := by decide +kernel
theorem dX8_setCapacity_8 : decode cX8_setCapacity 8 = .ok (.iconst 0, 1) := by decide +kernel
theorem dX8_setCapacity_9 : decode cX8_setCapacity 9 = .ok (.ldc 73, 2) := by decide +kernel
theorem dX8_setCapacity_11 : decode cX8_setCapacity 11 = .ok (.invokestatic 51, 3) := by decide +kernel
theorem dX8_setCapacity_14 : decode cX8_setCapacity 14 = .ok (.aload_n 0, 1) := by decide +kernel
theorem dX8_setCapacity_15 : decode cX8_setCapacity 15 = .ok (.invokevirtual 55, 3) := by decide +kernel
theorem dX8_setCapacity_18 : decode cX8_setCapacity 18 = .ok (.aload_n 0, 1) := by decide +kernel
theorem dX8_setCapacity_19 : decode cX8_setCapacity 19 = .ok (.getfield 10, 3) := by decide +kernel
theorem dX8_setCapacity_22 : decode cX8_setCapacity 22 = .ok (.getfield 58, 3) := by decide +kernel
theorem dX8_setCapacity_25 : decode cX8_setCapacity 25 = .ok (.iload_n 1, 1) := by decide +kernel
theorem dX8_setCapacity_26 : decode cX8_setCapacity 26 = .ok (.iload_n 2, 1) := by decide +kernel
theorem dX8_setCapacity_27 : decode cX8_setCapacity 27 = .ok (.iload_n 3, 1) := by decide +kernel
theorem dX8_setCapacity_28 : decode cX8_setCapacity 28 = .ok (.invokevirtual 74, 3) := by decide +kernel
theorem dX8_setCapacity_31 : decode cX8_setCapacity 31 = .ok (.istore 5, 2) := by decide +kernel
theorem dX8_setCapacity_33 : decode cX8_setCapacity 33 = .ok (.aload_n 0, 1) := by decide +kernel
theorem dX8_setCapacity_34 : decode cX8_setCapacity 34 = .ok (.getfield 10, 3) := by decide +kernel
theorem dX8_setCapacity_37 : decode cX8_setCapacity 37 = .ok (.getfield 58, 3) := by decide +kernel
theorem dX8_setCapacity_40 : decode cX8_setCapacity 40 = .ok (.iload_n 1, 1) := by decide +kernel
theorem dX8_setCapacity_41 : decode cX8_setCapacity 41 = .ok (.iload_n 2, 1) := by decide +kernel
theorem dX8_setCapacity_42 : decode cX8_setCapacity 42 = .ok (.iload_n 3, 1) := by decide +kernel
theorem dX8_setCapacity_43 : decode cX8_setCapacity 43 = .ok (.iload 4, 2) := by decide +kernel
theorem dX8_setCapacity_45 : decode cX8_setCapacity 45 = .ok (.invokevirtual 78, 3) := by decide +kernel
theorem dX8_setCapacity_48 : decode cX8_setCapacity 48 = .ok (.iload 5, 2) := by decide +kernel
theorem dX8_setCapacity_50 : decode cX8_setCapacity 50 = .ok (.ireturn, 1) := by decide +kernel
set_option maxRecDepth 20000 in
theorem ggX8_fillTable_X8_requireIndex : GoodIn wsX8_fillTable wsX8_requireIndex := goodIn_ca (goodIn_r _ [7, 8, 9] (by decide +kernel) (by decide +kernel)) (goodIn_sub (fun _ h => List.mem_cons_of_mem _ (List.mem_append_left _ (List.mem_append_right _ h))) (by decide +kernel))
set_option maxRecDepth 20000 in
theorem gX8_fillTable_X8_requireIndex : GoodIn wsX8_fillTable (va_wsS RX8 47 yX8_requireIndex wsX8_requireIndex) := goodIn_app (goodIn_of _ (by decide +kernel)) ggX8_fillTable_X8_requireIndex
set_option maxRecDepth 20000 in
theorem ggX8_fillTable_X8_requireArgument : GoodIn wsX8_fillTable wsX8_requireArgument := goodIn_ca (goodIn_r _ [12, 13, 14] (by decide +kernel) (by decide +kernel)) (goodIn_sub (fun _ h => List.mem_cons_of_mem _ (List.mem_append_right _ h)) (by decide +kernel))
set_option maxRecDepth 20000 in
theorem gX8_fillTable_X8_requireArgument : GoodIn wsX8_fillTable (va_wsS RX8 51 yX8_requireArgument wsX8_requireArgument) := goodIn_app (goodIn_of _ (by decide +kernel)) ggX8_fillTable_X8_requireArgument
set_option maxRecDepth 20000 in
theorem ggX8_fillTable_X8_save : GoodIn wsX8_fillTable wsX8_save := goodIn_r _ [18, 19, 20, 21, 22, 23, 2, 24, 25, 26, 27, 28, 29, 30, 31, 32, 33, 34, 35, 36, 37, 38, 39, 40, 41, 42, 43, 44, 45, 46, 47, 48, 49, 50, 51, 52, 53, 54, 55, 56, 57, 58, 59, 60, 61, 62, 63, 64, 65, 66, 67, 68, 69, 70, 71, 72, 73, 74, 75, 76, 77, 78, 79, 80, 81, 82, 83, 84, 85, 86, 87, 88, 89, 90, 91, 92, 93, 94, 95, 96, 97, 98, 99, 100, 101, 102, 103, 104, 105, 106, 107, 108, 109, 110, 111, 112, 113, 114, 115, 116, 117, 118, 119, 120, 121, 122, 123, 124, 125, 145, 146, 147, 148, 149, 150, 151, 152, 153, 154, 155, 156, 157, 158, 159, 160, 161, 162, 163, 164, 165, 166, 167, 168, 169, 170, 171, 172, 173, 174, 175, 176, 177, 178, 179, 180, 181, 182, 183] (by decide +kernel) (by decide +kernel)
set_option maxRecDepth 20000 in
theorem gX8_fillTable_X8_save : GoodIn wsX8_fillTable (wsV RX8 55 RX8 yX8_save wsX8_save) := goodIn_app (goodIn_of _ (by decide +kernel)) ggX8_fillTable_X8_save
set_option maxRecDepth 20000 in
theorem ggX8_fillTable_X1_fill : GoodIn wsX8_fillTable wsX1_fill := goodIn_r _ [129, 130, 131, 132, 26, 27, 28, 133, 134, 135, 40, 136, 64, 170, 171, 172, 173] (by decide +kernel) (by decide +kernel)
set_option maxRecDepth 20000 in
theorem gX8_fillTable_X1_fill : GoodIn wsX8_fillTable (wsV RX8 83 RX1 yX1_fill wsX1_fill) := goodIn_app (goodIn_of _ (by decide +kernel)) ggX8_fillTable_X1_fill
set_option maxRecDepth 20000 in
theorem ggX8_fillTable_X1_sum : GoodIn wsX8_fillTable wsX1_sum := goodIn_r _ [140, 141, 142, 143, 40, 144, 64, 170, 171, 172, 173] (by decide +kernel) (by decide +kernel)
set_option maxRecDepth 20000 in
theorem gX8_fillTable_X1_sum : GoodIn wsX8_fillTable (wsV RX8 86 RX1 yX1_sum wsX1_sum) := goodIn_app (goodIn_of _ (by decide +kernel)) ggX8_fillTable_X1_sum
theorem dX8_fillTable_0 : decode cX8_fillTable 0 = .ok (.iload_n 1, 1) := by decide +kernel
theorem dX8_fillTable_1 : decode cX8_fillTable 1 = .ok (.iconst 4, 1) := by decide +kernel
theorem dX8_fillTable_2 : decode cX8_fillTable 2 = .ok (.invokestatic 47, 3) := by decide +kernel
theorem dX8_fillTable_5 : decode cX8_fillTable 5 = .ok (.iload_n 2, 1) := by decide +kernel
theorem dX8_fillTable_6 : decode cX8_fillTable 6 = .ok (.iconst 0, 1) := by decide +kernel
theorem dX8_fillTable_7 : decode cX8_fillTable 7 = .ok (.ldc 82, 2) := by decide +kernel
theorem dX8_fillTable_9 : decode cX8_fillTable 9 = .ok (.invokestatic 51, 3) := by decide +kernel
theorem dX8_fillTable_12 : decode cX8_fillTable 12 = .ok (.aload_n 0, 1) := by decide +kernel
theorem dX8_fillTable_13 : decode cX8_fillTable 13 = .ok (.invokevirtual 55, 3) := by decide +kernel
theorem dX8_fillTable_16 : decode cX8_fillTable 16 = .ok (.aload_n 0, 1) := by decide +kernel
theorem dX8_fillTable_17 : decode cX8_fillTable 17 = .ok (.getfield 10, 3) := by decide +kernel
theorem dX8_fillTable_20 : decode cX8_fillTable 20 = .ok (.getfield 58, 3) := by decide +kernel
theorem dX8_fillTable_23 : decode cX8_fillTable 23 = .ok (.iload_n 1, 1) := by decide +kernel
theorem dX8_fillTable_24 : decode cX8_fillTable 24 = .ok (.iload_n 2, 1) := by decide +kernel
theorem dX8_fillTable_25 : decode cX8_fillTable 25 = .ok (.invokevirtual 83, 3) := by decide +kernel
theorem dX8_fillTable_28 : decode cX8_fillTable 28 = .ok (.aload_n 0, 1) := by decide +kernel
theorem dX8_fillTable_29 : decode cX8_fillTable 29 = .ok (.getfield 10, 3) := by decide +kernel
theorem dX8_fillTable_32 : decode cX8_fillTable 32 = .ok (.getfield 58, 3) := by decide +kernel
theorem dX8_fillTable_35 : decode cX8_fillTable 35 = .ok (.iload_n 1, 1) := by decide +kernel
theorem dX8_fillTable_36 : decode cX8_fillTable 36 = .ok (.invokevirtual 86, 3) := by decide +kernel
theorem dX8_fillTable_39 : decode cX8_fillTable 39 = .ok (.ireturn, 1) := by decide +kernel
set_option maxRecDepth 20000 in
theorem ggX8_capacity_X8_requirePlace : GoodIn wsX8_capacity wsX8_requirePlace := goodIn_ca (goodIn_r _ [6, 7, 8, 5, 9, 10, 11] (by decide +kernel) (by decide +kernel)) (goodIn_sub (fun _ h => List.mem_cons_of_mem _ (List.mem_append_right _ h)) (by decide +kernel))
set_option maxRecDepth 20000 in
theorem gX8_capacity_X8_requirePlace : GoodIn wsX8_capacity (va_wsS RX8 70 yX8_requirePlace wsX8_requirePlace) := goodIn_app (goodIn_of _ (by decide +kernel)) ggX8_capacity_X8_requirePlace
set_option maxRecDepth 20000 in
theorem ggX8_capacity_X1_valueAt : GoodIn wsX8_capacity wsX1_valueAt := goodIn_r _ [16, 17, 36, 37, 38, 39] (by decide +kernel) (by decide +kernel)
set_option maxRecDepth 20000 in
theorem gX8_capacity_X1_valueAt : GoodIn wsX8_capacity (wsV RX8 74 RX1 yX1_valueAt wsX1_valueAt) := goodIn_app (goodIn_of _ (by decide +kernel)) ggX8_capacity_X1_valueAt
theorem dX8_capacity_0 : decode cX8_capacity 0 = .ok (.iload_n 1, 1) := by decide +kernel
theorem dX8_capacity_1 : decode cX8_capacity 1 = .ok (.iload_n 2, 1) := by decide +kernel
theorem dX8_capacity_2 : decode cX8_capacity 2 = .ok (.iload_n 3, 1) := by decide +kernel
theorem dX8_capacity_3 : decode cX8_capacity 3 = .ok (.invokestatic 70, 3) := by decide +kernel
theorem dX8_capacity_6 : decode cX8_capacity 6 = .ok (.aload_n 0, 1) := by decide +kernel
theorem dX8_capacity_7 : decode cX8_capacity 7 = .ok (.getfield 10, 3) := by decide +kernel
theorem dX8_capacity_10 : decode cX8_capacity 10 = .ok (.getfield 58, 3) := by decide +kernel
theorem dX8_capacity_13 : decode cX8_capacity 13 = .ok (.iload_n 1, 1) := by decide +kernel
theorem dX8_capacity_14 : decode cX8_capacity 14 = .ok (.iload_n 2, 1) := by decide +kernel
theorem dX8_capacity_15 : decode cX8_capacity 15 = .ok (.iload_n 3, 1) := by decide +kernel
theorem dX8_capacity_16 : decode cX8_capacity 16 = .ok (.invokevirtual 74, 3) := by decide +kernel
theorem dX8_capacity_19 : decode cX8_capacity 19 = .ok (.ireturn, 1) := by decide +kernel
set_option maxRecDepth 20000 in
theorem ggX8_addZone_X8_requireSlew : GoodIn wsX8_addZone wsX8_requireSlew := goodIn_ca (goodIn_r _ [7, 8, 9, 6, 10, 11, 12] (by decide +kernel) (by decide +kernel)) (goodIn_sub (fun _ h => List.mem_cons_of_mem _ (List.mem_append_left _ (List.mem_append_right _ h))) (by decide +kernel))
set_option maxRecDepth 20000 in
theorem gX8_addZone_X8_requireSlew : GoodIn wsX8_addZone (va_wsS RX8 90 yX8_requireSlew wsX8_requireSlew) := goodIn_app (goodIn_of _ (by decide +kernel)) ggX8_addZone_X8_requireSlew
set_option maxRecDepth 20000 in
theorem ggX8_addZone_X8_requireArgument : GoodIn wsX8_addZone wsX8_requireArgument := goodIn_ca (goodIn_r _ [10, 11, 12] (by decide +kernel) (by decide +kernel)) (goodIn_sub (fun _ h => List.mem_cons_of_mem _ (List.mem_append_left _ (List.mem_append_right _ h))) (by decide +kernel))
set_option maxRecDepth 20000 in
theorem gX8_addZone_X8_requireArgument : GoodIn wsX8_addZone (va_wsS RX8 51 yX8_requireArgument wsX8_requireArgument) := goodIn_app (goodIn_of _ (by decide +kernel)) ggX8_addZone_X8_requireArgument
set_option maxRecDepth 20000 in
theorem ggX8_addZone_X8_requireState : GoodIn wsX8_addZone wsX8_requireState := goodIn_ca (goodIn_r _ [15, 16, 17] (by decide +kernel) (by decide +kernel)) (goodIn_sub (fun _ h => List.mem_cons_of_mem _ (List.mem_append_right _ h)) (by decide +kernel))
set_option maxRecDepth 20000 in
theorem gX8_addZone_X8_requireState : GoodIn wsX8_addZone (va_wsS RX8 104 yX8_requireState wsX8_requireState) := goodIn_app (goodIn_of _ (by decide +kernel)) ggX8_addZone_X8_requireState
set_option maxRecDepth 20000 in
theorem ggX8_addZone_X8_save : GoodIn wsX8_addZone wsX8_save := goodIn_r _ [21, 22, 23, 24, 25, 26, 1, 27, 28, 29, 30, 31, 32, 33, 34, 35, 36, 37, 38, 39, 40, 41, 42, 43, 44, 45, 46, 47, 48, 49, 50, 51, 52, 53, 54, 55, 56, 57, 58, 59, 60, 61, 62, 63, 64, 65, 66, 67, 68, 69, 70, 71, 72, 73, 74, 75, 76, 77, 78, 79, 80, 81, 82, 83, 84, 85, 86, 87, 88, 89, 90, 91, 92, 93, 94, 95, 96, 97, 98, 99, 100, 101, 102, 103, 104, 105, 106, 107, 108, 109, 110, 111, 112, 113, 114, 115, 116, 117, 118, 119, 120, 121, 122, 123, 124, 125, 126, 127, 128, 133, 134, 135, 136, 137, 138, 139, 140, 141, 142, 143, 144, 145, 146, 147, 148, 149, 150, 153, 154, 155, 156, 157, 158, 159, 160, 161, 162, 163, 151, 152, 164, 165, 166, 167, 168, 169, 170, 171] (by decide +kernel) (by decide +kernel)
set_option maxRecDepth 20000 in
theorem gX8_addZone_X8_save : GoodIn wsX8_addZone (wsV RX8 55 RX8 yX8_save wsX8_save) := goodIn_app (goodIn_of _ (by decide +kernel)) ggX8_addZone_X8_save
set_option maxRecDepth 20000 in
theorem ggX8_addZone_X7_add : GoodIn wsX8_addZone wsX7_add := goodIn_r _ [132, 116, 73, 151, 152] (by decide +kernel) (by decide +kernel)
set_option maxRecDepth 20000 in
theorem gX8_addZone_X7_add : GoodIn wsX8_addZone (wsV RX8 108 RX7 yX7_add wsX7_add) := goodIn_app (goodIn_of _ (by decide +kernel)) ggX8_addZone_X7_add
theorem dX8_addZone_0 : decode cX8_addZone 0 = .ok (.iload_n 1, 1) := by decide +kernel
theorem dX8_addZone_1 : decode cX8_addZone 1 = .ok (.invokestatic 90, 3) := by decide +kernel
theorem dX8_addZone_4 : decode cX8_addZone 4 = .ok (.iload_n 2, 1) := by decide +kernel
theorem dX8_addZone_5 : decode cX8_addZone 5 = .ok (.invokestatic 90, 3) := by decide +kernel
theorem dX8_addZone_8 : decode cX8_addZone 8 = .ok (.iload_n 3, 1) := by decide +kernel
theorem dX8_addZone_9 : decode cX8_addZone 9 = .ok (.iconst 0, 1) := by decide +kernel
theorem dX8_addZone_10 : decode cX8_addZone 10 = .ok (.sipush 10000, 3) := by decide +kernel
theorem dX8_addZone_13 : decode cX8_addZone 13 = .ok (.invokestatic 51, 3) := by decide +kernel
theorem dX8_addZone_16 : decode cX8_addZone 16 = .ok (.iload 4, 2) := by decide +kernel
theorem dX8_addZone_18 : decode cX8_addZone 18 = .ok (.iconst 0, 1) := by decide +kernel
theorem dX8_addZone_19 : decode cX8_addZone 19 = .ok (.sipush 10000, 3) := by decide +kernel
theorem dX8_addZone_22 : decode cX8_addZone 22 = .ok (.invokestatic 51, 3) := by decide +kernel
theorem dX8_addZone_25 : decode cX8_addZone 25 = .ok (.aload_n 0, 1) := by decide +kernel
theorem dX8_addZone_26 : decode cX8_addZone 26 = .ok (.getfield 10, 3) := by decide +kernel
theorem dX8_addZone_29 : decode cX8_addZone 29 = .ok (.getfield 94, 3) := by decide +kernel
theorem dX8_addZone_32 : decode cX8_addZone 32 = .ok (.getfield 98, 3) := by decide +kernel
theorem dX8_addZone_35 : decode cX8_addZone 35 = .ok (.bipush 6, 2) := by decide +kernel
theorem dX8_addZone_37 : decode cX8_addZone 37 = .ok (.if_icmp .ge 7, 3) := by decide +kernel
theorem dX8_addZone_40 : decode cX8_addZone 40 = .ok (.iconst 1, 1) := by decide +kernel
theorem dX8_addZone_41 : decode cX8_addZone 41 = .ok (.goto 4, 3) := by decide +kernel
theorem dX8_addZone_44 : decode cX8_addZone 44 = .ok (.iconst 0, 1) := by decide +kernel
theorem dX8_addZone_45 : decode cX8_addZone 45 = .ok (.invokestatic 104, 3) := by decide +kernel
theorem dX8_addZone_48 : decode cX8_addZone 48 = .ok (.aload_n 0, 1) := by decide +kernel
theorem dX8_addZone_49 : decode cX8_addZone 49 = .ok (.invokevirtual 55, 3) := by decide +kernel
theorem dX8_addZone_52 : decode cX8_addZone 52 = .ok (.aload_n 0, 1) := by decide +kernel
theorem dX8_addZone_53 : decode cX8_addZone 53 = .ok (.getfield 10, 3) := by decide +kernel
theorem dX8_addZone_56 : decode cX8_addZone 56 = .ok (.getfield 94, 3) := by decide +kernel
theorem dX8_addZone_59 : decode cX8_addZone 59 = .ok (.iload_n 1, 1) := by decide +kernel
theorem dX8_addZone_60 : decode cX8_addZone 60 = .ok (.iload_n 2, 1) := by decide +kernel
theorem dX8_addZone_61 : decode cX8_addZone 61 = .ok (.iload_n 3, 1) := by decide +kernel
theorem dX8_addZone_62 : decode cX8_addZone 62 = .ok (.iload 4, 2) := by decide +kernel
theorem dX8_addZone_64 : decode cX8_addZone 64 = .ok (.invokevirtual 108, 3) := by decide +kernel
theorem dX8_addZone_67 : decode cX8_addZone 67 = .ok (.aload_n 0, 1) := by decide +kernel
theorem dX8_addZone_68 : decode cX8_addZone 68 = .ok (.getfield 10, 3) := by decide +kernel
theorem dX8_addZone_71 : decode cX8_addZone 71 = .ok (.getfield 94, 3) := by decide +kernel
theorem dX8_addZone_74 : decode cX8_addZone 74 = .ok (.getfield 98, 3) := by decide +kernel
theorem dX8_addZone_77 : decode cX8_addZone 77 = .ok (.ireturn, 1) := by decide +kernel
set_option maxRecDepth 20000 in
theorem ggX8_removeZone_X8_requireIndex : GoodIn wsX8_removeZone wsX8_requireIndex := goodIn_ca (goodIn_r _ [7, 8, 9] (by decide +kernel) (by decide +kernel)) (goodIn_sub (fun _ h => List.mem_cons_of_mem _ (List.mem_append_right _ h)) (by decide +kernel))
set_option maxRecDepth 20000 in
theorem gX8_removeZone_X8_requireIndex : GoodIn wsX8_removeZone (va_wsS RX8 47 yX8_requireIndex wsX8_requireIndex) := goodIn_app (goodIn_of _ (by decide +kernel)) ggX8_removeZone_X8_requireIndex
set_option maxRecDepth 20000 in
theorem ggX8_removeZone_X8_save : GoodIn wsX8_removeZone wsX8_save := goodIn_r _ [13, 14, 15, 16, 17, 18, 1, 19, 20, 21, 22, 23, 24, 25, 26, 27, 28, 29, 30, 31, 32, 33, 34, 35, 36, 37, 38, 39, 40, 41, 42, 43, 44, 45, 46, 47, 48, 49, 50, 51, 52, 53, 54, 55, 56, 57, 58, 59, 60, 61, 62, 63, 64, 65, 66, 67, 68, 69, 70, 71, 72, 73, 74, 75, 76, 77, 78, 79, 80, 81, 82, 83, 84, 85, 86, 87, 88, 89, 90, 91, 92, 93, 94, 95, 96, 97, 98, 99, 100, 101, 102, 103, 104, 105, 106, 107, 108, 109, 110, 111, 112, 113, 114, 115, 116, 117, 118, 119, 120, 125, 126, 127, 128, 129, 130, 131, 132, 133, 134, 135, 136, 137, 138, 139, 140, 141, 142, 145, 146, 147, 148, 149, 150, 151, 152, 153, 154, 155, 143, 144, 156, 157, 158, 159, 160, 161, 162, 163] (by decide +kernel) (by decide +kernel)
set_option maxRecDepth 20000 in
theorem gX8_removeZone_X8_save : GoodIn wsX8_removeZone (wsV RX8 55 RX8 yX8_save wsX8_save) := goodIn_app (goodIn_of _ (by decide +kernel)) ggX8_removeZone_X8_save
set_option maxRecDepth 20000 in
theorem ggX8_removeZone_X7_remove : GoodIn wsX8_removeZone wsX7_remove := goodIn_r _ [124, 108, 65, 143, 144] (by decide +kernel) (by decide +kernel)
set_option maxRecDepth 20000 in
theorem gX8_removeZone_X7_remove : GoodIn wsX8_removeZone (wsV RX8 111 RX7 yX7_remove wsX7_remove) := goodIn_app (goodIn_of _ (by decide +kernel)) ggX8_removeZone_X7_remove
theorem dX8_removeZone_0 : decode cX8_removeZone 0 = .ok (.iload_n 1, 1) := by decide +kernel
theorem dX8_removeZone_1 : decode cX8_removeZone 1 = .ok (.aload_n 0, 1) := by decide +kernel
theorem dX8_removeZone_2 : decode cX8_removeZone 2 = .ok (.getfield 10, 3) := by decide +kernel
theorem dX8_removeZone_5 : decode cX8_removeZone 5 = .ok (.getfield 94, 3) := by decide +kernel
theorem dX8_removeZone_8 : decode cX8_removeZone 8 = .ok (.getfield 98, 3) := by decide +kernel
theorem dX8_removeZone_11 : decode cX8_removeZone 11 = .ok (.invokestatic 47, 3) := by decide +kernel
theorem dX8_removeZone_14 : decode cX8_removeZone 14 = .ok (.aload_n 0, 1) := by decide +kernel
theorem dX8_removeZone_15 : decode cX8_removeZone 15 = .ok (.invokevirtual 55, 3) := by decide +kernel
theorem dX8_removeZone_18 : decode cX8_removeZone 18 = .ok (.aload_n 0, 1) := by decide +kernel
theorem dX8_removeZone_19 : decode cX8_removeZone 19 = .ok (.getfield 10, 3) := by decide +kernel
theorem dX8_removeZone_22 : decode cX8_removeZone 22 = .ok (.getfield 94, 3) := by decide +kernel
theorem dX8_removeZone_25 : decode cX8_removeZone 25 = .ok (.iload_n 1, 1) := by decide +kernel
theorem dX8_removeZone_26 : decode cX8_removeZone 26 = .ok (.invokevirtual 111, 3) := by decide +kernel
theorem dX8_removeZone_29 : decode cX8_removeZone 29 = .ok (.aload_n 0, 1) := by decide +kernel
theorem dX8_removeZone_30 : decode cX8_removeZone 30 = .ok (.getfield 10, 3) := by decide +kernel
theorem dX8_removeZone_33 : decode cX8_removeZone 33 = .ok (.getfield 94, 3) := by decide +kernel
theorem dX8_removeZone_36 : decode cX8_removeZone 36 = .ok (.getfield 98, 3) := by decide +kernel
theorem dX8_removeZone_39 : decode cX8_removeZone 39 = .ok (.ireturn, 1) := by decide +kernel
set_option maxRecDepth 20000 in
theorem ggX8_setBoom_X8_requirePosition : GoodIn wsX8_setBoom wsX8_requirePosition := goodIn_ca (goodIn_r _ [8, 9, 10, 7, 11, 12, 13, 14, 15, 16] (by decide +kernel) (by decide +kernel)) (goodIn_sub (fun _ h => List.mem_cons_of_mem _ (List.mem_append_left _ (List.mem_append_right _ h))) (by decide +kernel))
set_option maxRecDepth 20000 in
theorem gX8_setBoom_X8_requirePosition : GoodIn wsX8_setBoom (va_wsS RX8 114 yX8_requirePosition wsX8_requirePosition) := goodIn_app (goodIn_of _ (by decide +kernel)) ggX8_setBoom_X8_requirePosition
set_option maxRecDepth 20000 in
theorem ggX8_setBoom_X8_requireState : GoodIn wsX8_setBoom wsX8_requireState := goodIn_ca (goodIn_r _ [19, 20, 21] (by decide +kernel) (by decide +kernel)) (goodIn_sub (fun _ h => List.mem_cons_of_mem _ (List.mem_append_right _ h)) (by decide +kernel))
set_option maxRecDepth 20000 in
theorem gX8_setBoom_X8_requireState : GoodIn wsX8_setBoom (va_wsS RX8 104 yX8_requireState wsX8_requireState) := goodIn_app (goodIn_of _ (by decide +kernel)) ggX8_setBoom_X8_requireState
set_option maxRecDepth 20000 in
theorem ggX8_setBoom_X8_save : GoodIn wsX8_setBoom wsX8_save := goodIn_r _ [25, 26, 27, 28, 29, 30, 1, 31, 32, 33, 34, 35, 36, 37, 38, 39, 40, 41, 42, 43, 44, 45, 46, 47, 48, 49, 50, 51, 52, 53, 54, 55, 56, 57, 58, 59, 60, 61, 62, 63, 64, 65, 66, 67, 68, 69, 70, 71, 72, 73, 74, 75, 76, 77, 78, 79, 80, 81, 82, 83, 84, 85, 86, 87, 88, 89, 90, 91, 92, 93, 94, 95, 96, 97, 98, 99, 100, 101, 102, 103, 104, 105, 106, 107, 108, 109, 110, 111, 112, 113, 114, 115, 116, 117, 118, 119, 120, 121, 122, 123, 124, 125, 126, 127, 128, 129, 130, 131, 132, 160, 161, 162, 163, 164, 165, 166, 167, 168, 169, 170, 171, 172, 173, 174, 175, 176, 177, 178, 179, 180, 181, 182, 183, 184, 185, 186, 187, 188, 189, 190, 191, 192, 193, 194, 195, 196, 197, 198] (by decide +kernel) (by decide +kernel)
set_option maxRecDepth 20000 in
theorem gX8_setBoom_X8_save : GoodIn wsX8_setBoom (wsV RX8 55 RX8 yX8_save wsX8_save) := goodIn_app (goodIn_of _ (by decide +kernel)) ggX8_setBoom_X8_save
set_option maxRecDepth 20000 in
theorem ggX8_setBoom_X0_place : GoodIn wsX8_setBoom wsX0_place := goodIn_r _ [136, 64, 65, 102, 103, 178, 179, 180, 181, 182, 183, 184] (by decide +kernel) (by decide +kernel)
set_option maxRecDepth 20000 in
theorem gX8_setBoom_X0_place : GoodIn wsX8_setBoom (wsV RX8 123 RX0 yX0_place wsX0_place) := goodIn_app (goodIn_of _ (by decide +kernel)) ggX8_setBoom_X0_place
set_option maxRecDepth 20000 in
theorem ggX8_setBoom_X7_violation : GoodIn wsX8_setBoom wsX7_violation := goodIn_r _ [140, 120, 77, 141, 142, 143, 34, 144, 145, 146, 147, 43, 148, 64, 65, 149, 150, 151, 152, 153, 154, 155, 156, 157, 158, 7, 159, 189, 190, 178, 179, 180, 181, 182, 183, 184] (by decide +kernel) (by decide +kernel)
set_option maxRecDepth 20000 in
theorem gX8_setBoom_X7_violation : GoodIn wsX8_setBoom (wsV RX8 126 RX7 yX7_violation wsX7_violation) := goodIn_app (goodIn_of _ (by decide +kernel)) ggX8_setBoom_X7_violation
theorem dX8_setBoom_0 : decode cX8_setBoom 0 = .ok (.iload_n 1, 1) := by decide +kernel
theorem dX8_setBoom_1 : decode cX8_setBoom 1 = .ok (.iload_n 2, 1) := by decide +kernel
theorem dX8_setBoom_2 : decode cX8_setBoom 2 = .ok (.iload_n 3, 1) := by decide +kernel
theorem dX8_setBoom_3 : decode cX8_setBoom 3 = .ok (.invokestatic 114, 3) := by decide +kernel
theorem dX8_setBoom_6 : decode cX8_setBoom 6 = .ok (.aload_n 0, 1) := by decide +kernel
theorem dX8_setBoom_7 : decode cX8_setBoom 7 = .ok (.getfield 10, 3) := by decide +kernel
theorem dX8_setBoom_10 : decode cX8_setBoom 10 = .ok (.getfield 117, 3) := by decide +kernel
theorem dX8_setBoom_13 : decode cX8_setBoom 13 = .ok (.getfield 120, 3) := by decide +kernel
theorem dX8_setBoom_16 : decode cX8_setBoom 16 = .ok (.ifCond .ne 7, 3) := by decide +kernel
theorem dX8_setBoom_19 : decode cX8_setBoom 19 = .ok (.iconst 1, 1) := by decide +kernel
theorem dX8_setBoom_20 : decode cX8_setBoom 20 = .ok (.goto 4, 3) := by decide +kernel
theorem dX8_setBoom_23 : decode cX8_setBoom 23 = .ok (.iconst 0, 1) := by decide +kernel
theorem dX8_setBoom_24 : decode cX8_setBoom 24 = .ok (.invokestatic 104, 3) := by decide +kernel
theorem dX8_setBoom_27 : decode cX8_setBoom 27 = .ok (.aload_n 0, 1) := by decide +kernel
theorem dX8_setBoom_28 : decode cX8_setBoom 28 = .ok (.invokevirtual 55, 3) := by decide +kernel
theorem dX8_setBoom_31 : decode cX8_setBoom 31 = .ok (.aload_n 0, 1) := by decide +kernel
theorem dX8_setBoom_32 : decode cX8_setBoom 32 = .ok (.getfield 10, 3) := by decide +kernel
theorem dX8_setBoom_35 : decode cX8_setBoom 35 = .ok (.getfield 117, 3) := by decide +kernel
theorem dX8_setBoom_38 : decode cX8_setBoom 38 = .ok (.iload_n 1, 1) := by decide +kernel
theorem dX8_setBoom_39 : decode cX8_setBoom 39 = .ok (.iload_n 2, 1) := by decide +kernel
theorem dX8_setBoom_40 : decode cX8_setBoom 40 = .ok (.iload_n 3, 1) := by decide +kernel
theorem dX8_setBoom_41 : decode cX8_setBoom 41 = .ok (.invokevirtual 123, 3) := by decide +kernel
theorem dX8_setBoom_44 : decode cX8_setBoom 44 = .ok (.aload_n 0, 1) := by decide +kernel
theorem dX8_setBoom_45 : decode cX8_setBoom 45 = .ok (.getfield 10, 3) := by decide +kernel
theorem dX8_setBoom_48 : decode cX8_setBoom 48 = .ok (.getfield 94, 3) := by decide +kernel
theorem dX8_setBoom_51 : decode cX8_setBoom 51 = .ok (.aload_n 0, 1) := by decide +kernel
theorem dX8_setBoom_52 : decode cX8_setBoom 52 = .ok (.getfield 10, 3) := by decide +kernel
theorem dX8_setBoom_55 : decode cX8_setBoom 55 = .ok (.getfield 117, 3) := by decide +kernel
theorem dX8_setBoom_58 : decode cX8_setBoom 58 = .ok (.invokevirtual 126, 3) := by decide +kernel
theorem dX8_setBoom_61 : decode cX8_setBoom 61 = .ok (.ireturn, 1) := by decide +kernel
set_option maxRecDepth 20000 in
theorem ggX8_wind_X8_requireArgument : GoodIn wsX8_wind wsX8_requireArgument := goodIn_ca (goodIn_r _ [6, 7, 8] (by decide +kernel) (by decide +kernel)) (goodIn_sub (fun _ h => List.mem_cons_of_mem _ (List.mem_append_right _ h)) (by decide +kernel))
set_option maxRecDepth 20000 in
theorem gX8_wind_X8_requireArgument : GoodIn wsX8_wind (va_wsS RX8 51 yX8_requireArgument wsX8_requireArgument) := goodIn_app (goodIn_of _ (by decide +kernel)) ggX8_wind_X8_requireArgument
set_option maxRecDepth 20000 in
theorem ggX8_wind_X8_save : GoodIn wsX8_wind wsX8_save := goodIn_r _ [12, 13, 14, 15, 16, 17, 1, 18, 19, 20, 21, 22, 23, 24, 25, 26, 27, 28, 29, 30, 31, 32, 33, 34, 35, 36, 37, 38, 39, 40, 41, 42, 43, 44, 45, 46, 47, 48, 49, 50, 51, 52, 53, 54, 55, 56, 57, 58, 59, 60, 61, 62, 63, 64, 65, 66, 67, 68, 69, 70, 71, 72, 73, 74, 75, 76, 77, 78, 79, 80, 81, 82, 83, 84, 85, 86, 87, 88, 89, 90, 91, 92, 93, 94, 95, 96, 97, 98, 99, 100, 101, 102, 103, 104, 105, 106, 107, 108, 109, 110, 111, 112, 113, 114, 115, 116, 117, 118, 119, 128, 129, 130, 131, 132, 133, 134, 135, 136, 137, 138, 139, 140, 141, 142, 143, 144, 145, 146, 147, 148, 149, 150, 151, 152, 153, 154, 155, 156, 157, 158, 159, 160, 161, 162, 163, 164, 165, 166] (by decide +kernel) (by decide +kernel)
set_option maxRecDepth 20000 in
theorem gX8_wind_X8_save : GoodIn wsX8_wind (wsV RX8 55 RX8 yX8_save wsX8_save) := goodIn_app (goodIn_of _ (by decide +kernel)) ggX8_wind_X8_save
set_option maxRecDepth 20000 in
theorem ggX8_wind_X1_takeSample : GoodIn wsX8_wind wsX1_takeSample := goodIn_r _ [123, 60, 153, 154, 155, 156] (by decide +kernel) (by decide +kernel)
set_option maxRecDepth 20000 in
theorem gX8_wind_X1_takeSample : GoodIn wsX8_wind (wsV RX8 130 RX1 yX1_takeSample wsX1_takeSample) := goodIn_app (goodIn_of _ (by decide +kernel)) ggX8_wind_X1_takeSample
set_option maxRecDepth 20000 in
theorem ggX8_wind_X1_windSpeed : GoodIn wsX8_wind wsX1_windSpeed := goodIn_r _ [127, 60, 153, 154, 155, 156] (by decide +kernel) (by decide +kernel)
set_option maxRecDepth 20000 in
theorem gX8_wind_X1_windSpeed : GoodIn wsX8_wind (wsV RX8 133 RX1 yX1_windSpeed wsX1_windSpeed) := goodIn_app (goodIn_of _ (by decide +kernel)) ggX8_wind_X1_windSpeed
theorem dX8_wind_0 : decode cX8_wind 0 = .ok (.iload_n 1, 1) := by decide +kernel
theorem dX8_wind_1 : decode cX8_wind 1 = .ok (.iconst 0, 1) := by decide +kernel
theorem dX8_wind_2 : decode cX8_wind 2 = .ok (.sipush 1000, 3) := by decide +kernel
theorem dX8_wind_5 : decode cX8_wind 5 = .ok (.invokestatic 51, 3) := by decide +kernel
theorem dX8_wind_8 : decode cX8_wind 8 = .ok (.aload_n 0, 1) := by decide +kernel
theorem dX8_wind_9 : decode cX8_wind 9 = .ok (.invokevirtual 55, 3) := by decide +kernel
theorem dX8_wind_12 : decode cX8_wind 12 = .ok (.aload_n 0, 1) := by decide +kernel
theorem dX8_wind_13 : decode cX8_wind 13 = .ok (.getfield 10, 3) := by decide +kernel
theorem dX8_wind_16 : decode cX8_wind 16 = .ok (.getfield 58, 3) := by decide +kernel
theorem dX8_wind_19 : decode cX8_wind 19 = .ok (.iload_n 1, 1) := by decide +kernel
theorem dX8_wind_20 : decode cX8_wind 20 = .ok (.invokevirtual 130, 3) := by decide +kernel
theorem dX8_wind_23 : decode cX8_wind 23 = .ok (.aload_n 0, 1) := by decide +kernel
theorem dX8_wind_24 : decode cX8_wind 24 = .ok (.getfield 10, 3) := by decide +kernel
theorem dX8_wind_27 : decode cX8_wind 27 = .ok (.getfield 58, 3) := by decide +kernel
theorem dX8_wind_30 : decode cX8_wind 30 = .ok (.invokevirtual 133, 3) := by decide +kernel
theorem dX8_wind_33 : decode cX8_wind 33 = .ok (.ireturn, 1) := by decide +kernel
set_option maxRecDepth 20000 in
theorem ggX8_attach_X8_requireArgument : GoodIn wsX8_attach wsX8_requireArgument := goodIn_ca (goodIn_r _ [10, 11, 12] (by decide +kernel) (by decide +kernel)) (goodIn_sub (fun _ h => List.mem_cons_of_mem _ (List.mem_append_left _ (List.mem_append_right _ h))) (by decide +kernel))
set_option maxRecDepth 20000 in
theorem gX8_attach_X8_requireArgument : GoodIn wsX8_attach (va_wsS RX8 51 yX8_requireArgument wsX8_requireArgument) := goodIn_app (goodIn_of _ (by decide +kernel)) ggX8_attach_X8_requireArgument
set_option maxRecDepth 20000 in
theorem ggX8_attach_X8_requireState : GoodIn wsX8_attach wsX8_requireState := goodIn_ca (goodIn_r _ [15, 16, 17] (by decide +kernel) (by decide +kernel)) (goodIn_sub (fun _ h => List.mem_cons_of_mem _ (List.mem_append_right _ h)) (by decide +kernel))
set_option maxRecDepth 20000 in
theorem gX8_attach_X8_requireState : GoodIn wsX8_attach (va_wsS RX8 104 yX8_requireState wsX8_requireState) := goodIn_app (goodIn_of _ (by decide +kernel)) ggX8_attach_X8_requireState
set_option maxRecDepth 20000 in
theorem ggX8_attach_X8_save : GoodIn wsX8_attach wsX8_save := goodIn_r _ [21, 22, 23, 24, 25, 26, 2, 27, 28, 29, 30, 31, 32, 33, 34, 35, 36, 37, 38, 39, 40, 41, 42, 43, 44, 45, 46, 47, 48, 49, 50, 51, 52, 53, 54, 55, 56, 57, 58, 59, 60, 61, 62, 63, 64, 65, 66, 67, 68, 69, 70, 71, 72, 73, 74, 75, 76, 77, 78, 79, 80, 81, 82, 83, 84, 85, 86, 87, 88, 89, 90, 91, 92, 93, 94, 95, 96, 97, 98, 99, 100, 101, 102, 103, 104, 105, 106, 107, 108, 109, 110, 111, 112, 113, 114, 115, 116, 117, 118, 119, 120, 121, 122, 123, 124, 125, 126, 127, 128, 129, 130, 131, 132, 133, 134, 135, 136, 137, 138, 139, 140, 141, 142, 143, 144, 145, 146, 147, 148, 149, 150, 151, 152, 153, 154, 155, 156, 157, 158, 159, 160, 161, 162, 163, 164, 165, 166, 167] (by decide +kernel) (by decide +kernel)
set_option maxRecDepth 20000 in
theorem gX8_attach_X8_save : GoodIn wsX8_attach (wsV RX8 55 RX8 yX8_save wsX8_save) := goodIn_app (goodIn_of _ (by decide +kernel)) ggX8_attach_X8_save
theorem dX8_attach_0 : decode cX8_attach 0 = .ok (.iload_n 1, 1) := by decide +kernel
theorem dX8_attach_1 : decode cX8_attach 1 = .ok (.iconst 0, 1) := by decide +kernel
theorem dX8_attach_2 : decode cX8_attach 2 = .ok (.ldc 73, 2) := by decide +kernel
theorem dX8_attach_4 : decode cX8_attach 4 = .ok (.invokestatic 51, 3) := by decide +kernel
theorem dX8_attach_7 : decode cX8_attach 7 = .ok (.aload_n 0, 1) := by decide +kernel
theorem dX8_attach_8 : decode cX8_attach 8 = .ok (.getfield 10, 3) := by decide +kernel
theorem dX8_attach_11 : decode cX8_attach 11 = .ok (.getfield 117, 3) := by decide +kernel
theorem dX8_attach_14 : decode cX8_attach 14 = .ok (.getfield 120, 3) := by decide +kernel
theorem dX8_attach_17 : decode cX8_attach 17 = .ok (.ifCond .ne 20, 3) := by decide +kernel
theorem dX8_attach_20 : decode cX8_attach 20 = .ok (.aload_n 0, 1) := by decide +kernel
theorem dX8_attach_21 : decode cX8_attach 21 = .ok (.getfield 10, 3) := by decide +kernel
theorem dX8_attach_24 : decode cX8_attach 24 = .ok (.getfield 117, 3) := by decide +kernel
theorem dX8_attach_27 : decode cX8_attach 27 = .ok (.getfield 137, 3) := by decide +kernel
theorem dX8_attach_30 : decode cX8_attach 30 = .ok (.ifCond .ne 7, 3) := by decide +kernel
theorem dX8_attach_33 : decode cX8_attach 33 = .ok (.iconst 1, 1) := by decide +kernel
theorem dX8_attach_34 : decode cX8_attach 34 = .ok (.goto 4, 3) := by decide +kernel
theorem dX8_attach_37 : decode cX8_attach 37 = .ok (.iconst 0, 1) := by decide +kernel
theorem dX8_attach_38 : decode cX8_attach 38 = .ok (.invokestatic 104, 3) := by decide +kernel
theorem dX8_attach_41 : decode cX8_attach 41 = .ok (.aload_n 0, 1) := by decide +kernel
theorem dX8_attach_42 : decode cX8_attach 42 = .ok (.invokevirtual 55, 3) := by decide +kernel
theorem dX8_attach_45 : decode cX8_attach 45 = .ok (.aload_n 0, 1) := by decide +kernel
theorem dX8_attach_46 : decode cX8_attach 46 = .ok (.getfield 10, 3) := by decide +kernel
theorem dX8_attach_49 : decode cX8_attach 49 = .ok (.getfield 117, 3) := by decide +kernel
theorem dX8_attach_52 : decode cX8_attach 52 = .ok (.getfield 140, 3) := by decide +kernel
theorem dX8_attach_55 : decode cX8_attach 55 = .ok (.istore_n 2, 1) := by decide +kernel
theorem dX8_attach_56 : decode cX8_attach 56 = .ok (.aload_n 0, 1) := by decide +kernel
theorem dX8_attach_57 : decode cX8_attach 57 = .ok (.getfield 10, 3) := by decide +kernel
theorem dX8_attach_60 : decode cX8_attach 60 = .ok (.getfield 117, 3) := by decide +kernel
theorem dX8_attach_63 : decode cX8_attach 63 = .ok (.iload_n 1, 1) := by decide +kernel
theorem dX8_attach_64 : decode cX8_attach 64 = .ok (.putfield 140, 3) := by decide +kernel
theorem dX8_attach_67 : decode cX8_attach 67 = .ok (.iload_n 2, 1) := by decide +kernel
theorem dX8_attach_68 : decode cX8_attach 68 = .ok (.ireturn, 1) := by decide +kernel
set_option maxRecDepth 20000 in
theorem ggX8_setTare_X8_requireArgument : GoodIn wsX8_setTare wsX8_requireArgument := goodIn_ca (goodIn_r _ [7, 8, 9] (by decide +kernel) (by decide +kernel)) (goodIn_sub (fun _ h => List.mem_cons_of_mem _ (List.mem_append_right _ h)) (by decide +kernel))
set_option maxRecDepth 20000 in
theorem gX8_setTare_X8_requireArgument : GoodIn wsX8_setTare (va_wsS RX8 51 yX8_requireArgument wsX8_requireArgument) := goodIn_app (goodIn_of _ (by decide +kernel)) ggX8_setTare_X8_requireArgument
set_option maxRecDepth 20000 in
theorem ggX8_setTare_X8_save : GoodIn wsX8_setTare wsX8_save := goodIn_r _ [13, 14, 15, 16, 17, 18, 1, 19, 20, 21, 22, 23, 24, 25, 26, 27, 28, 29, 30, 31, 32, 33, 34, 35, 36, 37, 38, 39, 40, 41, 42, 43, 44, 45, 46, 47, 48, 49, 50, 51, 52, 53, 54, 55, 56, 57, 58, 59, 60, 61, 62, 63, 64, 65, 66, 67, 68, 69, 70, 71, 72, 73, 74, 75, 76, 77, 78, 79, 80, 81, 82, 83, 84, 85, 86, 87, 88, 89, 90, 91, 92, 93, 94, 95, 96, 97, 98, 99, 100, 101, 102, 103, 104, 105, 106, 107, 108, 109, 110, 111, 112, 113, 114, 115, 116, 117, 118, 119, 120, 121, 122, 123, 124, 125, 126, 127, 128, 129, 130, 131, 132, 133, 134, 135, 136, 137, 138, 139, 140, 141, 142, 143, 144, 145, 146, 147, 148, 149, 150, 151, 152, 153, 154, 155, 156, 157, 158, 159] (by decide +kernel) (by decide +kernel)
set_option maxRecDepth 20000 in
theorem gX8_setTare_X8_save : GoodIn wsX8_setTare (wsV RX8 55 RX8 yX8_save wsX8_save) := goodIn_app (goodIn_of _ (by decide +kernel)) ggX8_setTare_X8_save
theorem dX8_setTare_0 : decode cX8_setTare 0 = .ok (.iload_n 1, 1) := by decide +kernel
theorem dX8_setTare_1 : decode cX8_setTare 1 = .ok (.iconst 0, 1) := by decide +kernel
theorem dX8_setTare_2 : decode cX8_setTare 2 = .ok (.sipush 2000, 3) := by decide +kernel
theorem dX8_setTare_5 : decode cX8_setTare 5 = .ok (.invokestatic 51, 3) := by decide +kernel
theorem dX8_setTare_8 : decode cX8_setTare 8 = .ok (.aload_n 0, 1) := by decide +kernel
theorem dX8_setTare_9 : decode cX8_setTare 9 = .ok (.invokevirtual 55, 3) := by decide +kernel
theorem dX8_setTare_12 : decode cX8_setTare 12 = .ok (.aload_n 0, 1) := by decide +kernel
theorem dX8_setTare_13 : decode cX8_setTare 13 = .ok (.getfield 10, 3) := by decide +kernel
theorem dX8_setTare_16 : decode cX8_setTare 16 = .ok (.getfield 117, 3) := by decide +kernel
theorem dX8_setTare_19 : decode cX8_setTare 19 = .ok (.getfield 143, 3) := by decide +kernel
theorem dX8_setTare_22 : decode cX8_setTare 22 = .ok (.istore_n 2, 1) := by decide +kernel
theorem dX8_setTare_23 : decode cX8_setTare 23 = .ok (.aload_n 0, 1) := by decide +kernel
theorem dX8_setTare_24 : decode cX8_setTare 24 = .ok (.getfield 10, 3) := by decide +kernel
theorem dX8_setTare_27 : decode cX8_setTare 27 = .ok (.getfield 117, 3) := by decide +kernel
theorem dX8_setTare_30 : decode cX8_setTare 30 = .ok (.iload_n 1, 1) := by decide +kernel
theorem dX8_setTare_31 : decode cX8_setTare 31 = .ok (.putfield 143, 3) := by decide +kernel
theorem dX8_setTare_34 : decode cX8_setTare 34 = .ok (.iload_n 2, 1) := by decide +kernel
theorem dX8_setTare_35 : decode cX8_setTare 35 = .ok (.ireturn, 1) := by decide +kernel
set_option maxRecDepth 20000 in
theorem ggX8_bypass_X8_requireArgument : GoodIn wsX8_bypass wsX8_requireArgument := goodIn_ca (goodIn_r _ [6, 7, 8] (by decide +kernel) (by decide +kernel)) (goodIn_sub (fun _ h => List.mem_cons_of_mem _ (List.mem_append_right _ h)) (by decide +kernel))
set_option maxRecDepth 20000 in
theorem gX8_bypass_X8_requireArgument : GoodIn wsX8_bypass (va_wsS RX8 51 yX8_requireArgument wsX8_requireArgument) := goodIn_app (goodIn_of _ (by decide +kernel)) ggX8_bypass_X8_requireArgument
set_option maxRecDepth 20000 in
theorem ggX8_bypass_X8_save : GoodIn wsX8_bypass wsX8_save := goodIn_r _ [12, 13, 14, 15, 16, 17, 1, 18, 19, 20, 21, 22, 23, 24, 25, 26, 27, 28, 29, 30, 31, 32, 33, 34, 35, 36, 37, 38, 39, 40, 41, 42, 43, 44, 45, 46, 47, 48, 49, 50, 51, 52, 53, 54, 55, 56, 57, 58, 59, 60, 61, 62, 63, 64, 65, 66, 67, 68, 69, 70, 71, 72, 73, 74, 75, 76, 77, 78, 79, 80, 81, 82, 83, 84, 85, 86, 87, 88, 89, 90, 91, 92, 93, 94, 95, 96, 97, 98, 99, 100, 101, 102, 103, 104, 105, 106, 107, 108, 109, 110, 111, 112, 113, 114, 115, 116, 117, 118, 119, 120, 121, 122, 123, 124, 125, 126, 127, 128, 129, 130, 131, 132, 133, 134, 135, 136, 137, 138, 139, 140, 141, 142, 143, 144, 145, 146, 147, 148, 149, 150, 151, 152, 153, 154, 155, 156, 157, 158] (by decide +kernel) (by decide +kernel)
set_option maxRecDepth 20000 in
theorem gX8_bypass_X8_save : GoodIn wsX8_bypass (wsV RX8 55 RX8 yX8_save wsX8_save) := goodIn_app (goodIn_of _ (by decide +kernel)) ggX8_bypass_X8_save
theorem dX8_bypass_0 : decode cX8_bypass 0 = .ok (.iload_n 1, 1) := by decide +kernel
theorem dX8_bypass_1 : decode cX8_bypass 1 = .ok (.iconst 0, 1) := by decide +kernel
theorem dX8_bypass_2 : decode cX8_bypass 2 = .ok (.sipush 1000, 3) := by decide +kernel
theorem dX8_bypass_5 : decode cX8_bypass 5 = .ok (.invokestatic 51, 3) := by decide +kernel
theorem dX8_bypass_8 : decode cX8_bypass 8 = .ok (.aload_n 0, 1) := by decide +kernel
theorem dX8_bypass_9 : decode cX8_bypass 9 = .ok (.invokevirtual 55, 3) := by decide +kernel
theorem dX8_bypass_12 : decode cX8_bypass 12 = .ok (.aload_n 0, 1) := by decide +kernel
theorem dX8_bypass_13 : decode cX8_bypass 13 = .ok (.getfield 10, 3) := by decide +kernel
theorem dX8_bypass_16 : decode cX8_bypass 16 = .ok (.getfield 146, 3) := by decide +kernel
theorem dX8_bypass_19 : decode cX8_bypass 19 = .ok (.istore_n 2, 1) := by decide +kernel
theorem dX8_bypass_20 : decode cX8_bypass 20 = .ok (.aload_n 0, 1) := by decide +kernel
theorem dX8_bypass_21 : decode cX8_bypass 21 = .ok (.getfield 10, 3) := by decide +kernel
theorem dX8_bypass_24 : decode cX8_bypass 24 = .ok (.iload_n 1, 1) := by decide +kernel
theorem dX8_bypass_25 : decode cX8_bypass 25 = .ok (.putfield 146, 3) := by decide +kernel
theorem dX8_bypass_28 : decode cX8_bypass 28 = .ok (.iload_n 2, 1) := by decide +kernel
theorem dX8_bypass_29 : decode cX8_bypass 29 = .ok (.ireturn, 1) := by decide +kernel
set_option maxRecDepth 20000 in
theorem ggX8_run_X8_requireArgument : GoodIn wsX8_run wsX8_requireArgument := goodIn_ca (goodIn_r _ [4, 5, 6] (by decide +kernel) (by decide +kernel)) (goodIn_sub (fun _ h => List.mem_cons_of_mem _ (List.mem_append_right _ h)) (by decide +kernel))
set_option maxRecDepth 20000 in
theorem gX8_run_X8_requireArgument : GoodIn wsX8_run (va_wsS RX8 51 yX8_requireArgument wsX8_requireArgument) := goodIn_app (goodIn_of _ (by decide +kernel)) ggX8_run_X8_requireArgument
set_option maxRecDepth 20000 in
theorem ggX8_run_X8_requireNoOpposites : GoodIn wsX8_run wsX8_requireNoOpposites := goodIn_ca (goodIn_r _ [9, 5, 6] (by decide +kernel) (by decide +kernel)) (goodIn_sub (fun _ h => List.mem_cons_of_mem _ (List.mem_append_right _ h)) (by decide +kernel))
set_option maxRecDepth 20000 in
theorem gX8_run_X8_requireNoOpposites : GoodIn wsX8_run (va_wsS RX8 149 yX8_requireNoOpposites wsX8_requireNoOpposites) := goodIn_app (goodIn_of _ (by decide +kernel)) ggX8_run_X8_requireNoOpposites
set_option maxRecDepth 20000 in
theorem ggX8_run_X8_save : GoodIn wsX8_run wsX8_save := goodIn_r _ [13, 14, 15, 16, 17, 18, 19, 20, 21, 22, 23, 24, 25, 26, 27, 28, 29, 30, 31, 32, 33, 34, 35, 36, 37, 38, 39, 40, 41, 42, 43, 44, 45, 46, 47, 48, 49, 50, 51, 52, 53, 54, 55, 56, 57, 58, 59, 60, 61, 62, 63, 64, 65, 66, 67, 68, 69, 70, 71, 72, 73, 74, 75, 76, 77, 78, 79, 80, 81, 82, 83, 84, 85, 86, 87, 88, 89, 90, 91, 92, 93, 94, 95, 96, 97, 98, 99, 100, 101, 102, 103, 104, 105, 106, 107, 108, 109, 110, 111, 112, 113, 114, 115, 116, 117, 118, 119, 120, 121, 314, 315, 316, 317, 318, 319, 320, 321, 322, 323, 324, 325, 326, 327, 328, 329, 330, 331, 332, 333, 334, 335, 336, 337, 338, 339, 340, 341, 342, 343, 344, 345, 346, 347, 348, 349, 350, 351, 352] (by decide +kernel) (by decide +kernel)
set_option maxRecDepth 20000 in
theorem gX8_run_X8_save : GoodIn wsX8_run (wsV RX8 55 RX8 yX8_save wsX8_save) := goodIn_app (goodIn_of _ (by decide +kernel)) ggX8_run_X8_save
set_option maxRecDepth 20000 in
theorem ggX8_run_X8_tick : GoodIn wsX8_run wsX8_tick := goodIn_r _ [125, 19, 126, 127, 128, 129, 130, 131, 132, 133, 134, 135, 3, 136, 137, 138, 139, 140, 141, 142, 32, 143, 92, 93, 54, 53, 144, 145, 146, 147, 94, 148, 149, 150, 151, 152, 153, 154, 155, 156, 157, 158, 159, 160, 161, 162, 163, 88, 89, 90, 91, 55, 164, 165, 166, 167, 168, 169, 170, 171, 172, 22, 23, 24, 173, 174, 175, 176, 177, 178, 179, 180, 181, 182, 183, 184, 185, 186, 40, 187, 109, 66, 188, 189, 190, 191, 192, 193, 194, 195, 196, 197, 198, 199, 200, 201, 202, 203, 204, 205, 206, 207, 208, 209, 210, 211, 212, 213, 214, 215, 216, 217, 218, 219, 220, 221, 222, 223, 224, 225, 226, 227, 228, 229, 230, 231, 232, 233, 234, 235, 236, 237, 238, 36, 239, 240, 241, 242, 243, 103, 61, 244, 245, 246, 247, 248, 249, 250, 251, 252, 253, 254, 255, 256, 257, 60, 258, 259, 260, 261, 262, 263, 264, 265, 62, 266, 267, 268, 269, 270, 271, 272, 273, 274, 275, 276, 44, 277, 116, 70, 71, 72, 115, 278, 279, 280, 281, 282, 283, 284, 285, 286, 287, 288, 289, 290, 291, 292, 293, 294, 295, 296, 18, 297, 49, 83, 33, 298, 45, 84, 299, 300, 301, 48, 302, 76, 303, 304, 305, 306, 78, 307, 308, 309, 310, 311, 312, 77, 313, 314, 315, 316, 317, 318, 319, 320, 321, 322, 323, 324, 325, 326, 327, 328, 329, 330, 331, 332, 333, 334, 335, 336, 337, 338, 343, 344, 353, 354, 355, 356, 339, 340, 341, 342, 345, 346, 347, 348, 349, 350, 351, 352] (by decide +kernel) (by decide +kernel)
set_option maxRecDepth 20000 in
theorem gX8_run_X8_tick : GoodIn wsX8_run (wsV RX8 152 RX8 yX8_tick wsX8_tick) := goodIn_app (goodIn_of _ (by decide +kernel)) ggX8_run_X8_tick
theorem dX8_run_0 : decode cX8_run 0 = .ok (.iload_n 1, 1) := by decide +kernel
theorem dX8_run_1 : decode cX8_run 1 = .ok (.iconst 0, 1) := by decide +kernel
theorem dX8_run_2 : decode cX8_run 2 = .ok (.sipush 255, 3) := by decide +kernel
theorem dX8_run_5 : decode cX8_run 5 = .ok (.invokestatic 51, 3) := by decide +kernel
theorem dX8_run_8 : decode cX8_run 8 = .ok (.iload_n 1, 1) := by decide +kernel
theorem dX8_run_9 : decode cX8_run 9 = .ok (.invokestatic 149, 3) := by decide +kernel
theorem dX8_run_12 : decode cX8_run 12 = .ok (.iload_n 2, 1) := by decide +kernel
theorem dX8_run_13 : decode cX8_run 13 = .ok (.iconst 1, 1) := by decide +kernel
theorem dX8_run_14 : decode cX8_run 14 = .ok (.bipush 100, 2) := by decide +kernel
theorem dX8_run_16 : decode cX8_run 16 = .ok (.invokestatic 51, 3) := by decide +kernel
theorem dX8_run_19 : decode cX8_run 19 = .ok (.aload_n 0, 1) := by decide +kernel
theorem dX8_run_20 : decode cX8_run 20 = .ok (.invokevirtual 55, 3) := by decide +kernel
theorem dX8_run_23 : decode cX8_run 23 = .ok (.iconst 0, 1) := by decide +kernel
theorem dX8_run_24 : decode cX8_run 24 = .ok (.istore_n 3, 1) := by decide +kernel
theorem dX8_run_25 : decode cX8_run 25 = .ok (.iconst 0, 1) := by decide +kernel
theorem dX8_run_26 : decode cX8_run 26 = .ok (.istore 4, 2) := by decide +kernel
theorem dX8_run_28 : decode cX8_run 28 = .ok (.iload 4, 2) := by decide +kernel
theorem dX8_run_30 : decode cX8_run 30 = .ok (.iload_n 2, 1) := by decide +kernel
theorem dX8_run_31 : decode cX8_run 31 = .ok (.if_icmp .ge 20, 3) := by decide +kernel
theorem dX8_run_34 : decode cX8_run 34 = .ok (.aload_n 0, 1) := by decide +kernel
theorem dX8_run_35 : decode cX8_run 35 = .ok (.iload_n 1, 1) := by decide +kernel
theorem dX8_run_36 : decode cX8_run 36 = .ok (.invokevirtual 152, 3) := by decide +kernel
theorem dX8_run_39 : decode cX8_run 39 = .ok (.ifCond .eq 6, 3) := by decide +kernel
theorem dX8_run_42 : decode cX8_run 42 = .ok (.iinc 3 1, 3) := by decide +kernel
theorem dX8_run_45 : decode cX8_run 45 = .ok (.iinc 4 1, 3) := by decide +kernel
theorem dX8_run_48 : decode cX8_run 48 = .ok (.goto (-20), 3) := by decide +kernel
theorem dX8_run_51 : decode cX8_run 51 = .ok (.iload_n 3, 1) := by decide +kernel
theorem dX8_run_52 : decode cX8_run 52 = .ok (.ireturn, 1) := by decide +kernel
set_option maxRecDepth 20000 in
theorem ggX8_permitted_X8_isPermitted : GoodIn wsX8_permitted wsX8_isPermitted := goodIn_r _ [5, 6, 7, 8, 9, 10, 11, 12, 13, 14, 15, 16, 17, 18, 19, 20, 21, 22, 23, 24, 25, 26, 27, 28, 29, 30, 31, 32, 33, 34, 35, 4, 36, 37, 38, 39, 40, 41, 42, 43, 44, 45, 46, 47, 48, 49, 50, 51, 52, 53, 54, 55, 56, 57, 58, 59, 60, 61, 62, 63, 64, 65, 66, 67, 68, 69, 70, 71, 72, 73, 74, 75, 76, 77, 78, 79, 80, 81, 82, 83, 84, 85, 86, 87, 88, 89, 90, 91, 92, 93, 94, 95, 96, 97, 98, 99, 100, 101, 102, 103, 104, 105, 106, 107, 108, 109, 110, 111, 112, 113, 114, 115, 116, 117, 118, 119, 120, 121, 122, 123, 124, 125, 126, 127, 128, 129, 130, 131, 132, 133, 134, 135, 136, 137, 138, 139, 140, 141, 142, 143, 144, 145, 146, 147, 148, 149, 150, 151, 152, 153, 154, 155, 156, 157, 158, 159, 160, 161, 162, 163, 164, 165, 166, 167, 168, 169, 170, 171, 172, 173, 174, 175, 176, 177, 178, 179, 180, 181, 182, 183, 184, 185, 186, 187, 188, 189, 190, 191, 192, 193, 194, 195, 196, 197, 198, 199, 200, 201, 202] (by decide +kernel) (by decide +kernel)
set_option maxRecDepth 20000 in
theorem gX8_permitted_X8_isPermitted : GoodIn wsX8_permitted (wsV RX8 156 RX8 yX8_isPermitted wsX8_isPermitted) := goodIn_app (goodIn_of _ (by decide +kernel)) ggX8_permitted_X8_isPermitted
theorem dX8_permitted_0 : decode cX8_permitted 0 = .ok (.iconst 0, 1) := by decide +kernel
theorem dX8_permitted_1 : decode cX8_permitted 1 = .ok (.istore_n 1, 1) := by decide +kernel
theorem dX8_permitted_2 : decode cX8_permitted 2 = .ok (.iconst 0, 1) := by decide +kernel
theorem dX8_permitted_3 : decode cX8_permitted 3 = .ok (.istore_n 2, 1) := by decide +kernel
theorem dX8_permitted_4 : decode cX8_permitted 4 = .ok (.iload_n 2, 1) := by decide +kernel
theorem dX8_permitted_5 : decode cX8_permitted 5 = .ok (.bipush 8, 2) := by decide +kernel
theorem dX8_permitted_7 : decode cX8_permitted 7 = .ok (.if_icmp .ge 23, 3) := by decide +kernel
theorem dX8_permitted_10 : decode cX8_permitted 10 = .ok (.aload_n 0, 1) := by decide +kernel
theorem dX8_permitted_11 : decode cX8_permitted 11 = .ok (.iload_n 2, 1) := by decide +kernel
theorem dX8_permitted_12 : decode cX8_permitted 12 = .ok (.invokevirtual 156, 3) := by decide +kernel
theorem dX8_permitted_15 : decode cX8_permitted 15 = .ok (.ifCond .eq 9, 3) := by decide +kernel
theorem dX8_permitted_18 : decode cX8_permitted 18 = .ok (.iload_n 1, 1) := by decide +kernel
theorem dX8_permitted_19 : decode cX8_permitted 19 = .ok (.iconst 1, 1) := by decide +kernel
theorem dX8_permitted_20 : decode cX8_permitted 20 = .ok (.iload_n 2, 1) := by decide +kernel
theorem dX8_permitted_21 : decode cX8_permitted 21 = .ok (.ishl, 1) := by decide +kernel
theorem dX8_permitted_22 : decode cX8_permitted 22 = .ok (.ior, 1) := by decide +kernel
theorem dX8_permitted_23 : decode cX8_permitted 23 = .ok (.istore_n 1, 1) := by decide +kernel
theorem dX8_permitted_24 : decode cX8_permitted 24 = .ok (.iinc 2 1, 3) := by decide +kernel
theorem dX8_permitted_27 : decode cX8_permitted 27 = .ok (.goto (-23), 3) := by decide +kernel
theorem dX8_permitted_30 : decode cX8_permitted 30 = .ok (.iload_n 1, 1) := by decide +kernel
theorem dX8_permitted_31 : decode cX8_permitted 31 = .ok (.ireturn, 1) := by decide +kernel
set_option maxRecDepth 20000 in
theorem ggX8_predicted_X8_requireArgument : GoodIn wsX8_predicted wsX8_requireArgument := goodIn_ca (goodIn_r _ [6, 7, 8] (by decide +kernel) (by decide +kernel)) (goodIn_sub (fun _ h => List.mem_cons_of_mem _ (List.mem_append_right _ h)) (by decide +kernel))
set_option maxRecDepth 20000 in
theorem gX8_predicted_X8_requireArgument : GoodIn wsX8_predicted (va_wsS RX8 51 yX8_requireArgument wsX8_requireArgument) := goodIn_app (goodIn_of _ (by decide +kernel)) ggX8_predicted_X8_requireArgument
set_option maxRecDepth 20000 in
theorem ggX8_predicted_X8_tryMotion : GoodIn wsX8_predicted wsX8_tryMotion := goodIn_r _ [12, 1, 13, 14, 15, 16, 17, 18, 19, 20, 21, 22, 23, 24, 25, 26, 27, 28, 29, 5, 30, 31, 32, 33, 34, 35, 36, 37, 38, 39, 40, 41, 42, 43, 44, 45, 46, 47, 48, 49, 50, 51, 52, 53, 54, 55, 56, 57, 58, 59, 60, 61, 62, 150, 151, 152, 153, 154, 155, 156, 157, 158, 166, 167, 168, 169, 170, 171, 172, 173, 174, 159, 160, 161, 162, 163, 164, 165] (by decide +kernel) (by decide +kernel)
set_option maxRecDepth 20000 in
theorem gX8_predicted_X8_tryMotion : GoodIn wsX8_predicted (wsV RX8 159 RX8 yX8_tryMotion wsX8_tryMotion) := goodIn_app (goodIn_of _ (by decide +kernel)) ggX8_predicted_X8_tryMotion
set_option maxRecDepth 20000 in
theorem ggX8_predicted_X8_utilizationAt : GoodIn wsX8_predicted wsX8_utilizationAt := goodIn_r _ [66, 67, 68, 13, 69, 70, 71, 72, 73, 74, 75, 76, 77, 78, 79, 80, 81, 82, 83, 41, 38, 42, 84, 85, 86, 87, 18, 88, 20, 21, 40, 59, 60, 61, 62, 89, 90, 91, 92, 93, 94, 95, 96, 25, 24, 26, 97, 98, 99, 100, 101, 102, 103, 104, 105, 106, 107, 108, 109, 110, 111, 112, 113, 114, 115, 116, 5, 117, 118, 119, 120, 121, 122, 123, 124, 125, 126, 127, 128, 129, 130, 131, 132, 133, 134, 135, 136, 137, 138, 139, 140, 141, 142, 143, 144, 145, 146, 147, 148, 149, 150, 151, 152, 153, 154, 155, 156, 157, 158, 175, 176, 177, 178, 166, 167, 168, 169, 170, 171, 172, 173, 174, 159, 160, 161, 162, 163, 164, 165, 179, 180, 181, 182] (by decide +kernel) (by decide +kernel)
set_option maxRecDepth 20000 in
theorem gX8_predicted_X8_utilizationAt : GoodIn wsX8_predicted (wsV RX8 165 RX8 yX8_utilizationAt wsX8_utilizationAt) := goodIn_app (goodIn_of _ (by decide +kernel)) ggX8_predicted_X8_utilizationAt
theorem dX8_predicted_0 : decode cX8_predicted 0 = .ok (.iload_n 1, 1) := by decide +kernel
theorem dX8_predicted_1 : decode cX8_predicted 1 = .ok (.iconst 0, 1) := by decide +kernel
theorem dX8_predicted_2 : decode cX8_predicted 2 = .ok (.bipush 7, 2) := by decide +kernel
theorem dX8_predicted_4 : decode cX8_predicted 4 = .ok (.invokestatic 51, 3) := by decide +kernel
theorem dX8_predicted_7 : decode cX8_predicted 7 = .ok (.aload_n 0, 1) := by decide +kernel
theorem dX8_predicted_8 : decode cX8_predicted 8 = .ok (.iload_n 1, 1) := by decide +kernel
theorem dX8_predicted_9 : decode cX8_predicted 9 = .ok (.invokevirtual 159, 3) := by decide +kernel
theorem dX8_predicted_12 : decode cX8_predicted 12 = .ok (.aload_n 0, 1) := by decide +kernel
theorem dX8_predicted_13 : decode cX8_predicted 13 = .ok (.aload_n 0, 1) := by decide +kernel
theorem dX8_predicted_14 : decode cX8_predicted 14 = .ok (.getfield 41, 3) := by decide +kernel
theorem dX8_predicted_17 : decode cX8_predicted 17 = .ok (.aload_n 0, 1) := by decide +kernel
theorem dX8_predicted_18 : decode cX8_predicted 18 = .ok (.getfield 41, 3) := by decide +kernel
theorem dX8_predicted_21 : decode cX8_predicted 21 = .ok (.getfield 162, 3) := by decide +kernel
theorem dX8_predicted_24 : decode cX8_predicted 24 = .ok (.invokevirtual 165, 3) := by decide +kernel
theorem dX8_predicted_27 : decode cX8_predicted 27 = .ok (.ireturn, 1) := by decide +kernel
set_option maxRecDepth 20000 in
theorem ggX8_boom_X8_requireArgument : GoodIn wsX8_boom wsX8_requireArgument := goodIn_ca (goodIn_r _ [4, 5, 6] (by decide +kernel) (by decide +kernel)) (goodIn_sub (fun _ h => List.mem_cons_of_mem _ (List.mem_append_right _ h)) (by decide +kernel))
set_option maxRecDepth 20000 in
theorem gX8_boom_X8_requireArgument : GoodIn wsX8_boom (va_wsS RX8 51 yX8_requireArgument wsX8_requireArgument) := goodIn_app (goodIn_of _ (by decide +kernel)) ggX8_boom_X8_requireArgument
set_option maxRecDepth 20000 in
theorem ggX8_boom_X8_boomValue : GoodIn wsX8_boom wsX8_boomValue := goodIn_r _ [10, 11, 12, 13, 14, 15, 16, 17, 18, 19, 20, 21, 22, 23, 24, 25, 26, 27, 28, 29, 30, 31, 32, 33, 34, 35, 36, 37, 38, 39, 40, 41, 42, 43, 44, 45, 46, 47, 48, 49, 50, 51, 52, 53, 54, 55, 56, 57, 58, 59, 60, 61, 62, 63, 64, 65, 66, 67, 68, 69, 70, 71, 72, 73, 74, 75, 76, 77, 78, 79, 80, 81, 82, 83, 84, 85, 86, 87, 3, 88, 89, 90, 91, 92, 93, 94, 95, 96, 97, 98, 99, 100, 101, 102, 103, 104, 105, 106, 107, 108, 109, 110, 111, 112, 113, 114, 115, 116, 117, 118, 119] (by decide +kernel) (by decide +kernel)
set_option maxRecDepth 20000 in
theorem gX8_boom_X8_boomValue : GoodIn wsX8_boom (wsV RX8 169 RX8 yX8_boomValue wsX8_boomValue) := goodIn_app (goodIn_of _ (by decide +kernel)) ggX8_boom_X8_boomValue
theorem dX8_boom_0 : decode cX8_boom 0 = .ok (.iload_n 1, 1) := by decide +kernel
theorem dX8_boom_1 : decode cX8_boom 1 = .ok (.iconst 0, 1) := by decide +kernel
theorem dX8_boom_2 : decode cX8_boom 2 = .ok (.bipush 11, 2) := by decide +kernel
theorem dX8_boom_4 : decode cX8_boom 4 = .ok (.invokestatic 51, 3) := by decide +kernel
theorem dX8_boom_7 : decode cX8_boom 7 = .ok (.aload_n 0, 1) := by decide +kernel
theorem dX8_boom_8 : decode cX8_boom 8 = .ok (.iload_n 1, 1) := by decide +kernel
theorem dX8_boom_9 : decode cX8_boom 9 = .ok (.invokevirtual 169, 3) := by decide +kernel
theorem dX8_boom_12 : decode cX8_boom 12 = .ok (.ireturn, 1) := by decide +kernel
set_option maxRecDepth 20000 in
theorem ggX8_limiter_X8_requireArgument : GoodIn wsX8_limiter wsX8_requireArgument := goodIn_ca (goodIn_r _ [4, 5, 6] (by decide +kernel) (by decide +kernel)) (goodIn_sub (fun _ h => List.mem_cons_of_mem _ (List.mem_append_right _ h)) (by decide +kernel))
set_option maxRecDepth 20000 in
theorem gX8_limiter_X8_requireArgument : GoodIn wsX8_limiter (va_wsS RX8 51 yX8_requireArgument wsX8_requireArgument) := goodIn_app (goodIn_of _ (by decide +kernel)) ggX8_limiter_X8_requireArgument
set_option maxRecDepth 20000 in
theorem ggX8_limiter_X8_limiterValue : GoodIn wsX8_limiter wsX8_limiterValue := goodIn_r _ [10, 11, 12, 13, 14, 15, 16, 17, 18, 19, 20, 21, 22, 23, 24, 25, 26, 27, 28, 29, 30, 31, 32, 33, 34, 35, 36, 37, 38, 39, 40, 41, 42, 43, 44, 45, 46, 47, 48, 49, 50, 51, 52, 53, 54, 55, 56, 57, 58, 59, 60, 61, 62, 63, 64, 65, 66, 67, 68, 69, 70, 71, 72, 73, 74, 75, 3, 76, 77, 78, 79, 80, 81, 82, 83, 84, 85, 86, 87, 88, 89, 90, 91, 92, 93, 94, 95, 96, 97, 98, 99, 100, 101, 102, 103, 104, 105, 106, 107, 108, 109, 110, 111, 112, 113, 114, 115, 116, 117, 118, 119, 120, 121, 122, 123, 124, 125, 126, 127, 128, 129, 130, 131, 132, 133, 134, 135, 136, 137, 138, 139, 140, 141, 142, 143, 144, 145, 146, 147, 148, 149, 150, 151] (by decide +kernel) (by decide +kernel)
set_option maxRecDepth 20000 in
theorem gX8_limiter_X8_limiterValue : GoodIn wsX8_limiter (wsV RX8 172 RX8 yX8_limiterValue wsX8_limiterValue) := goodIn_app (goodIn_of _ (by decide +kernel)) ggX8_limiter_X8_limiterValue
theorem dX8_limiter_0 : decode cX8_limiter 0 = .ok (.iload_n 1, 1) := by decide +kernel
theorem dX8_limiter_1 : decode cX8_limiter 1 = .ok (.iconst 0, 1) := by decide +kernel
theorem dX8_limiter_2 : decode cX8_limiter 2 = .ok (.bipush 7, 2) := by decide +kernel
theorem dX8_limiter_4 : decode cX8_limiter 4 = .ok (.invokestatic 51, 3) := by decide +kernel
theorem dX8_limiter_7 : decode cX8_limiter 7 = .ok (.aload_n 0, 1) := by decide +kernel
theorem dX8_limiter_8 : decode cX8_limiter 8 = .ok (.iload_n 1, 1) := by decide +kernel
theorem dX8_limiter_9 : decode cX8_limiter 9 = .ok (.invokevirtual 172, 3) := by decide +kernel
theorem dX8_limiter_12 : decode cX8_limiter 12 = .ok (.ireturn, 1) := by decide +kernel
set_option maxRecDepth 20000 in
theorem ggX8_rated_X8_requirePosition : GoodIn wsX8_rated wsX8_requirePosition := goodIn_ca (goodIn_r _ [7, 8, 9, 6, 10, 11, 12, 13, 14, 15] (by decide +kernel) (by decide +kernel)) (goodIn_sub (fun _ h => List.mem_cons_of_mem _ (List.mem_append_right _ h)) (by decide +kernel))
set_option maxRecDepth 20000 in
theorem gX8_rated_X8_requirePosition : GoodIn wsX8_rated (va_wsS RX8 114 yX8_requirePosition wsX8_requirePosition) := goodIn_app (goodIn_of _ (by decide +kernel)) ggX8_rated_X8_requirePosition
set_option maxRecDepth 20000 in
theorem ggX8_rated_X0_place : GoodIn wsX8_rated wsX0_place := goodIn_r _ [20, 21, 22, 23, 24, 92, 93, 94, 95, 96, 97, 98] (by decide +kernel) (by decide +kernel)
set_option maxRecDepth 20000 in
theorem gX8_rated_X0_place : GoodIn wsX8_rated (wsV RX8 123 RX0 yX0_place wsX0_place) := goodIn_app (goodIn_of _ (by decide +kernel)) ggX8_rated_X0_place
set_option maxRecDepth 20000 in
theorem ggX8_rated_X0_radius : GoodIn wsX8_rated wsX0_radius := goodIn_r _ [28, 21, 22, 29, 30, 31, 32, 33, 34, 19, 35, 36, 92, 93, 94, 95, 96, 97, 98] (by decide +kernel) (by decide +kernel)
set_option maxRecDepth 20000 in
theorem gX8_rated_X0_radius : GoodIn wsX8_rated (wsV RX8 175 RX0 yX0_radius wsX0_radius) := goodIn_app (goodIn_of _ (by decide +kernel)) ggX8_rated_X0_radius
set_option maxRecDepth 20000 in
theorem ggX8_rated_X1_ratedAt : GoodIn wsX8_rated wsX1_ratedAt := goodIn_r _ [41, 42, 43, 44, 40, 45, 46, 47, 48, 6, 49, 50, 51, 52, 53, 54, 55, 56, 30, 31, 32, 57, 58, 59, 60, 61, 62, 63, 64, 65, 66, 67, 68, 69, 70, 71, 72, 73, 99, 100, 101, 102] (by decide +kernel) (by decide +kernel)
set_option maxRecDepth 20000 in
theorem gX8_rated_X1_ratedAt : GoodIn wsX8_rated (wsV RX8 178 RX1 yX1_ratedAt wsX1_ratedAt) := goodIn_app (goodIn_of _ (by decide +kernel)) ggX8_rated_X1_ratedAt
theorem dX8_rated_0 : decode cX8_rated 0 = .ok (.iload_n 1, 1) := by decide +kernel
theorem dX8_rated_1 : decode cX8_rated 1 = .ok (.iload_n 2, 1) := by decide +kernel
theorem dX8_rated_2 : decode cX8_rated 2 = .ok (.iload_n 3, 1) := by decide +kernel
theorem dX8_rated_3 : decode cX8_rated 3 = .ok (.invokestatic 114, 3) := by decide +kernel
theorem dX8_rated_6 : decode cX8_rated 6 = .ok (.aload_n 0, 1) := by decide +kernel
theorem dX8_rated_7 : decode cX8_rated 7 = .ok (.getfield 41, 3) := by decide +kernel
theorem dX8_rated_10 : decode cX8_rated 10 = .ok (.iload_n 1, 1) := by decide +kernel
theorem dX8_rated_11 : decode cX8_rated 11 = .ok (.iload_n 2, 1) := by decide +kernel
theorem dX8_rated_12 : decode cX8_rated 12 = .ok (.iload_n 3, 1) := by decide +kernel
theorem dX8_rated_13 : decode cX8_rated 13 = .ok (.invokevirtual 123, 3) := by decide +kernel
theorem dX8_rated_16 : decode cX8_rated 16 = .ok (.aload_n 0, 1) := by decide +kernel
theorem dX8_rated_17 : decode cX8_rated 17 = .ok (.getfield 10, 3) := by decide +kernel
theorem dX8_rated_20 : decode cX8_rated 20 = .ok (.getfield 58, 3) := by decide +kernel
theorem dX8_rated_23 : decode cX8_rated 23 = .ok (.iload_n 1, 1) := by decide +kernel
theorem dX8_rated_24 : decode cX8_rated 24 = .ok (.aload_n 0, 1) := by decide +kernel
theorem dX8_rated_25 : decode cX8_rated 25 = .ok (.getfield 41, 3) := by decide +kernel
theorem dX8_rated_28 : decode cX8_rated 28 = .ok (.invokevirtual 175, 3) := by decide +kernel
theorem dX8_rated_31 : decode cX8_rated 31 = .ok (.iload_n 3, 1) := by decide +kernel
theorem dX8_rated_32 : decode cX8_rated 32 = .ok (.invokevirtual 178, 3) := by decide +kernel
theorem dX8_rated_35 : decode cX8_rated 35 = .ok (.ireturn, 1) := by decide +kernel
set_option maxRecDepth 20000 in
theorem ggX8_maxRadius_X8_requireArgument : GoodIn wsX8_maxRadius wsX8_requireArgument := goodIn_ca (goodIn_r _ [10, 11, 12] (by decide +kernel) (by decide +kernel)) (goodIn_sub (fun _ h => List.mem_cons_of_mem _ (List.mem_append_right _ h)) (by decide +kernel))
set_option maxRecDepth 20000 in
theorem gX8_maxRadius_X8_requireArgument : GoodIn wsX8_maxRadius (va_wsS RX8 51 yX8_requireArgument wsX8_requireArgument) := goodIn_app (goodIn_of _ (by decide +kernel)) ggX8_maxRadius_X8_requireArgument
set_option maxRecDepth 20000 in
theorem ggX8_maxRadius_X1_ratedAt : GoodIn wsX8_maxRadius wsX1_ratedAt := goodIn_r _ [17, 18, 19, 20, 16, 21, 22, 23, 24, 9, 25, 26, 27, 28, 29, 30, 31, 32, 33, 34, 35, 36, 37, 38, 39, 40, 41, 42, 43, 44, 45, 46, 47, 48, 49, 50, 51, 52, 78, 79, 80, 81] (by decide +kernel) (by decide +kernel)
set_option maxRecDepth 20000 in
theorem gX8_maxRadius_X1_ratedAt : GoodIn wsX8_maxRadius (wsV RX8 178 RX1 yX1_ratedAt wsX1_ratedAt) := goodIn_app (goodIn_of _ (by decide +kernel)) ggX8_maxRadius_X1_ratedAt
theorem dX8_maxRadius_0 : decode cX8_maxRadius 0 = .ok (.iload_n 1, 1) := by decide +kernel
theorem dX8_maxRadius_1 : decode cX8_maxRadius 1 = .ok (.iconst 1, 1) := by decide +kernel
theorem dX8_maxRadius_2 : decode cX8_maxRadius 2 = .ok (.ldc 73, 2) := by decide +kernel
theorem dX8_maxRadius_4 : decode cX8_maxRadius 4 = .ok (.invokestatic 51, 3) := by decide +kernel
theorem dX8_maxRadius_7 : decode cX8_maxRadius 7 = .ok (.sipush 3000, 3) := by decide +kernel
theorem dX8_maxRadius_10 : decode cX8_maxRadius 10 = .ok (.istore_n 2, 1) := by decide +kernel
theorem dX8_maxRadius_11 : decode cX8_maxRadius 11 = .ok (.iload_n 2, 1) := by decide +kernel
theorem dX8_maxRadius_12 : decode cX8_maxRadius 12 = .ok (.sipush 300, 3) := by decide +kernel
theorem dX8_maxRadius_15 : decode cX8_maxRadius 15 = .ok (.if_icmp .lt 46, 3) := by decide +kernel
theorem dX8_maxRadius_18 : decode cX8_maxRadius 18 = .ok (.aload_n 0, 1) := by decide +kernel
theorem dX8_maxRadius_19 : decode cX8_maxRadius 19 = .ok (.getfield 10, 3) := by decide +kernel
theorem dX8_maxRadius_22 : decode cX8_maxRadius 22 = .ok (.getfield 58, 3) := by decide +kernel
theorem dX8_maxRadius_25 : decode cX8_maxRadius 25 = .ok (.aload_n 0, 1) := by decide +kernel
theorem dX8_maxRadius_26 : decode cX8_maxRadius 26 = .ok (.getfield 10, 3) := by decide +kernel
theorem dX8_maxRadius_29 : decode cX8_maxRadius 29 = .ok (.getfield 117, 3) := by decide +kernel
theorem dX8_maxRadius_32 : decode cX8_maxRadius 32 = .ok (.getfield 181, 3) := by decide +kernel
theorem dX8_maxRadius_35 : decode cX8_maxRadius 35 = .ok (.iload_n 2, 1) := by decide +kernel
theorem dX8_maxRadius_36 : decode cX8_maxRadius 36 = .ok (.aload_n 0, 1) := by decide +kernel
theorem dX8_maxRadius_37 : decode cX8_maxRadius 37 = .ok (.getfield 10, 3) := by decide +kernel
theorem dX8_maxRadius_40 : decode cX8_maxRadius 40 = .ok (.getfield 117, 3) := by decide +kernel
theorem dX8_maxRadius_43 : decode cX8_maxRadius 43 = .ok (.getfield 162, 3) := by decide +kernel
theorem dX8_maxRadius_46 : decode cX8_maxRadius 46 = .ok (.invokevirtual 178, 3) := by decide +kernel
theorem dX8_maxRadius_49 : decode cX8_maxRadius 49 = .ok (.iload_n 1, 1) := by decide +kernel
theorem dX8_maxRadius_50 : decode cX8_maxRadius 50 = .ok (.if_icmp .lt 5, 3) := by decide +kernel
theorem dX8_maxRadius_53 : decode cX8_maxRadius 53 = .ok (.iload_n 2, 1) := by decide +kernel
theorem dX8_maxRadius_54 : decode cX8_maxRadius 54 = .ok (.ireturn, 1) := by decide +kernel
theorem dX8_maxRadius_55 : decode cX8_maxRadius 55 = .ok (.iinc 2 (-1), 3) := by decide +kernel
theorem dX8_maxRadius_58 : decode cX8_maxRadius 58 = .ok (.goto (-47), 3) := by decide +kernel
theorem dX8_maxRadius_61 : decode cX8_maxRadius 61 = .ok (.iconst (-1), 1) := by decide +kernel
theorem dX8_maxRadius_62 : decode cX8_maxRadius 62 = .ok (.ireturn, 1) := by decide +kernel
set_option maxRecDepth 20000 in
theorem ggX8_worstSlew_X8_requireSlew : GoodIn wsX8_worstSlew wsX8_requireSlew := goodIn_ca (goodIn_r _ [11, 12, 13, 10, 14, 15, 16] (by decide +kernel) (by decide +kernel)) (goodIn_sub (fun _ h => List.mem_cons_of_mem _ (List.mem_append_right _ h)) (by decide +kernel))
set_option maxRecDepth 20000 in
theorem gX8_worstSlew_X8_requireSlew : GoodIn wsX8_worstSlew (va_wsS RX8 90 yX8_requireSlew wsX8_requireSlew) := goodIn_app (goodIn_of _ (by decide +kernel)) ggX8_worstSlew_X8_requireSlew
set_option maxRecDepth 20000 in
theorem ggX8_worstSlew_X8_requireArgument : GoodIn wsX8_worstSlew wsX8_requireArgument := goodIn_ca (goodIn_r _ [14, 15, 16] (by decide +kernel) (by decide +kernel)) (goodIn_sub (fun _ h => List.mem_cons_of_mem _ (List.mem_append_right _ h)) (by decide +kernel))
set_option maxRecDepth 20000 in
theorem gX8_worstSlew_X8_requireArgument : GoodIn wsX8_worstSlew (va_wsS RX8 51 yX8_requireArgument wsX8_requireArgument) := goodIn_app (goodIn_of _ (by decide +kernel)) ggX8_worstSlew_X8_requireArgument
set_option maxRecDepth 20000 in
theorem ggX8_worstSlew_X2_read : GoodIn wsX8_worstSlew wsX2_read := goodIn_r _ [21, 22, 23, 24, 25, 26, 27, 28, 29, 30, 31, 32, 33, 34, 35, 36, 37, 38, 39, 40, 41, 42, 43, 44, 45, 46, 47, 48, 49, 50, 51, 52, 53, 54, 55, 56, 57, 58, 59, 60, 61, 62, 20, 63, 135, 136, 137, 138, 128, 129, 130, 131, 132, 133, 134] (by decide +kernel) (by decide +kernel)
set_option maxRecDepth 20000 in
theorem gX8_worstSlew_X2_read : GoodIn wsX8_worstSlew (wsV RX8 184 RX2 yX2_read wsX2_read) := goodIn_app (goodIn_of _ (by decide +kernel)) ggX8_worstSlew_X2_read
set_option maxRecDepth 20000 in
theorem ggX8_worstSlew_X8_clockwise : GoodIn wsX8_worstSlew wsX8_clockwise := goodIn_r _ [66] (by decide +kernel) (by decide +kernel)
set_option maxRecDepth 20000 in
theorem gX8_worstSlew_X8_clockwise : GoodIn wsX8_worstSlew (va_wsS RX8 188 yX8_clockwise wsX8_clockwise) := goodIn_app (goodIn_of _ (by decide +kernel)) ggX8_worstSlew_X8_clockwise
set_option maxRecDepth 20000 in
theorem ggX8_worstSlew_X1_ratedAt : GoodIn wsX8_worstSlew wsX1_ratedAt := goodIn_r _ [71, 72, 73, 74, 70, 75, 76, 77, 65, 10, 66, 78, 79, 80, 81, 82, 83, 84, 29, 30, 31, 85, 86, 87, 88, 89, 90, 91, 92, 93, 94, 95, 96, 97, 98, 99, 100, 101, 139, 140, 141, 142] (by decide +kernel) (by decide +kernel)
set_option maxRecDepth 20000 in
theorem gX8_worstSlew_X1_ratedAt : GoodIn wsX8_worstSlew (wsV RX8 178 RX1 yX1_ratedAt wsX1_ratedAt) := goodIn_app (goodIn_of _ (by decide +kernel)) ggX8_worstSlew_X1_ratedAt
set_option maxRecDepth 20000 in
theorem ggX8_worstSlew_X8_utilization : GoodIn wsX8_worstSlew wsX8_utilization := goodIn_r _ [104, 105, 106, 107, 108, 30, 109] (by decide +kernel) (by decide +kernel)
set_option maxRecDepth 20000 in
theorem gX8_worstSlew_X8_utilization : GoodIn wsX8_worstSlew (va_wsS RX8 196 yX8_utilization wsX8_utilization) := goodIn_app (goodIn_of _ (by decide +kernel)) ggX8_worstSlew_X8_utilization
theorem dX8_worstSlew_0 : decode cX8_worstSlew 0 = .ok (.iload_n 1, 1) := by decide +kernel
theorem dX8_worstSlew_1 : decode cX8_worstSlew 1 = .ok (.invokestatic 90, 3) := by decide +kernel
theorem dX8_worstSlew_4 : decode cX8_worstSlew 4 = .ok (.iload_n 2, 1) := by decide +kernel
theorem dX8_worstSlew_5 : decode cX8_worstSlew 5 = .ok (.invokestatic 90, 3) := by decide +kernel
theorem dX8_worstSlew_8 : decode cX8_worstSlew 8 = .ok (.iload_n 3, 1) := by decide +kernel
theorem dX8_worstSlew_9 : decode cX8_worstSlew 9 = .ok (.iconst 0, 1) := by decide +kernel
theorem dX8_worstSlew_10 : decode cX8_worstSlew 10 = .ok (.iconst 1, 1) := by decide +kernel
theorem dX8_worstSlew_11 : decode cX8_worstSlew 11 = .ok (.invokestatic 51, 3) := by decide +kernel
theorem dX8_worstSlew_14 : decode cX8_worstSlew 14 = .ok (.aload_n 0, 1) := by decide +kernel
theorem dX8_worstSlew_15 : decode cX8_worstSlew 15 = .ok (.getfield 34, 3) := by decide +kernel
theorem dX8_worstSlew_18 : decode cX8_worstSlew 18 = .ok (.aload_n 0, 1) := by decide +kernel
theorem dX8_worstSlew_19 : decode cX8_worstSlew 19 = .ok (.getfield 10, 3) := by decide +kernel
theorem dX8_worstSlew_22 : decode cX8_worstSlew 22 = .ok (.getfield 117, 3) := by decide +kernel
theorem dX8_worstSlew_25 : decode cX8_worstSlew 25 = .ok (.invokevirtual 184, 3) := by decide +kernel
theorem dX8_worstSlew_28 : decode cX8_worstSlew 28 = .ok (.iload_n 1, 1) := by decide +kernel
theorem dX8_worstSlew_29 : decode cX8_worstSlew 29 = .ok (.iload_n 2, 1) := by decide +kernel
theorem dX8_worstSlew_30 : decode cX8_worstSlew 30 = .ok (.invokestatic 188, 3) := by decide +kernel
theorem dX8_worstSlew_33 : decode cX8_worstSlew 33 = .ok (.istore 4, 2) := by decide +kernel
theorem dX8_worstSlew_35 : decode cX8_worstSlew 35 = .ok (.iconst (-1), 1) := by decide +kernel
theorem dX8_worstSlew_36 : decode cX8_worstSlew 36 = .ok (.istore 5, 2) := by decide +kernel
theorem dX8_worstSlew_38 : decode cX8_worstSlew 38 = .ok (.iload_n 1, 1) := by decide +kernel
theorem dX8_worstSlew_39 : decode cX8_worstSlew 39 = .ok (.istore 6, 2) := by decide +kernel
theorem dX8_worstSlew_41 : decode cX8_worstSlew 41 = .ok (.iconst 0, 1) := by decide +kernel
theorem dX8_worstSlew_42 : decode cX8_worstSlew 42 = .ok (.istore 7, 2) := by decide +kernel
theorem dX8_worstSlew_44 : decode cX8_worstSlew 44 = .ok (.iload 7, 2) := by decide +kernel
theorem dX8_worstSlew_46 : decode cX8_worstSlew 46 = .ok (.iload 4, 2) := by decide +kernel
theorem dX8_worstSlew_48 : decode cX8_worstSlew 48 = .ok (.if_icmp .gt 79, 3) := by decide +kernel
theorem dX8_worstSlew_51 : decode cX8_worstSlew 51 = .ok (.iload_n 1, 1) := by decide +kernel
theorem dX8_worstSlew_52 : decode cX8_worstSlew 52 = .ok (.iload 7, 2) := by decide +kernel
theorem dX8_worstSlew_54 : decode cX8_worstSlew 54 = .ok (.iadd, 1) := by decide +kernel
theorem dX8_worstSlew_55 : decode cX8_worstSlew 55 = .ok (.sipush 3600, 3) := by decide +kernel
theorem dX8_worstSlew_58 : decode cX8_worstSlew 58 = .ok (.irem, 1) := by decide +kernel
theorem dX8_worstSlew_59 : decode cX8_worstSlew 59 = .ok (.istore 8, 2) := by decide +kernel
theorem dX8_worstSlew_61 : decode cX8_worstSlew 61 = .ok (.aload_n 0, 1) := by decide +kernel
theorem dX8_worstSlew_62 : decode cX8_worstSlew 62 = .ok (.getfield 10, 3) := by decide +kernel
theorem dX8_worstSlew_65 : decode cX8_worstSlew 65 = .ok (.getfield 58, 3) := by decide +kernel
theorem dX8_worstSlew_68 : decode cX8_worstSlew 68 = .ok (.aload_n 0, 1) := by decide +kernel
theorem dX8_worstSlew_69 : decode cX8_worstSlew 69 = .ok (.getfield 10, 3) := by decide +kernel
theorem dX8_worstSlew_72 : decode cX8_worstSlew 72 = .ok (.getfield 117, 3) := by decide +kernel
theorem dX8_worstSlew_75 : decode cX8_worstSlew 75 = .ok (.getfield 181, 3) := by decide +kernel
theorem dX8_worstSlew_78 : decode cX8_worstSlew 78 = .ok (.aload_n 0, 1) := by decide +kernel
theorem dX8_worstSlew_79 : decode cX8_worstSlew 79 = .ok (.getfield 34, 3) := by decide +kernel
theorem dX8_worstSlew_82 : decode cX8_worstSlew 82 = .ok (.getfield 191, 3) := by decide +kernel
theorem dX8_worstSlew_85 : decode cX8_worstSlew 85 = .ok (.iload 8, 2) := by decide +kernel
theorem dX8_worstSlew_87 : decode cX8_worstSlew 87 = .ok (.invokevirtual 178, 3) := by decide +kernel
theorem dX8_worstSlew_90 : decode cX8_worstSlew 90 = .ok (.istore 9, 2) := by decide +kernel
theorem dX8_worstSlew_92 : decode cX8_worstSlew 92 = .ok (.aload_n 0, 1) := by decide +kernel
theorem dX8_worstSlew_93 : decode cX8_worstSlew 93 = .ok (.getfield 34, 3) := by decide +kernel
theorem dX8_worstSlew_96 : decode cX8_worstSlew 96 = .ok (.getfield 193, 3) := by decide +kernel
theorem dX8_worstSlew_99 : decode cX8_worstSlew 99 = .ok (.iload 9, 2) := by decide +kernel
theorem dX8_worstSlew_101 : decode cX8_worstSlew 101 = .ok (.invokestatic 196, 3) := by decide +kernel
theorem dX8_worstSlew_104 : decode cX8_worstSlew 104 = .ok (.istore 10, 2) := by decide +kernel
theorem dX8_worstSlew_106 : decode cX8_worstSlew 106 = .ok (.iload 10, 2) := by decide +kernel
theorem dX8_worstSlew_108 : decode cX8_worstSlew 108 = .ok (.iload 5, 2) := by decide +kernel
theorem dX8_worstSlew_110 : decode cX8_worstSlew 110 = .ok (.if_icmp .le 11, 3) := by decide +kernel
theorem dX8_worstSlew_113 : decode cX8_worstSlew 113 = .ok (.iload 10, 2) := by decide +kernel
theorem dX8_worstSlew_115 : decode cX8_worstSlew 115 = .ok (.istore 5, 2) := by decide +kernel
theorem dX8_worstSlew_117 : decode cX8_worstSlew 117 = .ok (.iload 8, 2) := by decide +kernel
theorem dX8_worstSlew_119 : decode cX8_worstSlew 119 = .ok (.istore 6, 2) := by decide +kernel
theorem dX8_worstSlew_121 : decode cX8_worstSlew 121 = .ok (.iinc 7 50, 3) := by decide +kernel
theorem dX8_worstSlew_124 : decode cX8_worstSlew 124 = .ok (.goto (-80), 3) := by decide +kernel
theorem dX8_worstSlew_127 : decode cX8_worstSlew 127 = .ok (.iload_n 3, 1) := by decide +kernel
theorem dX8_worstSlew_128 : decode cX8_worstSlew 128 = .ok (.ifCond .ne 8, 3) := by decide +kernel
theorem dX8_worstSlew_131 : decode cX8_worstSlew 131 = .ok (.iload 5, 2) := by decide +kernel
theorem dX8_worstSlew_133 : decode cX8_worstSlew 133 = .ok (.goto 5, 3) := by decide +kernel
theorem dX8_worstSlew_136 : decode cX8_worstSlew 136 = .ok (.iload 6, 2) := by decide +kernel
theorem dX8_worstSlew_138 : decode cX8_worstSlew 138 = .ok (.ireturn, 1) := by decide +kernel
theorem dX8_events_0 : decode cX8_events 0 = .ok (.aload_n 0, 1) := by decide +kernel
theorem dX8_events_1 : decode cX8_events 1 = .ok (.getfield 10, 3) := by decide +kernel
theorem dX8_events_4 : decode cX8_events 4 = .ok (.getfield 199, 3) := by decide +kernel
theorem dX8_events_7 : decode cX8_events 7 = .ok (.getfield 203, 3) := by decide +kernel
theorem dX8_events_10 : decode cX8_events 10 = .ok (.ireturn, 1) := by decide +kernel
set_option maxRecDepth 20000 in
theorem ggX8_event_X8_requireIndex : GoodIn wsX8_event wsX8_requireIndex := goodIn_ca (goodIn_r _ [7, 8, 9] (by decide +kernel) (by decide +kernel)) (goodIn_sub (fun _ h => List.mem_cons_of_mem _ (List.mem_append_left _ (List.mem_append_right _ h))) (by decide +kernel))
set_option maxRecDepth 20000 in
theorem gX8_event_X8_requireIndex : GoodIn wsX8_event (va_wsS RX8 47 yX8_requireIndex wsX8_requireIndex) := goodIn_app (goodIn_of _ (by decide +kernel)) ggX8_event_X8_requireIndex
set_option maxRecDepth 20000 in
theorem ggX8_event_X8_requireArgument : GoodIn wsX8_event wsX8_requireArgument := goodIn_ca (goodIn_r _ [12, 13, 14] (by decide +kernel) (by decide +kernel)) (goodIn_sub (fun _ h => List.mem_cons_of_mem _ (List.mem_append_right _ h)) (by decide +kernel))
set_option maxRecDepth 20000 in
theorem gX8_event_X8_requireArgument : GoodIn wsX8_event (va_wsS RX8 51 yX8_requireArgument wsX8_requireArgument) := goodIn_app (goodIn_of _ (by decide +kernel)) ggX8_event_X8_requireArgument
set_option maxRecDepth 20000 in
theorem ggX8_event_X3_part : GoodIn wsX8_event wsX3_part := goodIn_r _ [19, 20, 21, 22, 23, 24, 25, 18, 26, 27, 28, 29, 30, 31, 50, 51, 52, 53, 54] (by decide +kernel) (by decide +kernel)
set_option maxRecDepth 20000 in
theorem gX8_event_X3_part : GoodIn wsX8_event (wsV RX8 206 RX3 yX3_part wsX3_part) := goodIn_app (goodIn_of _ (by decide +kernel)) ggX8_event_X3_part
theorem dX8_event_0 : decode cX8_event 0 = .ok (.iload_n 1, 1) := by decide +kernel
theorem dX8_event_1 : decode cX8_event 1 = .ok (.aload_n 0, 1) := by decide +kernel
theorem dX8_event_2 : decode cX8_event 2 = .ok (.getfield 10, 3) := by decide +kernel
theorem dX8_event_5 : decode cX8_event 5 = .ok (.getfield 199, 3) := by decide +kernel
theorem dX8_event_8 : decode cX8_event 8 = .ok (.getfield 203, 3) := by decide +kernel
theorem dX8_event_11 : decode cX8_event 11 = .ok (.invokestatic 47, 3) := by decide +kernel
theorem dX8_event_14 : decode cX8_event 14 = .ok (.iload_n 2, 1) := by decide +kernel
theorem dX8_event_15 : decode cX8_event 15 = .ok (.iconst 0, 1) := by decide +kernel
theorem dX8_event_16 : decode cX8_event 16 = .ok (.iconst 2, 1) := by decide +kernel
theorem dX8_event_17 : decode cX8_event 17 = .ok (.invokestatic 51, 3) := by decide +kernel
theorem dX8_event_20 : decode cX8_event 20 = .ok (.aload_n 0, 1) := by decide +kernel
theorem dX8_event_21 : decode cX8_event 21 = .ok (.getfield 10, 3) := by decide +kernel
theorem dX8_event_24 : decode cX8_event 24 = .ok (.getfield 199, 3) := by decide +kernel
theorem dX8_event_27 : decode cX8_event 27 = .ok (.iload_n 1, 1) := by decide +kernel
theorem dX8_event_28 : decode cX8_event 28 = .ok (.iload_n 2, 1) := by decide +kernel
theorem dX8_event_29 : decode cX8_event 29 = .ok (.invokevirtual 206, 3) := by decide +kernel
theorem dX8_event_32 : decode cX8_event 32 = .ok (.ireturn, 1) := by decide +kernel
set_option maxRecDepth 20000 in
theorem ggX8_stateTime_X8_requireArgument : GoodIn wsX8_stateTime wsX8_requireArgument := goodIn_ca (goodIn_r _ [7, 8, 9] (by decide +kernel) (by decide +kernel)) (goodIn_sub (fun _ h => List.mem_cons_of_mem _ (List.mem_append_right _ h)) (by decide +kernel))
set_option maxRecDepth 20000 in
theorem gX8_stateTime_X8_requireArgument : GoodIn wsX8_stateTime (va_wsS RX8 51 yX8_requireArgument wsX8_requireArgument) := goodIn_app (goodIn_of _ (by decide +kernel)) ggX8_stateTime_X8_requireArgument
theorem dX8_stateTime_0 : decode cX8_stateTime 0 = .ok (.iload_n 1, 1) := by decide +kernel
theorem dX8_stateTime_1 : decode cX8_stateTime 1 = .ok (.iconst 0, 1) := by decide +kernel
theorem dX8_stateTime_2 : decode cX8_stateTime 2 = .ok (.iconst 3, 1) := by decide +kernel
theorem dX8_stateTime_3 : decode cX8_stateTime 3 = .ok (.invokestatic 51, 3) := by decide +kernel
theorem dX8_stateTime_6 : decode cX8_stateTime 6 = .ok (.aload_n 0, 1) := by decide +kernel
theorem dX8_stateTime_7 : decode cX8_stateTime 7 = .ok (.getfield 10, 3) := by decide +kernel
theorem dX8_stateTime_10 : decode cX8_stateTime 10 = .ok (.getfield 211, 3) := by decide +kernel
theorem dX8_stateTime_13 : decode cX8_stateTime 13 = .ok (.getfield 215, 3) := by decide +kernel
theorem dX8_stateTime_16 : decode cX8_stateTime 16 = .ok (.iload_n 1, 1) := by decide +kernel
theorem dX8_stateTime_17 : decode cX8_stateTime 17 = .ok (.iaload, 1) := by decide +kernel
theorem dX8_stateTime_18 : decode cX8_stateTime 18 = .ok (.ireturn, 1) := by decide +kernel
set_option maxRecDepth 20000 in
theorem ggX8_lifts_X8_requireArgument : GoodIn wsX8_lifts wsX8_requireArgument := goodIn_ca (goodIn_r _ [7, 8, 9] (by decide +kernel) (by decide +kernel)) (goodIn_sub (fun _ h => List.mem_cons_of_mem _ (List.mem_append_right _ h)) (by decide +kernel))
set_option maxRecDepth 20000 in
theorem gX8_lifts_X8_requireArgument : GoodIn wsX8_lifts (va_wsS RX8 51 yX8_requireArgument wsX8_requireArgument) := goodIn_app (goodIn_of _ (by decide +kernel)) ggX8_lifts_X8_requireArgument
theorem dX8_lifts_0 : decode cX8_lifts 0 = .ok (.iload_n 1, 1) := by decide +kernel
theorem dX8_lifts_1 : decode cX8_lifts 1 = .ok (.iconst 0, 1) := by decide +kernel
theorem dX8_lifts_2 : decode cX8_lifts 2 = .ok (.bipush 7, 2) := by decide +kernel
theorem dX8_lifts_4 : decode cX8_lifts 4 = .ok (.invokestatic 51, 3) := by decide +kernel
theorem dX8_lifts_7 : decode cX8_lifts 7 = .ok (.aload_n 0, 1) := by decide +kernel
theorem dX8_lifts_8 : decode cX8_lifts 8 = .ok (.getfield 10, 3) := by decide +kernel
theorem dX8_lifts_11 : decode cX8_lifts 11 = .ok (.getfield 211, 3) := by decide +kernel
theorem dX8_lifts_14 : decode cX8_lifts 14 = .ok (.getfield 218, 3) := by decide +kernel
theorem dX8_lifts_17 : decode cX8_lifts 17 = .ok (.iload_n 1, 1) := by decide +kernel
theorem dX8_lifts_18 : decode cX8_lifts 18 = .ok (.iaload, 1) := by decide +kernel
theorem dX8_lifts_19 : decode cX8_lifts 19 = .ok (.ireturn, 1) := by decide +kernel
set_option maxRecDepth 20000 in
theorem ggX8_spectrum_X6_loadSpectrum : GoodIn wsX8_spectrum wsX6_loadSpectrum := goodIn_r _ [7, 8, 9, 10, 29, 30, 31] (by decide +kernel) (by decide +kernel)
set_option maxRecDepth 20000 in
theorem gX8_spectrum_X6_loadSpectrum : GoodIn wsX8_spectrum (wsV RX8 221 RX6 yX6_loadSpectrum wsX6_loadSpectrum) := goodIn_app (goodIn_of _ (by decide +kernel)) ggX8_spectrum_X6_loadSpectrum
theorem dX8_spectrum_0 : decode cX8_spectrum 0 = .ok (.aload_n 0, 1) := by decide +kernel
theorem dX8_spectrum_1 : decode cX8_spectrum 1 = .ok (.getfield 10, 3) := by decide +kernel
theorem dX8_spectrum_4 : decode cX8_spectrum 4 = .ok (.getfield 211, 3) := by decide +kernel
theorem dX8_spectrum_7 : decode cX8_spectrum 7 = .ok (.invokevirtual 221, 3) := by decide +kernel
theorem dX8_spectrum_10 : decode cX8_spectrum 10 = .ok (.ireturn, 1) := by decide +kernel
set_option maxRecDepth 20000 in
theorem ggX8_type_X8_requireArgument : GoodIn wsX8_type wsX8_requireArgument := goodIn_ca (goodIn_r _ [6, 7, 8] (by decide +kernel) (by decide +kernel)) (goodIn_sub (fun _ h => List.mem_cons_of_mem _ (List.mem_append_left _ (List.mem_append_right _ h))) (by decide +kernel))
set_option maxRecDepth 20000 in
theorem gX8_type_X8_requireArgument : GoodIn wsX8_type (va_wsS RX8 51 yX8_requireArgument wsX8_requireArgument) := goodIn_app (goodIn_of _ (by decide +kernel)) ggX8_type_X8_requireArgument
set_option maxRecDepth 20000 in
theorem ggX8_type_X8_requireState : GoodIn wsX8_type wsX8_requireState := goodIn_ca (goodIn_r _ [11, 12, 13] (by decide +kernel) (by decide +kernel)) (goodIn_sub (fun _ h => List.mem_cons_of_mem _ (List.mem_append_right _ h)) (by decide +kernel))
set_option maxRecDepth 20000 in
theorem gX8_type_X8_requireState : GoodIn wsX8_type (va_wsS RX8 104 yX8_requireState wsX8_requireState) := goodIn_app (goodIn_of _ (by decide +kernel)) ggX8_type_X8_requireState
theorem dX8_type_0 : decode cX8_type 0 = .ok (.iload_n 1, 1) := by decide +kernel
theorem dX8_type_1 : decode cX8_type 1 = .ok (.iconst 0, 1) := by decide +kernel
theorem dX8_type_2 : decode cX8_type 2 = .ok (.bipush 127, 2) := by decide +kernel
theorem dX8_type_4 : decode cX8_type 4 = .ok (.invokestatic 51, 3) := by decide +kernel
theorem dX8_type_7 : decode cX8_type 7 = .ok (.aload_n 0, 1) := by decide +kernel
theorem dX8_type_8 : decode cX8_type 8 = .ok (.getfield 224, 3) := by decide +kernel
theorem dX8_type_11 : decode cX8_type 11 = .ok (.aload_n 0, 1) := by decide +kernel
theorem dX8_type_12 : decode cX8_type 12 = .ok (.getfield 20, 3) := by decide +kernel
theorem dX8_type_15 : decode cX8_type 15 = .ok (.arraylength, 1) := by decide +kernel
theorem dX8_type_16 : decode cX8_type 16 = .ok (.if_icmp .ge 7, 3) := by decide +kernel
theorem dX8_type_19 : decode cX8_type 19 = .ok (.iconst 1, 1) := by decide +kernel
theorem dX8_type_20 : decode cX8_type 20 = .ok (.goto 4, 3) := by decide +kernel
theorem dX8_type_23 : decode cX8_type 23 = .ok (.iconst 0, 1) := by decide +kernel
theorem dX8_type_24 : decode cX8_type 24 = .ok (.invokestatic 104, 3) := by decide +kernel
theorem dX8_type_27 : decode cX8_type 27 = .ok (.aload_n 0, 1) := by decide +kernel
theorem dX8_type_28 : decode cX8_type 28 = .ok (.getfield 224, 3) := by decide +kernel
theorem dX8_type_31 : decode cX8_type 31 = .ok (.ifCond .lt 35, 3) := by decide +kernel
theorem dX8_type_34 : decode cX8_type 34 = .ok (.aload_n 0, 1) := by decide +kernel
theorem dX8_type_35 : decode cX8_type 35 = .ok (.getfield 224, 3) := by decide +kernel
theorem dX8_type_38 : decode cX8_type 38 = .ok (.aload_n 0, 1) := by decide +kernel
theorem dX8_type_39 : decode cX8_type 39 = .ok (.getfield 20, 3) := by decide +kernel
theorem dX8_type_42 : decode cX8_type 42 = .ok (.arraylength, 1) := by decide +kernel
theorem dX8_type_43 : decode cX8_type 43 = .ok (.if_icmp .ge 23, 3) := by decide +kernel
theorem dX8_type_46 : decode cX8_type 46 = .ok (.aload_n 0, 1) := by decide +kernel
theorem dX8_type_47 : decode cX8_type 47 = .ok (.getfield 20, 3) := by decide +kernel
theorem dX8_type_50 : decode cX8_type 50 = .ok (.aload_n 0, 1) := by decide +kernel
theorem dX8_type_51 : decode cX8_type 51 = .ok (.getfield 224, 3) := by decide +kernel
theorem dX8_type_54 : decode cX8_type 54 = .ok (.iload_n 1, 1) := by decide +kernel
theorem dX8_type_55 : decode cX8_type 55 = .ok (.iastore, 1) := by decide +kernel
theorem dX8_type_56 : decode cX8_type 56 = .ok (.aload_n 0, 1) := by decide +kernel
theorem dX8_type_57 : decode cX8_type 57 = .ok (.dup, 1) := by decide +kernel
theorem dX8_type_58 : decode cX8_type 58 = .ok (.getfield 224, 3) := by decide +kernel
theorem dX8_type_61 : decode cX8_type 61 = .ok (.iconst 1, 1) := by decide +kernel
theorem dX8_type_62 : decode cX8_type 62 = .ok (.iadd, 1) := by decide +kernel
theorem dX8_type_63 : decode cX8_type 63 = .ok (.putfield 224, 3) := by decide +kernel
theorem dX8_type_66 : decode cX8_type 66 = .ok (.aload_n 0, 1) := by decide +kernel
theorem dX8_type_67 : decode cX8_type 67 = .ok (.getfield 224, 3) := by decide +kernel
theorem dX8_type_70 : decode cX8_type 70 = .ok (.ireturn, 1) := by decide +kernel
theorem dX8_clearText_0 : decode cX8_clearText 0 = .ok (.aload_n 0, 1) := by decide +kernel
theorem dX8_clearText_1 : decode cX8_clearText 1 = .ok (.getfield 224, 3) := by decide +kernel
theorem dX8_clearText_4 : decode cX8_clearText 4 = .ok (.istore_n 1, 1) := by decide +kernel
theorem dX8_clearText_5 : decode cX8_clearText 5 = .ok (.aload_n 0, 1) := by decide +kernel
theorem dX8_clearText_6 : decode cX8_clearText 6 = .ok (.iconst 0, 1) := by decide +kernel
theorem dX8_clearText_7 : decode cX8_clearText 7 = .ok (.putfield 224, 3) := by decide +kernel
theorem dX8_clearText_10 : decode cX8_clearText 10 = .ok (.iload_n 1, 1) := by decide +kernel
theorem dX8_clearText_11 : decode cX8_clearText 11 = .ok (.ireturn, 1) := by decide +kernel
set_option maxRecDepth 20000 in
theorem ggX8_runScript_X4_read : GoodIn wsX8_runScript wsX4_read := goodIn_r _ [9, 10, 11, 12, 13, 14, 8, 15, 16, 17, 18, 19, 20, 21, 22, 23, 24, 25, 26, 27, 28, 29, 30, 31, 32, 33, 34, 35, 36, 37, 38, 39, 362, 363, 364, 365, 366, 367] (by decide +kernel) (by decide +kernel)
set_option maxRecDepth 20000 in
theorem gX8_runScript_X4_read : GoodIn wsX8_runScript (wsV RX8 227 RX4 yX4_read wsX4_read) := goodIn_app (goodIn_of _ (by decide +kernel)) ggX8_runScript_X4_read
set_option maxRecDepth 20000 in
theorem ggX8_runScript_X8_save : GoodIn wsX8_runScript wsX8_save := goodIn_r _ [44, 45, 46, 47, 48, 49, 50, 51, 52, 53, 54, 55, 56, 57, 58, 59, 60, 61, 62, 63, 64, 65, 66, 67, 68, 69, 70, 71, 72, 73, 74, 75, 76, 77, 78, 79, 80, 81, 82, 83, 84, 85, 86, 87, 88, 89, 90, 91, 92, 93, 94, 95, 96, 97, 98, 99, 100, 101, 102, 103, 104, 105, 106, 107, 108, 109, 110, 111, 112, 113, 114, 115, 116, 117, 118, 119, 120, 121, 122, 123, 124, 125, 126, 127, 128, 129, 130, 131, 132, 133, 134, 135, 136, 137, 138, 139, 140, 141, 142, 143, 144, 145, 146, 147, 148, 149, 150, 151, 152, 353, 354, 355, 356, 357, 358, 359, 360, 361, 368, 369, 370, 371, 372, 373, 374, 375, 376, 377, 378, 379, 380, 381, 382, 383, 384, 385, 386, 387, 388, 389, 390, 391, 392, 393, 394, 395, 396, 397] (by decide +kernel) (by decide +kernel)
set_option maxRecDepth 20000 in
theorem gX8_runScript_X8_save : GoodIn wsX8_runScript (wsV RX8 55 RX8 yX8_save wsX8_save) := goodIn_app (goodIn_of _ (by decide +kernel)) ggX8_runScript_X8_save
set_option maxRecDepth 20000 in
theorem ggX8_runScript_X4_motionsOf : GoodIn wsX8_runScript wsX4_motionsOf := goodIn_r _ [156, 38, 362, 363, 364, 365, 366, 367] (by decide +kernel) (by decide +kernel)
set_option maxRecDepth 20000 in
theorem gX8_runScript_X4_motionsOf : GoodIn wsX8_runScript (wsV RX8 231 RX4 yX4_motionsOf wsX4_motionsOf) := goodIn_app (goodIn_of _ (by decide +kernel)) ggX8_runScript_X4_motionsOf
set_option maxRecDepth 20000 in
theorem ggX8_runScript_X4_ticksOf : GoodIn wsX8_runScript wsX4_ticksOf := goodIn_r _ [160, 39, 362, 363, 364, 365, 366, 367] (by decide +kernel) (by decide +kernel)
set_option maxRecDepth 20000 in
theorem gX8_runScript_X4_ticksOf : GoodIn wsX8_runScript (wsV RX8 234 RX4 yX4_ticksOf wsX4_ticksOf) := goodIn_app (goodIn_of _ (by decide +kernel)) ggX8_runScript_X4_ticksOf
set_option maxRecDepth 20000 in
theorem ggX8_runScript_X8_tick : GoodIn wsX8_runScript wsX8_tick := goodIn_r _ [164, 50, 165, 166, 167, 168, 169, 170, 171, 172, 173, 174, 43, 175, 176, 177, 178, 179, 180, 181, 63, 182, 123, 124, 85, 84, 183, 184, 185, 186, 125, 187, 188, 189, 190, 191, 192, 193, 194, 195, 196, 197, 198, 199, 200, 201, 202, 119, 120, 121, 122, 86, 203, 204, 205, 206, 207, 208, 209, 210, 211, 53, 54, 55, 212, 213, 214, 215, 216, 217, 218, 219, 220, 221, 222, 223, 224, 225, 71, 226, 140, 97, 227, 228, 229, 230, 231, 232, 233, 234, 235, 236, 237, 238, 239, 240, 241, 242, 243, 244, 245, 246, 247, 248, 249, 250, 251, 252, 253, 254, 255, 256, 257, 258, 259, 260, 261, 262, 263, 264, 265, 266, 267, 268, 269, 270, 271, 272, 273, 274, 275, 276, 277, 67, 278, 279, 280, 281, 282, 134, 92, 283, 284, 285, 286, 287, 288, 289, 290, 291, 292, 293, 294, 295, 296, 91, 297, 298, 299, 300, 301, 302, 303, 304, 93, 305, 306, 307, 308, 309, 310, 311, 312, 313, 314, 315, 75, 316, 147, 101, 102, 103, 146, 317, 318, 319, 320, 321, 322, 323, 324, 325, 326, 327, 328, 329, 330, 331, 332, 333, 334, 335, 49, 336, 80, 114, 64, 337, 76, 115, 338, 339, 340, 79, 341, 107, 342, 343, 344, 345, 109, 346, 347, 348, 349, 350, 351, 108, 352, 353, 354, 355, 356, 357, 358, 359, 360, 361, 368, 369, 370, 371, 372, 373, 374, 375, 376, 377, 378, 379, 380, 381, 382, 383, 388, 389, 398, 399, 400, 401, 384, 385, 386, 387, 390, 391, 392, 393, 394, 395, 396, 397] (by decide +kernel) (by decide +kernel)
set_option maxRecDepth 20000 in
theorem gX8_runScript_X8_tick : GoodIn wsX8_runScript (wsV RX8 152 RX8 yX8_tick wsX8_tick) := goodIn_app (goodIn_of _ (by decide +kernel)) ggX8_runScript_X8_tick
theorem dX8_runScript_0 : decode cX8_runScript 0 = .ok (.aload_n 0, 1) := by decide +kernel
theorem dX8_runScript_1 : decode cX8_runScript 1 = .ok (.getfield 27, 3) := by decide +kernel
theorem dX8_runScript_4 : decode cX8_runScript 4 = .ok (.aload_n 0, 1) := by decide +kernel
theorem dX8_runScript_5 : decode cX8_runScript 5 = .ok (.getfield 20, 3) := by decide +kernel
theorem dX8_runScript_8 : decode cX8_runScript 8 = .ok (.aload_n 0, 1) := by decide +kernel
theorem dX8_runScript_9 : decode cX8_runScript 9 = .ok (.getfield 224, 3) := by decide +kernel
theorem dX8_runScript_12 : decode cX8_runScript 12 = .ok (.invokevirtual 227, 3) := by decide +kernel
theorem dX8_runScript_15 : decode cX8_runScript 15 = .ok (.istore_n 1, 1) := by decide +kernel
theorem dX8_runScript_16 : decode cX8_runScript 16 = .ok (.iload_n 1, 1) := by decide +kernel
theorem dX8_runScript_17 : decode cX8_runScript 17 = .ok (.iconst (-1), 1) := by decide +kernel
theorem dX8_runScript_18 : decode cX8_runScript 18 = .ok (.if_icmp .eq 8, 3) := by decide +kernel
theorem dX8_runScript_21 : decode cX8_runScript 21 = .ok (.bipush (-10), 2) := by decide +kernel
theorem dX8_runScript_23 : decode cX8_runScript 23 = .ok (.iload_n 1, 1) := by decide +kernel
theorem dX8_runScript_24 : decode cX8_runScript 24 = .ok (.isub, 1) := by decide +kernel
theorem dX8_runScript_25 : decode cX8_runScript 25 = .ok (.ireturn, 1) := by decide +kernel
theorem dX8_runScript_26 : decode cX8_runScript 26 = .ok (.aload_n 0, 1) := by decide +kernel
theorem dX8_runScript_27 : decode cX8_runScript 27 = .ok (.invokevirtual 55, 3) := by decide +kernel
theorem dX8_runScript_30 : decode cX8_runScript 30 = .ok (.iconst 0, 1) := by decide +kernel
theorem dX8_runScript_31 : decode cX8_runScript 31 = .ok (.istore_n 2, 1) := by decide +kernel
theorem dX8_runScript_32 : decode cX8_runScript 32 = .ok (.iconst 0, 1) := by decide +kernel
theorem dX8_runScript_33 : decode cX8_runScript 33 = .ok (.istore_n 3, 1) := by decide +kernel
theorem dX8_runScript_34 : decode cX8_runScript 34 = .ok (.iload_n 3, 1) := by decide +kernel
theorem dX8_runScript_35 : decode cX8_runScript 35 = .ok (.aload_n 0, 1) := by decide +kernel
theorem dX8_runScript_36 : decode cX8_runScript 36 = .ok (.getfield 27, 3) := by decide +kernel
theorem dX8_runScript_39 : decode cX8_runScript 39 = .ok (.getfield 230, 3) := by decide +kernel
theorem dX8_runScript_42 : decode cX8_runScript 42 = .ok (.if_icmp .ge 57, 3) := by decide +kernel
theorem dX8_runScript_45 : decode cX8_runScript 45 = .ok (.aload_n 0, 1) := by decide +kernel
theorem dX8_runScript_46 : decode cX8_runScript 46 = .ok (.getfield 27, 3) := by decide +kernel
theorem dX8_runScript_49 : decode cX8_runScript 49 = .ok (.iload_n 3, 1) := by decide +kernel
theorem dX8_runScript_50 : decode cX8_runScript 50 = .ok (.invokevirtual 231, 3) := by decide +kernel
theorem dX8_runScript_53 : decode cX8_runScript 53 = .ok (.istore 4, 2) := by decide +kernel
theorem dX8_runScript_55 : decode cX8_runScript 55 = .ok (.aload_n 0, 1) := by decide +kernel
theorem dX8_runScript_56 : decode cX8_runScript 56 = .ok (.getfield 27, 3) := by decide +kernel
theorem dX8_runScript_59 : decode cX8_runScript 59 = .ok (.iload_n 3, 1) := by decide +kernel
theorem dX8_runScript_60 : decode cX8_runScript 60 = .ok (.invokevirtual 234, 3) := by decide +kernel
theorem dX8_runScript_63 : decode cX8_runScript 63 = .ok (.istore 5, 2) := by decide +kernel
theorem dX8_runScript_65 : decode cX8_runScript 65 = .ok (.iconst 0, 1) := by decide +kernel
theorem dX8_runScript_66 : decode cX8_runScript 66 = .ok (.istore 6, 2) := by decide +kernel
theorem dX8_runScript_68 : decode cX8_runScript 68 = .ok (.iload 6, 2) := by decide +kernel
theorem dX8_runScript_70 : decode cX8_runScript 70 = .ok (.iload 5, 2) := by decide +kernel
theorem dX8_runScript_72 : decode cX8_runScript 72 = .ok (.if_icmp .ge 16, 3) := by decide +kernel
theorem dX8_runScript_75 : decode cX8_runScript 75 = .ok (.aload_n 0, 1) := by decide +kernel
theorem dX8_runScript_76 : decode cX8_runScript 76 = .ok (.iload 4, 2) := by decide +kernel
theorem dX8_runScript_78 : decode cX8_runScript 78 = .ok (.invokevirtual 152, 3) := by decide +kernel
theorem dX8_runScript_81 : decode cX8_runScript 81 = .ok (.pop, 1) := by decide +kernel
theorem dX8_runScript_82 : decode cX8_runScript 82 = .ok (.iinc 6 1, 3) := by decide +kernel
theorem dX8_runScript_85 : decode cX8_runScript 85 = .ok (.goto (-17), 3) := by decide +kernel
theorem dX8_runScript_88 : decode cX8_runScript 88 = .ok (.iload_n 2, 1) := by decide +kernel
theorem dX8_runScript_89 : decode cX8_runScript 89 = .ok (.iload 5, 2) := by decide +kernel
theorem dX8_runScript_91 : decode cX8_runScript 91 = .ok (.iadd, 1) := by decide +kernel
theorem dX8_runScript_92 : decode cX8_runScript 92 = .ok (.istore_n 2, 1) := by decide +kernel
theorem dX8_runScript_93 : decode cX8_runScript 93 = .ok (.iinc 3 1, 3) := by decide +kernel
theorem dX8_runScript_96 : decode cX8_runScript 96 = .ok (.goto (-62), 3) := by decide +kernel
theorem dX8_runScript_99 : decode cX8_runScript 99 = .ok (.iload_n 2, 1) := by decide +kernel
theorem dX8_runScript_100 : decode cX8_runScript 100 = .ok (.ireturn, 1) := by decide +kernel
set_option maxRecDepth 20000 in
theorem ggX8_undo_X8_requireState : GoodIn wsX8_undo wsX8_requireState := goodIn_ca (goodIn_r _ [8, 9, 10] (by decide +kernel) (by decide +kernel)) (goodIn_sub (fun _ h => List.mem_cons_of_mem _ (List.mem_append_right _ h)) (by decide +kernel))
set_option maxRecDepth 20000 in
theorem gX8_undo_X8_requireState : GoodIn wsX8_undo (va_wsS RX8 104 yX8_requireState wsX8_requireState) := goodIn_app (goodIn_of _ (by decide +kernel)) ggX8_undo_X8_requireState
set_option maxRecDepth 20000 in
theorem ggX8_undo_J9_floorMod_7cf53 : GoodIn wsX8_undo wsJ9_floorMod_7cf53 := goodIn_r _ [14] (by decide +kernel) (by decide +kernel)
set_option maxRecDepth 20000 in
theorem gX8_undo_J9_floorMod_7cf53 : GoodIn wsX8_undo (va_wsS RX8 243 yJ9_floorMod_7cf53 wsJ9_floorMod_7cf53) := goodIn_app (goodIn_of _ (by decide +kernel)) ggX8_undo_J9_floorMod_7cf53
set_option maxRecDepth 20000 in
theorem ggX8_undo_X5_copyFrom : GoodIn wsX8_undo wsX5_copyFrom := goodIn_r _ [19, 20, 21, 22, 23, 24, 25, 26, 27, 28, 29, 30, 31, 32, 33, 34, 35, 36, 37, 38, 39, 40, 41, 42, 43, 44, 45, 46, 47, 48, 49, 50, 51, 52, 53, 54, 55, 56, 57, 58, 59, 60, 61, 62, 63, 64, 65, 66, 67, 68, 69, 70, 71, 72, 73, 74, 75, 76, 77, 78, 79, 80, 81, 91, 92, 93, 94, 95, 96, 97, 98, 99, 100, 101, 102, 103, 104, 105, 106, 107, 108, 109, 110, 111, 112, 113, 114, 115, 116, 117, 118, 119, 120] (by decide +kernel) (by decide +kernel)
set_option maxRecDepth 20000 in
theorem gX8_undo_X5_copyFrom : GoodIn wsX8_undo (wsV RX8 248 RX5 yX5_copyFrom wsX5_copyFrom) := goodIn_app (goodIn_of _ (by decide +kernel)) ggX8_undo_X5_copyFrom
theorem dX8_undo_0 : decode cX8_undo 0 = .ok (.aload_n 0, 1) := by decide +kernel
theorem dX8_undo_1 : decode cX8_undo 1 = .ok (.getfield 237, 3) := by decide +kernel
theorem dX8_undo_4 : decode cX8_undo 4 = .ok (.ifCond .le 7, 3) := by decide +kernel
theorem dX8_undo_7 : decode cX8_undo 7 = .ok (.iconst 1, 1) := by decide +kernel
theorem dX8_undo_8 : decode cX8_undo 8 = .ok (.goto 4, 3) := by decide +kernel
theorem dX8_undo_11 : decode cX8_undo 11 = .ok (.iconst 0, 1) := by decide +kernel
theorem dX8_undo_12 : decode cX8_undo 12 = .ok (.invokestatic 104, 3) := by decide +kernel
theorem dX8_undo_15 : decode cX8_undo 15 = .ok (.aload_n 0, 1) := by decide +kernel
theorem dX8_undo_16 : decode cX8_undo 16 = .ok (.aload_n 0, 1) := by decide +kernel
theorem dX8_undo_17 : decode cX8_undo 17 = .ok (.getfield 240, 3) := by decide +kernel
theorem dX8_undo_20 : decode cX8_undo 20 = .ok (.iconst 1, 1) := by decide +kernel
theorem dX8_undo_21 : decode cX8_undo 21 = .ok (.isub, 1) := by decide +kernel
theorem dX8_undo_22 : decode cX8_undo 22 = .ok (.iconst 4, 1) := by decide +kernel
theorem dX8_undo_23 : decode cX8_undo 23 = .ok (.invokestatic 243, 3) := by decide +kernel
theorem dX8_undo_26 : decode cX8_undo 26 = .ok (.putfield 240, 3) := by decide +kernel
theorem dX8_undo_29 : decode cX8_undo 29 = .ok (.aload_n 0, 1) := by decide +kernel
theorem dX8_undo_30 : decode cX8_undo 30 = .ok (.dup, 1) := by decide +kernel
theorem dX8_undo_31 : decode cX8_undo 31 = .ok (.getfield 237, 3) := by decide +kernel
theorem dX8_undo_34 : decode cX8_undo 34 = .ok (.iconst 1, 1) := by decide +kernel
theorem dX8_undo_35 : decode cX8_undo 35 = .ok (.isub, 1) := by decide +kernel
theorem dX8_undo_36 : decode cX8_undo 36 = .ok (.putfield 237, 3) := by decide +kernel
theorem dX8_undo_39 : decode cX8_undo 39 = .ok (.aload_n 0, 1) := by decide +kernel
theorem dX8_undo_40 : decode cX8_undo 40 = .ok (.getfield 16, 3) := by decide +kernel
theorem dX8_undo_43 : decode cX8_undo 43 = .ok (.aload_n 0, 1) := by decide +kernel
theorem dX8_undo_44 : decode cX8_undo 44 = .ok (.getfield 240, 3) := by decide +kernel
theorem dX8_undo_47 : decode cX8_undo 47 = .ok (.aaload, 1) := by decide +kernel
theorem dX8_undo_48 : decode cX8_undo 48 = .ok (.astore_n 1, 1) := by decide +kernel
theorem dX8_undo_49 : decode cX8_undo 49 = .ok (.aload_n 1, 1) := by decide +kernel
theorem dX8_undo_50 : decode cX8_undo 50 = .ok (.ifnull 11, 3) := by decide +kernel
theorem dX8_undo_53 : decode cX8_undo 53 = .ok (.aload_n 0, 1) := by decide +kernel
theorem dX8_undo_54 : decode cX8_undo 54 = .ok (.getfield 10, 3) := by decide +kernel
theorem dX8_undo_57 : decode cX8_undo 57 = .ok (.aload_n 1, 1) := by decide +kernel
theorem dX8_undo_58 : decode cX8_undo 58 = .ok (.invokevirtual 248, 3) := by decide +kernel
theorem dX8_undo_61 : decode cX8_undo 61 = .ok (.aload_n 0, 1) := by decide +kernel
theorem dX8_undo_62 : decode cX8_undo 62 = .ok (.getfield 237, 3) := by decide +kernel
theorem dX8_undo_65 : decode cX8_undo 65 = .ok (.ireturn, 1) := by decide +kernel
set_option maxRecDepth 20000 in
theorem ggX8_digest_X8_boomValue : GoodIn wsX8_digest wsX8_boomValue := goodIn_r _ [16, 5, 6, 17, 18, 19, 20, 21, 22, 23, 24, 9, 25, 26, 27, 28, 29, 30, 31, 32, 33, 34, 35, 36, 37, 38, 39, 40, 41, 42, 43, 44, 45, 46, 47, 48, 49, 50, 51, 52, 53, 54, 55, 56, 57, 58, 59, 60, 61, 62, 63, 64, 65, 66, 67, 68, 69, 70, 71, 72, 73, 74, 75, 76, 77, 78, 79, 80, 81, 82, 83, 84, 85, 86, 87, 88, 89, 90, 15, 91, 244, 245, 246, 247, 248, 249, 250, 251, 252, 253, 254, 255, 256, 257, 258, 259, 260, 261, 262, 263, 264, 265, 266, 267, 268, 269, 270, 271, 272, 273, 274] (by decide +kernel) (by decide +kernel)
set_option maxRecDepth 20000 in
theorem gX8_digest_X8_boomValue : GoodIn wsX8_digest (wsV RX8 169 RX8 yX8_boomValue wsX8_boomValue) := goodIn_app (goodIn_of _ (by decide +kernel)) ggX8_digest_X8_boomValue
set_option maxRecDepth 20000 in
theorem ggX8_digest_X8_limiterValue : GoodIn wsX8_digest wsX8_limiterValue := goodIn_r _ [95, 5, 6, 23, 96, 97, 98, 8, 19, 17, 99, 46, 47, 48, 49, 50, 51, 52, 53, 54, 55, 56, 57, 35, 36, 37, 58, 59, 28, 29, 30, 31, 32, 33, 34, 38, 39, 40, 41, 60, 61, 62, 63, 64, 65, 66, 67, 68, 69, 70, 71, 72, 73, 74, 75, 76, 77, 78, 100, 101, 102, 103, 104, 105, 106, 90, 15, 91, 107, 108, 109, 110, 111, 112, 113, 114, 115, 116, 117, 118, 119, 120, 121, 122, 123, 124, 125, 126, 127, 128, 129, 130, 131, 132, 133, 134, 135, 136, 137, 138, 139, 140, 141, 142, 143, 144, 145, 146, 147, 148, 244, 245, 246, 247, 248, 249, 250, 251, 252, 253, 254, 255, 256, 257, 258, 259, 260, 261, 269, 270, 271, 272, 262, 263, 264, 265, 266, 267, 268, 275, 276, 277, 278] (by decide +kernel) (by decide +kernel)
set_option maxRecDepth 20000 in
theorem gX8_digest_X8_limiterValue : GoodIn wsX8_digest (wsV RX8 172 RX8 yX8_limiterValue wsX8_limiterValue) := goodIn_app (goodIn_of _ (by decide +kernel)) ggX8_digest_X8_limiterValue
set_option maxRecDepth 20000 in
theorem ggX8_digest_X8_permitted : GoodIn wsX8_digest wsX8_permitted := goodIn_r _ [152, 153, 154, 155, 15, 156, 5, 6, 99, 9, 157, 19, 158, 159, 160, 30, 161, 162, 69, 33, 32, 163, 164, 165, 166, 68, 167, 43, 44, 45, 38, 39, 40, 41, 168, 169, 170, 171, 172, 173, 174, 175, 176, 177, 178, 179, 70, 180, 181, 182, 183, 184, 185, 186, 187, 188, 189, 36, 190, 34, 35, 37, 191, 192, 193, 194, 195, 196, 197, 198, 79, 80, 81, 82, 83, 84, 85, 86, 87, 88, 28, 29, 31, 89, 90, 91, 137, 138, 139, 140, 23, 98, 8, 17, 97, 46, 47, 48, 49, 50, 51, 52, 53, 54, 55, 56, 57, 58, 59, 60, 61, 62, 63, 64, 65, 66, 67, 71, 72, 73, 74, 75, 76, 77, 78, 112, 113, 114, 103, 115, 116, 101, 102, 104, 105, 106, 117, 118, 119, 120, 121, 122, 123, 124, 125, 126, 127, 128, 129, 130, 131, 132, 133, 134, 135, 136, 108, 109, 110, 111, 141, 142, 143, 144, 145, 146, 147, 148, 244, 245, 246, 247, 248, 249, 250, 251, 252, 253, 254, 255, 256, 257, 258, 259, 260, 261, 262, 263, 264, 265, 266, 267, 268, 273, 274, 269, 270, 271, 272, 275, 276, 277, 278] (by decide +kernel) (by decide +kernel)
set_option maxRecDepth 20000 in
theorem gX8_digest_X8_permitted : GoodIn wsX8_digest (wsV RX8 256 RX8 yX8_permitted wsX8_permitted) := goodIn_app (goodIn_of _ (by decide +kernel)) ggX8_digest_X8_permitted
set_option maxRecDepth 20000 in
theorem ggX8_digest_X1_hash : GoodIn wsX8_digest wsX1_hash := goodIn_r _ [202, 106, 203, 105, 204, 205, 206, 103, 207, 127, 128, 129, 130, 131, 275, 276, 277, 278] (by decide +kernel) (by decide +kernel)
set_option maxRecDepth 20000 in
theorem gX8_digest_X1_hash : GoodIn wsX8_digest (wsV RX8 259 RX1 yX1_hash wsX1_hash) := goodIn_app (goodIn_of _ (by decide +kernel)) ggX8_digest_X1_hash
set_option maxRecDepth 20000 in
theorem ggX8_digest_X7_hash : GoodIn wsX8_digest wsX7_hash := goodIn_r _ [211, 212, 84, 85, 273, 274] (by decide +kernel) (by decide +kernel)
set_option maxRecDepth 20000 in
theorem gX8_digest_X7_hash : GoodIn wsX8_digest (wsV RX8 263 RX7 yX7_hash wsX7_hash) := goodIn_app (goodIn_of _ (by decide +kernel)) ggX8_digest_X7_hash
set_option maxRecDepth 20000 in
theorem ggX8_digest_X3_hash : GoodIn wsX8_digest wsX3_hash := goodIn_r _ [217, 218, 219, 220, 221, 222, 216, 223, 224, 225, 226, 227, 228, 229, 230, 231, 232, 233, 234, 235, 279, 280, 281, 282, 283] (by decide +kernel) (by decide +kernel)
set_option maxRecDepth 20000 in
theorem gX8_digest_X3_hash : GoodIn wsX8_digest (wsV RX8 264 RX3 yX3_hash wsX3_hash) := goodIn_app (goodIn_of _ (by decide +kernel)) ggX8_digest_X3_hash
set_option maxRecDepth 20000 in
theorem ggX8_digest_X6_hash : GoodIn wsX8_digest wsX6_hash := goodIn_r _ [240, 241, 242, 243, 284, 285, 286] (by decide +kernel) (by decide +kernel)
set_option maxRecDepth 20000 in
theorem gX8_digest_X6_hash : GoodIn wsX8_digest (wsV RX8 265 RX6 yX6_hash wsX6_hash) := goodIn_app (goodIn_of _ (by decide +kernel)) ggX8_digest_X6_hash
theorem dX8_digest_0 : decode cX8_digest 0 = .ok (.ldc2_w 252, 3) := by decide +kernel
theorem dX8_digest_3 : decode cX8_digest 3 = .ok (.lstore_n 1, 1) := by decide +kernel
theorem dX8_digest_4 : decode cX8_digest 4 = .ok (.ldc2_w 254, 3) := by decide +kernel
theorem dX8_digest_7 : decode cX8_digest 7 = .ok (.lload_n 1, 1) := by decide +kernel
theorem dX8_digest_8 : decode cX8_digest 8 = .ok (.lmul, 1) := by decide +kernel
theorem dX8_digest_9 : decode cX8_digest 9 = .ok (.aload_n 0, 1) := by decide +kernel
theorem dX8_digest_10 : decode cX8_digest 10 = .ok (.getfield 237, 3) := by decide +kernel
theorem dX8_digest_13 : decode cX8_digest 13 = .ok (.i2l, 1) := by decide +kernel
theorem dX8_digest_14 : decode cX8_digest 14 = .ok (.ladd, 1) := by decide +kernel
theorem dX8_digest_15 : decode cX8_digest 15 = .ok (.lstore_n 1, 1) := by decide +kernel
theorem dX8_digest_16 : decode cX8_digest 16 = .ok (.ldc2_w 254, 3) := by decide +kernel
theorem dX8_digest_19 : decode cX8_digest 19 = .ok (.lload_n 1, 1) := by decide +kernel
theorem dX8_digest_20 : decode cX8_digest 20 = .ok (.lmul, 1) := by decide +kernel
theorem dX8_digest_21 : decode cX8_digest 21 = .ok (.aload_n 0, 1) := by decide +kernel
theorem dX8_digest_22 : decode cX8_digest 22 = .ok (.getfield 224, 3) := by decide +kernel
theorem dX8_digest_25 : decode cX8_digest 25 = .ok (.i2l, 1) := by decide +kernel
theorem dX8_digest_26 : decode cX8_digest 26 = .ok (.ladd, 1) := by decide +kernel
theorem dX8_digest_27 : decode cX8_digest 27 = .ok (.lstore_n 1, 1) := by decide +kernel
theorem dX8_digest_28 : decode cX8_digest 28 = .ok (.iconst 0, 1) := by decide +kernel
theorem dX8_digest_29 : decode cX8_digest 29 = .ok (.istore_n 3, 1) := by decide +kernel
theorem dX8_digest_30 : decode cX8_digest 30 = .ok (.iload_n 3, 1) := by decide +kernel
theorem dX8_digest_31 : decode cX8_digest 31 = .ok (.bipush 12, 2) := by decide +kernel
theorem dX8_digest_33 : decode cX8_digest 33 = .ok (.if_icmp .ge 22, 3) := by decide +kernel
theorem dX8_digest_36 : decode cX8_digest 36 = .ok (.ldc2_w 254, 3) := by decide +kernel
theorem dX8_digest_39 : decode cX8_digest 39 = .ok (.lload_n 1, 1) := by decide +kernel
theorem dX8_digest_40 : decode cX8_digest 40 = .ok (.lmul, 1) := by decide +kernel
theorem dX8_digest_41 : decode cX8_digest 41 = .ok (.aload_n 0, 1) := by decide +kernel
theorem dX8_digest_42 : decode cX8_digest 42 = .ok (.iload_n 3, 1) := by decide +kernel
theorem dX8_digest_43 : decode cX8_digest 43 = .ok (.invokevirtual 169, 3) := by decide +kernel
theorem dX8_digest_46 : decode cX8_digest 46 = .ok (.i2l, 1) := by decide +kernel
theorem dX8_digest_47 : decode cX8_digest 47 = .ok (.ladd, 1) := by decide +kernel
theorem dX8_digest_48 : decode cX8_digest 48 = .ok (.lstore_n 1, 1) := by decide +kernel
theorem dX8_digest_49 : decode cX8_digest 49 = .ok (.iinc 3 1, 3) := by decide +kernel
theorem dX8_digest_52 : decode cX8_digest 52 = .ok (.goto (-22), 3) := by decide +kernel
theorem dX8_digest_55 : decode cX8_digest 55 = .ok (.iconst 0, 1) := by decide +kernel
theorem dX8_digest_56 : decode cX8_digest 56 = .ok (.istore_n 3, 1) := by decide +kernel
theorem dX8_digest_57 : decode cX8_digest 57 = .ok (.iload_n 3, 1) := by decide +kernel
theorem dX8_digest_58 : decode cX8_digest 58 = .ok (.bipush 8, 2) := by decide +kernel
theorem dX8_digest_60 : decode cX8_digest 60 = .ok (.if_icmp .ge 22, 3) := by decide +kernel
theorem dX8_digest_63 : decode cX8_digest 63 = .ok (.ldc2_w 254, 3) := by decide +kernel
theorem dX8_digest_66 : decode cX8_digest 66 = .ok (.lload_n 1, 1) := by decide +kernel
theorem dX8_digest_67 : decode cX8_digest 67 = .ok (.lmul, 1) := by decide +kernel
theorem dX8_digest_68 : decode cX8_digest 68 = .ok (.aload_n 0, 1) := by decide +kernel
theorem dX8_digest_69 : decode cX8_digest 69 = .ok (.iload_n 3, 1) := by decide +kernel
theorem dX8_digest_70 : decode cX8_digest 70 = .ok (.invokevirtual 172, 3) := by decide +kernel
theorem dX8_digest_73 : decode cX8_digest 73 = .ok (.i2l, 1) := by decide +kernel
theorem dX8_digest_74 : decode cX8_digest 74 = .ok (.ladd, 1) := by decide +kernel
theorem dX8_digest_75 : decode cX8_digest 75 = .ok (.lstore_n 1, 1) := by decide +kernel
theorem dX8_digest_76 : decode cX8_digest 76 = .ok (.iinc 3 1, 3) := by decide +kernel
theorem dX8_digest_79 : decode cX8_digest 79 = .ok (.goto (-22), 3) := by decide +kernel
theorem dX8_digest_82 : decode cX8_digest 82 = .ok (.ldc2_w 254, 3) := by decide +kernel
theorem dX8_digest_85 : decode cX8_digest 85 = .ok (.lload_n 1, 1) := by decide +kernel
theorem dX8_digest_86 : decode cX8_digest 86 = .ok (.lmul, 1) := by decide +kernel
theorem dX8_digest_87 : decode cX8_digest 87 = .ok (.aload_n 0, 1) := by decide +kernel
theorem dX8_digest_88 : decode cX8_digest 88 = .ok (.invokevirtual 256, 3) := by decide +kernel
theorem dX8_digest_91 : decode cX8_digest 91 = .ok (.i2l, 1) := by decide +kernel
theorem dX8_digest_92 : decode cX8_digest 92 = .ok (.ladd, 1) := by decide +kernel
theorem dX8_digest_93 : decode cX8_digest 93 = .ok (.lstore_n 1, 1) := by decide +kernel
theorem dX8_digest_94 : decode cX8_digest 94 = .ok (.ldc2_w 254, 3) := by decide +kernel
theorem dX8_digest_97 : decode cX8_digest 97 = .ok (.lload_n 1, 1) := by decide +kernel
theorem dX8_digest_98 : decode cX8_digest 98 = .ok (.lmul, 1) := by decide +kernel
theorem dX8_digest_99 : decode cX8_digest 99 = .ok (.aload_n 0, 1) := by decide +kernel
theorem dX8_digest_100 : decode cX8_digest 100 = .ok (.getfield 10, 3) := by decide +kernel
theorem dX8_digest_103 : decode cX8_digest 103 = .ok (.getfield 117, 3) := by decide +kernel
theorem dX8_digest_106 : decode cX8_digest 106 = .ok (.getfield 143, 3) := by decide +kernel
theorem dX8_digest_109 : decode cX8_digest 109 = .ok (.i2l, 1) := by decide +kernel
theorem dX8_digest_110 : decode cX8_digest 110 = .ok (.ladd, 1) := by decide +kernel
theorem dX8_digest_111 : decode cX8_digest 111 = .ok (.lstore_n 1, 1) := by decide +kernel
theorem dX8_digest_112 : decode cX8_digest 112 = .ok (.aload_n 0, 1) := by decide +kernel
theorem dX8_digest_113 : decode cX8_digest 113 = .ok (.getfield 10, 3) := by decide +kernel
theorem dX8_digest_116 : decode cX8_digest 116 = .ok (.getfield 58, 3) := by decide +kernel
theorem dX8_digest_119 : decode cX8_digest 119 = .ok (.lload_n 1, 1) := by decide +kernel
theorem dX8_digest_120 : decode cX8_digest 120 = .ok (.invokevirtual 259, 3) := by decide +kernel
theorem dX8_digest_123 : decode cX8_digest 123 = .ok (.lstore_n 1, 1) := by decide +kernel
theorem dX8_digest_124 : decode cX8_digest 124 = .ok (.aload_n 0, 1) := by decide +kernel
theorem dX8_digest_125 : decode cX8_digest 125 = .ok (.getfield 10, 3) := by decide +kernel
theorem dX8_digest_128 : decode cX8_digest 128 = .ok (.getfield 94, 3) := by decide +kernel
theorem dX8_digest_131 : decode cX8_digest 131 = .ok (.lload_n 1, 1) := by decide +kernel
theorem dX8_digest_132 : decode cX8_digest 132 = .ok (.invokevirtual 263, 3) := by decide +kernel
theorem dX8_digest_135 : decode cX8_digest 135 = .ok (.lstore_n 1, 1) := by decide +kernel
theorem dX8_digest_136 : decode cX8_digest 136 = .ok (.aload_n 0, 1) := by decide +kernel
theorem dX8_digest_137 : decode cX8_digest 137 = .ok (.getfield 10, 3) := by decide +kernel
theorem dX8_digest_140 : decode cX8_digest 140 = .ok (.getfield 199, 3) := by decide +kernel
theorem dX8_digest_143 : decode cX8_digest 143 = .ok (.lload_n 1, 1) := by decide +kernel
theorem dX8_digest_144 : decode cX8_digest 144 = .ok (.invokevirtual 264, 3) := by decide +kernel
theorem dX8_digest_147 : decode cX8_digest 147 = .ok (.lstore_n 1, 1) := by decide +kernel
theorem dX8_digest_148 : decode cX8_digest 148 = .ok (.aload_n 0, 1) := by decide +kernel
theorem dX8_digest_149 : decode cX8_digest 149 = .ok (.getfield 10, 3) := by decide +kernel
theorem dX8_digest_152 : decode cX8_digest 152 = .ok (.getfield 211, 3) := by decide +kernel
theorem dX8_digest_155 : decode cX8_digest 155 = .ok (.lload_n 1, 1) := by decide +kernel
theorem dX8_digest_156 : decode cX8_digest 156 = .ok (.invokevirtual 265, 3) := by decide +kernel
theorem dX8_digest_159 : decode cX8_digest 159 = .ok (.lreturn, 1) := by decide +kernel
theorem dX8_requireIndex_0 : decode cX8_requireIndex 0 = .ok (.iload_n 0, 1) := by decide +kernel
theorem dX8_requireIndex_1 : decode cX8_requireIndex 1 = .ok (.ifCond .lt 8, 3) := by decide +kernel
theorem dX8_requireIndex_4 : decode cX8_requireIndex 4 = .ok (.iload_n 0, 1) := by decide +kernel
theorem dX8_requireIndex_5 : decode cX8_requireIndex 5 = .ok (.iload_n 1, 1) := by decide +kernel
theorem dX8_requireIndex_6 : decode cX8_requireIndex 6 = .ok (.if_icmp .lt 14, 3) := by decide +kernel
theorem dX8_requireIndex_9 : decode cX8_requireIndex 9 = .ok (.new 266, 3) := by decide +kernel
theorem dX8_requireIndex_12 : decode cX8_requireIndex 12 = .ok (.dup, 1) := by decide +kernel
theorem dX8_requireIndex_13 : decode cX8_requireIndex 13 = .ok (.ldc_w 268, 3) := by decide +kernel
theorem dX8_requireIndex_16 : decode cX8_requireIndex 16 = .ok (.invokespecial 270, 3) := by decide +kernel
theorem dX8_requireIndex_19 : decode cX8_requireIndex 19 = .ok (.athrow, 1) := by decide +kernel
theorem dX8_requireIndex_20 : decode cX8_requireIndex 20 = .ok (.return_, 1) := by decide +kernel
set_option maxRecDepth 20000 in
theorem ggX8_requirePlace_X8_requireIndex : GoodIn wsX8_requirePlace wsX8_requireIndex := goodIn_ca (goodIn_r _ [4, 5, 6] (by decide +kernel) (by decide +kernel)) (goodIn_sub (fun _ h => List.mem_cons_of_mem _ (List.mem_append_right _ h)) (by decide +kernel))
set_option maxRecDepth 20000 in
theorem gX8_requirePlace_X8_requireIndex : GoodIn wsX8_requirePlace (va_wsS RX8 47 yX8_requireIndex wsX8_requireIndex) := goodIn_app (goodIn_of _ (by decide +kernel)) ggX8_requirePlace_X8_requireIndex
theorem dX8_requirePlace_0 : decode cX8_requirePlace 0 = .ok (.iload_n 0, 1) := by decide +kernel
theorem dX8_requirePlace_1 : decode cX8_requirePlace 1 = .ok (.iconst 4, 1) := by decide +kernel
theorem dX8_requirePlace_2 : decode cX8_requirePlace 2 = .ok (.invokestatic 47, 3) := by decide +kernel
theorem dX8_requirePlace_5 : decode cX8_requirePlace 5 = .ok (.iload_n 1, 1) := by decide +kernel
theorem dX8_requirePlace_6 : decode cX8_requirePlace 6 = .ok (.iconst 4, 1) := by decide +kernel
theorem dX8_requirePlace_7 : decode cX8_requirePlace 7 = .ok (.invokestatic 47, 3) := by decide +kernel
theorem dX8_requirePlace_10 : decode cX8_requirePlace 10 = .ok (.iload_n 2, 1) := by decide +kernel
theorem dX8_requirePlace_11 : decode cX8_requirePlace 11 = .ok (.bipush 6, 2) := by decide +kernel
theorem dX8_requirePlace_13 : decode cX8_requirePlace 13 = .ok (.invokestatic 47, 3) := by decide +kernel
theorem dX8_requirePlace_16 : decode cX8_requirePlace 16 = .ok (.return_, 1) := by decide +kernel
theorem dX8_requireArgument_0 : decode cX8_requireArgument 0 = .ok (.iload_n 0, 1) := by decide +kernel
theorem dX8_requireArgument_1 : decode cX8_requireArgument 1 = .ok (.iload_n 1, 1) := by decide +kernel
theorem dX8_requireArgument_2 : decode cX8_requireArgument 2 = .ok (.if_icmp .lt 8, 3) := by decide +kernel
theorem dX8_requireArgument_5 : decode cX8_requireArgument 5 = .ok (.iload_n 0, 1) := by decide +kernel
theorem dX8_requireArgument_6 : decode cX8_requireArgument 6 = .ok (.iload_n 2, 1) := by decide +kernel
theorem dX8_requireArgument_7 : decode cX8_requireArgument 7 = .ok (.if_icmp .le 14, 3) := by decide +kernel
