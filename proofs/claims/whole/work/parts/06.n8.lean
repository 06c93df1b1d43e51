set_option maxRecDepth 20000 in
theorem ggX8_init_X2_init : GoodIn wsX8_init wsX2_init := goodIn_r _ [29, 30, 2, 3, 31, 32, 33, 34, 35, 36, 37, 38, 39, 40, 41, 42, 43, 44, 45, 46, 47, 48, 49, 50, 51, 52, 53, 54, 55, 56, 57, 58, 59, 60, 61, 62, 63, 64, 65, 66, 67, 154, 155, 156, 157, 158, 159, 126, 127, 128, 129, 160, 161, 162] (by decide +kernel) (by decide +kernel)
set_option maxRecDepth 20000 in
theorem gX8_init_X2_init_n9 : GoodIn wsX8_init (wsX2_init) := ggX8_init_X2_init
set_option maxRecDepth 20000 in
theorem ggX8_init_X2_words : GoodIn wsX8_init wsX2_words := goodIn_r _ [71, 34, 126, 127, 128, 129] (by decide +kernel) (by decide +kernel)
set_option maxRecDepth 20000 in
theorem gX8_init_X2_words : GoodIn wsX8_init (wsV RX8 16 RX2 yX2_words wsX2_words) := goodIn_app (goodIn_of _ (by decide +kernel)) ggX8_init_X2_words
set_option maxRecDepth 20000 in
theorem ggX8_init_X7_init : GoodIn wsX8_init wsX7_init := goodIn_r _ [73, 74, 2, 3, 75, 36, 37, 76, 77, 41, 42, 78, 79, 55, 56, 57, 58, 59, 60, 62, 63, 64, 65, 66, 67, 160, 161, 139, 140, 162] (by decide +kernel) (by decide +kernel)
set_option maxRecDepth 20000 in
theorem gX8_init_X7_init_n29 : GoodIn wsX8_init (wsX7_init) := ggX8_init_X7_init
set_option maxRecDepth 20000 in
theorem ggX8_init_X5_filled : GoodIn wsX8_init wsX5_filled := goodIn_r _ [82, 83, 36, 37, 84, 55, 56, 57, 2, 3, 58, 59, 60, 85, 86, 87, 88, 89, 90, 91, 92, 93, 94, 95, 96, 160, 161] (by decide +kernel) (by decide +kernel)
set_option maxRecDepth 20000 in
theorem gX8_init_X5_filled : GoodIn wsX8_init (va_wsS RX8 30 yX5_filled wsX5_filled) := goodIn_app (goodIn_of _ (by decide +kernel)) ggX8_init_X5_filled
set_option maxRecDepth 20000 in
theorem ggX8_init_X4_init : GoodIn wsX8_init wsX4_init := goodIn_r _ [98, 99, 2, 3, 100, 36, 37, 101, 102, 103, 104, 105, 106, 107, 108, 109, 55, 56, 57, 58, 59, 60, 110, 81, 82, 83, 84, 85, 86, 87, 88, 89, 90, 91, 92, 93, 94, 95, 96, 160, 161, 141, 142, 143, 144, 145, 146, 147, 148] (by decide +kernel) (by decide +kernel)
set_option maxRecDepth 20000 in
theorem gX8_init_X4_init_n42 : GoodIn wsX8_init (wsX4_init) := ggX8_init_X4_init
set_option maxRecDepth 20000 in
theorem ggX8_init_X3_init : GoodIn wsX8_init wsX3_init := goodIn_r _ [112, 113, 2, 3, 114, 36, 37, 115, 116, 117, 118, 55, 56, 57, 58, 59, 60, 160, 161, 149, 150, 151] (by decide +kernel) (by decide +kernel)
set_option maxRecDepth 20000 in
theorem gX8_init_X3_init_n49 : GoodIn wsX8_init (wsX3_init) := ggX8_init_X3_init
set_option maxRecDepth 20000 in
theorem ggX8_init_X1_init : GoodIn wsX8_init wsX1_init := goodIn_r _ [120, 121, 2, 3, 122, 36, 37, 123, 124, 125, 55, 56, 57, 58, 59, 60, 160, 161, 152, 153] (by decide +kernel) (by decide +kernel)
set_option maxRecDepth 20000 in
theorem gX8_init_X1_init_n56 : GoodIn wsX8_init (wsX1_init) := ggX8_init_X1_init
theorem dX8_init_0 : decode cX8_init 0 = .ok (.aload_n 0, 1) := by decide +kernel
theorem dX8_init_1 : decode cX8_init 1 = .ok (.invokespecial 1, 3) := by decide +kernel
theorem dX8_init_4 : decode cX8_init 4 = .ok (.aload_n 0, 1) := by decide +kernel
theorem dX8_init_5 : decode cX8_init 5 = .ok (.new 7, 3) := by decide +kernel
theorem dX8_init_8 : decode cX8_init 8 = .ok (.dup, 1) := by decide +kernel
theorem dX8_init_9 : decode cX8_init 9 = .ok (.invokespecial 9, 3) := by decide +kernel
theorem dX8_init_12 : decode cX8_init 12 = .ok (.putfield 10, 3) := by decide +kernel
theorem dX8_init_15 : decode cX8_init 15 = .ok (.aload_n 0, 1) := by decide +kernel
theorem dX8_init_16 : decode cX8_init 16 = .ok (.aload_n 0, 1) := by decide +kernel
theorem dX8_init_17 : decode cX8_init 17 = .ok (.getfield 10, 3) := by decide +kernel
theorem dX8_init_20 : decode cX8_init 20 = .ok (.invokevirtual 16, 3) := by decide +kernel
theorem dX8_init_23 : decode cX8_init 23 = .ok (.putfield 20, 3) := by decide +kernel
theorem dX8_init_26 : decode cX8_init 26 = .ok (.aload_n 0, 1) := by decide +kernel
theorem dX8_init_27 : decode cX8_init 27 = .ok (.bipush 6, 2) := by decide +kernel
theorem dX8_init_29 : decode cX8_init 29 = .ok (.anewarray 23, 3) := by decide +kernel
theorem dX8_init_32 : decode cX8_init 32 = .ok (.putfield 25, 3) := by decide +kernel
theorem dX8_init_35 : decode cX8_init 35 = .ok (.iconst 0, 1) := by decide +kernel
theorem dX8_init_36 : decode cX8_init 36 = .ok (.istore_n 1, 1) := by decide +kernel
theorem dX8_init_37 : decode cX8_init 37 = .ok (.iload_n 1, 1) := by decide +kernel
theorem dX8_init_38 : decode cX8_init 38 = .ok (.aload_n 0, 1) := by decide +kernel
theorem dX8_init_39 : decode cX8_init 39 = .ok (.getfield 25, 3) := by decide +kernel
theorem dX8_init_42 : decode cX8_init 42 = .ok (.arraylength, 1) := by decide +kernel
theorem dX8_init_43 : decode cX8_init 43 = .ok (.if_icmp .ge 22, 3) := by decide +kernel
theorem dX8_init_46 : decode cX8_init 46 = .ok (.aload_n 0, 1) := by decide +kernel
theorem dX8_init_47 : decode cX8_init 47 = .ok (.getfield 25, 3) := by decide +kernel
theorem dX8_init_50 : decode cX8_init 50 = .ok (.iload_n 1, 1) := by decide +kernel
theorem dX8_init_51 : decode cX8_init 51 = .ok (.new 23, 3) := by decide +kernel
theorem dX8_init_54 : decode cX8_init 54 = .ok (.dup, 1) := by decide +kernel
theorem dX8_init_55 : decode cX8_init 55 = .ok (.invokespecial 29, 3) := by decide +kernel
theorem dX8_init_58 : decode cX8_init 58 = .ok (.aastore, 1) := by decide +kernel
theorem dX8_init_59 : decode cX8_init 59 = .ok (.iinc 1 1, 3) := by decide +kernel
theorem dX8_init_62 : decode cX8_init 62 = .ok (.goto (-25), 3) := by decide +kernel
theorem dX8_init_65 : decode cX8_init 65 = .ok (.aload_n 0, 1) := by decide +kernel
theorem dX8_init_66 : decode cX8_init 66 = .ok (.bipush 6, 2) := by decide +kernel
theorem dX8_init_68 : decode cX8_init 68 = .ok (.iconst 0, 1) := by decide +kernel
theorem dX8_init_69 : decode cX8_init 69 = .ok (.invokestatic 30, 3) := by decide +kernel
theorem dX8_init_72 : decode cX8_init 72 = .ok (.putfield 36, 3) := by decide +kernel
theorem dX8_init_75 : decode cX8_init 75 = .ok (.aload_n 0, 1) := by decide +kernel
theorem dX8_init_76 : decode cX8_init 76 = .ok (.new 40, 3) := by decide +kernel
theorem dX8_init_79 : decode cX8_init 79 = .ok (.dup, 1) := by decide +kernel
theorem dX8_init_80 : decode cX8_init 80 = .ok (.invokespecial 42, 3) := by decide +kernel
theorem dX8_init_83 : decode cX8_init 83 = .ok (.putfield 43, 3) := by decide +kernel
theorem dX8_init_86 : decode cX8_init 86 = .ok (.aload_n 0, 1) := by decide +kernel
theorem dX8_init_87 : decode cX8_init 87 = .ok (.new 47, 3) := by decide +kernel
theorem dX8_init_90 : decode cX8_init 90 = .ok (.dup, 1) := by decide +kernel
theorem dX8_init_91 : decode cX8_init 91 = .ok (.invokespecial 49, 3) := by decide +kernel
theorem dX8_init_94 : decode cX8_init 94 = .ok (.putfield 50, 3) := by decide +kernel
theorem dX8_init_97 : decode cX8_init 97 = .ok (.aload_n 0, 1) := by decide +kernel
theorem dX8_init_98 : decode cX8_init 98 = .ok (.new 54, 3) := by decide +kernel
theorem dX8_init_101 : decode cX8_init 101 = .ok (.dup, 1) := by decide +kernel
theorem dX8_init_102 : decode cX8_init 102 = .ok (.invokespecial 56, 3) := by decide +kernel
theorem dX8_init_105 : decode cX8_init 105 = .ok (.putfield 57, 3) := by decide +kernel
theorem dX8_init_108 : decode cX8_init 108 = .ok (.aload_n 0, 1) := by decide +kernel
theorem dX8_init_109 : decode cX8_init 109 = .ok (.iconst 0, 1) := by decide +kernel
theorem dX8_init_110 : decode cX8_init 110 = .ok (.putfield 61, 3) := by decide +kernel
theorem dX8_init_113 : decode cX8_init 113 = .ok (.aload_n 0, 1) := by decide +kernel
theorem dX8_init_114 : decode cX8_init 114 = .ok (.iconst 0, 1) := by decide +kernel
theorem dX8_init_115 : decode cX8_init 115 = .ok (.putfield 65, 3) := by decide +kernel
theorem dX8_init_118 : decode cX8_init 118 = .ok (.return_, 1) := by decide +kernel
set_option maxRecDepth 20000 in
theorem ggX8_type_X8_writerAt : GoodIn wsX8_type wsX8_writerAt := goodIn_ca (goodIn_r _ [6, 7, 8, 9, 89, 90, 91, 92, 93, 94, 95, 96, 97] (by decide +kernel) (by decide +kernel)) (goodIn_sub (fun _ h => List.mem_cons_of_mem _ (List.mem_append_left _ (List.mem_append_left _ (List.mem_append_right _ h)))) (by decide +kernel))
set_option maxRecDepth 20000 in
theorem gX8_type_X8_writerAt : GoodIn wsX8_type (wsV RX8 68 RX8 yX8_writerAt wsX8_writerAt) := goodIn_app (goodIn_of _ (by decide +kernel)) ggX8_type_X8_writerAt
set_option maxRecDepth 20000 in
theorem ggX8_type_X7_copied : GoodIn wsX8_type wsX7_copied := goodIn_r _ [14, 15, 98, 99] (by decide +kernel) (by decide +kernel)
set_option maxRecDepth 20000 in
theorem gX8_type_X7_copied : GoodIn wsX8_type (wsV RX8 72 RX7 yX7_copied wsX7_copied) := goodIn_app (goodIn_of _ (by decide +kernel)) ggX8_type_X7_copied
set_option maxRecDepth 20000 in
theorem ggX8_type_X5_size : GoodIn wsX8_type wsX5_size := goodIn_r _ [20, 21, 100, 101] (by decide +kernel) (by decide +kernel)
set_option maxRecDepth 20000 in
theorem gX8_type_X5_size : GoodIn wsX8_type (wsV RX8 76 RX5 yX5_size wsX5_size) := goodIn_app (goodIn_of _ (by decide +kernel)) ggX8_type_X5_size
set_option maxRecDepth 20000 in
theorem ggX8_type_X8_requireIndex : GoodIn wsX8_type wsX8_requireIndex := goodIn_ca (goodIn_r _ [24, 7, 8] (by decide +kernel) (by decide +kernel)) (goodIn_sub (fun _ h => List.mem_cons_of_mem _ (List.mem_append_left _ (List.mem_append_left _ (List.mem_append_right _ h)))) (by decide +kernel))
set_option maxRecDepth 20000 in
theorem gX8_type_X8_requireIndex : GoodIn wsX8_type (va_wsS RX8 80 yX8_requireIndex wsX8_requireIndex) := goodIn_app (goodIn_of _ (by decide +kernel)) ggX8_type_X8_requireIndex
set_option maxRecDepth 20000 in
theorem ggX8_type_X8_requireRange : GoodIn wsX8_type wsX8_requireRange := goodIn_ca (goodIn_r _ [27, 28, 29, 5, 30, 31, 32] (by decide +kernel) (by decide +kernel)) (goodIn_sub (fun _ h => List.mem_cons_of_mem _ (List.mem_append_left _ (List.mem_append_right _ h))) (by decide +kernel))
set_option maxRecDepth 20000 in
theorem gX8_type_X8_requireRange : GoodIn wsX8_type (va_wsS RX8 84 yX8_requireRange wsX8_requireRange) := goodIn_app (goodIn_of _ (by decide +kernel)) ggX8_type_X8_requireRange
set_option maxRecDepth 20000 in
theorem ggX8_type_X6_count : GoodIn wsX8_type wsX6_count := goodIn_r _ [37, 38, 39, 17, 18, 19, 20, 21, 102, 103, 104, 105, 106, 107, 100, 101] (by decide +kernel) (by decide +kernel)
set_option maxRecDepth 20000 in
theorem gX8_type_X6_count : GoodIn wsX8_type (wsV RX8 88 RX6 yX6_count wsX6_count) := goodIn_app (goodIn_of _ (by decide +kernel)) ggX8_type_X6_count
set_option maxRecDepth 20000 in
theorem ggX8_type_X8_requireState : GoodIn wsX8_type wsX8_requireState := goodIn_ca (goodIn_r _ [42, 43, 44] (by decide +kernel) (by decide +kernel)) (goodIn_sub (fun _ h => List.mem_cons_of_mem _ (List.mem_append_right _ h)) (by decide +kernel))
set_option maxRecDepth 20000 in
theorem gX8_type_X8_requireState : GoodIn wsX8_type (va_wsS RX8 93 yX8_requireState wsX8_requireState) := goodIn_app (goodIn_of _ (by decide +kernel)) ggX8_type_X8_requireState
set_option maxRecDepth 20000 in
theorem ggX8_type_X5_at : GoodIn wsX8_type wsX5_at := goodIn_r _ [48, 49, 50, 51, 52, 19, 53, 21, 100, 101] (by decide +kernel) (by decide +kernel)
set_option maxRecDepth 20000 in
theorem gX8_type_X5_at : GoodIn wsX8_type (wsV RX8 97 RX5 yX5_at wsX5_at) := goodIn_app (goodIn_of _ (by decide +kernel)) ggX8_type_X5_at
set_option maxRecDepth 20000 in
theorem ggX8_type_X6_add : GoodIn wsX8_type wsX6_add := goodIn_r _ [57, 38, 58, 59, 60, 61, 62, 63, 64, 65, 19, 66, 21, 67, 68, 69, 70, 49, 71, 72, 73, 74, 75, 34, 35, 36, 37, 39, 17, 18, 20, 102, 103, 104, 105, 106, 107, 100, 101] (by decide +kernel) (by decide +kernel)
set_option maxRecDepth 20000 in
theorem gX8_type_X6_add : GoodIn wsX8_type (wsV RX8 101 RX6 yX6_add wsX6_add) := goodIn_app (goodIn_of _ (by decide +kernel)) ggX8_type_X6_add
set_option maxRecDepth 20000 in
theorem ggX8_type_X7_putIn : GoodIn wsX8_type wsX7_putIn := goodIn_r _ [79, 15, 80, 81, 68, 69, 19, 70, 21, 49, 71, 72, 73, 74, 82, 83, 84, 85, 86, 87, 88, 64, 65, 66, 67, 98, 99, 100, 101, 108] (by decide +kernel) (by decide +kernel)
set_option maxRecDepth 20000 in
theorem gX8_type_X7_putIn : GoodIn wsX8_type (wsV RX8 105 RX7 yX7_putIn wsX7_putIn) := goodIn_app (goodIn_of _ (by decide +kernel)) ggX8_type_X7_putIn
theorem dX8_type_0 : decode cX8_type 0 = .ok (.aload_n 0, 1) := by decide +kernel
theorem dX8_type_1 : decode cX8_type 1 = .ok (.iload_n 1, 1) := by decide +kernel
theorem dX8_type_2 : decode cX8_type 2 = .ok (.invokevirtual 68, 3) := by decide +kernel
theorem dX8_type_5 : decode cX8_type 5 = .ok (.astore 4, 2) := by decide +kernel
theorem dX8_type_7 : decode cX8_type 7 = .ok (.iload_n 2, 1) := by decide +kernel
theorem dX8_type_8 : decode cX8_type 8 = .ok (.aload 4, 2) := by decide +kernel
theorem dX8_type_10 : decode cX8_type 10 = .ok (.invokevirtual 72, 3) := by decide +kernel
theorem dX8_type_13 : decode cX8_type 13 = .ok (.invokevirtual 76, 3) := by decide +kernel
theorem dX8_type_16 : decode cX8_type 16 = .ok (.iconst 1, 1) := by decide +kernel
theorem dX8_type_17 : decode cX8_type 17 = .ok (.iadd, 1) := by decide +kernel
theorem dX8_type_18 : decode cX8_type 18 = .ok (.invokestatic 80, 3) := by decide +kernel
theorem dX8_type_21 : decode cX8_type 21 = .ok (.iload_n 3, 1) := by decide +kernel
theorem dX8_type_22 : decode cX8_type 22 = .ok (.iconst 0, 1) := by decide +kernel
theorem dX8_type_23 : decode cX8_type 23 = .ok (.sipush 999, 3) := by decide +kernel
theorem dX8_type_26 : decode cX8_type 26 = .ok (.invokestatic 84, 3) := by decide +kernel
theorem dX8_type_29 : decode cX8_type 29 = .ok (.aload_n 0, 1) := by decide +kernel
theorem dX8_type_30 : decode cX8_type 30 = .ok (.getfield 20, 3) := by decide +kernel
theorem dX8_type_33 : decode cX8_type 33 = .ok (.invokevirtual 88, 3) := by decide +kernel
theorem dX8_type_36 : decode cX8_type 36 = .ok (.sipush 300, 3) := by decide +kernel
theorem dX8_type_39 : decode cX8_type 39 = .ok (.if_icmp .ge 7, 3) := by decide +kernel
theorem dX8_type_42 : decode cX8_type 42 = .ok (.iconst 1, 1) := by decide +kernel
theorem dX8_type_43 : decode cX8_type 43 = .ok (.goto 4, 3) := by decide +kernel
theorem dX8_type_46 : decode cX8_type 46 = .ok (.iconst 0, 1) := by decide +kernel
theorem dX8_type_47 : decode cX8_type 47 = .ok (.invokestatic 93, 3) := by decide +kernel
theorem dX8_type_50 : decode cX8_type 50 = .ok (.aload 4, 2) := by decide +kernel
theorem dX8_type_52 : decode cX8_type 52 = .ok (.invokevirtual 72, 3) := by decide +kernel
theorem dX8_type_55 : decode cX8_type 55 = .ok (.iload_n 2, 1) := by decide +kernel
theorem dX8_type_56 : decode cX8_type 56 = .ok (.iconst 1, 1) := by decide +kernel
theorem dX8_type_57 : decode cX8_type 57 = .ok (.isub, 1) := by decide +kernel
theorem dX8_type_58 : decode cX8_type 58 = .ok (.invokevirtual 97, 3) := by decide +kernel
theorem dX8_type_61 : decode cX8_type 61 = .ok (.istore 5, 2) := by decide +kernel
theorem dX8_type_63 : decode cX8_type 63 = .ok (.aload_n 0, 1) := by decide +kernel
theorem dX8_type_64 : decode cX8_type 64 = .ok (.getfield 20, 3) := by decide +kernel
theorem dX8_type_67 : decode cX8_type 67 = .ok (.iload_n 1, 1) := by decide +kernel
theorem dX8_type_68 : decode cX8_type 68 = .ok (.iload_n 3, 1) := by decide +kernel
theorem dX8_type_69 : decode cX8_type 69 = .ok (.iload 5, 2) := by decide +kernel
theorem dX8_type_71 : decode cX8_type 71 = .ok (.invokevirtual 101, 3) := by decide +kernel
theorem dX8_type_74 : decode cX8_type 74 = .ok (.istore 6, 2) := by decide +kernel
theorem dX8_type_76 : decode cX8_type 76 = .ok (.aload 4, 2) := by decide +kernel
theorem dX8_type_78 : decode cX8_type 78 = .ok (.iload_n 2, 1) := by decide +kernel
theorem dX8_type_79 : decode cX8_type 79 = .ok (.iload 6, 2) := by decide +kernel
theorem dX8_type_81 : decode cX8_type 81 = .ok (.invokevirtual 105, 3) := by decide +kernel
theorem dX8_type_84 : decode cX8_type 84 = .ok (.iload 6, 2) := by decide +kernel
theorem dX8_type_86 : decode cX8_type 86 = .ok (.ireturn, 1) := by decide +kernel
set_option maxRecDepth 20000 in
theorem ggX8_delete_X8_writerAt : GoodIn wsX8_delete wsX8_writerAt := goodIn_ca (goodIn_r _ [5, 6, 7, 8, 56, 57, 58, 59, 60, 61, 62, 63, 64] (by decide +kernel) (by decide +kernel)) (goodIn_sub (fun _ h => List.mem_cons_of_mem _ (List.mem_append_right _ h)) (by decide +kernel))
set_option maxRecDepth 20000 in
theorem gX8_delete_X8_writerAt : GoodIn wsX8_delete (wsV RX8 68 RX8 yX8_writerAt wsX8_writerAt) := goodIn_app (goodIn_of _ (by decide +kernel)) ggX8_delete_X8_writerAt
set_option maxRecDepth 20000 in
theorem ggX8_delete_X7_copied : GoodIn wsX8_delete wsX7_copied := goodIn_r _ [13, 14, 65, 66] (by decide +kernel) (by decide +kernel)
set_option maxRecDepth 20000 in
theorem gX8_delete_X7_copied : GoodIn wsX8_delete (wsV RX8 72 RX7 yX7_copied wsX7_copied) := goodIn_app (goodIn_of _ (by decide +kernel)) ggX8_delete_X7_copied
set_option maxRecDepth 20000 in
theorem ggX8_delete_X5_size : GoodIn wsX8_delete wsX5_size := goodIn_r _ [19, 20, 67, 68] (by decide +kernel) (by decide +kernel)
set_option maxRecDepth 20000 in
theorem gX8_delete_X5_size : GoodIn wsX8_delete (wsV RX8 76 RX5 yX5_size wsX5_size) := goodIn_app (goodIn_of _ (by decide +kernel)) ggX8_delete_X5_size
set_option maxRecDepth 20000 in
theorem ggX8_delete_X8_requireIndex : GoodIn wsX8_delete wsX8_requireIndex := goodIn_ca (goodIn_r _ [23, 6, 7] (by decide +kernel) (by decide +kernel)) (goodIn_sub (fun _ h => List.mem_cons_of_mem _ (List.mem_append_right _ h)) (by decide +kernel))
set_option maxRecDepth 20000 in
theorem gX8_delete_X8_requireIndex : GoodIn wsX8_delete (va_wsS RX8 80 yX8_requireIndex wsX8_requireIndex) := goodIn_app (goodIn_of _ (by decide +kernel)) ggX8_delete_X8_requireIndex
set_option maxRecDepth 20000 in
theorem ggX8_delete_X7_takeOut : GoodIn wsX8_delete wsX7_takeOut := goodIn_r _ [27, 14, 28, 29, 30, 31, 18, 32, 33, 20, 34, 35, 36, 37, 38, 39, 40, 41, 42, 43, 44, 45, 46, 47, 48, 49, 50, 51, 52, 53, 54, 55, 65, 66, 67, 68, 69] (by decide +kernel) (by decide +kernel)
set_option maxRecDepth 20000 in
theorem gX8_delete_X7_takeOut : GoodIn wsX8_delete (wsV RX8 108 RX7 yX7_takeOut wsX7_takeOut) := goodIn_app (goodIn_of _ (by decide +kernel)) ggX8_delete_X7_takeOut
theorem dX8_delete_0 : decode cX8_delete 0 = .ok (.aload_n 0, 1) := by decide +kernel
theorem dX8_delete_1 : decode cX8_delete 1 = .ok (.iload_n 1, 1) := by decide +kernel
theorem dX8_delete_2 : decode cX8_delete 2 = .ok (.invokevirtual 68, 3) := by decide +kernel
theorem dX8_delete_5 : decode cX8_delete 5 = .ok (.astore_n 3, 1) := by decide +kernel
theorem dX8_delete_6 : decode cX8_delete 6 = .ok (.iload_n 2, 1) := by decide +kernel
theorem dX8_delete_7 : decode cX8_delete 7 = .ok (.aload_n 3, 1) := by decide +kernel
theorem dX8_delete_8 : decode cX8_delete 8 = .ok (.invokevirtual 72, 3) := by decide +kernel
theorem dX8_delete_11 : decode cX8_delete 11 = .ok (.invokevirtual 76, 3) := by decide +kernel
theorem dX8_delete_14 : decode cX8_delete 14 = .ok (.invokestatic 80, 3) := by decide +kernel
theorem dX8_delete_17 : decode cX8_delete 17 = .ok (.aload_n 3, 1) := by decide +kernel
theorem dX8_delete_18 : decode cX8_delete 18 = .ok (.iload_n 2, 1) := by decide +kernel
theorem dX8_delete_19 : decode cX8_delete 19 = .ok (.invokevirtual 108, 3) := by decide +kernel
theorem dX8_delete_22 : decode cX8_delete 22 = .ok (.ireturn, 1) := by decide +kernel
set_option maxRecDepth 20000 in
theorem ggX8_merge_X8_writerAt : GoodIn wsX8_merge wsX8_writerAt := goodIn_ca (goodIn_r _ [6, 7, 8, 9, 158, 159, 160, 161, 162, 163, 164, 165, 166] (by decide +kernel) (by decide +kernel)) (goodIn_sub (fun _ h => List.mem_cons_of_mem _ (List.mem_append_right _ h)) (by decide +kernel))
set_option maxRecDepth 20000 in
theorem gX8_merge_X8_writerAt : GoodIn wsX8_merge (wsV RX8 68 RX8 yX8_writerAt wsX8_writerAt) := goodIn_app (goodIn_of _ (by decide +kernel)) ggX8_merge_X8_writerAt
set_option maxRecDepth 20000 in
theorem ggX8_merge_X7_mergeInto : GoodIn wsX8_merge wsX7_mergeInto := goodIn_r _ [14, 15, 16, 17, 18, 19, 20, 21, 22, 23, 24, 25, 26, 27, 28, 29, 30, 31, 32, 33, 34, 35, 36, 37, 38, 39, 40, 41, 42, 43, 44, 45, 46, 47, 48, 49, 50, 51, 52, 53, 54, 55, 56, 57, 58, 59, 60, 61, 62, 63, 64, 65, 66, 67, 68, 69, 70, 71, 72, 73, 74, 75, 76, 77, 78, 79, 80, 81, 82, 83, 84, 85, 86, 87, 88, 89, 90, 91, 92, 93, 94, 95, 96, 97, 98, 99, 100, 101, 102, 103, 104, 105, 106, 107, 108, 109, 110, 111, 112, 113, 114, 115, 116, 117, 118, 119, 120, 121, 122, 123, 124, 125, 126, 127, 128, 129, 130, 131, 132, 133, 134, 135, 136, 137, 138, 139, 140, 141, 142, 143, 144, 145, 146, 147, 148, 149, 150, 151, 152, 153, 154, 155, 156, 157, 167, 168, 169, 170, 171, 172, 173, 174, 175, 176, 177, 178, 179, 180, 181] (by decide +kernel) (by decide +kernel)
set_option maxRecDepth 20000 in
theorem gX8_merge_X7_mergeInto : GoodIn wsX8_merge (wsV RX8 111 RX7 yX7_mergeInto wsX7_mergeInto) := goodIn_app (goodIn_of _ (by decide +kernel)) ggX8_merge_X7_mergeInto
theorem dX8_merge_0 : decode cX8_merge 0 = .ok (.aload_n 0, 1) := by decide +kernel
theorem dX8_merge_1 : decode cX8_merge 1 = .ok (.iload_n 1, 1) := by decide +kernel
theorem dX8_merge_2 : decode cX8_merge 2 = .ok (.invokevirtual 68, 3) := by decide +kernel
theorem dX8_merge_5 : decode cX8_merge 5 = .ok (.aload_n 0, 1) := by decide +kernel
theorem dX8_merge_6 : decode cX8_merge 6 = .ok (.getfield 10, 3) := by decide +kernel
theorem dX8_merge_9 : decode cX8_merge 9 = .ok (.invokevirtual 111, 3) := by decide +kernel
theorem dX8_merge_12 : decode cX8_merge 12 = .ok (.ireturn, 1) := by decide +kernel
set_option maxRecDepth 20000 in
theorem ggX8_copy_X8_writerAt : GoodIn wsX8_copy wsX8_writerAt := goodIn_ca (goodIn_r _ [5, 6, 7, 8, 21, 22, 23, 24, 25, 26, 27, 28, 29] (by decide +kernel) (by decide +kernel)) (goodIn_sub (fun _ h => List.mem_cons_of_mem _ (List.mem_append_right _ h)) (by decide +kernel))
set_option maxRecDepth 20000 in
theorem gX8_copy_X8_writerAt : GoodIn wsX8_copy (wsV RX8 68 RX8 yX8_writerAt wsX8_writerAt) := goodIn_app (goodIn_of _ (by decide +kernel)) ggX8_copy_X8_writerAt
set_option maxRecDepth 20000 in
theorem ggX8_copy_X7_copied : GoodIn wsX8_copy wsX7_copied := goodIn_r _ [13, 14, 30, 31] (by decide +kernel) (by decide +kernel)
set_option maxRecDepth 20000 in
theorem gX8_copy_X7_copied : GoodIn wsX8_copy (wsV RX8 72 RX7 yX7_copied wsX7_copied) := goodIn_app (goodIn_of _ (by decide +kernel)) ggX8_copy_X7_copied
set_option maxRecDepth 20000 in
theorem ggX8_copy_X5_size : GoodIn wsX8_copy wsX5_size := goodIn_r _ [19, 20, 32, 33] (by decide +kernel) (by decide +kernel)
set_option maxRecDepth 20000 in
theorem gX8_copy_X5_size : GoodIn wsX8_copy (wsV RX8 76 RX5 yX5_size wsX5_size) := goodIn_app (goodIn_of _ (by decide +kernel)) ggX8_copy_X5_size
theorem dX8_copy_0 : decode cX8_copy 0 = .ok (.aload_n 0, 1) := by decide +kernel
theorem dX8_copy_1 : decode cX8_copy 1 = .ok (.iload_n 1, 1) := by decide +kernel
theorem dX8_copy_2 : decode cX8_copy 2 = .ok (.invokevirtual 68, 3) := by decide +kernel
theorem dX8_copy_5 : decode cX8_copy 5 = .ok (.invokevirtual 72, 3) := by decide +kernel
theorem dX8_copy_8 : decode cX8_copy 8 = .ok (.invokevirtual 76, 3) := by decide +kernel
theorem dX8_copy_11 : decode cX8_copy 11 = .ok (.ireturn, 1) := by decide +kernel
set_option maxRecDepth 20000 in
theorem ggX8_copyAt_X8_writerAt : GoodIn wsX8_copyAt wsX8_writerAt := goodIn_ca (goodIn_r _ [5, 6, 7, 8, 33, 34, 35, 36, 37, 38, 39, 40, 41] (by decide +kernel) (by decide +kernel)) (goodIn_sub (fun _ h => List.mem_cons_of_mem _ (List.mem_append_right _ h)) (by decide +kernel))
set_option maxRecDepth 20000 in
theorem gX8_copyAt_X8_writerAt : GoodIn wsX8_copyAt (wsV RX8 68 RX8 yX8_writerAt wsX8_writerAt) := goodIn_app (goodIn_of _ (by decide +kernel)) ggX8_copyAt_X8_writerAt
set_option maxRecDepth 20000 in
theorem ggX8_copyAt_X7_copied : GoodIn wsX8_copyAt wsX7_copied := goodIn_r _ [13, 14, 42, 43] (by decide +kernel) (by decide +kernel)
set_option maxRecDepth 20000 in
theorem gX8_copyAt_X7_copied : GoodIn wsX8_copyAt (wsV RX8 72 RX7 yX7_copied wsX7_copied) := goodIn_app (goodIn_of _ (by decide +kernel)) ggX8_copyAt_X7_copied
set_option maxRecDepth 20000 in
theorem ggX8_copyAt_X5_size : GoodIn wsX8_copyAt wsX5_size := goodIn_r _ [19, 20, 44, 45] (by decide +kernel) (by decide +kernel)
set_option maxRecDepth 20000 in
theorem gX8_copyAt_X5_size : GoodIn wsX8_copyAt (wsV RX8 76 RX5 yX5_size wsX5_size) := goodIn_app (goodIn_of _ (by decide +kernel)) ggX8_copyAt_X5_size
set_option maxRecDepth 20000 in
theorem ggX8_copyAt_X8_requireIndex : GoodIn wsX8_copyAt wsX8_requireIndex := goodIn_ca (goodIn_r _ [23, 6, 7] (by decide +kernel) (by decide +kernel)) (goodIn_sub (fun _ h => List.mem_cons_of_mem _ (List.mem_append_right _ h)) (by decide +kernel))
set_option maxRecDepth 20000 in
theorem gX8_copyAt_X8_requireIndex : GoodIn wsX8_copyAt (va_wsS RX8 80 yX8_requireIndex wsX8_requireIndex) := goodIn_app (goodIn_of _ (by decide +kernel)) ggX8_copyAt_X8_requireIndex
set_option maxRecDepth 20000 in
theorem ggX8_copyAt_X5_at : GoodIn wsX8_copyAt wsX5_at := goodIn_r _ [27, 28, 29, 30, 31, 18, 32, 20, 44, 45] (by decide +kernel) (by decide +kernel)
set_option maxRecDepth 20000 in
theorem gX8_copyAt_X5_at : GoodIn wsX8_copyAt (wsV RX8 97 RX5 yX5_at wsX5_at) := goodIn_app (goodIn_of _ (by decide +kernel)) ggX8_copyAt_X5_at
theorem dX8_copyAt_0 : decode cX8_copyAt 0 = .ok (.aload_n 0, 1) := by decide +kernel
theorem dX8_copyAt_1 : decode cX8_copyAt 1 = .ok (.iload_n 1, 1) := by decide +kernel
theorem dX8_copyAt_2 : decode cX8_copyAt 2 = .ok (.invokevirtual 68, 3) := by decide +kernel
theorem dX8_copyAt_5 : decode cX8_copyAt 5 = .ok (.invokevirtual 72, 3) := by decide +kernel
theorem dX8_copyAt_8 : decode cX8_copyAt 8 = .ok (.astore_n 3, 1) := by decide +kernel
theorem dX8_copyAt_9 : decode cX8_copyAt 9 = .ok (.iload_n 2, 1) := by decide +kernel
theorem dX8_copyAt_10 : decode cX8_copyAt 10 = .ok (.aload_n 3, 1) := by decide +kernel
theorem dX8_copyAt_11 : decode cX8_copyAt 11 = .ok (.invokevirtual 76, 3) := by decide +kernel
theorem dX8_copyAt_14 : decode cX8_copyAt 14 = .ok (.invokestatic 80, 3) := by decide +kernel
theorem dX8_copyAt_17 : decode cX8_copyAt 17 = .ok (.aload_n 3, 1) := by decide +kernel
theorem dX8_copyAt_18 : decode cX8_copyAt 18 = .ok (.iload_n 2, 1) := by decide +kernel
theorem dX8_copyAt_19 : decode cX8_copyAt 19 = .ok (.invokevirtual 97, 3) := by decide +kernel
theorem dX8_copyAt_22 : decode cX8_copyAt 22 = .ok (.ireturn, 1) := by decide +kernel
set_option maxRecDepth 20000 in
theorem ggX8_changes_X8_writerAt : GoodIn wsX8_changes wsX8_writerAt := goodIn_ca (goodIn_r _ [5, 6, 7, 8, 27, 28, 29, 30, 31, 32, 33, 34, 35] (by decide +kernel) (by decide +kernel)) (goodIn_sub (fun _ h => List.mem_cons_of_mem _ (List.mem_append_right _ h)) (by decide +kernel))
set_option maxRecDepth 20000 in
theorem gX8_changes_X8_writerAt : GoodIn wsX8_changes (wsV RX8 68 RX8 yX8_writerAt wsX8_writerAt) := goodIn_app (goodIn_of _ (by decide +kernel)) ggX8_changes_X8_writerAt
set_option maxRecDepth 20000 in
theorem ggX8_changes_X7_unmerged : GoodIn wsX8_changes wsX7_unmerged := goodIn_r _ [13, 14, 15, 16, 17, 18, 19, 20, 21, 22, 23, 24, 25, 26, 36, 37, 38, 39, 40] (by decide +kernel) (by decide +kernel)
set_option maxRecDepth 20000 in
theorem gX8_changes_X7_unmerged : GoodIn wsX8_changes (wsV RX8 115 RX7 yX7_unmerged wsX7_unmerged) := goodIn_app (goodIn_of _ (by decide +kernel)) ggX8_changes_X7_unmerged
theorem dX8_changes_0 : decode cX8_changes 0 = .ok (.aload_n 0, 1) := by decide +kernel
theorem dX8_changes_1 : decode cX8_changes 1 = .ok (.iload_n 1, 1) := by decide +kernel
theorem dX8_changes_2 : decode cX8_changes 2 = .ok (.invokevirtual 68, 3) := by decide +kernel
theorem dX8_changes_5 : decode cX8_changes 5 = .ok (.invokevirtual 115, 3) := by decide +kernel
theorem dX8_changes_8 : decode cX8_changes 8 = .ok (.ireturn, 1) := by decide +kernel
set_option maxRecDepth 20000 in
theorem ggX8_length_X2_text : GoodIn wsX8_length wsX2_text := goodIn_r _ [6, 7, 23, 24, 25, 26] (by decide +kernel) (by decide +kernel)
set_option maxRecDepth 20000 in
theorem gX8_length_X2_text : GoodIn wsX8_length (wsV RX8 118 RX2 yX2_text wsX2_text) := goodIn_app (goodIn_of _ (by decide +kernel)) ggX8_length_X2_text
set_option maxRecDepth 20000 in
theorem ggX8_length_X5_size : GoodIn wsX8_length wsX5_size := goodIn_r _ [12, 13, 27, 28] (by decide +kernel) (by decide +kernel)
set_option maxRecDepth 20000 in
theorem gX8_length_X5_size : GoodIn wsX8_length (wsV RX8 76 RX5 yX5_size wsX5_size) := goodIn_app (goodIn_of _ (by decide +kernel)) ggX8_length_X5_size
theorem dX8_length_0 : decode cX8_length 0 = .ok (.aload_n 0, 1) := by decide +kernel
theorem dX8_length_1 : decode cX8_length 1 = .ok (.getfield 10, 3) := by decide +kernel
theorem dX8_length_4 : decode cX8_length 4 = .ok (.invokevirtual 118, 3) := by decide +kernel
theorem dX8_length_7 : decode cX8_length 7 = .ok (.invokevirtual 76, 3) := by decide +kernel
theorem dX8_length_10 : decode cX8_length 10 = .ok (.ireturn, 1) := by decide +kernel
set_option maxRecDepth 20000 in
theorem ggX8_wordAt_X8_requireTextPlace : GoodIn wsX8_wordAt wsX8_requireTextPlace := goodIn_ca (goodIn_r _ [6, 1, 7, 8, 9, 10, 11, 12, 13, 14, 15, 16, 17, 18, 19, 20, 5, 21, 22, 23, 33, 34, 35, 36, 37, 38, 39, 40, 41, 42, 43, 44, 45, 46, 47] (by decide +kernel) (by decide +kernel)) (goodIn_sub (fun _ h => List.mem_cons_of_mem _ (List.mem_append_right _ h)) (by decide +kernel))
set_option maxRecDepth 20000 in
theorem gX8_wordAt_X8_requireTextPlace : GoodIn wsX8_wordAt (wsV RX8 121 RX8 yX8_requireTextPlace wsX8_requireTextPlace) := goodIn_app (goodIn_of _ (by decide +kernel)) ggX8_wordAt_X8_requireTextPlace
set_option maxRecDepth 20000 in
theorem ggX8_wordAt_X2_text : GoodIn wsX8_wordAt wsX2_text := goodIn_r _ [11, 12, 42, 43, 44, 45] (by decide +kernel) (by decide +kernel)
set_option maxRecDepth 20000 in
theorem gX8_wordAt_X2_text : GoodIn wsX8_wordAt (wsV RX8 118 RX2 yX2_text wsX2_text) := goodIn_app (goodIn_of _ (by decide +kernel)) ggX8_wordAt_X2_text
set_option maxRecDepth 20000 in
theorem ggX8_wordAt_X5_at : GoodIn wsX8_wordAt wsX5_at := goodIn_r _ [27, 28, 29, 30, 31, 16, 32, 18, 46, 47] (by decide +kernel) (by decide +kernel)
set_option maxRecDepth 20000 in
theorem gX8_wordAt_X5_at : GoodIn wsX8_wordAt (wsV RX8 97 RX5 yX5_at wsX5_at) := goodIn_app (goodIn_of _ (by decide +kernel)) ggX8_wordAt_X5_at
theorem dX8_wordAt_0 : decode cX8_wordAt 0 = .ok (.aload_n 0, 1) := by decide +kernel
theorem dX8_wordAt_1 : decode cX8_wordAt 1 = .ok (.iload_n 1, 1) := by decide +kernel
theorem dX8_wordAt_2 : decode cX8_wordAt 2 = .ok (.invokevirtual 121, 3) := by decide +kernel
theorem dX8_wordAt_5 : decode cX8_wordAt 5 = .ok (.aload_n 0, 1) := by decide +kernel
theorem dX8_wordAt_6 : decode cX8_wordAt 6 = .ok (.getfield 10, 3) := by decide +kernel
theorem dX8_wordAt_9 : decode cX8_wordAt 9 = .ok (.invokevirtual 118, 3) := by decide +kernel
theorem dX8_wordAt_12 : decode cX8_wordAt 12 = .ok (.iload_n 1, 1) := by decide +kernel
theorem dX8_wordAt_13 : decode cX8_wordAt 13 = .ok (.invokevirtual 97, 3) := by decide +kernel
theorem dX8_wordAt_16 : decode cX8_wordAt 16 = .ok (.ireturn, 1) := by decide +kernel
set_option maxRecDepth 20000 in
theorem ggX8_word_X8_requireWord : GoodIn wsX8_word wsX8_requireWord := goodIn_ca (goodIn_r _ [6, 1, 7, 8, 9, 10, 11, 12, 13, 14, 15, 16, 17, 18, 19, 20, 5, 21, 22, 23, 42, 43, 44, 45, 46, 47, 48, 49, 50, 51, 52, 53, 54, 55, 56, 57, 58] (by decide +kernel) (by decide +kernel)) (goodIn_sub (fun _ h => List.mem_cons_of_mem _ (List.mem_append_right _ h)) (by decide +kernel))
set_option maxRecDepth 20000 in
theorem gX8_word_X8_requireWord : GoodIn wsX8_word (wsV RX8 125 RX8 yX8_requireWord wsX8_requireWord) := goodIn_app (goodIn_of _ (by decide +kernel)) ggX8_word_X8_requireWord
set_option maxRecDepth 20000 in
theorem ggX8_word_X6_writerOf : GoodIn wsX8_word wsX6_writerOf := goodIn_r _ [27, 28, 29, 30, 31, 16, 32, 33, 34, 35, 36, 37, 18, 51, 52, 53, 54, 55, 56, 57, 58] (by decide +kernel) (by decide +kernel)
set_option maxRecDepth 20000 in
theorem gX8_word_X6_writerOf : GoodIn wsX8_word (wsV RX8 128 RX6 yX6_writerOf wsX6_writerOf) := goodIn_app (goodIn_of _ (by decide +kernel)) ggX8_word_X6_writerOf
set_option maxRecDepth 20000 in
theorem ggX8_word_X6_signOf : GoodIn wsX8_word wsX6_signOf := goodIn_r _ [41, 12, 29, 30, 31, 16, 32, 33, 34, 35, 36, 37, 18, 51, 52, 53, 54, 55, 56, 57, 58] (by decide +kernel) (by decide +kernel)
set_option maxRecDepth 20000 in
theorem gX8_word_X6_signOf : GoodIn wsX8_word (wsV RX8 131 RX6 yX6_signOf wsX6_signOf) := goodIn_app (goodIn_of _ (by decide +kernel)) ggX8_word_X6_signOf
theorem dX8_word_0 : decode cX8_word 0 = .ok (.aload_n 0, 1) := by decide +kernel
theorem dX8_word_1 : decode cX8_word 1 = .ok (.iload_n 1, 1) := by decide +kernel
theorem dX8_word_2 : decode cX8_word 2 = .ok (.invokevirtual 125, 3) := by decide +kernel
theorem dX8_word_5 : decode cX8_word 5 = .ok (.sipush 1000, 3) := by decide +kernel
theorem dX8_word_8 : decode cX8_word 8 = .ok (.aload_n 0, 1) := by decide +kernel
theorem dX8_word_9 : decode cX8_word 9 = .ok (.getfield 20, 3) := by decide +kernel
theorem dX8_word_12 : decode cX8_word 12 = .ok (.iload_n 1, 1) := by decide +kernel
theorem dX8_word_13 : decode cX8_word 13 = .ok (.invokevirtual 128, 3) := by decide +kernel
theorem dX8_word_16 : decode cX8_word 16 = .ok (.imul, 1) := by decide +kernel
theorem dX8_word_17 : decode cX8_word 17 = .ok (.aload_n 0, 1) := by decide +kernel
theorem dX8_word_18 : decode cX8_word 18 = .ok (.getfield 20, 3) := by decide +kernel
theorem dX8_word_21 : decode cX8_word 21 = .ok (.iload_n 1, 1) := by decide +kernel
theorem dX8_word_22 : decode cX8_word 22 = .ok (.invokevirtual 131, 3) := by decide +kernel
theorem dX8_word_25 : decode cX8_word 25 = .ok (.iadd, 1) := by decide +kernel
theorem dX8_word_26 : decode cX8_word 26 = .ok (.ireturn, 1) := by decide +kernel
set_option maxRecDepth 20000 in
theorem ggX8_placeOf_X8_requireWord : GoodIn wsX8_placeOf wsX8_requireWord := goodIn_ca (goodIn_r _ [6, 7, 8, 9, 10, 11, 12, 13, 14, 15, 16, 17, 18, 19, 20, 21, 5, 22, 23, 24, 44, 45, 46, 47, 48, 49, 50, 51, 52, 53, 54, 55, 56, 57, 58, 59, 60] (by decide +kernel) (by decide +kernel)) (goodIn_sub (fun _ h => List.mem_cons_of_mem _ (List.mem_append_right _ h)) (by decide +kernel))
set_option maxRecDepth 20000 in
theorem gX8_placeOf_X8_requireWord : GoodIn wsX8_placeOf (wsV RX8 125 RX8 yX8_requireWord wsX8_requireWord) := goodIn_app (goodIn_of _ (by decide +kernel)) ggX8_placeOf_X8_requireWord
set_option maxRecDepth 20000 in
theorem ggX8_placeOf_X2_text : GoodIn wsX8_placeOf wsX2_text := goodIn_r _ [29, 30, 61, 62, 63, 64] (by decide +kernel) (by decide +kernel)
set_option maxRecDepth 20000 in
theorem gX8_placeOf_X2_text : GoodIn wsX8_placeOf (wsV RX8 118 RX2 yX2_text wsX2_text) := goodIn_app (goodIn_of _ (by decide +kernel)) ggX8_placeOf_X2_text
set_option maxRecDepth 20000 in
theorem ggX8_placeOf_X5_indexOf : GoodIn wsX8_placeOf wsX5_indexOf := goodIn_r _ [34, 19, 35, 36, 37, 17, 38, 39, 40, 41, 42, 43, 59, 60] (by decide +kernel) (by decide +kernel)
set_option maxRecDepth 20000 in
theorem gX8_placeOf_X5_indexOf : GoodIn wsX8_placeOf (wsV RX8 134 RX5 yX5_indexOf wsX5_indexOf) := goodIn_app (goodIn_of _ (by decide +kernel)) ggX8_placeOf_X5_indexOf
theorem dX8_placeOf_0 : decode cX8_placeOf 0 = .ok (.aload_n 0, 1) := by decide +kernel
theorem dX8_placeOf_1 : decode cX8_placeOf 1 = .ok (.iload_n 1, 1) := by decide +kernel
theorem dX8_placeOf_2 : decode cX8_placeOf 2 = .ok (.invokevirtual 125, 3) := by decide +kernel
theorem dX8_placeOf_5 : decode cX8_placeOf 5 = .ok (.aload_n 0, 1) := by decide +kernel
theorem dX8_placeOf_6 : decode cX8_placeOf 6 = .ok (.getfield 10, 3) := by decide +kernel
theorem dX8_placeOf_9 : decode cX8_placeOf 9 = .ok (.invokevirtual 118, 3) := by decide +kernel
theorem dX8_placeOf_12 : decode cX8_placeOf 12 = .ok (.iload_n 1, 1) := by decide +kernel
theorem dX8_placeOf_13 : decode cX8_placeOf 13 = .ok (.invokevirtual 134, 3) := by decide +kernel
theorem dX8_placeOf_16 : decode cX8_placeOf 16 = .ok (.ireturn, 1) := by decide +kernel
set_option maxRecDepth 20000 in
theorem ggX8_share_X8_requireIndex : GoodIn wsX8_share wsX8_requireIndex := goodIn_ca (goodIn_r _ [5, 6, 7] (by decide +kernel) (by decide +kernel)) (goodIn_sub (fun _ h => List.mem_cons_of_mem _ (List.mem_append_right _ h)) (by decide +kernel))
set_option maxRecDepth 20000 in
theorem gX8_share_X8_requireIndex : GoodIn wsX8_share (va_wsS RX8 80 yX8_requireIndex wsX8_requireIndex) := goodIn_app (goodIn_of _ (by decide +kernel)) ggX8_share_X8_requireIndex
set_option maxRecDepth 20000 in
theorem ggX8_share_X2_countBy : GoodIn wsX8_share wsX2_countBy := goodIn_r _ [12, 13, 14, 15, 16, 17, 18, 19, 20, 21, 22, 23, 24, 25, 26, 27, 28, 29, 30, 31, 32, 33, 34, 35, 36, 46, 47, 48, 49, 50, 51, 52, 53, 54, 55, 56, 57] (by decide +kernel) (by decide +kernel)
set_option maxRecDepth 20000 in
theorem gX8_share_X2_countBy : GoodIn wsX8_share (wsV RX8 137 RX2 yX2_countBy wsX2_countBy) := goodIn_app (goodIn_of _ (by decide +kernel)) ggX8_share_X2_countBy
theorem dX8_share_0 : decode cX8_share 0 = .ok (.iload_n 1, 1) := by decide +kernel
theorem dX8_share_1 : decode cX8_share 1 = .ok (.bipush 6, 2) := by decide +kernel
theorem dX8_share_3 : decode cX8_share 3 = .ok (.invokestatic 80, 3) := by decide +kernel
theorem dX8_share_6 : decode cX8_share 6 = .ok (.aload_n 0, 1) := by decide +kernel
theorem dX8_share_7 : decode cX8_share 7 = .ok (.getfield 10, 3) := by decide +kernel
theorem dX8_share_10 : decode cX8_share 10 = .ok (.iload_n 1, 1) := by decide +kernel
theorem dX8_share_11 : decode cX8_share 11 = .ok (.invokevirtual 137, 3) := by decide +kernel
theorem dX8_share_14 : decode cX8_share 14 = .ok (.ireturn, 1) := by decide +kernel
set_option maxRecDepth 20000 in
theorem ggX8_shareAnew_X8_requireIndex : GoodIn wsX8_shareAnew wsX8_requireIndex := goodIn_ca (goodIn_r _ [5, 6, 7] (by decide +kernel) (by decide +kernel)) (goodIn_sub (fun _ h => List.mem_cons_of_mem _ (List.mem_append_right _ h)) (by decide +kernel))
set_option maxRecDepth 20000 in
theorem gX8_shareAnew_X8_requireIndex : GoodIn wsX8_shareAnew (va_wsS RX8 80 yX8_requireIndex wsX8_requireIndex) := goodIn_app (goodIn_of _ (by decide +kernel)) ggX8_shareAnew_X8_requireIndex
set_option maxRecDepth 20000 in
theorem ggX8_shareAnew_X2_countAnewBy : GoodIn wsX8_shareAnew wsX2_countAnewBy := goodIn_r _ [12, 13, 14, 15, 16, 17, 18, 19, 20, 21, 22, 23, 24, 25, 26, 27, 28, 29, 30, 31, 32, 33, 34, 35, 36, 37, 38, 39, 40, 41, 42, 43, 44, 45, 46, 47, 48, 49, 50, 51, 61, 62, 63, 64, 65, 66, 67, 68, 69, 70, 71, 72, 73] (by decide +kernel) (by decide +kernel)
set_option maxRecDepth 20000 in
theorem gX8_shareAnew_X2_countAnewBy : GoodIn wsX8_shareAnew (wsV RX8 140 RX2 yX2_countAnewBy wsX2_countAnewBy) := goodIn_app (goodIn_of _ (by decide +kernel)) ggX8_shareAnew_X2_countAnewBy
theorem dX8_shareAnew_0 : decode cX8_shareAnew 0 = .ok (.iload_n 1, 1) := by decide +kernel
theorem dX8_shareAnew_1 : decode cX8_shareAnew 1 = .ok (.bipush 6, 2) := by decide +kernel
theorem dX8_shareAnew_3 : decode cX8_shareAnew 3 = .ok (.invokestatic 80, 3) := by decide +kernel
theorem dX8_shareAnew_6 : decode cX8_shareAnew 6 = .ok (.aload_n 0, 1) := by decide +kernel
theorem dX8_shareAnew_7 : decode cX8_shareAnew 7 = .ok (.getfield 10, 3) := by decide +kernel
theorem dX8_shareAnew_10 : decode cX8_shareAnew 10 = .ok (.iload_n 1, 1) := by decide +kernel
theorem dX8_shareAnew_11 : decode cX8_shareAnew 11 = .ok (.invokevirtual 140, 3) := by decide +kernel
theorem dX8_shareAnew_14 : decode cX8_shareAnew 14 = .ok (.ireturn, 1) := by decide +kernel
set_option maxRecDepth 20000 in
theorem ggX8_setRate_X8_requireIndex : GoodIn wsX8_setRate wsX8_requireIndex := goodIn_ca (goodIn_r _ [5, 6, 7] (by decide +kernel) (by decide +kernel)) (goodIn_sub (fun _ h => List.mem_cons_of_mem _ (List.mem_append_left _ (List.mem_append_right _ h))) (by decide +kernel))
set_option maxRecDepth 20000 in
theorem gX8_setRate_X8_requireIndex : GoodIn wsX8_setRate (va_wsS RX8 80 yX8_requireIndex wsX8_requireIndex) := goodIn_app (goodIn_of _ (by decide +kernel)) ggX8_setRate_X8_requireIndex
set_option maxRecDepth 20000 in
theorem ggX8_setRate_X8_requireRange : GoodIn wsX8_setRate wsX8_requireRange := goodIn_ca (goodIn_r _ [10, 11, 12, 4, 13, 14, 15] (by decide +kernel) (by decide +kernel)) (goodIn_sub (fun _ h => List.mem_cons_of_mem _ (List.mem_append_right _ h)) (by decide +kernel))
set_option maxRecDepth 20000 in
theorem gX8_setRate_X8_requireRange : GoodIn wsX8_setRate (va_wsS RX8 84 yX8_requireRange wsX8_requireRange) := goodIn_app (goodIn_of _ (by decide +kernel)) ggX8_setRate_X8_requireRange
set_option maxRecDepth 20000 in
theorem ggX8_setRate_X4_changeRate : GoodIn wsX8_setRate wsX4_changeRate := goodIn_r _ [20, 21, 22, 23, 24, 25, 26, 27, 28, 29, 30, 31, 32, 33, 34, 35, 36, 46, 47, 48, 49, 50, 51, 52, 53, 54, 55] (by decide +kernel) (by decide +kernel)
set_option maxRecDepth 20000 in
theorem gX8_setRate_X4_changeRate : GoodIn wsX8_setRate (wsV RX8 143 RX4 yX4_changeRate wsX4_changeRate) := goodIn_app (goodIn_of _ (by decide +kernel)) ggX8_setRate_X4_changeRate
theorem dX8_setRate_0 : decode cX8_setRate 0 = .ok (.iload_n 1, 1) := by decide +kernel
theorem dX8_setRate_1 : decode cX8_setRate 1 = .ok (.iconst 4, 1) := by decide +kernel
theorem dX8_setRate_2 : decode cX8_setRate 2 = .ok (.invokestatic 80, 3) := by decide +kernel
theorem dX8_setRate_5 : decode cX8_setRate 5 = .ok (.iload_n 2, 1) := by decide +kernel
theorem dX8_setRate_6 : decode cX8_setRate 6 = .ok (.iconst 0, 1) := by decide +kernel
theorem dX8_setRate_7 : decode cX8_setRate 7 = .ok (.bipush 100, 2) := by decide +kernel
theorem dX8_setRate_9 : decode cX8_setRate 9 = .ok (.invokestatic 84, 3) := by decide +kernel
theorem dX8_setRate_12 : decode cX8_setRate 12 = .ok (.aload_n 0, 1) := by decide +kernel
theorem dX8_setRate_13 : decode cX8_setRate 13 = .ok (.getfield 43, 3) := by decide +kernel
theorem dX8_setRate_16 : decode cX8_setRate 16 = .ok (.iload_n 1, 1) := by decide +kernel
theorem dX8_setRate_17 : decode cX8_setRate 17 = .ok (.iload_n 2, 1) := by decide +kernel
theorem dX8_setRate_18 : decode cX8_setRate 18 = .ok (.invokevirtual 143, 3) := by decide +kernel
theorem dX8_setRate_21 : decode cX8_setRate 21 = .ok (.ireturn, 1) := by decide +kernel
set_option maxRecDepth 20000 in
theorem ggX8_order_X8_requireIndex : GoodIn wsX8_order wsX8_requireIndex := goodIn_ca (goodIn_r _ [6, 7, 8] (by decide +kernel) (by decide +kernel)) (goodIn_sub (fun _ h => List.mem_cons_of_mem _ (List.mem_append_left _ (List.mem_append_left _ (List.mem_append_right _ h)))) (by decide +kernel))
set_option maxRecDepth 20000 in
theorem gX8_order_X8_requireIndex : GoodIn wsX8_order (va_wsS RX8 80 yX8_requireIndex wsX8_requireIndex) := goodIn_app (goodIn_of _ (by decide +kernel)) ggX8_order_X8_requireIndex
set_option maxRecDepth 20000 in
theorem ggX8_order_X8_requireSpan : GoodIn wsX8_order wsX8_requireSpan := goodIn_ca (goodIn_ca (goodIn_r _ [12, 13, 14, 15, 5, 16, 1, 17, 18, 19, 20, 21, 22, 23, 24, 25, 26, 27, 28, 3, 4, 6, 7, 8, 29, 30, 31, 32, 33, 107, 108, 109, 110, 111, 112, 113, 114, 115, 116, 117, 118, 119, 120, 121] (by decide +kernel) (by decide +kernel)) (goodIn_sub (fun _ h => List.mem_cons_of_mem _ (List.mem_append_left _ (List.mem_append_left _ (List.mem_append_right _ h)))) (by decide +kernel))) (goodIn_sub (fun _ h => List.mem_cons_of_mem _ (List.mem_append_left _ (List.mem_append_right _ h))) (by decide +kernel))
set_option maxRecDepth 20000 in
theorem gX8_order_X8_requireSpan : GoodIn wsX8_order (wsV RX8 147 RX8 yX8_requireSpan wsX8_requireSpan) := goodIn_app (goodIn_of _ (by decide +kernel)) ggX8_order_X8_requireSpan
set_option maxRecDepth 20000 in
theorem ggX8_order_X2_hasFrozen : GoodIn wsX8_order wsX2_hasFrozen := goodIn_r _ [37, 22, 38, 39, 24, 25, 26, 27, 28, 40, 41, 42, 43, 44, 45, 46, 47, 48, 49, 50, 51, 52, 53, 54, 55, 56, 57, 58, 59, 116, 117, 118, 119, 120, 121, 122, 123, 124, 125, 126, 127] (by decide +kernel) (by decide +kernel)
set_option maxRecDepth 20000 in
theorem gX8_order_X2_hasFrozen : GoodIn wsX8_order (wsV RX8 150 RX2 yX2_hasFrozen wsX2_hasFrozen) := goodIn_app (goodIn_of _ (by decide +kernel)) ggX8_order_X2_hasFrozen
set_option maxRecDepth 20000 in
theorem ggX8_order_X8_requireState : GoodIn wsX8_order wsX8_requireState := goodIn_ca (goodIn_r _ [62, 63, 64] (by decide +kernel) (by decide +kernel)) (goodIn_sub (fun _ h => List.mem_cons_of_mem _ (List.mem_append_right _ h)) (by decide +kernel))
set_option maxRecDepth 20000 in
theorem gX8_order_X8_requireState : GoodIn wsX8_order (va_wsS RX8 93 yX8_requireState wsX8_requireState) := goodIn_app (goodIn_of _ (by decide +kernel)) ggX8_order_X8_requireState
set_option maxRecDepth 20000 in
theorem ggX8_order_X4_count : GoodIn wsX8_order wsX4_count := goodIn_r _ [69, 70, 71, 24, 25, 26, 27, 28, 128, 129, 130, 131, 132, 133, 134, 135, 120, 121] (by decide +kernel) (by decide +kernel)
set_option maxRecDepth 20000 in
theorem gX8_order_X4_count : GoodIn wsX8_order (wsV RX8 154 RX4 yX4_count wsX4_count) := goodIn_app (goodIn_of _ (by decide +kernel)) ggX8_order_X4_count
set_option maxRecDepth 20000 in
theorem ggX8_order_X4_add : GoodIn wsX8_order wsX4_add := goodIn_r _ [75, 70, 76, 77, 78, 79, 80, 81, 82, 83, 26, 84, 28, 85, 86, 87, 88, 44, 89, 90, 91, 92, 93, 41, 42, 43, 45, 46, 47, 48, 94, 66, 67, 68, 69, 71, 24, 25, 27, 128, 129, 130, 131, 132, 133, 134, 135, 120, 121] (by decide +kernel) (by decide +kernel)
set_option maxRecDepth 20000 in
theorem gX8_order_X4_add : GoodIn wsX8_order (wsV RX8 155 RX4 yX4_add wsX4_add) := goodIn_app (goodIn_of _ (by decide +kernel)) ggX8_order_X4_add
set_option maxRecDepth 20000 in
theorem ggX8_order_X2_freeze : GoodIn wsX8_order wsX2_freeze := goodIn_r _ [98, 22, 38, 39, 24, 25, 26, 27, 28, 40, 41, 42, 43, 44, 45, 46, 47, 48, 99, 100, 101, 52, 102, 58, 103, 104, 105, 106, 116, 117, 118, 119, 120, 121, 122, 123, 124, 125, 126, 127] (by decide +kernel) (by decide +kernel)
set_option maxRecDepth 20000 in
theorem gX8_order_X2_freeze : GoodIn wsX8_order (wsV RX8 157 RX2 yX2_freeze wsX2_freeze) := goodIn_app (goodIn_of _ (by decide +kernel)) ggX8_order_X2_freeze
theorem dX8_order_0 : decode cX8_order 0 = .ok (.iload_n 1, 1) := by decide +kernel
theorem dX8_order_1 : decode cX8_order 1 = .ok (.iconst 4, 1) := by decide +kernel
theorem dX8_order_2 : decode cX8_order 2 = .ok (.invokestatic 80, 3) := by decide +kernel
theorem dX8_order_5 : decode cX8_order 5 = .ok (.aload_n 0, 1) := by decide +kernel
theorem dX8_order_6 : decode cX8_order 6 = .ok (.iload_n 2, 1) := by decide +kernel
theorem dX8_order_7 : decode cX8_order 7 = .ok (.iload_n 3, 1) := by decide +kernel
theorem dX8_order_8 : decode cX8_order 8 = .ok (.invokevirtual 147, 3) := by decide +kernel
theorem dX8_order_11 : decode cX8_order 11 = .ok (.aload_n 0, 1) := by decide +kernel
theorem dX8_order_12 : decode cX8_order 12 = .ok (.getfield 10, 3) := by decide +kernel
theorem dX8_order_15 : decode cX8_order 15 = .ok (.iload_n 2, 1) := by decide +kernel
theorem dX8_order_16 : decode cX8_order 16 = .ok (.iload_n 3, 1) := by decide +kernel
theorem dX8_order_17 : decode cX8_order 17 = .ok (.invokevirtual 150, 3) := by decide +kernel
theorem dX8_order_20 : decode cX8_order 20 = .ok (.ifCond .ne 7, 3) := by decide +kernel
theorem dX8_order_23 : decode cX8_order 23 = .ok (.iconst 1, 1) := by decide +kernel
theorem dX8_order_24 : decode cX8_order 24 = .ok (.goto 4, 3) := by decide +kernel
theorem dX8_order_27 : decode cX8_order 27 = .ok (.iconst 0, 1) := by decide +kernel
theorem dX8_order_28 : decode cX8_order 28 = .ok (.invokestatic 93, 3) := by decide +kernel
theorem dX8_order_31 : decode cX8_order 31 = .ok (.aload_n 0, 1) := by decide +kernel
theorem dX8_order_32 : decode cX8_order 32 = .ok (.getfield 43, 3) := by decide +kernel
theorem dX8_order_35 : decode cX8_order 35 = .ok (.invokevirtual 154, 3) := by decide +kernel
theorem dX8_order_38 : decode cX8_order 38 = .ok (.bipush 30, 2) := by decide +kernel
theorem dX8_order_40 : decode cX8_order 40 = .ok (.if_icmp .ge 7, 3) := by decide +kernel
theorem dX8_order_43 : decode cX8_order 43 = .ok (.iconst 1, 1) := by decide +kernel
theorem dX8_order_44 : decode cX8_order 44 = .ok (.goto 4, 3) := by decide +kernel
theorem dX8_order_47 : decode cX8_order 47 = .ok (.iconst 0, 1) := by decide +kernel
theorem dX8_order_48 : decode cX8_order 48 = .ok (.invokestatic 93, 3) := by decide +kernel
theorem dX8_order_51 : decode cX8_order 51 = .ok (.aload_n 0, 1) := by decide +kernel
theorem dX8_order_52 : decode cX8_order 52 = .ok (.getfield 43, 3) := by decide +kernel
theorem dX8_order_55 : decode cX8_order 55 = .ok (.iload_n 1, 1) := by decide +kernel
theorem dX8_order_56 : decode cX8_order 56 = .ok (.iload_n 3, 1) := by decide +kernel
theorem dX8_order_57 : decode cX8_order 57 = .ok (.iload_n 2, 1) := by decide +kernel
theorem dX8_order_58 : decode cX8_order 58 = .ok (.isub, 1) := by decide +kernel
theorem dX8_order_59 : decode cX8_order 59 = .ok (.iconst 1, 1) := by decide +kernel
theorem dX8_order_60 : decode cX8_order 60 = .ok (.iadd, 1) := by decide +kernel
theorem dX8_order_61 : decode cX8_order 61 = .ok (.invokevirtual 155, 3) := by decide +kernel
theorem dX8_order_64 : decode cX8_order 64 = .ok (.istore 4, 2) := by decide +kernel
theorem dX8_order_66 : decode cX8_order 66 = .ok (.aload_n 0, 1) := by decide +kernel
theorem dX8_order_67 : decode cX8_order 67 = .ok (.getfield 10, 3) := by decide +kernel
theorem dX8_order_70 : decode cX8_order 70 = .ok (.iload_n 2, 1) := by decide +kernel
theorem dX8_order_71 : decode cX8_order 71 = .ok (.iload_n 3, 1) := by decide +kernel
theorem dX8_order_72 : decode cX8_order 72 = .ok (.iload 4, 2) := by decide +kernel
theorem dX8_order_74 : decode cX8_order 74 = .ok (.invokevirtual 157, 3) := by decide +kernel
theorem dX8_order_77 : decode cX8_order 77 = .ok (.iload 4, 2) := by decide +kernel
theorem dX8_order_79 : decode cX8_order 79 = .ok (.ireturn, 1) := by decide +kernel
set_option maxRecDepth 20000 in
theorem ggX8_finish_X4_count : GoodIn wsX8_finish wsX4_count := goodIn_r _ [6, 7, 8, 9, 10, 11, 12, 13, 86, 87, 88, 89, 90, 91, 92, 93, 94, 95] (by decide +kernel) (by decide +kernel)
set_option maxRecDepth 20000 in
theorem gX8_finish_X4_count : GoodIn wsX8_finish (wsV RX8 154 RX4 yX4_count wsX4_count) := goodIn_app (goodIn_of _ (by decide +kernel)) ggX8_finish_X4_count
set_option maxRecDepth 20000 in
theorem ggX8_finish_X8_requireIndex : GoodIn wsX8_finish wsX8_requireIndex := goodIn_ca (goodIn_r _ [17, 18, 19] (by decide +kernel) (by decide +kernel)) (goodIn_sub (fun _ h => List.mem_cons_of_mem _ (List.mem_append_left _ (List.mem_append_left _ (List.mem_append_right _ h)))) (by decide +kernel))
set_option maxRecDepth 20000 in
theorem gX8_finish_X8_requireIndex : GoodIn wsX8_finish (va_wsS RX8 80 yX8_requireIndex wsX8_requireIndex) := goodIn_app (goodIn_of _ (by decide +kernel)) ggX8_finish_X8_requireIndex
set_option maxRecDepth 20000 in
theorem ggX8_finish_X8_requireRange : GoodIn wsX8_finish wsX8_requireRange := goodIn_ca (goodIn_r _ [22, 23, 24, 16, 25, 26, 27] (by decide +kernel) (by decide +kernel)) (goodIn_sub (fun _ h => List.mem_cons_of_mem _ (List.mem_append_left _ (List.mem_append_right _ h))) (by decide +kernel))
set_option maxRecDepth 20000 in
theorem gX8_finish_X8_requireRange : GoodIn wsX8_finish (va_wsS RX8 84 yX8_requireRange wsX8_requireRange) := goodIn_app (goodIn_of _ (by decide +kernel)) ggX8_finish_X8_requireRange
set_option maxRecDepth 20000 in
theorem ggX8_finish_X4_stateAt : GoodIn wsX8_finish wsX4_stateAt := goodIn_r _ [31, 32, 33, 34, 35, 11, 36, 37, 38, 39, 40, 41, 13, 86, 87, 88, 89, 90, 91, 92, 93, 94, 95] (by decide +kernel) (by decide +kernel)
set_option maxRecDepth 20000 in
theorem gX8_finish_X4_stateAt : GoodIn wsX8_finish (wsV RX8 160 RX4 yX4_stateAt wsX4_stateAt) := goodIn_app (goodIn_of _ (by decide +kernel)) ggX8_finish_X4_stateAt
set_option maxRecDepth 20000 in
theorem ggX8_finish_X8_requireState : GoodIn wsX8_finish wsX8_requireState := goodIn_ca (goodIn_r _ [44, 45, 46] (by decide +kernel) (by decide +kernel)) (goodIn_sub (fun _ h => List.mem_cons_of_mem _ (List.mem_append_right _ h)) (by decide +kernel))
set_option maxRecDepth 20000 in
theorem gX8_finish_X8_requireState : GoodIn wsX8_finish (va_wsS RX8 93 yX8_requireState wsX8_requireState) := goodIn_app (goodIn_of _ (by decide +kernel)) ggX8_finish_X8_requireState
set_option maxRecDepth 20000 in
theorem ggX8_finish_X4_setDone : GoodIn wsX8_finish wsX4_setDone := goodIn_r _ [50, 7, 32, 51, 52, 53, 54, 33, 34, 35, 11, 36, 37, 38, 39, 40, 41, 13, 55, 56, 57, 58, 59, 60, 61, 5, 62, 8, 9, 10, 12, 63, 64, 65, 66, 67, 68, 69, 70, 71, 72, 73, 74, 75, 76, 86, 87, 88, 89, 90, 91, 92, 93, 94, 95] (by decide +kernel) (by decide +kernel)
set_option maxRecDepth 20000 in
theorem gX8_finish_X4_setDone : GoodIn wsX8_finish (wsV RX8 163 RX4 yX4_setDone wsX4_setDone) := goodIn_app (goodIn_of _ (by decide +kernel)) ggX8_finish_X4_setDone
theorem dX8_finish_0 : decode cX8_finish 0 = .ok (.iload_n 1, 1) := by decide +kernel
theorem dX8_finish_1 : decode cX8_finish 1 = .ok (.aload_n 0, 1) := by decide +kernel
theorem dX8_finish_2 : decode cX8_finish 2 = .ok (.getfield 43, 3) := by decide +kernel
theorem dX8_finish_5 : decode cX8_finish 5 = .ok (.invokevirtual 154, 3) := by decide +kernel
theorem dX8_finish_8 : decode cX8_finish 8 = .ok (.invokestatic 80, 3) := by decide +kernel
theorem dX8_finish_11 : decode cX8_finish 11 = .ok (.iload_n 2, 1) := by decide +kernel
theorem dX8_finish_12 : decode cX8_finish 12 = .ok (.iconst 0, 1) := by decide +kernel
theorem dX8_finish_13 : decode cX8_finish 13 = .ok (.bipush 9, 2) := by decide +kernel
theorem dX8_finish_15 : decode cX8_finish 15 = .ok (.invokestatic 84, 3) := by decide +kernel
theorem dX8_finish_18 : decode cX8_finish 18 = .ok (.aload_n 0, 1) := by decide +kernel
theorem dX8_finish_19 : decode cX8_finish 19 = .ok (.getfield 43, 3) := by decide +kernel
theorem dX8_finish_22 : decode cX8_finish 22 = .ok (.iload_n 1, 1) := by decide +kernel
theorem dX8_finish_23 : decode cX8_finish 23 = .ok (.invokevirtual 160, 3) := by decide +kernel
theorem dX8_finish_26 : decode cX8_finish 26 = .ok (.ifCond .ne 7, 3) := by decide +kernel
theorem dX8_finish_29 : decode cX8_finish 29 = .ok (.iconst 1, 1) := by decide +kernel
theorem dX8_finish_30 : decode cX8_finish 30 = .ok (.goto 4, 3) := by decide +kernel
theorem dX8_finish_33 : decode cX8_finish 33 = .ok (.iconst 0, 1) := by decide +kernel
theorem dX8_finish_34 : decode cX8_finish 34 = .ok (.invokestatic 93, 3) := by decide +kernel
theorem dX8_finish_37 : decode cX8_finish 37 = .ok (.aload_n 0, 1) := by decide +kernel
theorem dX8_finish_38 : decode cX8_finish 38 = .ok (.getfield 43, 3) := by decide +kernel
theorem dX8_finish_41 : decode cX8_finish 41 = .ok (.iload_n 1, 1) := by decide +kernel
theorem dX8_finish_42 : decode cX8_finish 42 = .ok (.iload_n 2, 1) := by decide +kernel
theorem dX8_finish_43 : decode cX8_finish 43 = .ok (.invokevirtual 163, 3) := by decide +kernel
theorem dX8_finish_46 : decode cX8_finish 46 = .ok (.ireturn, 1) := by decide +kernel
set_option maxRecDepth 20000 in
theorem ggX8_cancel_X4_count : GoodIn wsX8_cancel wsX4_count := goodIn_r _ [7, 8, 9, 10, 11, 12, 13, 14, 75, 76, 77, 78, 79, 80, 81, 82, 83, 84] (by decide +kernel) (by decide +kernel)
set_option maxRecDepth 20000 in
theorem gX8_cancel_X4_count : GoodIn wsX8_cancel (wsV RX8 154 RX4 yX4_count wsX4_count) := goodIn_app (goodIn_of _ (by decide +kernel)) ggX8_cancel_X4_count
set_option maxRecDepth 20000 in
theorem ggX8_cancel_X8_requireIndex : GoodIn wsX8_cancel wsX8_requireIndex := goodIn_ca (goodIn_r _ [18, 19, 20] (by decide +kernel) (by decide +kernel)) (goodIn_sub (fun _ h => List.mem_cons_of_mem _ (List.mem_append_left _ (List.mem_append_right _ h))) (by decide +kernel))
set_option maxRecDepth 20000 in
theorem gX8_cancel_X8_requireIndex : GoodIn wsX8_cancel (va_wsS RX8 80 yX8_requireIndex wsX8_requireIndex) := goodIn_app (goodIn_of _ (by decide +kernel)) ggX8_cancel_X8_requireIndex
set_option maxRecDepth 20000 in
theorem ggX8_cancel_X4_stateAt : GoodIn wsX8_cancel wsX4_stateAt := goodIn_r _ [24, 25, 26, 27, 28, 12, 29, 30, 31, 32, 33, 34, 14, 75, 76, 77, 78, 79, 80, 81, 82, 83, 84] (by decide +kernel) (by decide +kernel)
set_option maxRecDepth 20000 in
theorem gX8_cancel_X4_stateAt : GoodIn wsX8_cancel (wsV RX8 160 RX4 yX4_stateAt wsX4_stateAt) := goodIn_app (goodIn_of _ (by decide +kernel)) ggX8_cancel_X4_stateAt
set_option maxRecDepth 20000 in
theorem ggX8_cancel_X8_requireState : GoodIn wsX8_cancel wsX8_requireState := goodIn_ca (goodIn_r _ [37, 38, 39] (by decide +kernel) (by decide +kernel)) (goodIn_sub (fun _ h => List.mem_cons_of_mem _ (List.mem_append_right _ h)) (by decide +kernel))
set_option maxRecDepth 20000 in
theorem gX8_cancel_X8_requireState : GoodIn wsX8_cancel (va_wsS RX8 93 yX8_requireState wsX8_requireState) := goodIn_app (goodIn_of _ (by decide +kernel)) ggX8_cancel_X8_requireState
set_option maxRecDepth 20000 in
theorem ggX8_cancel_X4_setCancelled : GoodIn wsX8_cancel wsX4_setCancelled := goodIn_r _ [43, 25, 44, 45, 46, 12, 47, 30, 31, 32, 33, 34, 14, 75, 76, 77, 78, 79, 80, 81, 82, 83, 84] (by decide +kernel) (by decide +kernel)
set_option maxRecDepth 20000 in
theorem gX8_cancel_X4_setCancelled : GoodIn wsX8_cancel (wsV RX8 166 RX4 yX4_setCancelled wsX4_setCancelled) := goodIn_app (goodIn_of _ (by decide +kernel)) ggX8_cancel_X4_setCancelled
set_option maxRecDepth 20000 in
theorem ggX8_cancel_X6_unfreeze : GoodIn wsX8_cancel wsX6_unfreeze := goodIn_r _ [52, 53, 54, 55, 56, 51, 57, 58, 59, 10, 11, 12, 13, 14, 60, 61, 62, 63, 64, 27, 28, 29, 30, 31, 32, 33, 34, 65, 45, 46, 47, 85, 86, 87, 88, 89, 90, 83, 84] (by decide +kernel) (by decide +kernel)
set_option maxRecDepth 20000 in
theorem gX8_cancel_X6_unfreeze : GoodIn wsX8_cancel (wsV RX8 169 RX6 yX6_unfreeze wsX6_unfreeze) := goodIn_app (goodIn_of _ (by decide +kernel)) ggX8_cancel_X6_unfreeze
theorem dX8_cancel_0 : decode cX8_cancel 0 = .ok (.iload_n 1, 1) := by decide +kernel
theorem dX8_cancel_1 : decode cX8_cancel 1 = .ok (.aload_n 0, 1) := by decide +kernel
theorem dX8_cancel_2 : decode cX8_cancel 2 = .ok (.getfield 43, 3) := by decide +kernel
theorem dX8_cancel_5 : decode cX8_cancel 5 = .ok (.invokevirtual 154, 3) := by decide +kernel
theorem dX8_cancel_8 : decode cX8_cancel 8 = .ok (.invokestatic 80, 3) := by decide +kernel
theorem dX8_cancel_11 : decode cX8_cancel 11 = .ok (.aload_n 0, 1) := by decide +kernel
theorem dX8_cancel_12 : decode cX8_cancel 12 = .ok (.getfield 43, 3) := by decide +kernel
theorem dX8_cancel_15 : decode cX8_cancel 15 = .ok (.iload_n 1, 1) := by decide +kernel
theorem dX8_cancel_16 : decode cX8_cancel 16 = .ok (.invokevirtual 160, 3) := by decide +kernel
theorem dX8_cancel_19 : decode cX8_cancel 19 = .ok (.ifCond .ne 7, 3) := by decide +kernel
theorem dX8_cancel_22 : decode cX8_cancel 22 = .ok (.iconst 1, 1) := by decide +kernel
theorem dX8_cancel_23 : decode cX8_cancel 23 = .ok (.goto 4, 3) := by decide +kernel
theorem dX8_cancel_26 : decode cX8_cancel 26 = .ok (.iconst 0, 1) := by decide +kernel
theorem dX8_cancel_27 : decode cX8_cancel 27 = .ok (.invokestatic 93, 3) := by decide +kernel
theorem dX8_cancel_30 : decode cX8_cancel 30 = .ok (.aload_n 0, 1) := by decide +kernel
theorem dX8_cancel_31 : decode cX8_cancel 31 = .ok (.getfield 43, 3) := by decide +kernel
theorem dX8_cancel_34 : decode cX8_cancel 34 = .ok (.iload_n 1, 1) := by decide +kernel
theorem dX8_cancel_35 : decode cX8_cancel 35 = .ok (.invokevirtual 166, 3) := by decide +kernel
theorem dX8_cancel_38 : decode cX8_cancel 38 = .ok (.aload_n 0, 1) := by decide +kernel
theorem dX8_cancel_39 : decode cX8_cancel 39 = .ok (.getfield 20, 3) := by decide +kernel
theorem dX8_cancel_42 : decode cX8_cancel 42 = .ok (.iload_n 1, 1) := by decide +kernel
theorem dX8_cancel_43 : decode cX8_cancel 43 = .ok (.invokevirtual 169, 3) := by decide +kernel
theorem dX8_cancel_46 : decode cX8_cancel 46 = .ok (.ireturn, 1) := by decide +kernel
set_option maxRecDepth 20000 in
theorem ggX8_stateOf_X4_count : GoodIn wsX8_stateOf wsX4_count := goodIn_r _ [6, 7, 8, 9, 10, 11, 12, 13, 43, 44, 45, 46, 47, 48, 49, 50, 51, 52] (by decide +kernel) (by decide +kernel)
set_option maxRecDepth 20000 in
theorem gX8_stateOf_X4_count : GoodIn wsX8_stateOf (wsV RX8 154 RX4 yX4_count wsX4_count) := goodIn_app (goodIn_of _ (by decide +kernel)) ggX8_stateOf_X4_count
set_option maxRecDepth 20000 in
theorem ggX8_stateOf_X8_requireIndex : GoodIn wsX8_stateOf wsX8_requireIndex := goodIn_ca (goodIn_r _ [17, 18, 19] (by decide +kernel) (by decide +kernel)) (goodIn_sub (fun _ h => List.mem_cons_of_mem _ (List.mem_append_right _ h)) (by decide +kernel))
set_option maxRecDepth 20000 in
theorem gX8_stateOf_X8_requireIndex : GoodIn wsX8_stateOf (va_wsS RX8 80 yX8_requireIndex wsX8_requireIndex) := goodIn_app (goodIn_of _ (by decide +kernel)) ggX8_stateOf_X8_requireIndex
set_option maxRecDepth 20000 in
theorem ggX8_stateOf_X4_stateAt : GoodIn wsX8_stateOf wsX4_stateAt := goodIn_r _ [23, 24, 25, 26, 27, 11, 28, 29, 30, 31, 32, 33, 13, 43, 44, 45, 46, 47, 48, 49, 50, 51, 52] (by decide +kernel) (by decide +kernel)
set_option maxRecDepth 20000 in
theorem gX8_stateOf_X4_stateAt : GoodIn wsX8_stateOf (wsV RX8 160 RX4 yX4_stateAt wsX4_stateAt) := goodIn_app (goodIn_of _ (by decide +kernel)) ggX8_stateOf_X4_stateAt
theorem dX8_stateOf_0 : decode cX8_stateOf 0 = .ok (.iload_n 1, 1) := by decide +kernel
theorem dX8_stateOf_1 : decode cX8_stateOf 1 = .ok (.aload_n 0, 1) := by decide +kernel
theorem dX8_stateOf_2 : decode cX8_stateOf 2 = .ok (.getfield 43, 3) := by decide +kernel
theorem dX8_stateOf_5 : decode cX8_stateOf 5 = .ok (.invokevirtual 154, 3) := by decide +kernel
theorem dX8_stateOf_8 : decode cX8_stateOf 8 = .ok (.invokestatic 80, 3) := by decide +kernel
theorem dX8_stateOf_11 : decode cX8_stateOf 11 = .ok (.aload_n 0, 1) := by decide +kernel
theorem dX8_stateOf_12 : decode cX8_stateOf 12 = .ok (.getfield 43, 3) := by decide +kernel
theorem dX8_stateOf_15 : decode cX8_stateOf 15 = .ok (.iload_n 1, 1) := by decide +kernel
theorem dX8_stateOf_16 : decode cX8_stateOf 16 = .ok (.invokevirtual 160, 3) := by decide +kernel
theorem dX8_stateOf_19 : decode cX8_stateOf 19 = .ok (.ireturn, 1) := by decide +kernel
set_option maxRecDepth 20000 in
theorem ggX8_frozenBy_X8_requireWord : GoodIn wsX8_frozenBy wsX8_requireWord := goodIn_ca (goodIn_r _ [6, 1, 7, 8, 9, 10, 11, 12, 13, 14, 15, 16, 17, 18, 19, 20, 5, 21, 22, 23, 38, 39, 40, 41, 42, 43, 44, 45, 46, 47, 48, 49, 50, 51, 52, 53, 54] (by decide +kernel) (by decide +kernel)) (goodIn_sub (fun _ h => List.mem_cons_of_mem _ (List.mem_append_right _ h)) (by decide +kernel))
set_option maxRecDepth 20000 in
theorem gX8_frozenBy_X8_requireWord : GoodIn wsX8_frozenBy (wsV RX8 125 RX8 yX8_requireWord wsX8_requireWord) := goodIn_app (goodIn_of _ (by decide +kernel)) ggX8_frozenBy_X8_requireWord
set_option maxRecDepth 20000 in
theorem ggX8_frozenBy_X6_reviewOf : GoodIn wsX8_frozenBy wsX6_reviewOf := goodIn_r _ [27, 28, 29, 30, 31, 16, 32, 33, 34, 35, 36, 37, 18, 47, 48, 49, 50, 51, 52, 53, 54] (by decide +kernel) (by decide +kernel)
set_option maxRecDepth 20000 in
theorem gX8_frozenBy_X6_reviewOf : GoodIn wsX8_frozenBy (wsV RX8 172 RX6 yX6_reviewOf wsX6_reviewOf) := goodIn_app (goodIn_of _ (by decide +kernel)) ggX8_frozenBy_X6_reviewOf
theorem dX8_frozenBy_0 : decode cX8_frozenBy 0 = .ok (.aload_n 0, 1) := by decide +kernel
theorem dX8_frozenBy_1 : decode cX8_frozenBy 1 = .ok (.iload_n 1, 1) := by decide +kernel
theorem dX8_frozenBy_2 : decode cX8_frozenBy 2 = .ok (.invokevirtual 125, 3) := by decide +kernel
theorem dX8_frozenBy_5 : decode cX8_frozenBy 5 = .ok (.aload_n 0, 1) := by decide +kernel
theorem dX8_frozenBy_6 : decode cX8_frozenBy 6 = .ok (.getfield 20, 3) := by decide +kernel
theorem dX8_frozenBy_9 : decode cX8_frozenBy 9 = .ok (.iload_n 1, 1) := by decide +kernel
theorem dX8_frozenBy_10 : decode cX8_frozenBy 10 = .ok (.invokevirtual 172, 3) := by decide +kernel
theorem dX8_frozenBy_13 : decode cX8_frozenBy 13 = .ok (.ireturn, 1) := by decide +kernel
set_option maxRecDepth 20000 in
theorem ggX8_earned_X8_requireIndex : GoodIn wsX8_earned wsX8_requireIndex := goodIn_ca (goodIn_r _ [5, 6, 7] (by decide +kernel) (by decide +kernel)) (goodIn_sub (fun _ h => List.mem_cons_of_mem _ (List.mem_append_right _ h)) (by decide +kernel))
set_option maxRecDepth 20000 in
theorem gX8_earned_X8_requireIndex : GoodIn wsX8_earned (va_wsS RX8 80 yX8_requireIndex wsX8_requireIndex) := goodIn_app (goodIn_of _ (by decide +kernel)) ggX8_earned_X8_requireIndex
set_option maxRecDepth 20000 in
theorem ggX8_earned_X4_earnedBy : GoodIn wsX8_earned wsX4_earnedBy := goodIn_r _ [12, 13, 14, 15, 16, 17, 18, 19, 20, 21, 22, 23, 24, 34, 35, 36, 37, 38, 39, 40, 41, 42, 43] (by decide +kernel) (by decide +kernel)
set_option maxRecDepth 20000 in
theorem gX8_earned_X4_earnedBy : GoodIn wsX8_earned (wsV RX8 175 RX4 yX4_earnedBy wsX4_earnedBy) := goodIn_app (goodIn_of _ (by decide +kernel)) ggX8_earned_X4_earnedBy
theorem dX8_earned_0 : decode cX8_earned 0 = .ok (.iload_n 1, 1) := by decide +kernel
theorem dX8_earned_1 : decode cX8_earned 1 = .ok (.iconst 4, 1) := by decide +kernel
theorem dX8_earned_2 : decode cX8_earned 2 = .ok (.invokestatic 80, 3) := by decide +kernel
theorem dX8_earned_5 : decode cX8_earned 5 = .ok (.aload_n 0, 1) := by decide +kernel
theorem dX8_earned_6 : decode cX8_earned 6 = .ok (.getfield 43, 3) := by decide +kernel
theorem dX8_earned_9 : decode cX8_earned 9 = .ok (.iload_n 1, 1) := by decide +kernel
theorem dX8_earned_10 : decode cX8_earned 10 = .ok (.invokevirtual 175, 3) := by decide +kernel
theorem dX8_earned_13 : decode cX8_earned 13 = .ok (.ireturn, 1) := by decide +kernel
set_option maxRecDepth 20000 in
theorem ggX8_addIssue_X8_requireRange : GoodIn wsX8_addIssue wsX8_requireRange := goodIn_ca (goodIn_r _ [6, 7, 8, 5, 9, 10, 11] (by decide +kernel) (by decide +kernel)) (goodIn_sub (fun _ h => List.mem_cons_of_mem _ (List.mem_append_left _ (List.mem_append_right _ h))) (by decide +kernel))
set_option maxRecDepth 20000 in
theorem gX8_addIssue_X8_requireRange : GoodIn wsX8_addIssue (va_wsS RX8 84 yX8_requireRange wsX8_requireRange) := goodIn_app (goodIn_of _ (by decide +kernel)) ggX8_addIssue_X8_requireRange
set_option maxRecDepth 20000 in
theorem ggX8_addIssue_X3_count : GoodIn wsX8_addIssue wsX3_count := goodIn_r _ [16, 17, 18, 19, 20, 21, 22, 23, 74, 75, 76, 77, 78] (by decide +kernel) (by decide +kernel)
set_option maxRecDepth 20000 in
theorem gX8_addIssue_X3_count : GoodIn wsX8_addIssue (wsV RX8 178 RX3 yX3_count wsX3_count) := goodIn_app (goodIn_of _ (by decide +kernel)) ggX8_addIssue_X3_count
set_option maxRecDepth 20000 in
theorem ggX8_addIssue_X8_requireState : GoodIn wsX8_addIssue wsX8_requireState := goodIn_ca (goodIn_r _ [26, 27, 28] (by decide +kernel) (by decide +kernel)) (goodIn_sub (fun _ h => List.mem_cons_of_mem _ (List.mem_append_right _ h)) (by decide +kernel))
set_option maxRecDepth 20000 in
theorem gX8_addIssue_X8_requireState : GoodIn wsX8_addIssue (va_wsS RX8 93 yX8_requireState wsX8_requireState) := goodIn_app (goodIn_of _ (by decide +kernel)) ggX8_addIssue_X8_requireState
set_option maxRecDepth 20000 in
theorem ggX8_addIssue_X3_ofDay : GoodIn wsX8_addIssue wsX3_ofDay := goodIn_r _ [32, 17, 33, 34, 35, 21, 36, 23, 37, 38, 39, 40, 41, 42, 43, 44, 45, 74, 75, 76, 77, 78] (by decide +kernel) (by decide +kernel)
set_option maxRecDepth 20000 in
theorem gX8_addIssue_X3_ofDay : GoodIn wsX8_addIssue (wsV RX8 179 RX3 yX3_ofDay wsX3_ofDay) := goodIn_app (goodIn_of _ (by decide +kernel)) ggX8_addIssue_X3_ofDay
set_option maxRecDepth 20000 in
theorem ggX8_addIssue_X3_add : GoodIn wsX8_addIssue wsX3_add := goodIn_r _ [49, 17, 50, 51, 52, 53, 54, 21, 55, 23, 56, 57, 58, 59, 41, 60, 61, 62, 63, 64, 13, 14, 15, 16, 18, 19, 20, 22, 74, 75, 76, 77, 78] (by decide +kernel) (by decide +kernel)
set_option maxRecDepth 20000 in
theorem gX8_addIssue_X3_add : GoodIn wsX8_addIssue (wsV RX8 182 RX3 yX3_add wsX3_add) := goodIn_app (goodIn_of _ (by decide +kernel)) ggX8_addIssue_X3_add
theorem dX8_addIssue_0 : decode cX8_addIssue 0 = .ok (.iload_n 1, 1) := by decide +kernel
theorem dX8_addIssue_1 : decode cX8_addIssue 1 = .ok (.aload_n 0, 1) := by decide +kernel
theorem dX8_addIssue_2 : decode cX8_addIssue 2 = .ok (.getfield 65, 3) := by decide +kernel
theorem dX8_addIssue_5 : decode cX8_addIssue 5 = .ok (.iconst 1, 1) := by decide +kernel
theorem dX8_addIssue_6 : decode cX8_addIssue 6 = .ok (.iadd, 1) := by decide +kernel
theorem dX8_addIssue_7 : decode cX8_addIssue 7 = .ok (.sipush 1000, 3) := by decide +kernel
theorem dX8_addIssue_10 : decode cX8_addIssue 10 = .ok (.invokestatic 84, 3) := by decide +kernel
theorem dX8_addIssue_13 : decode cX8_addIssue 13 = .ok (.iload_n 2, 1) := by decide +kernel
theorem dX8_addIssue_14 : decode cX8_addIssue 14 = .ok (.iconst 1, 1) := by decide +kernel
theorem dX8_addIssue_15 : decode cX8_addIssue 15 = .ok (.sipush 200, 3) := by decide +kernel
theorem dX8_addIssue_18 : decode cX8_addIssue 18 = .ok (.invokestatic 84, 3) := by decide +kernel
theorem dX8_addIssue_21 : decode cX8_addIssue 21 = .ok (.aload_n 0, 1) := by decide +kernel
theorem dX8_addIssue_22 : decode cX8_addIssue 22 = .ok (.getfield 50, 3) := by decide +kernel
theorem dX8_addIssue_25 : decode cX8_addIssue 25 = .ok (.invokevirtual 178, 3) := by decide +kernel
theorem dX8_addIssue_28 : decode cX8_addIssue 28 = .ok (.bipush 12, 2) := by decide +kernel
theorem dX8_addIssue_30 : decode cX8_addIssue 30 = .ok (.if_icmp .ge 7, 3) := by decide +kernel
theorem dX8_addIssue_33 : decode cX8_addIssue 33 = .ok (.iconst 1, 1) := by decide +kernel
theorem dX8_addIssue_34 : decode cX8_addIssue 34 = .ok (.goto 4, 3) := by decide +kernel
theorem dX8_addIssue_37 : decode cX8_addIssue 37 = .ok (.iconst 0, 1) := by decide +kernel
theorem dX8_addIssue_38 : decode cX8_addIssue 38 = .ok (.invokestatic 93, 3) := by decide +kernel
theorem dX8_addIssue_41 : decode cX8_addIssue 41 = .ok (.aload_n 0, 1) := by decide +kernel
theorem dX8_addIssue_42 : decode cX8_addIssue 42 = .ok (.getfield 50, 3) := by decide +kernel
theorem dX8_addIssue_45 : decode cX8_addIssue 45 = .ok (.iload_n 1, 1) := by decide +kernel
theorem dX8_addIssue_46 : decode cX8_addIssue 46 = .ok (.invokevirtual 179, 3) := by decide +kernel
theorem dX8_addIssue_49 : decode cX8_addIssue 49 = .ok (.iconst (-1), 1) := by decide +kernel
theorem dX8_addIssue_50 : decode cX8_addIssue 50 = .ok (.if_icmp .ne 7, 3) := by decide +kernel
theorem dX8_addIssue_53 : decode cX8_addIssue 53 = .ok (.iconst 1, 1) := by decide +kernel
theorem dX8_addIssue_54 : decode cX8_addIssue 54 = .ok (.goto 4, 3) := by decide +kernel
theorem dX8_addIssue_57 : decode cX8_addIssue 57 = .ok (.iconst 0, 1) := by decide +kernel
theorem dX8_addIssue_58 : decode cX8_addIssue 58 = .ok (.invokestatic 93, 3) := by decide +kernel
theorem dX8_addIssue_61 : decode cX8_addIssue 61 = .ok (.aload_n 0, 1) := by decide +kernel
theorem dX8_addIssue_62 : decode cX8_addIssue 62 = .ok (.getfield 50, 3) := by decide +kernel
theorem dX8_addIssue_65 : decode cX8_addIssue 65 = .ok (.iload_n 1, 1) := by decide +kernel
theorem dX8_addIssue_66 : decode cX8_addIssue 66 = .ok (.iload_n 2, 1) := by decide +kernel
theorem dX8_addIssue_67 : decode cX8_addIssue 67 = .ok (.invokevirtual 182, 3) := by decide +kernel
theorem dX8_addIssue_70 : decode cX8_addIssue 70 = .ok (.ireturn, 1) := by decide +kernel
set_option maxRecDepth 20000 in
theorem ggX8_waiting_X8_requireArgument : GoodIn wsX8_waiting wsX8_requireArgument := goodIn_ca (goodIn_r _ [5, 6, 7] (by decide +kernel) (by decide +kernel)) (goodIn_sub (fun _ h => List.mem_cons_of_mem _ (List.mem_append_right _ h)) (by decide +kernel))
set_option maxRecDepth 20000 in
theorem gX8_waiting_X8_requireArgument : GoodIn wsX8_waiting (va_wsS RX8 183 yX8_requireArgument wsX8_requireArgument) := goodIn_app (goodIn_of _ (by decide +kernel)) ggX8_waiting_X8_requireArgument
set_option maxRecDepth 20000 in
theorem ggX8_waiting_X4_waitingAt : GoodIn wsX8_waiting wsX4_waitingAt := goodIn_r _ [12, 13, 14, 15, 16, 17, 18, 19, 20, 21, 22, 23, 24, 34, 35, 36, 37, 38, 39, 40, 41, 42, 43] (by decide +kernel) (by decide +kernel)
set_option maxRecDepth 20000 in
theorem gX8_waiting_X4_waitingAt : GoodIn wsX8_waiting (wsV RX8 186 RX4 yX4_waitingAt wsX4_waitingAt) := goodIn_app (goodIn_of _ (by decide +kernel)) ggX8_waiting_X4_waitingAt
theorem dX8_waiting_0 : decode cX8_waiting 0 = .ok (.iload_n 1, 1) := by decide +kernel
theorem dX8_waiting_1 : decode cX8_waiting 1 = .ok (.ifCond .lt 7, 3) := by decide +kernel
theorem dX8_waiting_4 : decode cX8_waiting 4 = .ok (.iconst 1, 1) := by decide +kernel
theorem dX8_waiting_5 : decode cX8_waiting 5 = .ok (.goto 4, 3) := by decide +kernel
theorem dX8_waiting_8 : decode cX8_waiting 8 = .ok (.iconst 0, 1) := by decide +kernel
theorem dX8_waiting_9 : decode cX8_waiting 9 = .ok (.invokestatic 183, 3) := by decide +kernel
theorem dX8_waiting_12 : decode cX8_waiting 12 = .ok (.aload_n 0, 1) := by decide +kernel
theorem dX8_waiting_13 : decode cX8_waiting 13 = .ok (.getfield 43, 3) := by decide +kernel
theorem dX8_waiting_16 : decode cX8_waiting 16 = .ok (.iload_n 1, 1) := by decide +kernel
theorem dX8_waiting_17 : decode cX8_waiting 17 = .ok (.invokevirtual 186, 3) := by decide +kernel
theorem dX8_waiting_20 : decode cX8_waiting 20 = .ok (.ireturn, 1) := by decide +kernel
set_option maxRecDepth 20000 in
theorem ggX8_pass_X8_requireRange : GoodIn wsX8_pass wsX8_requireRange := goodIn_ca (goodIn_r _ [6, 7, 8, 5, 9, 10, 11] (by decide +kernel) (by decide +kernel)) (goodIn_sub (fun _ h => List.mem_cons_of_mem _ (List.mem_append_left _ (List.mem_append_right _ h))) (by decide +kernel))
set_option maxRecDepth 20000 in
theorem gX8_pass_X8_requireRange : GoodIn wsX8_pass (va_wsS RX8 84 yX8_requireRange wsX8_requireRange) := goodIn_app (goodIn_of _ (by decide +kernel)) ggX8_pass_X8_requireRange
set_option maxRecDepth 20000 in
theorem ggX8_pass_X8_requireState : GoodIn wsX8_pass wsX8_requireState := goodIn_ca (goodIn_r _ [14, 15, 16] (by decide +kernel) (by decide +kernel)) (goodIn_sub (fun _ h => List.mem_cons_of_mem _ (List.mem_append_right _ h)) (by decide +kernel))
set_option maxRecDepth 20000 in
theorem gX8_pass_X8_requireState : GoodIn wsX8_pass (va_wsS RX8 93 yX8_requireState wsX8_requireState) := goodIn_app (goodIn_of _ (by decide +kernel)) ggX8_pass_X8_requireState
set_option maxRecDepth 20000 in
theorem ggX8_pass_X3_ofDay : GoodIn wsX8_pass wsX3_ofDay := goodIn_r _ [21, 22, 23, 24, 25, 26, 27, 28, 29, 30, 31, 32, 33, 34, 35, 36, 37, 132, 133, 134, 135, 136] (by decide +kernel) (by decide +kernel)
set_option maxRecDepth 20000 in
theorem gX8_pass_X3_ofDay : GoodIn wsX8_pass (wsV RX8 179 RX3 yX3_ofDay wsX3_ofDay) := goodIn_app (goodIn_of _ (by decide +kernel)) ggX8_pass_X3_ofDay
set_option maxRecDepth 20000 in
theorem ggX8_pass_X8_printIssue : GoodIn wsX8_pass wsX8_printIssue := goodIn_r _ [41, 2, 42, 43, 44, 45, 20, 46, 47, 48, 30, 31, 26, 32, 33, 34, 35, 36, 37, 28, 49, 50, 51, 52, 53, 54, 55, 56, 57, 58, 59, 60, 61, 62, 63, 5, 64, 65, 66, 67, 68, 69, 70, 71, 72, 73, 74, 75, 76, 77, 78, 79, 80, 81, 82, 83, 84, 85, 86, 87, 88, 89, 90, 91, 92, 93, 94, 95, 96, 97, 98, 99, 100, 101, 102, 103, 104, 105, 106, 107, 108, 29, 109, 110, 111, 112, 113, 114, 115, 116, 117, 118, 119, 120, 121, 122, 123, 124, 125, 126, 127, 128, 129, 130, 131, 132, 133, 134, 135, 136, 137, 138, 139, 140, 141, 142, 143, 144, 145, 146, 147, 148, 149, 150] (by decide +kernel) (by decide +kernel)
set_option maxRecDepth 20000 in
theorem gX8_pass_X8_printIssue : GoodIn wsX8_pass (wsV RX8 189 RX8 yX8_printIssue wsX8_printIssue) := goodIn_app (goodIn_of _ (by decide +kernel)) ggX8_pass_X8_printIssue
theorem dX8_pass_0 : decode cX8_pass 0 = .ok (.iload_n 1, 1) := by decide +kernel
theorem dX8_pass_1 : decode cX8_pass 1 = .ok (.iconst 1, 1) := by decide +kernel
theorem dX8_pass_2 : decode cX8_pass 2 = .ok (.bipush 100, 2) := by decide +kernel
theorem dX8_pass_4 : decode cX8_pass 4 = .ok (.invokestatic 84, 3) := by decide +kernel
theorem dX8_pass_7 : decode cX8_pass 7 = .ok (.aload_n 0, 1) := by decide +kernel
theorem dX8_pass_8 : decode cX8_pass 8 = .ok (.getfield 65, 3) := by decide +kernel
theorem dX8_pass_11 : decode cX8_pass 11 = .ok (.iload_n 1, 1) := by decide +kernel
theorem dX8_pass_12 : decode cX8_pass 12 = .ok (.iadd, 1) := by decide +kernel
theorem dX8_pass_13 : decode cX8_pass 13 = .ok (.sipush 1000, 3) := by decide +kernel
theorem dX8_pass_16 : decode cX8_pass 16 = .ok (.if_icmp .gt 7, 3) := by decide +kernel
theorem dX8_pass_19 : decode cX8_pass 19 = .ok (.iconst 1, 1) := by decide +kernel
theorem dX8_pass_20 : decode cX8_pass 20 = .ok (.goto 4, 3) := by decide +kernel
theorem dX8_pass_23 : decode cX8_pass 23 = .ok (.iconst 0, 1) := by decide +kernel
theorem dX8_pass_24 : decode cX8_pass 24 = .ok (.invokestatic 93, 3) := by decide +kernel
theorem dX8_pass_27 : decode cX8_pass 27 = .ok (.iconst 0, 1) := by decide +kernel
theorem dX8_pass_28 : decode cX8_pass 28 = .ok (.istore_n 2, 1) := by decide +kernel
theorem dX8_pass_29 : decode cX8_pass 29 = .ok (.iconst 0, 1) := by decide +kernel
theorem dX8_pass_30 : decode cX8_pass 30 = .ok (.istore_n 3, 1) := by decide +kernel
theorem dX8_pass_31 : decode cX8_pass 31 = .ok (.iload_n 3, 1) := by decide +kernel
theorem dX8_pass_32 : decode cX8_pass 32 = .ok (.iload_n 1, 1) := by decide +kernel
theorem dX8_pass_33 : decode cX8_pass 33 = .ok (.if_icmp .ge 47, 3) := by decide +kernel
theorem dX8_pass_36 : decode cX8_pass 36 = .ok (.aload_n 0, 1) := by decide +kernel
theorem dX8_pass_37 : decode cX8_pass 37 = .ok (.dup, 1) := by decide +kernel
theorem dX8_pass_38 : decode cX8_pass 38 = .ok (.getfield 65, 3) := by decide +kernel
theorem dX8_pass_41 : decode cX8_pass 41 = .ok (.iconst 1, 1) := by decide +kernel
theorem dX8_pass_42 : decode cX8_pass 42 = .ok (.iadd, 1) := by decide +kernel
theorem dX8_pass_43 : decode cX8_pass 43 = .ok (.putfield 65, 3) := by decide +kernel
theorem dX8_pass_46 : decode cX8_pass 46 = .ok (.aload_n 0, 1) := by decide +kernel
theorem dX8_pass_47 : decode cX8_pass 47 = .ok (.getfield 50, 3) := by decide +kernel
theorem dX8_pass_50 : decode cX8_pass 50 = .ok (.aload_n 0, 1) := by decide +kernel
theorem dX8_pass_51 : decode cX8_pass 51 = .ok (.getfield 65, 3) := by decide +kernel
theorem dX8_pass_54 : decode cX8_pass 54 = .ok (.invokevirtual 179, 3) := by decide +kernel
theorem dX8_pass_57 : decode cX8_pass 57 = .ok (.istore 4, 2) := by decide +kernel
theorem dX8_pass_59 : decode cX8_pass 59 = .ok (.iload 4, 2) := by decide +kernel
theorem dX8_pass_61 : decode cX8_pass 61 = .ok (.iconst (-1), 1) := by decide +kernel
theorem dX8_pass_62 : decode cX8_pass 62 = .ok (.if_icmp .eq 12, 3) := by decide +kernel
theorem dX8_pass_65 : decode cX8_pass 65 = .ok (.iload_n 2, 1) := by decide +kernel
theorem dX8_pass_66 : decode cX8_pass 66 = .ok (.aload_n 0, 1) := by decide +kernel
theorem dX8_pass_67 : decode cX8_pass 67 = .ok (.iload 4, 2) := by decide +kernel
theorem dX8_pass_69 : decode cX8_pass 69 = .ok (.invokevirtual 189, 3) := by decide +kernel
theorem dX8_pass_72 : decode cX8_pass 72 = .ok (.iadd, 1) := by decide +kernel
theorem dX8_pass_73 : decode cX8_pass 73 = .ok (.istore_n 2, 1) := by decide +kernel
theorem dX8_pass_74 : decode cX8_pass 74 = .ok (.iinc 3 1, 3) := by decide +kernel
theorem dX8_pass_77 : decode cX8_pass 77 = .ok (.goto (-46), 3) := by decide +kernel
theorem dX8_pass_80 : decode cX8_pass 80 = .ok (.iload_n 2, 1) := by decide +kernel
theorem dX8_pass_81 : decode cX8_pass 81 = .ok (.ireturn, 1) := by decide +kernel
theorem dX8_today_0 : decode cX8_today 0 = .ok (.aload_n 0, 1) := by decide +kernel
theorem dX8_today_1 : decode cX8_today 1 = .ok (.getfield 65, 3) := by decide +kernel
theorem dX8_today_4 : decode cX8_today 4 = .ok (.ireturn, 1) := by decide +kernel
set_option maxRecDepth 20000 in
theorem ggX8_printed_X3_count : GoodIn wsX8_printed wsX3_count := goodIn_r _ [6, 7, 8, 9, 10, 11, 12, 13, 43, 44, 45, 46, 47] (by decide +kernel) (by decide +kernel)
set_option maxRecDepth 20000 in
theorem gX8_printed_X3_count : GoodIn wsX8_printed (wsV RX8 178 RX3 yX3_count wsX3_count) := goodIn_app (goodIn_of _ (by decide +kernel)) ggX8_printed_X3_count
set_option maxRecDepth 20000 in
theorem ggX8_printed_X8_requireIndex : GoodIn wsX8_printed wsX8_requireIndex := goodIn_ca (goodIn_r _ [17, 18, 19] (by decide +kernel) (by decide +kernel)) (goodIn_sub (fun _ h => List.mem_cons_of_mem _ (List.mem_append_right _ h)) (by decide +kernel))
set_option maxRecDepth 20000 in
theorem gX8_printed_X8_requireIndex : GoodIn wsX8_printed (va_wsS RX8 80 yX8_requireIndex wsX8_requireIndex) := goodIn_app (goodIn_of _ (by decide +kernel)) ggX8_printed_X8_requireIndex
set_option maxRecDepth 20000 in
theorem ggX8_printed_X3_printedIn : GoodIn wsX8_printed wsX3_printedIn := goodIn_r _ [23, 24, 25, 26, 27, 11, 28, 29, 30, 31, 32, 33, 13, 43, 44, 45, 46, 47] (by decide +kernel) (by decide +kernel)
set_option maxRecDepth 20000 in
theorem gX8_printed_X3_printedIn : GoodIn wsX8_printed (wsV RX8 192 RX3 yX3_printedIn wsX3_printedIn) := goodIn_app (goodIn_of _ (by decide +kernel)) ggX8_printed_X3_printedIn
theorem dX8_printed_0 : decode cX8_printed 0 = .ok (.iload_n 1, 1) := by decide +kernel
theorem dX8_printed_1 : decode cX8_printed 1 = .ok (.aload_n 0, 1) := by decide +kernel
theorem dX8_printed_2 : decode cX8_printed 2 = .ok (.getfield 50, 3) := by decide +kernel
theorem dX8_printed_5 : decode cX8_printed 5 = .ok (.invokevirtual 178, 3) := by decide +kernel
theorem dX8_printed_8 : decode cX8_printed 8 = .ok (.invokestatic 80, 3) := by decide +kernel
theorem dX8_printed_11 : decode cX8_printed 11 = .ok (.aload_n 0, 1) := by decide +kernel
theorem dX8_printed_12 : decode cX8_printed 12 = .ok (.getfield 50, 3) := by decide +kernel
theorem dX8_printed_15 : decode cX8_printed 15 = .ok (.iload_n 1, 1) := by decide +kernel
theorem dX8_printed_16 : decode cX8_printed 16 = .ok (.invokevirtual 192, 3) := by decide +kernel
theorem dX8_printed_19 : decode cX8_printed 19 = .ok (.ireturn, 1) := by decide +kernel
set_option maxRecDepth 20000 in
theorem ggX8_royalties_X8_requireIndex : GoodIn wsX8_royalties wsX8_requireIndex := goodIn_ca (goodIn_r _ [5, 6, 7] (by decide +kernel) (by decide +kernel)) (goodIn_sub (fun _ h => List.mem_cons_of_mem _ (List.mem_append_right _ h)) (by decide +kernel))
set_option maxRecDepth 20000 in
theorem gX8_royalties_X8_requireIndex : GoodIn wsX8_royalties (va_wsS RX8 80 yX8_requireIndex wsX8_requireIndex) := goodIn_app (goodIn_of _ (by decide +kernel)) ggX8_royalties_X8_requireIndex
set_option maxRecDepth 20000 in
theorem ggX8_royalties_X5_at : GoodIn wsX8_royalties wsX5_at := goodIn_r _ [12, 13, 14, 15, 16, 11, 17, 18, 28, 29] (by decide +kernel) (by decide +kernel)
set_option maxRecDepth 20000 in
theorem gX8_royalties_X5_at : GoodIn wsX8_royalties (wsV RX8 97 RX5 yX5_at wsX5_at) := goodIn_app (goodIn_of _ (by decide +kernel)) ggX8_royalties_X5_at
theorem dX8_royalties_0 : decode cX8_royalties 0 = .ok (.iload_n 1, 1) := by decide +kernel
theorem dX8_royalties_1 : decode cX8_royalties 1 = .ok (.bipush 6, 2) := by decide +kernel
theorem dX8_royalties_3 : decode cX8_royalties 3 = .ok (.invokestatic 80, 3) := by decide +kernel
theorem dX8_royalties_6 : decode cX8_royalties 6 = .ok (.aload_n 0, 1) := by decide +kernel
theorem dX8_royalties_7 : decode cX8_royalties 7 = .ok (.getfield 36, 3) := by decide +kernel
theorem dX8_royalties_10 : decode cX8_royalties 10 = .ok (.iload_n 1, 1) := by decide +kernel
theorem dX8_royalties_11 : decode cX8_royalties 11 = .ok (.invokevirtual 97, 3) := by decide +kernel
theorem dX8_royalties_14 : decode cX8_royalties 14 = .ok (.ireturn, 1) := by decide +kernel
set_option maxRecDepth 20000 in
theorem ggX8_comment_X8_requireSpan : GoodIn wsX8_comment wsX8_requireSpan := goodIn_ca (goodIn_ca (goodIn_r _ [7, 8, 9, 10, 6, 11, 2, 12, 13, 14, 15, 16, 17, 18, 19, 20, 21, 22, 23, 24, 25, 26, 27, 28, 29, 30, 31, 32, 33, 73, 74, 75, 76, 77, 78, 79, 80, 81, 82, 83, 84, 85, 86, 87] (by decide +kernel) (by decide +kernel)) (goodIn_sub (fun _ h => List.mem_cons_of_mem _ (List.mem_append_left _ (List.mem_append_left _ (List.mem_append_right _ h)))) (by decide +kernel))) (goodIn_sub (fun _ h => List.mem_cons_of_mem _ (List.mem_append_left _ (List.mem_append_right _ h))) (by decide +kernel))
set_option maxRecDepth 20000 in
theorem gX8_comment_X8_requireSpan : GoodIn wsX8_comment (wsV RX8 147 RX8 yX8_requireSpan wsX8_requireSpan) := goodIn_app (goodIn_of _ (by decide +kernel)) ggX8_comment_X8_requireSpan
set_option maxRecDepth 20000 in
theorem ggX8_comment_X1_count : GoodIn wsX8_comment wsX1_count := goodIn_r _ [38, 39, 40, 19, 20, 21, 22, 23, 88, 89, 86, 87] (by decide +kernel) (by decide +kernel)
set_option maxRecDepth 20000 in
theorem gX8_comment_X1_count : GoodIn wsX8_comment (wsV RX8 195 RX1 yX1_count wsX1_count) := goodIn_app (goodIn_of _ (by decide +kernel)) ggX8_comment_X1_count
set_option maxRecDepth 20000 in
theorem ggX8_comment_X8_requireState : GoodIn wsX8_comment wsX8_requireState := goodIn_ca (goodIn_r _ [43, 44, 45] (by decide +kernel) (by decide +kernel)) (goodIn_sub (fun _ h => List.mem_cons_of_mem _ (List.mem_append_right _ h)) (by decide +kernel))
set_option maxRecDepth 20000 in
theorem gX8_comment_X8_requireState : GoodIn wsX8_comment (va_wsS RX8 93 yX8_requireState wsX8_requireState) := goodIn_app (goodIn_of _ (by decide +kernel)) ggX8_comment_X8_requireState
set_option maxRecDepth 20000 in
theorem ggX8_comment_X2_text : GoodIn wsX8_comment wsX2_text := goodIn_r _ [16, 17, 82, 83, 84, 85] (by decide +kernel) (by decide +kernel)
set_option maxRecDepth 20000 in
theorem gX8_comment_X2_text : GoodIn wsX8_comment (wsV RX8 118 RX2 yX2_text wsX2_text) := goodIn_app (goodIn_of _ (by decide +kernel)) ggX8_comment_X2_text
set_option maxRecDepth 20000 in
theorem ggX8_comment_X5_at : GoodIn wsX8_comment wsX5_at := goodIn_r _ [49, 50, 51, 52, 53, 21, 54, 23, 86, 87] (by decide +kernel) (by decide +kernel)
set_option maxRecDepth 20000 in
theorem gX8_comment_X5_at : GoodIn wsX8_comment (wsV RX8 97 RX5 yX5_at wsX5_at) := goodIn_app (goodIn_of _ (by decide +kernel)) ggX8_comment_X5_at
set_option maxRecDepth 20000 in
theorem ggX8_comment_X1_add : GoodIn wsX8_comment wsX1_add := goodIn_r _ [58, 39, 59, 60, 61, 62, 21, 63, 23, 64, 65, 66, 67, 50, 68, 69, 70, 71, 72, 35, 36, 37, 38, 40, 19, 20, 22, 88, 89, 86, 87] (by decide +kernel) (by decide +kernel)
set_option maxRecDepth 20000 in
theorem gX8_comment_X1_add : GoodIn wsX8_comment (wsV RX8 196 RX1 yX1_add wsX1_add) := goodIn_app (goodIn_of _ (by decide +kernel)) ggX8_comment_X1_add
theorem dX8_comment_0 : decode cX8_comment 0 = .ok (.aload_n 0, 1) := by decide +kernel
theorem dX8_comment_1 : decode cX8_comment 1 = .ok (.iload_n 1, 1) := by decide +kernel
theorem dX8_comment_2 : decode cX8_comment 2 = .ok (.iload_n 2, 1) := by decide +kernel
theorem dX8_comment_3 : decode cX8_comment 3 = .ok (.invokevirtual 147, 3) := by decide +kernel
theorem dX8_comment_6 : decode cX8_comment 6 = .ok (.aload_n 0, 1) := by decide +kernel
theorem dX8_comment_7 : decode cX8_comment 7 = .ok (.getfield 57, 3) := by decide +kernel
theorem dX8_comment_10 : decode cX8_comment 10 = .ok (.invokevirtual 195, 3) := by decide +kernel
theorem dX8_comment_13 : decode cX8_comment 13 = .ok (.bipush 40, 2) := by decide +kernel
theorem dX8_comment_15 : decode cX8_comment 15 = .ok (.if_icmp .ge 7, 3) := by decide +kernel
theorem dX8_comment_18 : decode cX8_comment 18 = .ok (.iconst 1, 1) := by decide +kernel
theorem dX8_comment_19 : decode cX8_comment 19 = .ok (.goto 4, 3) := by decide +kernel
theorem dX8_comment_22 : decode cX8_comment 22 = .ok (.iconst 0, 1) := by decide +kernel
theorem dX8_comment_23 : decode cX8_comment 23 = .ok (.invokestatic 93, 3) := by decide +kernel
theorem dX8_comment_26 : decode cX8_comment 26 = .ok (.aload_n 0, 1) := by decide +kernel
theorem dX8_comment_27 : decode cX8_comment 27 = .ok (.getfield 57, 3) := by decide +kernel
theorem dX8_comment_30 : decode cX8_comment 30 = .ok (.aload_n 0, 1) := by decide +kernel
theorem dX8_comment_31 : decode cX8_comment 31 = .ok (.getfield 10, 3) := by decide +kernel
theorem dX8_comment_34 : decode cX8_comment 34 = .ok (.invokevirtual 118, 3) := by decide +kernel
theorem dX8_comment_37 : decode cX8_comment 37 = .ok (.iload_n 1, 1) := by decide +kernel
theorem dX8_comment_38 : decode cX8_comment 38 = .ok (.invokevirtual 97, 3) := by decide +kernel
theorem dX8_comment_41 : decode cX8_comment 41 = .ok (.aload_n 0, 1) := by decide +kernel
theorem dX8_comment_42 : decode cX8_comment 42 = .ok (.getfield 10, 3) := by decide +kernel
theorem dX8_comment_45 : decode cX8_comment 45 = .ok (.invokevirtual 118, 3) := by decide +kernel
theorem dX8_comment_48 : decode cX8_comment 48 = .ok (.iload_n 2, 1) := by decide +kernel
theorem dX8_comment_49 : decode cX8_comment 49 = .ok (.invokevirtual 97, 3) := by decide +kernel
theorem dX8_comment_52 : decode cX8_comment 52 = .ok (.invokevirtual 196, 3) := by decide +kernel
theorem dX8_comment_55 : decode cX8_comment 55 = .ok (.ireturn, 1) := by decide +kernel
set_option maxRecDepth 20000 in
theorem ggX8_span_X1_count : GoodIn wsX8_span wsX1_count := goodIn_r _ [7, 8, 9, 10, 11, 12, 13, 14, 78, 79, 80, 81] (by decide +kernel) (by decide +kernel)
set_option maxRecDepth 20000 in
theorem gX8_span_X1_count : GoodIn wsX8_span (wsV RX8 195 RX1 yX1_count wsX1_count) := goodIn_app (goodIn_of _ (by decide +kernel)) ggX8_span_X1_count
set_option maxRecDepth 20000 in
theorem ggX8_span_X8_requireIndex : GoodIn wsX8_span wsX8_requireIndex := goodIn_ca (goodIn_r _ [18, 19, 20] (by decide +kernel) (by decide +kernel)) (goodIn_sub (fun _ h => List.mem_cons_of_mem _ (List.mem_append_right _ h)) (by decide +kernel))
set_option maxRecDepth 20000 in
theorem gX8_span_X8_requireIndex : GoodIn wsX8_span (va_wsS RX8 80 yX8_requireIndex wsX8_requireIndex) := goodIn_app (goodIn_of _ (by decide +kernel)) ggX8_span_X8_requireIndex
set_option maxRecDepth 20000 in
theorem ggX8_span_X1_firstOf : GoodIn wsX8_span wsX1_firstOf := goodIn_r _ [24, 8, 25, 26, 27, 12, 28, 29, 30, 31, 32, 33, 14, 78, 79, 80, 81] (by decide +kernel) (by decide +kernel)
set_option maxRecDepth 20000 in
theorem gX8_span_X1_firstOf : GoodIn wsX8_span (wsV RX8 197 RX1 yX1_firstOf wsX1_firstOf) := goodIn_app (goodIn_of _ (by decide +kernel)) ggX8_span_X1_firstOf
set_option maxRecDepth 20000 in
theorem ggX8_span_X1_lastOf : GoodIn wsX8_span wsX1_lastOf := goodIn_r _ [37, 38, 25, 26, 27, 12, 28, 29, 30, 31, 32, 33, 14, 78, 79, 80, 81] (by decide +kernel) (by decide +kernel)
set_option maxRecDepth 20000 in
theorem gX8_span_X1_lastOf : GoodIn wsX8_span (wsV RX8 200 RX1 yX1_lastOf wsX1_lastOf) := goodIn_app (goodIn_of _ (by decide +kernel)) ggX8_span_X1_lastOf
set_option maxRecDepth 20000 in
theorem ggX8_span_X2_firstBetween : GoodIn wsX8_span wsX2_firstBetween := goodIn_r _ [43, 44, 45, 46, 47, 48, 12, 49, 14, 50, 26, 27, 28, 29, 30, 31, 32, 33, 51, 52, 53, 54, 55, 56, 57, 58, 82, 83, 84, 85, 80, 81, 86, 87, 88, 89, 90, 91] (by decide +kernel) (by decide +kernel)
set_option maxRecDepth 20000 in
theorem gX8_span_X2_firstBetween : GoodIn wsX8_span (wsV RX8 203 RX2 yX2_firstBetween wsX2_firstBetween) := goodIn_app (goodIn_of _ (by decide +kernel)) ggX8_span_X2_firstBetween
set_option maxRecDepth 20000 in
theorem ggX8_span_X2_countBetween : GoodIn wsX8_span wsX2_countBetween := goodIn_r _ [62, 44, 45, 46, 47, 48, 12, 49, 14, 50, 26, 27, 28, 29, 30, 31, 32, 33, 51, 52, 53, 54, 55, 56, 57, 58, 82, 83, 84, 85, 80, 81, 86, 87, 88, 89, 90, 91] (by decide +kernel) (by decide +kernel)
set_option maxRecDepth 20000 in
theorem gX8_span_X2_countBetween : GoodIn wsX8_span (wsV RX8 206 RX2 yX2_countBetween wsX2_countBetween) := goodIn_app (goodIn_of _ (by decide +kernel)) ggX8_span_X2_countBetween
set_option maxRecDepth 20000 in
theorem ggX8_span_X2_text : GoodIn wsX8_span wsX2_text := goodIn_r _ [66, 67, 82, 83, 84, 85] (by decide +kernel) (by decide +kernel)
set_option maxRecDepth 20000 in
theorem gX8_span_X2_text : GoodIn wsX8_span (wsV RX8 118 RX2 yX2_text wsX2_text) := goodIn_app (goodIn_of _ (by decide +kernel)) ggX8_span_X2_text
set_option maxRecDepth 20000 in
theorem ggX8_span_X5_indexOf : GoodIn wsX8_span wsX5_indexOf := goodIn_r _ [49, 14, 50, 26, 27, 12, 28, 29, 30, 31, 32, 33, 80, 81] (by decide +kernel) (by decide +kernel)
set_option maxRecDepth 20000 in
theorem gX8_span_X5_indexOf : GoodIn wsX8_span (wsV RX8 134 RX5 yX5_indexOf wsX5_indexOf) := goodIn_app (goodIn_of _ (by decide +kernel)) ggX8_span_X5_indexOf
theorem dX8_span_0 : decode cX8_span 0 = .ok (.iload_n 1, 1) := by decide +kernel
theorem dX8_span_1 : decode cX8_span 1 = .ok (.aload_n 0, 1) := by decide +kernel
theorem dX8_span_2 : decode cX8_span 2 = .ok (.getfield 57, 3) := by decide +kernel
theorem dX8_span_5 : decode cX8_span 5 = .ok (.invokevirtual 195, 3) := by decide +kernel
theorem dX8_span_8 : decode cX8_span 8 = .ok (.invokestatic 80, 3) := by decide +kernel
theorem dX8_span_11 : decode cX8_span 11 = .ok (.aload_n 0, 1) := by decide +kernel
theorem dX8_span_12 : decode cX8_span 12 = .ok (.getfield 10, 3) := by decide +kernel
theorem dX8_span_15 : decode cX8_span 15 = .ok (.aload_n 0, 1) := by decide +kernel
theorem dX8_span_16 : decode cX8_span 16 = .ok (.getfield 57, 3) := by decide +kernel
theorem dX8_span_19 : decode cX8_span 19 = .ok (.iload_n 1, 1) := by decide +kernel
theorem dX8_span_20 : decode cX8_span 20 = .ok (.invokevirtual 197, 3) := by decide +kernel
theorem dX8_span_23 : decode cX8_span 23 = .ok (.aload_n 0, 1) := by decide +kernel
theorem dX8_span_24 : decode cX8_span 24 = .ok (.getfield 57, 3) := by decide +kernel
theorem dX8_span_27 : decode cX8_span 27 = .ok (.iload_n 1, 1) := by decide +kernel
theorem dX8_span_28 : decode cX8_span 28 = .ok (.invokevirtual 200, 3) := by decide +kernel
theorem dX8_span_31 : decode cX8_span 31 = .ok (.invokevirtual 203, 3) := by decide +kernel
theorem dX8_span_34 : decode cX8_span 34 = .ok (.istore_n 2, 1) := by decide +kernel
theorem dX8_span_35 : decode cX8_span 35 = .ok (.iload_n 2, 1) := by decide +kernel
theorem dX8_span_36 : decode cX8_span 36 = .ok (.iconst (-1), 1) := by decide +kernel
theorem dX8_span_37 : decode cX8_span 37 = .ok (.if_icmp .ne 5, 3) := by decide +kernel
theorem dX8_span_40 : decode cX8_span 40 = .ok (.iconst (-1), 1) := by decide +kernel
theorem dX8_span_41 : decode cX8_span 41 = .ok (.ireturn, 1) := by decide +kernel
theorem dX8_span_42 : decode cX8_span 42 = .ok (.aload_n 0, 1) := by decide +kernel
theorem dX8_span_43 : decode cX8_span 43 = .ok (.getfield 10, 3) := by decide +kernel
theorem dX8_span_46 : decode cX8_span 46 = .ok (.aload_n 0, 1) := by decide +kernel
theorem dX8_span_47 : decode cX8_span 47 = .ok (.getfield 57, 3) := by decide +kernel
theorem dX8_span_50 : decode cX8_span 50 = .ok (.iload_n 1, 1) := by decide +kernel
theorem dX8_span_51 : decode cX8_span 51 = .ok (.invokevirtual 197, 3) := by decide +kernel
theorem dX8_span_54 : decode cX8_span 54 = .ok (.aload_n 0, 1) := by decide +kernel
theorem dX8_span_55 : decode cX8_span 55 = .ok (.getfield 57, 3) := by decide +kernel
theorem dX8_span_58 : decode cX8_span 58 = .ok (.iload_n 1, 1) := by decide +kernel
theorem dX8_span_59 : decode cX8_span 59 = .ok (.invokevirtual 200, 3) := by decide +kernel
theorem dX8_span_62 : decode cX8_span 62 = .ok (.invokevirtual 206, 3) := by decide +kernel
theorem dX8_span_65 : decode cX8_span 65 = .ok (.istore_n 3, 1) := by decide +kernel
theorem dX8_span_66 : decode cX8_span 66 = .ok (.sipush 1000, 3) := by decide +kernel
theorem dX8_span_69 : decode cX8_span 69 = .ok (.aload_n 0, 1) := by decide +kernel
theorem dX8_span_70 : decode cX8_span 70 = .ok (.getfield 10, 3) := by decide +kernel
theorem dX8_span_73 : decode cX8_span 73 = .ok (.invokevirtual 118, 3) := by decide +kernel
theorem dX8_span_76 : decode cX8_span 76 = .ok (.iload_n 2, 1) := by decide +kernel
theorem dX8_span_77 : decode cX8_span 77 = .ok (.invokevirtual 134, 3) := by decide +kernel
theorem dX8_span_80 : decode cX8_span 80 = .ok (.imul, 1) := by decide +kernel
theorem dX8_span_81 : decode cX8_span 81 = .ok (.iload_n 3, 1) := by decide +kernel
theorem dX8_span_82 : decode cX8_span 82 = .ok (.iadd, 1) := by decide +kernel
theorem dX8_span_83 : decode cX8_span 83 = .ok (.ireturn, 1) := by decide +kernel
set_option maxRecDepth 20000 in
theorem ggX8_keep_X8_requireState : GoodIn wsX8_keep wsX8_requireState := goodIn_ca (goodIn_r _ [6, 7, 8] (by decide +kernel) (by decide +kernel)) (goodIn_sub (fun _ h => List.mem_cons_of_mem _ (List.mem_append_right _ h)) (by decide +kernel))
set_option maxRecDepth 20000 in
theorem gX8_keep_X8_requireState : GoodIn wsX8_keep (va_wsS RX8 93 yX8_requireState wsX8_requireState) := goodIn_app (goodIn_of _ (by decide +kernel)) ggX8_keep_X8_requireState
set_option maxRecDepth 20000 in
theorem ggX8_keep_X6_keepIn : GoodIn wsX8_keep wsX6_keepIn := goodIn_r _ [13, 14, 15, 16, 17, 12, 18, 19, 20, 21, 22, 23, 24, 25, 26, 27, 28, 29, 30, 31, 32, 33, 34, 35, 36, 37, 38, 39, 40, 41, 42, 43, 53, 54, 55, 56, 57, 58, 59, 60] (by decide +kernel) (by decide +kernel)
set_option maxRecDepth 20000 in
theorem gX8_keep_X6_keepIn : GoodIn wsX8_keep (wsV RX8 209 RX6 yX6_keepIn wsX6_keepIn) := goodIn_app (goodIn_of _ (by decide +kernel)) ggX8_keep_X6_keepIn
theorem dX8_keep_0 : decode cX8_keep 0 = .ok (.aload_n 0, 1) := by decide +kernel
theorem dX8_keep_1 : decode cX8_keep 1 = .ok (.getfield 61, 3) := by decide +kernel
theorem dX8_keep_4 : decode cX8_keep 4 = .ok (.bipush 20, 2) := by decide +kernel
theorem dX8_keep_6 : decode cX8_keep 6 = .ok (.if_icmp .ge 7, 3) := by decide +kernel
theorem dX8_keep_9 : decode cX8_keep 9 = .ok (.iconst 1, 1) := by decide +kernel
theorem dX8_keep_10 : decode cX8_keep 10 = .ok (.goto 4, 3) := by decide +kernel
theorem dX8_keep_13 : decode cX8_keep 13 = .ok (.iconst 0, 1) := by decide +kernel
theorem dX8_keep_14 : decode cX8_keep 14 = .ok (.invokestatic 93, 3) := by decide +kernel
theorem dX8_keep_17 : decode cX8_keep 17 = .ok (.aload_n 0, 1) := by decide +kernel
theorem dX8_keep_18 : decode cX8_keep 18 = .ok (.getfield 61, 3) := by decide +kernel
theorem dX8_keep_21 : decode cX8_keep 21 = .ok (.istore_n 1, 1) := by decide +kernel
theorem dX8_keep_22 : decode cX8_keep 22 = .ok (.aload_n 0, 1) := by decide +kernel
theorem dX8_keep_23 : decode cX8_keep 23 = .ok (.getfield 20, 3) := by decide +kernel
theorem dX8_keep_26 : decode cX8_keep 26 = .ok (.iload_n 1, 1) := by decide +kernel
theorem dX8_keep_27 : decode cX8_keep 27 = .ok (.invokevirtual 209, 3) := by decide +kernel
theorem dX8_keep_30 : decode cX8_keep 30 = .ok (.aload_n 0, 1) := by decide +kernel
theorem dX8_keep_31 : decode cX8_keep 31 = .ok (.dup, 1) := by decide +kernel
theorem dX8_keep_32 : decode cX8_keep 32 = .ok (.getfield 61, 3) := by decide +kernel
theorem dX8_keep_35 : decode cX8_keep 35 = .ok (.iconst 1, 1) := by decide +kernel
theorem dX8_keep_36 : decode cX8_keep 36 = .ok (.iadd, 1) := by decide +kernel
theorem dX8_keep_37 : decode cX8_keep 37 = .ok (.putfield 61, 3) := by decide +kernel
theorem dX8_keep_40 : decode cX8_keep 40 = .ok (.iload_n 1, 1) := by decide +kernel
theorem dX8_keep_41 : decode cX8_keep 41 = .ok (.ireturn, 1) := by decide +kernel
set_option maxRecDepth 20000 in
theorem ggX8_compare_X8_requireIndex : GoodIn wsX8_compare wsX8_requireIndex := goodIn_ca (goodIn_r _ [6, 7, 8] (by decide +kernel) (by decide +kernel)) (goodIn_sub (fun _ h => List.mem_cons_of_mem _ (List.mem_append_right _ h)) (by decide +kernel))
set_option maxRecDepth 20000 in
theorem gX8_compare_X8_requireIndex : GoodIn wsX8_compare (va_wsS RX8 80 yX8_requireIndex wsX8_requireIndex) := goodIn_app (goodIn_of _ (by decide +kernel)) ggX8_compare_X8_requireIndex
set_option maxRecDepth 20000 in
theorem ggX8_compare_X6_countKeptOnlyIn : GoodIn wsX8_compare wsX6_countKeptOnlyIn := goodIn_r _ [13, 14, 15, 16, 12, 17, 18, 19, 20, 21, 22, 23, 24, 25, 26, 27, 28, 29, 30, 31, 32, 33, 34, 35, 36, 37, 38, 48, 49, 50, 51, 52, 53, 54, 55] (by decide +kernel) (by decide +kernel)
set_option maxRecDepth 20000 in
theorem gX8_compare_X6_countKeptOnlyIn : GoodIn wsX8_compare (wsV RX8 212 RX6 yX6_countKeptOnlyIn wsX6_countKeptOnlyIn) := goodIn_app (goodIn_of _ (by decide +kernel)) ggX8_compare_X6_countKeptOnlyIn
theorem dX8_compare_0 : decode cX8_compare 0 = .ok (.iload_n 1, 1) := by decide +kernel
theorem dX8_compare_1 : decode cX8_compare 1 = .ok (.aload_n 0, 1) := by decide +kernel
theorem dX8_compare_2 : decode cX8_compare 2 = .ok (.getfield 61, 3) := by decide +kernel
theorem dX8_compare_5 : decode cX8_compare 5 = .ok (.invokestatic 80, 3) := by decide +kernel
theorem dX8_compare_8 : decode cX8_compare 8 = .ok (.iload_n 2, 1) := by decide +kernel
theorem dX8_compare_9 : decode cX8_compare 9 = .ok (.aload_n 0, 1) := by decide +kernel
theorem dX8_compare_10 : decode cX8_compare 10 = .ok (.getfield 61, 3) := by decide +kernel
theorem dX8_compare_13 : decode cX8_compare 13 = .ok (.invokestatic 80, 3) := by decide +kernel
theorem dX8_compare_16 : decode cX8_compare 16 = .ok (.sipush 1000, 3) := by decide +kernel
theorem dX8_compare_19 : decode cX8_compare 19 = .ok (.aload_n 0, 1) := by decide +kernel
theorem dX8_compare_20 : decode cX8_compare 20 = .ok (.getfield 20, 3) := by decide +kernel
theorem dX8_compare_23 : decode cX8_compare 23 = .ok (.iload_n 2, 1) := by decide +kernel
theorem dX8_compare_24 : decode cX8_compare 24 = .ok (.iload_n 1, 1) := by decide +kernel
theorem dX8_compare_25 : decode cX8_compare 25 = .ok (.invokevirtual 212, 3) := by decide +kernel
theorem dX8_compare_28 : decode cX8_compare 28 = .ok (.imul, 1) := by decide +kernel
theorem dX8_compare_29 : decode cX8_compare 29 = .ok (.aload_n 0, 1) := by decide +kernel
theorem dX8_compare_30 : decode cX8_compare 30 = .ok (.getfield 20, 3) := by decide +kernel
theorem dX8_compare_33 : decode cX8_compare 33 = .ok (.iload_n 1, 1) := by decide +kernel
theorem dX8_compare_34 : decode cX8_compare 34 = .ok (.iload_n 2, 1) := by decide +kernel
theorem dX8_compare_35 : decode cX8_compare 35 = .ok (.invokevirtual 212, 3) := by decide +kernel
theorem dX8_compare_38 : decode cX8_compare 38 = .ok (.iadd, 1) := by decide +kernel
theorem dX8_compare_39 : decode cX8_compare 39 = .ok (.ireturn, 1) := by decide +kernel
theorem dX8_writerAt_0 : decode cX8_writerAt 0 = .ok (.iload_n 1, 1) := by decide +kernel
theorem dX8_writerAt_1 : decode cX8_writerAt 1 = .ok (.ifCond .lt 21, 3) := by decide +kernel
theorem dX8_writerAt_4 : decode cX8_writerAt 4 = .ok (.iload_n 1, 1) := by decide +kernel
theorem dX8_writerAt_5 : decode cX8_writerAt 5 = .ok (.aload_n 0, 1) := by decide +kernel
theorem dX8_writerAt_6 : decode cX8_writerAt 6 = .ok (.getfield 25, 3) := by decide +kernel
theorem dX8_writerAt_9 : decode cX8_writerAt 9 = .ok (.arraylength, 1) := by decide +kernel
theorem dX8_writerAt_10 : decode cX8_writerAt 10 = .ok (.if_icmp .ge 12, 3) := by decide +kernel
theorem dX8_writerAt_13 : decode cX8_writerAt 13 = .ok (.aload_n 0, 1) := by decide +kernel
theorem dX8_writerAt_14 : decode cX8_writerAt 14 = .ok (.getfield 25, 3) := by decide +kernel
theorem dX8_writerAt_17 : decode cX8_writerAt 17 = .ok (.iload_n 1, 1) := by decide +kernel
theorem dX8_writerAt_18 : decode cX8_writerAt 18 = .ok (.aaload, 1) := by decide +kernel
theorem dX8_writerAt_19 : decode cX8_writerAt 19 = .ok (.goto 4, 3) := by decide +kernel
theorem dX8_writerAt_22 : decode cX8_writerAt 22 = .ok (.aconst_null, 1) := by decide +kernel
theorem dX8_writerAt_23 : decode cX8_writerAt 23 = .ok (.astore_n 2, 1) := by decide +kernel
theorem dX8_writerAt_24 : decode cX8_writerAt 24 = .ok (.aload_n 2, 1) := by decide +kernel
theorem dX8_writerAt_25 : decode cX8_writerAt 25 = .ok (.ifnonnull 13, 3) := by decide +kernel
theorem dX8_writerAt_28 : decode cX8_writerAt 28 = .ok (.new 215, 3) := by decide +kernel
theorem dX8_writerAt_31 : decode cX8_writerAt 31 = .ok (.dup, 1) := by decide +kernel
theorem dX8_writerAt_32 : decode cX8_writerAt 32 = .ok (.ldc 217, 2) := by decide +kernel
theorem dX8_writerAt_34 : decode cX8_writerAt 34 = .ok (.invokespecial 219, 3) := by decide +kernel
theorem dX8_writerAt_37 : decode cX8_writerAt 37 = .ok (.athrow, 1) := by decide +kernel
theorem dX8_writerAt_38 : decode cX8_writerAt 38 = .ok (.aload_n 2, 1) := by decide +kernel
theorem dX8_writerAt_39 : decode cX8_writerAt 39 = .ok (.areturn, 1) := by decide +kernel
set_option maxRecDepth 20000 in
theorem ggX8_requireWord_X6_count : GoodIn wsX8_requireWord wsX6_count := goodIn_r _ [6, 7, 8, 9, 10, 11, 12, 13, 29, 30, 31, 32, 33, 34, 35, 36] (by decide +kernel) (by decide +kernel)
set_option maxRecDepth 20000 in
theorem gX8_requireWord_X6_count : GoodIn wsX8_requireWord (wsV RX8 88 RX6 yX6_count wsX6_count) := goodIn_app (goodIn_of _ (by decide +kernel)) ggX8_requireWord_X6_count
set_option maxRecDepth 20000 in
theorem ggX8_requireWord_X8_requireIndex : GoodIn wsX8_requireWord wsX8_requireIndex := goodIn_ca (goodIn_r _ [17, 18, 19] (by decide +kernel) (by decide +kernel)) (goodIn_sub (fun _ h => List.mem_cons_of_mem _ (List.mem_append_right _ h)) (by decide +kernel))
set_option maxRecDepth 20000 in
theorem gX8_requireWord_X8_requireIndex : GoodIn wsX8_requireWord (va_wsS RX8 80 yX8_requireIndex wsX8_requireIndex) := goodIn_app (goodIn_of _ (by decide +kernel)) ggX8_requireWord_X8_requireIndex
theorem dX8_requireWord_0 : decode cX8_requireWord 0 = .ok (.iload_n 1, 1) := by decide +kernel
theorem dX8_requireWord_1 : decode cX8_requireWord 1 = .ok (.aload_n 0, 1) := by decide +kernel
theorem dX8_requireWord_2 : decode cX8_requireWord 2 = .ok (.getfield 20, 3) := by decide +kernel
theorem dX8_requireWord_5 : decode cX8_requireWord 5 = .ok (.invokevirtual 88, 3) := by decide +kernel
theorem dX8_requireWord_8 : decode cX8_requireWord 8 = .ok (.invokestatic 80, 3) := by decide +kernel
theorem dX8_requireWord_11 : decode cX8_requireWord 11 = .ok (.return_, 1) := by decide +kernel
set_option maxRecDepth 20000 in
theorem ggX8_requireTextPlace_X2_text : GoodIn wsX8_requireTextPlace wsX2_text := goodIn_r _ [6, 7, 29, 30, 31, 32] (by decide +kernel) (by decide +kernel)
set_option maxRecDepth 20000 in
theorem gX8_requireTextPlace_X2_text : GoodIn wsX8_requireTextPlace (wsV RX8 118 RX2 yX2_text wsX2_text) := goodIn_app (goodIn_of _ (by decide +kernel)) ggX8_requireTextPlace_X2_text
set_option maxRecDepth 20000 in
theorem ggX8_requireTextPlace_X5_size : GoodIn wsX8_requireTextPlace wsX5_size := goodIn_r _ [12, 13, 33, 34] (by decide +kernel) (by decide +kernel)
set_option maxRecDepth 20000 in
theorem gX8_requireTextPlace_X5_size : GoodIn wsX8_requireTextPlace (wsV RX8 76 RX5 yX5_size wsX5_size) := goodIn_app (goodIn_of _ (by decide +kernel)) ggX8_requireTextPlace_X5_size
set_option maxRecDepth 20000 in
theorem ggX8_requireTextPlace_X8_requireIndex : GoodIn wsX8_requireTextPlace wsX8_requireIndex := goodIn_ca (goodIn_r _ [17, 18, 19] (by decide +kernel) (by decide +kernel)) (goodIn_sub (fun _ h => List.mem_cons_of_mem _ (List.mem_append_right _ h)) (by decide +kernel))
set_option maxRecDepth 20000 in
theorem gX8_requireTextPlace_X8_requireIndex : GoodIn wsX8_requireTextPlace (va_wsS RX8 80 yX8_requireIndex wsX8_requireIndex) := goodIn_app (goodIn_of _ (by decide +kernel)) ggX8_requireTextPlace_X8_requireIndex
theorem dX8_requireTextPlace_0 : decode cX8_requireTextPlace 0 = .ok (.iload_n 1, 1) := by decide +kernel
theorem dX8_requireTextPlace_1 : decode cX8_requireTextPlace 1 = .ok (.aload_n 0, 1) := by decide +kernel
theorem dX8_requireTextPlace_2 : decode cX8_requireTextPlace 2 = .ok (.getfield 10, 3) := by decide +kernel
theorem dX8_requireTextPlace_5 : decode cX8_requireTextPlace 5 = .ok (.invokevirtual 118, 3) := by decide +kernel
theorem dX8_requireTextPlace_8 : decode cX8_requireTextPlace 8 = .ok (.invokevirtual 76, 3) := by decide +kernel
theorem dX8_requireTextPlace_11 : decode cX8_requireTextPlace 11 = .ok (.invokestatic 80, 3) := by decide +kernel
theorem dX8_requireTextPlace_14 : decode cX8_requireTextPlace 14 = .ok (.return_, 1) := by decide +kernel
set_option maxRecDepth 20000 in
theorem ggX8_requireSpan_X8_requireTextPlace : GoodIn wsX8_requireSpan wsX8_requireTextPlace := goodIn_ca (goodIn_r _ [5, 6, 7, 8, 9, 10, 11, 12, 13, 14, 15, 16, 17, 18, 19, 20, 4, 21, 22, 23, 29, 30, 31, 32, 33, 34, 35, 36, 37, 38, 39, 40, 41, 42, 43] (by decide +kernel) (by decide +kernel)) (goodIn_sub (fun _ h => List.mem_cons_of_mem _ (List.mem_append_left _ (List.mem_append_right _ h))) (by decide +kernel))
set_option maxRecDepth 20000 in
theorem gX8_requireSpan_X8_requireTextPlace : GoodIn wsX8_requireSpan (wsV RX8 121 RX8 yX8_requireTextPlace wsX8_requireTextPlace) := goodIn_app (goodIn_of _ (by decide +kernel)) ggX8_requireSpan_X8_requireTextPlace
set_option maxRecDepth 20000 in
theorem ggX8_requireSpan_X8_requireArgument : GoodIn wsX8_requireSpan wsX8_requireArgument := goodIn_ca (goodIn_r _ [26, 27, 28] (by decide +kernel) (by decide +kernel)) (goodIn_sub (fun _ h => List.mem_cons_of_mem _ (List.mem_append_right _ h)) (by decide +kernel))
set_option maxRecDepth 20000 in
theorem gX8_requireSpan_X8_requireArgument : GoodIn wsX8_requireSpan (va_wsS RX8 183 yX8_requireArgument wsX8_requireArgument) := goodIn_app (goodIn_of _ (by decide +kernel)) ggX8_requireSpan_X8_requireArgument
theorem dX8_requireSpan_0 : decode cX8_requireSpan 0 = .ok (.aload_n 0, 1) := by decide +kernel
theorem dX8_requireSpan_1 : decode cX8_requireSpan 1 = .ok (.iload_n 1, 1) := by decide +kernel
theorem dX8_requireSpan_2 : decode cX8_requireSpan 2 = .ok (.invokevirtual 121, 3) := by decide +kernel
theorem dX8_requireSpan_5 : decode cX8_requireSpan 5 = .ok (.aload_n 0, 1) := by decide +kernel
theorem dX8_requireSpan_6 : decode cX8_requireSpan 6 = .ok (.iload_n 2, 1) := by decide +kernel
theorem dX8_requireSpan_7 : decode cX8_requireSpan 7 = .ok (.invokevirtual 121, 3) := by decide +kernel
theorem dX8_requireSpan_10 : decode cX8_requireSpan 10 = .ok (.iload_n 1, 1) := by decide +kernel
theorem dX8_requireSpan_11 : decode cX8_requireSpan 11 = .ok (.iload_n 2, 1) := by decide +kernel
theorem dX8_requireSpan_12 : decode cX8_requireSpan 12 = .ok (.if_icmp .gt 7, 3) := by decide +kernel
theorem dX8_requireSpan_15 : decode cX8_requireSpan 15 = .ok (.iconst 1, 1) := by decide +kernel
theorem dX8_requireSpan_16 : decode cX8_requireSpan 16 = .ok (.goto 4, 3) := by decide +kernel
theorem dX8_requireSpan_19 : decode cX8_requireSpan 19 = .ok (.iconst 0, 1) := by decide +kernel
theorem dX8_requireSpan_20 : decode cX8_requireSpan 20 = .ok (.invokestatic 183, 3) := by decide +kernel
theorem dX8_requireSpan_23 : decode cX8_requireSpan 23 = .ok (.return_, 1) := by decide +kernel
theorem dX8_requireIndex_0 : decode cX8_requireIndex 0 = .ok (.iload_n 0, 1) := by decide +kernel
theorem dX8_requireIndex_1 : decode cX8_requireIndex 1 = .ok (.ifCond .lt 8, 3) := by decide +kernel
theorem dX8_requireIndex_4 : decode cX8_requireIndex 4 = .ok (.iload_n 0, 1) := by decide +kernel
theorem dX8_requireIndex_5 : decode cX8_requireIndex 5 = .ok (.iload_n 1, 1) := by decide +kernel
theorem dX8_requireIndex_6 : decode cX8_requireIndex 6 = .ok (.if_icmp .lt 13, 3) := by decide +kernel
theorem dX8_requireIndex_9 : decode cX8_requireIndex 9 = .ok (.new 215, 3) := by decide +kernel
theorem dX8_requireIndex_12 : decode cX8_requireIndex 12 = .ok (.dup, 1) := by decide +kernel
theorem dX8_requireIndex_13 : decode cX8_requireIndex 13 = .ok (.ldc 222, 2) := by decide +kernel
theorem dX8_requireIndex_15 : decode cX8_requireIndex 15 = .ok (.invokespecial 219, 3) := by decide +kernel
theorem dX8_requireIndex_18 : decode cX8_requireIndex 18 = .ok (.athrow, 1) := by decide +kernel
theorem dX8_requireIndex_19 : decode cX8_requireIndex 19 = .ok (.return_, 1) := by decide +kernel
set_option maxRecDepth 20000 in
theorem ggX8_requireRange_X8_requireArgument : GoodIn wsX8_requireRange wsX8_requireArgument := goodIn_ca (goodIn_r _ [4, 5, 6] (by decide +kernel) (by decide +kernel)) (goodIn_sub (fun _ h => List.mem_cons_of_mem _ (List.mem_append_right _ h)) (by decide +kernel))
set_option maxRecDepth 20000 in
theorem gX8_requireRange_X8_requireArgument : GoodIn wsX8_requireRange (va_wsS RX8 183 yX8_requireArgument wsX8_requireArgument) := goodIn_app (goodIn_of _ (by decide +kernel)) ggX8_requireRange_X8_requireArgument
theorem dX8_requireRange_0 : decode cX8_requireRange 0 = .ok (.iload_n 0, 1) := by decide +kernel
theorem dX8_requireRange_1 : decode cX8_requireRange 1 = .ok (.iload_n 1, 1) := by decide +kernel
theorem dX8_requireRange_2 : decode cX8_requireRange 2 = .ok (.if_icmp .lt 12, 3) := by decide +kernel
theorem dX8_requireRange_5 : decode cX8_requireRange 5 = .ok (.iload_n 0, 1) := by decide +kernel
theorem dX8_requireRange_6 : decode cX8_requireRange 6 = .ok (.iload_n 2, 1) := by decide +kernel
theorem dX8_requireRange_7 : decode cX8_requireRange 7 = .ok (.if_icmp .gt 7, 3) := by decide +kernel
theorem dX8_requireRange_10 : decode cX8_requireRange 10 = .ok (.iconst 1, 1) := by decide +kernel
theorem dX8_requireRange_11 : decode cX8_requireRange 11 = .ok (.goto 4, 3) := by decide +kernel
theorem dX8_requireRange_14 : decode cX8_requireRange 14 = .ok (.iconst 0, 1) := by decide +kernel
theorem dX8_requireRange_15 : decode cX8_requireRange 15 = .ok (.invokestatic 183, 3) := by decide +kernel
theorem dX8_requireRange_18 : decode cX8_requireRange 18 = .ok (.return_, 1) := by decide +kernel
theorem dX8_requireArgument_0 : decode cX8_requireArgument 0 = .ok (.iload_n 0, 1) := by decide +kernel
theorem dX8_requireArgument_1 : decode cX8_requireArgument 1 = .ok (.ifCond .ne 13, 3) := by decide +kernel
theorem dX8_requireArgument_4 : decode cX8_requireArgument 4 = .ok (.new 224, 3) := by decide +kernel
theorem dX8_requireArgument_7 : decode cX8_requireArgument 7 = .ok (.dup, 1) := by decide +kernel
theorem dX8_requireArgument_8 : decode cX8_requireArgument 8 = .ok (.ldc 226, 2) := by decide +kernel
theorem dX8_requireArgument_10 : decode cX8_requireArgument 10 = .ok (.invokespecial 228, 3) := by decide +kernel
theorem dX8_requireArgument_13 : decode cX8_requireArgument 13 = .ok (.athrow, 1) := by decide +kernel
theorem dX8_requireArgument_14 : decode cX8_requireArgument 14 = .ok (.return_, 1) := by decide +kernel
theorem dX8_requireState_0 : decode cX8_requireState 0 = .ok (.iload_n 0, 1) := by decide +kernel
theorem dX8_requireState_1 : decode cX8_requireState 1 = .ok (.ifCond .ne 13, 3) := by decide +kernel
theorem dX8_requireState_4 : decode cX8_requireState 4 = .ok (.new 229, 3) := by decide +kernel
theorem dX8_requireState_7 : decode cX8_requireState 7 = .ok (.dup, 1) := by decide +kernel
theorem dX8_requireState_8 : decode cX8_requireState 8 = .ok (.ldc 231, 2) := by decide +kernel
theorem dX8_requireState_10 : decode cX8_requireState 10 = .ok (.invokespecial 233, 3) := by decide +kernel
theorem dX8_requireState_13 : decode cX8_requireState 13 = .ok (.athrow, 1) := by decide +kernel
theorem dX8_requireState_14 : decode cX8_requireState 14 = .ok (.return_, 1) := by decide +kernel
set_option maxRecDepth 20000 in
theorem ggX8_printIssue_X3_roomOf : GoodIn wsX8_printIssue wsX3_roomOf := goodIn_r _ [7, 8, 9, 10, 11, 12, 13, 14, 15, 16, 17, 18, 19, 105, 106, 107, 108, 109] (by decide +kernel) (by decide +kernel)
set_option maxRecDepth 20000 in
theorem gX8_printIssue_X3_roomOf : GoodIn wsX8_printIssue (wsV RX8 234 RX3 yX3_roomOf wsX3_roomOf) := goodIn_app (goodIn_of _ (by decide +kernel)) ggX8_printIssue_X3_roomOf
set_option maxRecDepth 20000 in
theorem ggX8_printIssue_X4_waitingAt : GoodIn wsX8_printIssue wsX4_waitingAt := goodIn_r _ [24, 25, 26, 10, 11, 12, 13, 14, 15, 16, 17, 18, 19, 110, 111, 112, 113, 114, 115, 116, 117, 108, 109] (by decide +kernel) (by decide +kernel)
set_option maxRecDepth 20000 in
theorem gX8_printIssue_X4_waitingAt : GoodIn wsX8_printIssue (wsV RX8 186 RX4 yX4_waitingAt wsX4_waitingAt) := goodIn_app (goodIn_of _ (by decide +kernel)) ggX8_printIssue_X4_waitingAt
set_option maxRecDepth 20000 in
theorem ggX8_printIssue_X4_sizeOf : GoodIn wsX8_printIssue wsX4_sizeOf := goodIn_r _ [30, 31, 26, 10, 11, 12, 13, 14, 15, 16, 17, 18, 19, 110, 111, 112, 113, 114, 115, 116, 117, 108, 109] (by decide +kernel) (by decide +kernel)
set_option maxRecDepth 20000 in
theorem gX8_printIssue_X4_sizeOf : GoodIn wsX8_printIssue (wsV RX8 237 RX4 yX4_sizeOf wsX4_sizeOf) := goodIn_app (goodIn_of _ (by decide +kernel)) ggX8_printIssue_X4_sizeOf
set_option maxRecDepth 20000 in
theorem ggX8_printIssue_X8_printReview : GoodIn wsX8_printIssue wsX8_printReview := goodIn_r _ [36, 2, 37, 38, 39, 40, 41, 23, 42, 43, 25, 44, 45, 46, 12, 47, 14, 19, 48, 49, 50, 51, 15, 16, 17, 18, 52, 53, 54, 55, 56, 57, 58, 59, 60, 61, 62, 63, 64, 65, 66, 67, 68, 69, 70, 71, 10, 11, 13, 72, 73, 74, 75, 76, 77, 78, 79, 80, 81, 82, 83, 84, 85, 86, 87, 88, 89, 96, 97, 98, 99, 100, 101, 102, 103, 104, 110, 111, 112, 113, 114, 115, 116, 117, 108, 109, 118, 119, 120, 121, 122, 123] (by decide +kernel) (by decide +kernel)
set_option maxRecDepth 20000 in
theorem gX8_printIssue_X8_printReview : GoodIn wsX8_printIssue (wsV RX8 240 RX8 yX8_printReview wsX8_printReview) := goodIn_app (goodIn_of _ (by decide +kernel)) ggX8_printIssue_X8_printReview
set_option maxRecDepth 20000 in
theorem ggX8_printIssue_X3_setPrinted : GoodIn wsX8_printIssue wsX3_setPrinted := goodIn_r _ [93, 94, 95, 53, 54, 12, 55, 14, 15, 16, 17, 18, 19, 105, 106, 107, 108, 109] (by decide +kernel) (by decide +kernel)
set_option maxRecDepth 20000 in
theorem gX8_printIssue_X3_setPrinted : GoodIn wsX8_printIssue (wsV RX8 243 RX3 yX3_setPrinted wsX3_setPrinted) := goodIn_app (goodIn_of _ (by decide +kernel)) ggX8_printIssue_X3_setPrinted
theorem dX8_printIssue_0 : decode cX8_printIssue 0 = .ok (.aload_n 0, 1) := by decide +kernel
theorem dX8_printIssue_1 : decode cX8_printIssue 1 = .ok (.getfield 50, 3) := by decide +kernel
theorem dX8_printIssue_4 : decode cX8_printIssue 4 = .ok (.iload_n 1, 1) := by decide +kernel
theorem dX8_printIssue_5 : decode cX8_printIssue 5 = .ok (.invokevirtual 234, 3) := by decide +kernel
theorem dX8_printIssue_8 : decode cX8_printIssue 8 = .ok (.istore_n 2, 1) := by decide +kernel
theorem dX8_printIssue_9 : decode cX8_printIssue 9 = .ok (.iconst 0, 1) := by decide +kernel
theorem dX8_printIssue_10 : decode cX8_printIssue 10 = .ok (.istore_n 3, 1) := by decide +kernel
theorem dX8_printIssue_11 : decode cX8_printIssue 11 = .ok (.iconst 0, 1) := by decide +kernel
theorem dX8_printIssue_12 : decode cX8_printIssue 12 = .ok (.istore 4, 2) := by decide +kernel
theorem dX8_printIssue_14 : decode cX8_printIssue 14 = .ok (.iload 4, 2) := by decide +kernel
theorem dX8_printIssue_16 : decode cX8_printIssue 16 = .ok (.bipush 30, 2) := by decide +kernel
theorem dX8_printIssue_18 : decode cX8_printIssue 18 = .ok (.if_icmp .ge 62, 3) := by decide +kernel
theorem dX8_printIssue_21 : decode cX8_printIssue 21 = .ok (.aload_n 0, 1) := by decide +kernel
theorem dX8_printIssue_22 : decode cX8_printIssue 22 = .ok (.getfield 43, 3) := by decide +kernel
theorem dX8_printIssue_25 : decode cX8_printIssue 25 = .ok (.iconst 0, 1) := by decide +kernel
theorem dX8_printIssue_26 : decode cX8_printIssue 26 = .ok (.invokevirtual 186, 3) := by decide +kernel
theorem dX8_printIssue_29 : decode cX8_printIssue 29 = .ok (.istore 5, 2) := by decide +kernel
theorem dX8_printIssue_31 : decode cX8_printIssue 31 = .ok (.iload 5, 2) := by decide +kernel
theorem dX8_printIssue_33 : decode cX8_printIssue 33 = .ok (.iconst (-1), 1) := by decide +kernel
theorem dX8_printIssue_34 : decode cX8_printIssue 34 = .ok (.if_icmp .eq 46, 3) := by decide +kernel
theorem dX8_printIssue_37 : decode cX8_printIssue 37 = .ok (.aload_n 0, 1) := by decide +kernel
theorem dX8_printIssue_38 : decode cX8_printIssue 38 = .ok (.getfield 43, 3) := by decide +kernel
theorem dX8_printIssue_41 : decode cX8_printIssue 41 = .ok (.iload 5, 2) := by decide +kernel
theorem dX8_printIssue_43 : decode cX8_printIssue 43 = .ok (.invokevirtual 237, 3) := by decide +kernel
theorem dX8_printIssue_46 : decode cX8_printIssue 46 = .ok (.iload_n 2, 1) := by decide +kernel
theorem dX8_printIssue_47 : decode cX8_printIssue 47 = .ok (.if_icmp .le 6, 3) := by decide +kernel
theorem dX8_printIssue_50 : decode cX8_printIssue 50 = .ok (.goto 30, 3) := by decide +kernel
theorem dX8_printIssue_53 : decode cX8_printIssue 53 = .ok (.iload_n 2, 1) := by decide +kernel
theorem dX8_printIssue_54 : decode cX8_printIssue 54 = .ok (.aload_n 0, 1) := by decide +kernel
theorem dX8_printIssue_55 : decode cX8_printIssue 55 = .ok (.getfield 43, 3) := by decide +kernel
theorem dX8_printIssue_58 : decode cX8_printIssue 58 = .ok (.iload 5, 2) := by decide +kernel
theorem dX8_printIssue_60 : decode cX8_printIssue 60 = .ok (.invokevirtual 237, 3) := by decide +kernel
theorem dX8_printIssue_63 : decode cX8_printIssue 63 = .ok (.isub, 1) := by decide +kernel
theorem dX8_printIssue_64 : decode cX8_printIssue 64 = .ok (.istore_n 2, 1) := by decide +kernel
theorem dX8_printIssue_65 : decode cX8_printIssue 65 = .ok (.iload_n 3, 1) := by decide +kernel
theorem dX8_printIssue_66 : decode cX8_printIssue 66 = .ok (.aload_n 0, 1) := by decide +kernel
theorem dX8_printIssue_67 : decode cX8_printIssue 67 = .ok (.iload 5, 2) := by decide +kernel
theorem dX8_printIssue_69 : decode cX8_printIssue 69 = .ok (.invokevirtual 240, 3) := by decide +kernel
theorem dX8_printIssue_72 : decode cX8_printIssue 72 = .ok (.iadd, 1) := by decide +kernel
theorem dX8_printIssue_73 : decode cX8_printIssue 73 = .ok (.istore_n 3, 1) := by decide +kernel
theorem dX8_printIssue_74 : decode cX8_printIssue 74 = .ok (.iinc 4 1, 3) := by decide +kernel
theorem dX8_printIssue_77 : decode cX8_printIssue 77 = .ok (.goto (-63), 3) := by decide +kernel
theorem dX8_printIssue_80 : decode cX8_printIssue 80 = .ok (.aload_n 0, 1) := by decide +kernel
theorem dX8_printIssue_81 : decode cX8_printIssue 81 = .ok (.getfield 50, 3) := by decide +kernel
theorem dX8_printIssue_84 : decode cX8_printIssue 84 = .ok (.iload_n 1, 1) := by decide +kernel
theorem dX8_printIssue_85 : decode cX8_printIssue 85 = .ok (.iload_n 3, 1) := by decide +kernel
theorem dX8_printIssue_86 : decode cX8_printIssue 86 = .ok (.invokevirtual 243, 3) := by decide +kernel
theorem dX8_printIssue_89 : decode cX8_printIssue 89 = .ok (.iload_n 3, 1) := by decide +kernel
theorem dX8_printIssue_90 : decode cX8_printIssue 90 = .ok (.ireturn, 1) := by decide +kernel
set_option maxRecDepth 20000 in
theorem ggX8_printReview_X4_printFirst : GoodIn wsX8_printReview wsX4_printFirst := goodIn_r _ [8, 9, 10, 11, 12, 13, 14, 15, 16, 17, 18, 19, 20, 21, 22, 23, 24, 25, 26, 27, 28, 29, 76, 77, 78, 79, 80, 81, 82, 83, 84, 85] (by decide +kernel) (by decide +kernel)
set_option maxRecDepth 20000 in
theorem gX8_printReview_X4_printFirst : GoodIn wsX8_printReview (wsV RX8 246 RX4 yX4_printFirst wsX4_printFirst) := goodIn_app (goodIn_of _ (by decide +kernel)) ggX8_printReview_X4_printFirst
set_option maxRecDepth 20000 in
theorem ggX8_printReview_X6_count : GoodIn wsX8_printReview wsX6_count := goodIn_r _ [34, 35, 36, 37, 38, 14, 39, 17, 86, 87, 88, 89, 90, 91, 84, 85] (by decide +kernel) (by decide +kernel)
set_option maxRecDepth 20000 in
theorem gX8_printReview_X6_count : GoodIn wsX8_printReview (wsV RX8 88 RX6 yX6_count wsX6_count) := goodIn_app (goodIn_of _ (by decide +kernel)) ggX8_printReview_X6_count
set_option maxRecDepth 20000 in
theorem ggX8_printReview_X6_reviewOf : GoodIn wsX8_printReview wsX6_reviewOf := goodIn_r _ [43, 44, 45, 46, 47, 14, 48, 16, 22, 23, 24, 25, 17, 86, 87, 88, 89, 90, 91, 84, 85] (by decide +kernel) (by decide +kernel)
set_option maxRecDepth 20000 in
theorem gX8_printReview_X6_reviewOf : GoodIn wsX8_printReview (wsV RX8 172 RX6 yX6_reviewOf wsX6_reviewOf) := goodIn_app (goodIn_of _ (by decide +kernel)) ggX8_printReview_X6_reviewOf
set_option maxRecDepth 20000 in
theorem ggX8_printReview_X6_writerOf : GoodIn wsX8_printReview wsX6_writerOf := goodIn_r _ [52, 53, 45, 46, 47, 14, 48, 16, 22, 23, 24, 25, 17, 86, 87, 88, 89, 90, 91, 84, 85] (by decide +kernel) (by decide +kernel)
set_option maxRecDepth 20000 in
theorem gX8_printReview_X6_writerOf : GoodIn wsX8_printReview (wsV RX8 128 RX6 yX6_writerOf wsX6_writerOf) := goodIn_app (goodIn_of _ (by decide +kernel)) ggX8_printReview_X6_writerOf
set_option maxRecDepth 20000 in
theorem ggX8_printReview_X5_raise : GoodIn wsX8_printReview wsX5_raise := goodIn_r _ [57, 58, 46, 47, 14, 48, 16, 22, 23, 24, 25, 17, 59, 27, 28, 29, 84, 85] (by decide +kernel) (by decide +kernel)
set_option maxRecDepth 20000 in
theorem gX8_printReview_X5_raise : GoodIn wsX8_printReview (wsV RX8 249 RX5 yX5_raise wsX5_raise) := goodIn_app (goodIn_of _ (by decide +kernel)) ggX8_printReview_X5_raise
set_option maxRecDepth 20000 in
theorem ggX8_printReview_X6_unfreeze : GoodIn wsX8_printReview wsX6_unfreeze := goodIn_r _ [63, 44, 64, 31, 32, 33, 34, 35, 36, 37, 38, 14, 39, 17, 65, 41, 42, 43, 45, 46, 47, 48, 16, 22, 23, 24, 25, 66, 27, 28, 29, 86, 87, 88, 89, 90, 91, 84, 85] (by decide +kernel) (by decide +kernel)
set_option maxRecDepth 20000 in
theorem gX8_printReview_X6_unfreeze : GoodIn wsX8_printReview (wsV RX8 169 RX6 yX6_unfreeze wsX6_unfreeze) := goodIn_app (goodIn_of _ (by decide +kernel)) ggX8_printReview_X6_unfreeze
theorem dX8_printReview_0 : decode cX8_printReview 0 = .ok (.aload_n 0, 1) := by decide +kernel
theorem dX8_printReview_1 : decode cX8_printReview 1 = .ok (.getfield 43, 3) := by decide +kernel
theorem dX8_printReview_4 : decode cX8_printReview 4 = .ok (.invokevirtual 246, 3) := by decide +kernel
theorem dX8_printReview_7 : decode cX8_printReview 7 = .ok (.iconst 0, 1) := by decide +kernel
theorem dX8_printReview_8 : decode cX8_printReview 8 = .ok (.istore_n 2, 1) := by decide +kernel
theorem dX8_printReview_9 : decode cX8_printReview 9 = .ok (.iload_n 2, 1) := by decide +kernel
theorem dX8_printReview_10 : decode cX8_printReview 10 = .ok (.aload_n 0, 1) := by decide +kernel
theorem dX8_printReview_11 : decode cX8_printReview 11 = .ok (.getfield 20, 3) := by decide +kernel
theorem dX8_printReview_14 : decode cX8_printReview 14 = .ok (.invokevirtual 88, 3) := by decide +kernel
theorem dX8_printReview_17 : decode cX8_printReview 17 = .ok (.if_icmp .ge 37, 3) := by decide +kernel
theorem dX8_printReview_20 : decode cX8_printReview 20 = .ok (.aload_n 0, 1) := by decide +kernel
theorem dX8_printReview_21 : decode cX8_printReview 21 = .ok (.getfield 20, 3) := by decide +kernel
theorem dX8_printReview_24 : decode cX8_printReview 24 = .ok (.iload_n 2, 1) := by decide +kernel
theorem dX8_printReview_25 : decode cX8_printReview 25 = .ok (.invokevirtual 172, 3) := by decide +kernel
theorem dX8_printReview_28 : decode cX8_printReview 28 = .ok (.iload_n 1, 1) := by decide +kernel
theorem dX8_printReview_29 : decode cX8_printReview 29 = .ok (.if_icmp .ne 19, 3) := by decide +kernel
theorem dX8_printReview_32 : decode cX8_printReview 32 = .ok (.aload_n 0, 1) := by decide +kernel
theorem dX8_printReview_33 : decode cX8_printReview 33 = .ok (.getfield 36, 3) := by decide +kernel
theorem dX8_printReview_36 : decode cX8_printReview 36 = .ok (.aload_n 0, 1) := by decide +kernel
theorem dX8_printReview_37 : decode cX8_printReview 37 = .ok (.getfield 20, 3) := by decide +kernel
theorem dX8_printReview_40 : decode cX8_printReview 40 = .ok (.iload_n 2, 1) := by decide +kernel
theorem dX8_printReview_41 : decode cX8_printReview 41 = .ok (.invokevirtual 128, 3) := by decide +kernel
theorem dX8_printReview_44 : decode cX8_printReview 44 = .ok (.iconst 5, 1) := by decide +kernel
theorem dX8_printReview_45 : decode cX8_printReview 45 = .ok (.invokevirtual 249, 3) := by decide +kernel
theorem dX8_printReview_48 : decode cX8_printReview 48 = .ok (.iinc 2 1, 3) := by decide +kernel
theorem dX8_printReview_51 : decode cX8_printReview 51 = .ok (.goto (-42), 3) := by decide +kernel
theorem dX8_printReview_54 : decode cX8_printReview 54 = .ok (.aload_n 0, 1) := by decide +kernel
theorem dX8_printReview_55 : decode cX8_printReview 55 = .ok (.getfield 20, 3) := by decide +kernel
theorem dX8_printReview_58 : decode cX8_printReview 58 = .ok (.iload_n 1, 1) := by decide +kernel
theorem dX8_printReview_59 : decode cX8_printReview 59 = .ok (.invokevirtual 169, 3) := by decide +kernel
theorem dX8_printReview_62 : decode cX8_printReview 62 = .ok (.ireturn, 1) := by decide +kernel
