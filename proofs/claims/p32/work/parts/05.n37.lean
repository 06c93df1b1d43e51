set_option maxRecDepth 20000 in
theorem ggX3_init_X5_init : GoodIn wsX3_init wsX5_init := goodIn_r _ [12, 13, 2, 3, 14, 15, 16, 17, 18] (by decide +kernel) (by decide +kernel)
set_option maxRecDepth 20000 in
theorem gX3_init_X5_init : GoodIn wsX3_init (wsX5_init) := ggX3_init_X5_init
theorem dX3_init_0 : decode cX3_init 0 = .ok (.aload_n 0, 1) := by decide +kernel
theorem dX3_init_1 : decode cX3_init 1 = .ok (.invokespecial 3, 3) := by decide +kernel
theorem dX3_init_4 : decode cX3_init 4 = .ok (.aload_n 0, 1) := by decide +kernel
theorem dX3_init_5 : decode cX3_init 5 = .ok (.new 9, 3) := by decide +kernel
theorem dX3_init_8 : decode cX3_init 8 = .ok (.dup, 1) := by decide +kernel
theorem dX3_init_9 : decode cX3_init 9 = .ok (.bipush 12, 2) := by decide +kernel
theorem dX3_init_11 : decode cX3_init 11 = .ok (.invokespecial 11, 3) := by decide +kernel
theorem dX3_init_14 : decode cX3_init 14 = .ok (.putfield 14, 3) := by decide +kernel
theorem dX3_init_17 : decode cX3_init 17 = .ok (.aload_n 0, 1) := by decide +kernel
theorem dX3_init_18 : decode cX3_init 18 = .ok (.new 9, 3) := by decide +kernel
theorem dX3_init_21 : decode cX3_init 21 = .ok (.dup, 1) := by decide +kernel
theorem dX3_init_22 : decode cX3_init 22 = .ok (.bipush 12, 2) := by decide +kernel
theorem dX3_init_24 : decode cX3_init 24 = .ok (.invokespecial 11, 3) := by decide +kernel
theorem dX3_init_27 : decode cX3_init 27 = .ok (.putfield 20, 3) := by decide +kernel
theorem dX3_init_30 : decode cX3_init 30 = .ok (.aload_n 0, 1) := by decide +kernel
theorem dX3_init_31 : decode cX3_init 31 = .ok (.new 9, 3) := by decide +kernel
theorem dX3_init_34 : decode cX3_init 34 = .ok (.dup, 1) := by decide +kernel
theorem dX3_init_35 : decode cX3_init 35 = .ok (.bipush 12, 2) := by decide +kernel
theorem dX3_init_37 : decode cX3_init 37 = .ok (.invokespecial 11, 3) := by decide +kernel
theorem dX3_init_40 : decode cX3_init 40 = .ok (.putfield 23, 3) := by decide +kernel
theorem dX3_init_43 : decode cX3_init 43 = .ok (.return_, 1) := by decide +kernel
set_option maxRecDepth 20000 in
theorem ggX3_count_X5_size : GoodIn wsX3_count wsX5_size := goodIn_r _ [6, 7, 11, 12] (by decide +kernel) (by decide +kernel)
set_option maxRecDepth 20000 in
theorem gX3_count_X5_size : GoodIn wsX3_count (wsV RX3 26 RX5 yX5_size wsX5_size) := goodIn_app (goodIn_of _ (by decide +kernel)) ggX3_count_X5_size
theorem dX3_count_0 : decode cX3_count 0 = .ok (.aload_n 0, 1) := by decide +kernel
theorem dX3_count_1 : decode cX3_count 1 = .ok (.getfield 14, 3) := by decide +kernel
theorem dX3_count_4 : decode cX3_count 4 = .ok (.invokevirtual 26, 3) := by decide +kernel
theorem dX3_count_7 : decode cX3_count 7 = .ok (.ireturn, 1) := by decide +kernel
set_option maxRecDepth 20000 in
theorem ggX3_add_X5_add : GoodIn wsX3_add wsX5_add := goodIn_r _ [8, 9, 10, 11, 12, 7, 13, 14, 15, 16, 17, 18, 31, 32] (by decide +kernel) (by decide +kernel)
set_option maxRecDepth 20000 in
theorem gX3_add_X5_add : GoodIn wsX3_add (wsV RX3 30 RX5 yX5_add wsX5_add) := goodIn_app (goodIn_of _ (by decide +kernel)) ggX3_add_X5_add
set_option maxRecDepth 20000 in
theorem ggX3_add_X3_count : GoodIn wsX3_add wsX3_count := goodIn_r _ [23, 1, 24, 25, 26, 7, 27, 9, 28, 29, 30, 31, 32] (by decide +kernel) (by decide +kernel)
set_option maxRecDepth 20000 in
theorem gX3_add_X3_count : GoodIn wsX3_add (wsV RX3 33 RX3 yX3_count wsX3_count) := goodIn_app (goodIn_of _ (by decide +kernel)) ggX3_add_X3_count
theorem dX3_add_0 : decode cX3_add 0 = .ok (.aload_n 0, 1) := by decide +kernel
theorem dX3_add_1 : decode cX3_add 1 = .ok (.getfield 14, 3) := by decide +kernel
theorem dX3_add_4 : decode cX3_add 4 = .ok (.iload_n 1, 1) := by decide +kernel
theorem dX3_add_5 : decode cX3_add 5 = .ok (.invokevirtual 30, 3) := by decide +kernel
theorem dX3_add_8 : decode cX3_add 8 = .ok (.aload_n 0, 1) := by decide +kernel
theorem dX3_add_9 : decode cX3_add 9 = .ok (.getfield 20, 3) := by decide +kernel
theorem dX3_add_12 : decode cX3_add 12 = .ok (.iload_n 2, 1) := by decide +kernel
theorem dX3_add_13 : decode cX3_add 13 = .ok (.invokevirtual 30, 3) := by decide +kernel
theorem dX3_add_16 : decode cX3_add 16 = .ok (.aload_n 0, 1) := by decide +kernel
theorem dX3_add_17 : decode cX3_add 17 = .ok (.getfield 23, 3) := by decide +kernel
theorem dX3_add_20 : decode cX3_add 20 = .ok (.iconst (-1), 1) := by decide +kernel
theorem dX3_add_21 : decode cX3_add 21 = .ok (.invokevirtual 30, 3) := by decide +kernel
theorem dX3_add_24 : decode cX3_add 24 = .ok (.aload_n 0, 1) := by decide +kernel
theorem dX3_add_25 : decode cX3_add 25 = .ok (.invokevirtual 33, 3) := by decide +kernel
theorem dX3_add_28 : decode cX3_add 28 = .ok (.iconst 1, 1) := by decide +kernel
theorem dX3_add_29 : decode cX3_add 29 = .ok (.isub, 1) := by decide +kernel
theorem dX3_add_30 : decode cX3_add 30 = .ok (.ireturn, 1) := by decide +kernel
set_option maxRecDepth 20000 in
theorem ggX3_ofDay_X5_indexOf : GoodIn wsX3_ofDay wsX5_indexOf := goodIn_r _ [6, 7, 8, 9, 10, 5, 11, 12, 13, 14, 15, 16, 20, 21] (by decide +kernel) (by decide +kernel)
set_option maxRecDepth 20000 in
theorem gX3_ofDay_X5_indexOf : GoodIn wsX3_ofDay (wsV RX3 36 RX5 yX5_indexOf wsX5_indexOf) := goodIn_app (goodIn_of _ (by decide +kernel)) ggX3_ofDay_X5_indexOf
theorem dX3_ofDay_0 : decode cX3_ofDay 0 = .ok (.aload_n 0, 1) := by decide +kernel
theorem dX3_ofDay_1 : decode cX3_ofDay 1 = .ok (.getfield 14, 3) := by decide +kernel
theorem dX3_ofDay_4 : decode cX3_ofDay 4 = .ok (.iload_n 1, 1) := by decide +kernel
theorem dX3_ofDay_5 : decode cX3_ofDay 5 = .ok (.invokevirtual 36, 3) := by decide +kernel
theorem dX3_ofDay_8 : decode cX3_ofDay 8 = .ok (.ireturn, 1) := by decide +kernel
set_option maxRecDepth 20000 in
theorem ggX3_roomOf_X5_at : GoodIn wsX3_roomOf wsX5_at := goodIn_r _ [6, 7, 8, 9, 10, 5, 11, 12, 16, 17] (by decide +kernel) (by decide +kernel)
set_option maxRecDepth 20000 in
theorem gX3_roomOf_X5_at : GoodIn wsX3_roomOf (wsV RX3 40 RX5 yX5_at wsX5_at) := goodIn_app (goodIn_of _ (by decide +kernel)) ggX3_roomOf_X5_at
theorem dX3_roomOf_0 : decode cX3_roomOf 0 = .ok (.aload_n 0, 1) := by decide +kernel
theorem dX3_roomOf_1 : decode cX3_roomOf 1 = .ok (.getfield 20, 3) := by decide +kernel
theorem dX3_roomOf_4 : decode cX3_roomOf 4 = .ok (.iload_n 1, 1) := by decide +kernel
theorem dX3_roomOf_5 : decode cX3_roomOf 5 = .ok (.invokevirtual 40, 3) := by decide +kernel
theorem dX3_roomOf_8 : decode cX3_roomOf 8 = .ok (.ireturn, 1) := by decide +kernel
set_option maxRecDepth 20000 in
theorem ggX3_setPrinted_X5_set : GoodIn wsX3_setPrinted wsX5_set := goodIn_r _ [6, 7, 8, 9, 10, 5, 11, 12, 16, 17] (by decide +kernel) (by decide +kernel)
set_option maxRecDepth 20000 in
theorem gX3_setPrinted_X5_set : GoodIn wsX3_setPrinted (wsV RX3 43 RX5 yX5_set wsX5_set) := goodIn_app (goodIn_of _ (by decide +kernel)) ggX3_setPrinted_X5_set
theorem dX3_setPrinted_0 : decode cX3_setPrinted 0 = .ok (.aload_n 0, 1) := by decide +kernel
theorem dX3_setPrinted_1 : decode cX3_setPrinted 1 = .ok (.getfield 23, 3) := by decide +kernel
theorem dX3_setPrinted_4 : decode cX3_setPrinted 4 = .ok (.iload_n 1, 1) := by decide +kernel
theorem dX3_setPrinted_5 : decode cX3_setPrinted 5 = .ok (.iload_n 2, 1) := by decide +kernel
theorem dX3_setPrinted_6 : decode cX3_setPrinted 6 = .ok (.invokevirtual 43, 3) := by decide +kernel
theorem dX3_setPrinted_9 : decode cX3_setPrinted 9 = .ok (.return_, 1) := by decide +kernel
set_option maxRecDepth 20000 in
theorem ggX4_init_X5_init : GoodIn wsX4_init wsX5_init := goodIn_r _ [17, 18, 2, 3, 19, 20, 21, 39, 40] (by decide +kernel) (by decide +kernel)
set_option maxRecDepth 20000 in
theorem gX4_init_X5_init : GoodIn wsX4_init (wsX5_init) := ggX4_init_X5_init
set_option maxRecDepth 20000 in
theorem ggX4_init_X5_filled : GoodIn wsX4_init wsX5_filled := goodIn_r _ [24, 25, 5, 6, 26, 16, 17, 18, 2, 3, 19, 20, 21, 27, 28, 29, 30, 31, 32, 33, 34, 35, 36, 37, 38, 39, 40] (by decide +kernel) (by decide +kernel)
set_option maxRecDepth 20000 in
theorem gX4_init_X5_filled : GoodIn wsX4_init (va_wsS RX4 35 yX5_filled wsX5_filled) := goodIn_app (goodIn_of _ (by decide +kernel)) ggX4_init_X5_filled
theorem dX4_init_0 : decode cX4_init 0 = .ok (.aload_n 0, 1) := by decide +kernel
theorem dX4_init_1 : decode cX4_init 1 = .ok (.invokespecial 3, 3) := by decide +kernel
theorem dX4_init_4 : decode cX4_init 4 = .ok (.aload_n 0, 1) := by decide +kernel
theorem dX4_init_5 : decode cX4_init 5 = .ok (.new 9, 3) := by decide +kernel
theorem dX4_init_8 : decode cX4_init 8 = .ok (.dup, 1) := by decide +kernel
theorem dX4_init_9 : decode cX4_init 9 = .ok (.bipush 30, 2) := by decide +kernel
theorem dX4_init_11 : decode cX4_init 11 = .ok (.invokespecial 11, 3) := by decide +kernel
theorem dX4_init_14 : decode cX4_init 14 = .ok (.putfield 14, 3) := by decide +kernel
theorem dX4_init_17 : decode cX4_init 17 = .ok (.aload_n 0, 1) := by decide +kernel
theorem dX4_init_18 : decode cX4_init 18 = .ok (.new 9, 3) := by decide +kernel
theorem dX4_init_21 : decode cX4_init 21 = .ok (.dup, 1) := by decide +kernel
theorem dX4_init_22 : decode cX4_init 22 = .ok (.bipush 30, 2) := by decide +kernel
theorem dX4_init_24 : decode cX4_init 24 = .ok (.invokespecial 11, 3) := by decide +kernel
theorem dX4_init_27 : decode cX4_init 27 = .ok (.putfield 20, 3) := by decide +kernel
theorem dX4_init_30 : decode cX4_init 30 = .ok (.aload_n 0, 1) := by decide +kernel
theorem dX4_init_31 : decode cX4_init 31 = .ok (.new 9, 3) := by decide +kernel
theorem dX4_init_34 : decode cX4_init 34 = .ok (.dup, 1) := by decide +kernel
theorem dX4_init_35 : decode cX4_init 35 = .ok (.bipush 30, 2) := by decide +kernel
theorem dX4_init_37 : decode cX4_init 37 = .ok (.invokespecial 11, 3) := by decide +kernel
theorem dX4_init_40 : decode cX4_init 40 = .ok (.putfield 23, 3) := by decide +kernel
theorem dX4_init_43 : decode cX4_init 43 = .ok (.aload_n 0, 1) := by decide +kernel
theorem dX4_init_44 : decode cX4_init 44 = .ok (.new 9, 3) := by decide +kernel
theorem dX4_init_47 : decode cX4_init 47 = .ok (.dup, 1) := by decide +kernel
theorem dX4_init_48 : decode cX4_init 48 = .ok (.bipush 30, 2) := by decide +kernel
theorem dX4_init_50 : decode cX4_init 50 = .ok (.invokespecial 11, 3) := by decide +kernel
theorem dX4_init_53 : decode cX4_init 53 = .ok (.putfield 26, 3) := by decide +kernel
theorem dX4_init_56 : decode cX4_init 56 = .ok (.aload_n 0, 1) := by decide +kernel
theorem dX4_init_57 : decode cX4_init 57 = .ok (.new 9, 3) := by decide +kernel
theorem dX4_init_60 : decode cX4_init 60 = .ok (.dup, 1) := by decide +kernel
theorem dX4_init_61 : decode cX4_init 61 = .ok (.bipush 30, 2) := by decide +kernel
theorem dX4_init_63 : decode cX4_init 63 = .ok (.invokespecial 11, 3) := by decide +kernel
theorem dX4_init_66 : decode cX4_init 66 = .ok (.putfield 29, 3) := by decide +kernel
theorem dX4_init_69 : decode cX4_init 69 = .ok (.aload_n 0, 1) := by decide +kernel
theorem dX4_init_70 : decode cX4_init 70 = .ok (.new 9, 3) := by decide +kernel
theorem dX4_init_73 : decode cX4_init 73 = .ok (.dup, 1) := by decide +kernel
theorem dX4_init_74 : decode cX4_init 74 = .ok (.bipush 30, 2) := by decide +kernel
theorem dX4_init_76 : decode cX4_init 76 = .ok (.invokespecial 11, 3) := by decide +kernel
theorem dX4_init_79 : decode cX4_init 79 = .ok (.putfield 32, 3) := by decide +kernel
theorem dX4_init_82 : decode cX4_init 82 = .ok (.aload_n 0, 1) := by decide +kernel
theorem dX4_init_83 : decode cX4_init 83 = .ok (.iconst 4, 1) := by decide +kernel
theorem dX4_init_84 : decode cX4_init 84 = .ok (.iconst 1, 1) := by decide +kernel
theorem dX4_init_85 : decode cX4_init 85 = .ok (.invokestatic 35, 3) := by decide +kernel
theorem dX4_init_88 : decode cX4_init 88 = .ok (.putfield 39, 3) := by decide +kernel
theorem dX4_init_91 : decode cX4_init 91 = .ok (.aload_n 0, 1) := by decide +kernel
theorem dX4_init_92 : decode cX4_init 92 = .ok (.iconst 4, 1) := by decide +kernel
theorem dX4_init_93 : decode cX4_init 93 = .ok (.iconst 0, 1) := by decide +kernel
theorem dX4_init_94 : decode cX4_init 94 = .ok (.invokestatic 35, 3) := by decide +kernel
theorem dX4_init_97 : decode cX4_init 97 = .ok (.putfield 42, 3) := by decide +kernel
theorem dX4_init_100 : decode cX4_init 100 = .ok (.return_, 1) := by decide +kernel
set_option maxRecDepth 20000 in
theorem ggX4_count_X5_size : GoodIn wsX4_count wsX5_size := goodIn_r _ [6, 7, 16, 17] (by decide +kernel) (by decide +kernel)
set_option maxRecDepth 20000 in
theorem gX4_count_X5_size : GoodIn wsX4_count (wsV RX4 45 RX5 yX5_size wsX5_size) := goodIn_app (goodIn_of _ (by decide +kernel)) ggX4_count_X5_size
theorem dX4_count_0 : decode cX4_count 0 = .ok (.aload_n 0, 1) := by decide +kernel
theorem dX4_count_1 : decode cX4_count 1 = .ok (.getfield 14, 3) := by decide +kernel
theorem dX4_count_4 : decode cX4_count 4 = .ok (.invokevirtual 45, 3) := by decide +kernel
theorem dX4_count_7 : decode cX4_count 7 = .ok (.ireturn, 1) := by decide +kernel
set_option maxRecDepth 20000 in
theorem ggX4_changeRate_X5_at : GoodIn wsX4_changeRate wsX5_at := goodIn_r _ [6, 7, 8, 9, 10, 5, 11, 12, 25, 26] (by decide +kernel) (by decide +kernel)
set_option maxRecDepth 20000 in
theorem gX4_changeRate_X5_at : GoodIn wsX4_changeRate (wsV RX4 49 RX5 yX5_at wsX5_at) := goodIn_app (goodIn_of _ (by decide +kernel)) ggX4_changeRate_X5_at
set_option maxRecDepth 20000 in
theorem ggX4_changeRate_X5_set : GoodIn wsX4_changeRate wsX5_set := goodIn_r _ [16, 7, 8, 9, 10, 5, 11, 12, 25, 26] (by decide +kernel) (by decide +kernel)
set_option maxRecDepth 20000 in
theorem gX4_changeRate_X5_set : GoodIn wsX4_changeRate (wsV RX4 53 RX5 yX5_set wsX5_set) := goodIn_app (goodIn_of _ (by decide +kernel)) ggX4_changeRate_X5_set
theorem dX4_changeRate_0 : decode cX4_changeRate 0 = .ok (.aload_n 0, 1) := by decide +kernel
theorem dX4_changeRate_1 : decode cX4_changeRate 1 = .ok (.getfield 39, 3) := by decide +kernel
theorem dX4_changeRate_4 : decode cX4_changeRate 4 = .ok (.iload_n 1, 1) := by decide +kernel
theorem dX4_changeRate_5 : decode cX4_changeRate 5 = .ok (.invokevirtual 49, 3) := by decide +kernel
theorem dX4_changeRate_8 : decode cX4_changeRate 8 = .ok (.istore_n 3, 1) := by decide +kernel
theorem dX4_changeRate_9 : decode cX4_changeRate 9 = .ok (.aload_n 0, 1) := by decide +kernel
theorem dX4_changeRate_10 : decode cX4_changeRate 10 = .ok (.getfield 39, 3) := by decide +kernel
theorem dX4_changeRate_13 : decode cX4_changeRate 13 = .ok (.iload_n 1, 1) := by decide +kernel
theorem dX4_changeRate_14 : decode cX4_changeRate 14 = .ok (.iload_n 2, 1) := by decide +kernel
theorem dX4_changeRate_15 : decode cX4_changeRate 15 = .ok (.invokevirtual 53, 3) := by decide +kernel
theorem dX4_changeRate_18 : decode cX4_changeRate 18 = .ok (.iload_n 3, 1) := by decide +kernel
theorem dX4_changeRate_19 : decode cX4_changeRate 19 = .ok (.ireturn, 1) := by decide +kernel
set_option maxRecDepth 20000 in
theorem ggX4_earnedBy_X5_at : GoodIn wsX4_earnedBy wsX5_at := goodIn_r _ [6, 7, 8, 9, 10, 5, 11, 12, 21, 22] (by decide +kernel) (by decide +kernel)
set_option maxRecDepth 20000 in
theorem gX4_earnedBy_X5_at : GoodIn wsX4_earnedBy (wsV RX4 49 RX5 yX5_at wsX5_at) := goodIn_app (goodIn_of _ (by decide +kernel)) ggX4_earnedBy_X5_at
theorem dX4_earnedBy_0 : decode cX4_earnedBy 0 = .ok (.aload_n 0, 1) := by decide +kernel
theorem dX4_earnedBy_1 : decode cX4_earnedBy 1 = .ok (.getfield 42, 3) := by decide +kernel
theorem dX4_earnedBy_4 : decode cX4_earnedBy 4 = .ok (.iload_n 1, 1) := by decide +kernel
theorem dX4_earnedBy_5 : decode cX4_earnedBy 5 = .ok (.invokevirtual 49, 3) := by decide +kernel
theorem dX4_earnedBy_8 : decode cX4_earnedBy 8 = .ok (.ireturn, 1) := by decide +kernel
set_option maxRecDepth 20000 in
theorem ggX4_add_X5_add : GoodIn wsX4_add wsX5_add := goodIn_r _ [11, 12, 13, 14, 15, 10, 16, 17, 18, 19, 20, 21, 47, 48] (by decide +kernel) (by decide +kernel)
set_option maxRecDepth 20000 in
theorem gX4_add_X5_add : GoodIn wsX4_add (wsV RX4 57 RX5 yX5_add wsX5_add) := goodIn_app (goodIn_of _ (by decide +kernel)) ggX4_add_X5_add
set_option maxRecDepth 20000 in
theorem ggX4_add_X5_at : GoodIn wsX4_add wsX5_at := goodIn_r _ [25, 17, 26, 27, 28, 10, 29, 12, 47, 48] (by decide +kernel) (by decide +kernel)
set_option maxRecDepth 20000 in
theorem gX4_add_X5_at : GoodIn wsX4_add (wsV RX4 49 RX5 yX5_at wsX5_at) := goodIn_app (goodIn_of _ (by decide +kernel)) ggX4_add_X5_at
set_option maxRecDepth 20000 in
theorem ggX4_add_X4_count : GoodIn wsX4_add wsX4_count := goodIn_r _ [34, 1, 35, 36, 37, 10, 38, 12, 39, 40, 41, 42, 43, 44, 45, 46, 47, 48] (by decide +kernel) (by decide +kernel)
set_option maxRecDepth 20000 in
theorem gX4_add_X4_count : GoodIn wsX4_add (wsV RX4 60 RX4 yX4_count wsX4_count) := goodIn_app (goodIn_of _ (by decide +kernel)) ggX4_add_X4_count
theorem dX4_add_0 : decode cX4_add 0 = .ok (.aload_n 0, 1) := by decide +kernel
theorem dX4_add_1 : decode cX4_add 1 = .ok (.getfield 14, 3) := by decide +kernel
theorem dX4_add_4 : decode cX4_add 4 = .ok (.iload_n 1, 1) := by decide +kernel
theorem dX4_add_5 : decode cX4_add 5 = .ok (.invokevirtual 57, 3) := by decide +kernel
theorem dX4_add_8 : decode cX4_add 8 = .ok (.aload_n 0, 1) := by decide +kernel
theorem dX4_add_9 : decode cX4_add 9 = .ok (.getfield 20, 3) := by decide +kernel
theorem dX4_add_12 : decode cX4_add 12 = .ok (.iload_n 2, 1) := by decide +kernel
theorem dX4_add_13 : decode cX4_add 13 = .ok (.invokevirtual 57, 3) := by decide +kernel
theorem dX4_add_16 : decode cX4_add 16 = .ok (.aload_n 0, 1) := by decide +kernel
theorem dX4_add_17 : decode cX4_add 17 = .ok (.getfield 23, 3) := by decide +kernel
theorem dX4_add_20 : decode cX4_add 20 = .ok (.iload_n 2, 1) := by decide +kernel
theorem dX4_add_21 : decode cX4_add 21 = .ok (.aload_n 0, 1) := by decide +kernel
theorem dX4_add_22 : decode cX4_add 22 = .ok (.getfield 39, 3) := by decide +kernel
theorem dX4_add_25 : decode cX4_add 25 = .ok (.iload_n 1, 1) := by decide +kernel
theorem dX4_add_26 : decode cX4_add 26 = .ok (.invokevirtual 49, 3) := by decide +kernel
theorem dX4_add_29 : decode cX4_add 29 = .ok (.imul, 1) := by decide +kernel
theorem dX4_add_30 : decode cX4_add 30 = .ok (.invokevirtual 57, 3) := by decide +kernel
theorem dX4_add_33 : decode cX4_add 33 = .ok (.aload_n 0, 1) := by decide +kernel
theorem dX4_add_34 : decode cX4_add 34 = .ok (.getfield 26, 3) := by decide +kernel
theorem dX4_add_37 : decode cX4_add 37 = .ok (.iconst 0, 1) := by decide +kernel
theorem dX4_add_38 : decode cX4_add 38 = .ok (.invokevirtual 57, 3) := by decide +kernel
theorem dX4_add_41 : decode cX4_add 41 = .ok (.aload_n 0, 1) := by decide +kernel
theorem dX4_add_42 : decode cX4_add 42 = .ok (.getfield 29, 3) := by decide +kernel
theorem dX4_add_45 : decode cX4_add 45 = .ok (.iconst (-1), 1) := by decide +kernel
theorem dX4_add_46 : decode cX4_add 46 = .ok (.invokevirtual 57, 3) := by decide +kernel
theorem dX4_add_49 : decode cX4_add 49 = .ok (.aload_n 0, 1) := by decide +kernel
theorem dX4_add_50 : decode cX4_add 50 = .ok (.invokevirtual 60, 3) := by decide +kernel
theorem dX4_add_53 : decode cX4_add 53 = .ok (.iconst 1, 1) := by decide +kernel
theorem dX4_add_54 : decode cX4_add 54 = .ok (.isub, 1) := by decide +kernel
theorem dX4_add_55 : decode cX4_add 55 = .ok (.ireturn, 1) := by decide +kernel
set_option maxRecDepth 20000 in
theorem ggX4_stateAt_X5_at : GoodIn wsX4_stateAt wsX5_at := goodIn_r _ [6, 7, 8, 9, 10, 5, 11, 12, 21, 22] (by decide +kernel) (by decide +kernel)
set_option maxRecDepth 20000 in
theorem gX4_stateAt_X5_at : GoodIn wsX4_stateAt (wsV RX4 49 RX5 yX5_at wsX5_at) := goodIn_app (goodIn_of _ (by decide +kernel)) ggX4_stateAt_X5_at
theorem dX4_stateAt_0 : decode cX4_stateAt 0 = .ok (.aload_n 0, 1) := by decide +kernel
theorem dX4_stateAt_1 : decode cX4_stateAt 1 = .ok (.getfield 26, 3) := by decide +kernel
theorem dX4_stateAt_4 : decode cX4_stateAt 4 = .ok (.iload_n 1, 1) := by decide +kernel
theorem dX4_stateAt_5 : decode cX4_stateAt 5 = .ok (.invokevirtual 49, 3) := by decide +kernel
theorem dX4_stateAt_8 : decode cX4_stateAt 8 = .ok (.ireturn, 1) := by decide +kernel
set_option maxRecDepth 20000 in
theorem ggX4_sizeOf_X5_at : GoodIn wsX4_sizeOf wsX5_at := goodIn_r _ [6, 7, 8, 9, 10, 5, 11, 12, 21, 22] (by decide +kernel) (by decide +kernel)
set_option maxRecDepth 20000 in
theorem gX4_sizeOf_X5_at : GoodIn wsX4_sizeOf (wsV RX4 49 RX5 yX5_at wsX5_at) := goodIn_app (goodIn_of _ (by decide +kernel)) ggX4_sizeOf_X5_at
theorem dX4_sizeOf_0 : decode cX4_sizeOf 0 = .ok (.aload_n 0, 1) := by decide +kernel
theorem dX4_sizeOf_1 : decode cX4_sizeOf 1 = .ok (.getfield 20, 3) := by decide +kernel
theorem dX4_sizeOf_4 : decode cX4_sizeOf 4 = .ok (.iload_n 1, 1) := by decide +kernel
theorem dX4_sizeOf_5 : decode cX4_sizeOf 5 = .ok (.invokevirtual 49, 3) := by decide +kernel
theorem dX4_sizeOf_8 : decode cX4_sizeOf 8 = .ok (.ireturn, 1) := by decide +kernel
set_option maxRecDepth 20000 in
theorem ggX4_setDone_X5_at : GoodIn wsX4_setDone wsX5_at := goodIn_r _ [11, 12, 13, 14, 15, 10, 16, 17, 53, 54] (by decide +kernel) (by decide +kernel)
set_option maxRecDepth 20000 in
theorem gX4_setDone_X5_at : GoodIn wsX4_setDone (wsV RX4 49 RX5 yX5_at wsX5_at) := goodIn_app (goodIn_of _ (by decide +kernel)) ggX4_setDone_X5_at
set_option maxRecDepth 20000 in
theorem ggX4_setDone_X5_set : GoodIn wsX4_setDone wsX5_set := goodIn_r _ [21, 12, 13, 14, 15, 10, 16, 17, 53, 54] (by decide +kernel) (by decide +kernel)
set_option maxRecDepth 20000 in
theorem gX4_setDone_X5_set : GoodIn wsX4_setDone (wsV RX4 53 RX5 yX5_set wsX5_set) := goodIn_app (goodIn_of _ (by decide +kernel)) ggX4_setDone_X5_set
set_option maxRecDepth 20000 in
theorem ggX4_setDone_X4_placeInQueue : GoodIn wsX4_setDone wsX4_placeInQueue := goodIn_r _ [26, 4, 3, 27, 28, 29, 10, 30, 17, 7, 8, 9, 11, 12, 13, 14, 15, 16, 45, 46, 47, 48, 49, 50, 51, 52, 53, 54] (by decide +kernel) (by decide +kernel)
set_option maxRecDepth 20000 in
theorem gX4_setDone_X4_placeInQueue : GoodIn wsX4_setDone (wsV RX4 63 RX4 yX4_placeInQueue wsX4_placeInQueue) := goodIn_app (goodIn_of _ (by decide +kernel)) ggX4_setDone_X4_placeInQueue
set_option maxRecDepth 20000 in
theorem ggX4_setDone_X5_insert : GoodIn wsX4_setDone wsX5_insert := goodIn_r _ [34, 17, 12, 35, 36, 37, 38, 53, 54] (by decide +kernel) (by decide +kernel)
set_option maxRecDepth 20000 in
theorem gX4_setDone_X5_insert : GoodIn wsX4_setDone (wsV RX4 66 RX5 yX5_insert wsX5_insert) := goodIn_app (goodIn_of _ (by decide +kernel)) ggX4_setDone_X5_insert
set_option maxRecDepth 20000 in
theorem ggX4_setDone_X5_raise : GoodIn wsX4_setDone wsX5_raise := goodIn_r _ [42, 43, 8, 9, 10, 11, 12, 13, 14, 15, 16, 17, 44, 19, 20, 21, 53, 54] (by decide +kernel) (by decide +kernel)
set_option maxRecDepth 20000 in
theorem gX4_setDone_X5_raise : GoodIn wsX4_setDone (wsV RX4 69 RX5 yX5_raise wsX5_raise) := goodIn_app (goodIn_of _ (by decide +kernel)) ggX4_setDone_X5_raise
theorem dX4_setDone_0 : decode cX4_setDone 0 = .ok (.aload_n 0, 1) := by decide +kernel
theorem dX4_setDone_1 : decode cX4_setDone 1 = .ok (.getfield 14, 3) := by decide +kernel
theorem dX4_setDone_4 : decode cX4_setDone 4 = .ok (.iload_n 1, 1) := by decide +kernel
theorem dX4_setDone_5 : decode cX4_setDone 5 = .ok (.invokevirtual 49, 3) := by decide +kernel
theorem dX4_setDone_8 : decode cX4_setDone 8 = .ok (.istore_n 3, 1) := by decide +kernel
theorem dX4_setDone_9 : decode cX4_setDone 9 = .ok (.aload_n 0, 1) := by decide +kernel
theorem dX4_setDone_10 : decode cX4_setDone 10 = .ok (.getfield 26, 3) := by decide +kernel
theorem dX4_setDone_13 : decode cX4_setDone 13 = .ok (.iload_n 1, 1) := by decide +kernel
theorem dX4_setDone_14 : decode cX4_setDone 14 = .ok (.iconst 1, 1) := by decide +kernel
theorem dX4_setDone_15 : decode cX4_setDone 15 = .ok (.invokevirtual 53, 3) := by decide +kernel
theorem dX4_setDone_18 : decode cX4_setDone 18 = .ok (.aload_n 0, 1) := by decide +kernel
theorem dX4_setDone_19 : decode cX4_setDone 19 = .ok (.getfield 29, 3) := by decide +kernel
theorem dX4_setDone_22 : decode cX4_setDone 22 = .ok (.iload_n 1, 1) := by decide +kernel
theorem dX4_setDone_23 : decode cX4_setDone 23 = .ok (.iload_n 2, 1) := by decide +kernel
theorem dX4_setDone_24 : decode cX4_setDone 24 = .ok (.invokevirtual 53, 3) := by decide +kernel
theorem dX4_setDone_27 : decode cX4_setDone 27 = .ok (.aload_n 0, 1) := by decide +kernel
theorem dX4_setDone_28 : decode cX4_setDone 28 = .ok (.getfield 32, 3) := by decide +kernel
theorem dX4_setDone_31 : decode cX4_setDone 31 = .ok (.aload_n 0, 1) := by decide +kernel
theorem dX4_setDone_32 : decode cX4_setDone 32 = .ok (.iload_n 2, 1) := by decide +kernel
theorem dX4_setDone_33 : decode cX4_setDone 33 = .ok (.invokevirtual 63, 3) := by decide +kernel
theorem dX4_setDone_36 : decode cX4_setDone 36 = .ok (.iload_n 1, 1) := by decide +kernel
theorem dX4_setDone_37 : decode cX4_setDone 37 = .ok (.invokevirtual 66, 3) := by decide +kernel
theorem dX4_setDone_40 : decode cX4_setDone 40 = .ok (.aload_n 0, 1) := by decide +kernel
theorem dX4_setDone_41 : decode cX4_setDone 41 = .ok (.getfield 42, 3) := by decide +kernel
theorem dX4_setDone_44 : decode cX4_setDone 44 = .ok (.iload_n 3, 1) := by decide +kernel
theorem dX4_setDone_45 : decode cX4_setDone 45 = .ok (.aload_n 0, 1) := by decide +kernel
theorem dX4_setDone_46 : decode cX4_setDone 46 = .ok (.getfield 23, 3) := by decide +kernel
theorem dX4_setDone_49 : decode cX4_setDone 49 = .ok (.iload_n 1, 1) := by decide +kernel
theorem dX4_setDone_50 : decode cX4_setDone 50 = .ok (.invokevirtual 49, 3) := by decide +kernel
theorem dX4_setDone_53 : decode cX4_setDone 53 = .ok (.invokevirtual 69, 3) := by decide +kernel
theorem dX4_setDone_56 : decode cX4_setDone 56 = .ok (.aload_n 0, 1) := by decide +kernel
theorem dX4_setDone_57 : decode cX4_setDone 57 = .ok (.getfield 42, 3) := by decide +kernel
theorem dX4_setDone_60 : decode cX4_setDone 60 = .ok (.iload_n 3, 1) := by decide +kernel
theorem dX4_setDone_61 : decode cX4_setDone 61 = .ok (.invokevirtual 49, 3) := by decide +kernel
theorem dX4_setDone_64 : decode cX4_setDone 64 = .ok (.ireturn, 1) := by decide +kernel
set_option maxRecDepth 20000 in
theorem ggX4_setCancelled_X5_set : GoodIn wsX4_setCancelled wsX5_set := goodIn_r _ [6, 7, 8, 9, 10, 5, 11, 12, 21, 22] (by decide +kernel) (by decide +kernel)
set_option maxRecDepth 20000 in
theorem gX4_setCancelled_X5_set : GoodIn wsX4_setCancelled (wsV RX4 53 RX5 yX5_set wsX5_set) := goodIn_app (goodIn_of _ (by decide +kernel)) ggX4_setCancelled_X5_set
theorem dX4_setCancelled_0 : decode cX4_setCancelled 0 = .ok (.aload_n 0, 1) := by decide +kernel
theorem dX4_setCancelled_1 : decode cX4_setCancelled 1 = .ok (.getfield 26, 3) := by decide +kernel
theorem dX4_setCancelled_4 : decode cX4_setCancelled 4 = .ok (.iload_n 1, 1) := by decide +kernel
theorem dX4_setCancelled_5 : decode cX4_setCancelled 5 = .ok (.iconst 2, 1) := by decide +kernel
theorem dX4_setCancelled_6 : decode cX4_setCancelled 6 = .ok (.invokevirtual 53, 3) := by decide +kernel
theorem dX4_setCancelled_9 : decode cX4_setCancelled 9 = .ok (.return_, 1) := by decide +kernel
set_option maxRecDepth 20000 in
theorem ggX4_waitingAt_X5_at : GoodIn wsX4_waitingAt wsX5_at := goodIn_r _ [6, 7, 8, 9, 10, 5, 11, 12, 21, 22] (by decide +kernel) (by decide +kernel)
set_option maxRecDepth 20000 in
theorem gX4_waitingAt_X5_at : GoodIn wsX4_waitingAt (wsV RX4 49 RX5 yX5_at wsX5_at) := goodIn_app (goodIn_of _ (by decide +kernel)) ggX4_waitingAt_X5_at
theorem dX4_waitingAt_0 : decode cX4_waitingAt 0 = .ok (.aload_n 0, 1) := by decide +kernel
theorem dX4_waitingAt_1 : decode cX4_waitingAt 1 = .ok (.getfield 32, 3) := by decide +kernel
theorem dX4_waitingAt_4 : decode cX4_waitingAt 4 = .ok (.iload_n 1, 1) := by decide +kernel
theorem dX4_waitingAt_5 : decode cX4_waitingAt 5 = .ok (.invokevirtual 49, 3) := by decide +kernel
theorem dX4_waitingAt_8 : decode cX4_waitingAt 8 = .ok (.ireturn, 1) := by decide +kernel
set_option maxRecDepth 20000 in
theorem ggX4_printFirst_X5_remove : GoodIn wsX4_printFirst wsX5_remove := goodIn_r _ [7, 8, 9, 10, 11, 12, 13, 14, 15, 16, 6, 17, 30, 31] (by decide +kernel) (by decide +kernel)
set_option maxRecDepth 20000 in
theorem gX4_printFirst_X5_remove : GoodIn wsX4_printFirst (wsV RX4 72 RX5 yX5_remove wsX5_remove) := goodIn_app (goodIn_of _ (by decide +kernel)) ggX4_printFirst_X5_remove
set_option maxRecDepth 20000 in
theorem ggX4_printFirst_X5_set : GoodIn wsX4_printFirst wsX5_set := goodIn_r _ [21, 8, 14, 15, 16, 6, 17, 9, 30, 31] (by decide +kernel) (by decide +kernel)
set_option maxRecDepth 20000 in
theorem gX4_printFirst_X5_set : GoodIn wsX4_printFirst (wsV RX4 53 RX5 yX5_set wsX5_set) := goodIn_app (goodIn_of _ (by decide +kernel)) ggX4_printFirst_X5_set
theorem dX4_printFirst_0 : decode cX4_printFirst 0 = .ok (.aload_n 0, 1) := by decide +kernel
theorem dX4_printFirst_1 : decode cX4_printFirst 1 = .ok (.getfield 26, 3) := by decide +kernel
theorem dX4_printFirst_4 : decode cX4_printFirst 4 = .ok (.aload_n 0, 1) := by decide +kernel
theorem dX4_printFirst_5 : decode cX4_printFirst 5 = .ok (.getfield 32, 3) := by decide +kernel
theorem dX4_printFirst_8 : decode cX4_printFirst 8 = .ok (.iconst 0, 1) := by decide +kernel
theorem dX4_printFirst_9 : decode cX4_printFirst 9 = .ok (.invokevirtual 72, 3) := by decide +kernel
theorem dX4_printFirst_12 : decode cX4_printFirst 12 = .ok (.iconst 3, 1) := by decide +kernel
theorem dX4_printFirst_13 : decode cX4_printFirst 13 = .ok (.invokevirtual 53, 3) := by decide +kernel
theorem dX4_printFirst_16 : decode cX4_printFirst 16 = .ok (.return_, 1) := by decide +kernel
set_option maxRecDepth 20000 in
theorem ggX4_placeInQueue_X5_size : GoodIn wsX4_placeInQueue wsX5_size := goodIn_r _ [7, 8, 26, 27] (by decide +kernel) (by decide +kernel)
set_option maxRecDepth 20000 in
theorem gX4_placeInQueue_X5_size : GoodIn wsX4_placeInQueue (wsV RX4 45 RX5 yX5_size wsX5_size) := goodIn_app (goodIn_of _ (by decide +kernel)) ggX4_placeInQueue_X5_size
set_option maxRecDepth 20000 in
theorem ggX4_placeInQueue_X5_at : GoodIn wsX4_placeInQueue wsX5_at := goodIn_r _ [12, 13, 14, 15, 16, 6, 17, 8, 26, 27] (by decide +kernel) (by decide +kernel)
set_option maxRecDepth 20000 in
theorem gX4_placeInQueue_X5_at : GoodIn wsX4_placeInQueue (wsV RX4 49 RX5 yX5_at wsX5_at) := goodIn_app (goodIn_of _ (by decide +kernel)) ggX4_placeInQueue_X5_at
theorem dX4_placeInQueue_0 : decode cX4_placeInQueue 0 = .ok (.iconst 0, 1) := by decide +kernel
theorem dX4_placeInQueue_1 : decode cX4_placeInQueue 1 = .ok (.istore_n 2, 1) := by decide +kernel
theorem dX4_placeInQueue_2 : decode cX4_placeInQueue 2 = .ok (.iload_n 2, 1) := by decide +kernel
theorem dX4_placeInQueue_3 : decode cX4_placeInQueue 3 = .ok (.aload_n 0, 1) := by decide +kernel
theorem dX4_placeInQueue_4 : decode cX4_placeInQueue 4 = .ok (.getfield 32, 3) := by decide +kernel
theorem dX4_placeInQueue_7 : decode cX4_placeInQueue 7 = .ok (.invokevirtual 45, 3) := by decide +kernel
theorem dX4_placeInQueue_10 : decode cX4_placeInQueue 10 = .ok (.if_icmp .ge 28, 3) := by decide +kernel
theorem dX4_placeInQueue_13 : decode cX4_placeInQueue 13 = .ok (.aload_n 0, 1) := by decide +kernel
theorem dX4_placeInQueue_14 : decode cX4_placeInQueue 14 = .ok (.getfield 29, 3) := by decide +kernel
theorem dX4_placeInQueue_17 : decode cX4_placeInQueue 17 = .ok (.aload_n 0, 1) := by decide +kernel
theorem dX4_placeInQueue_18 : decode cX4_placeInQueue 18 = .ok (.getfield 32, 3) := by decide +kernel
theorem dX4_placeInQueue_21 : decode cX4_placeInQueue 21 = .ok (.iload_n 2, 1) := by decide +kernel
theorem dX4_placeInQueue_22 : decode cX4_placeInQueue 22 = .ok (.invokevirtual 49, 3) := by decide +kernel
theorem dX4_placeInQueue_25 : decode cX4_placeInQueue 25 = .ok (.invokevirtual 49, 3) := by decide +kernel
theorem dX4_placeInQueue_28 : decode cX4_placeInQueue 28 = .ok (.iload_n 1, 1) := by decide +kernel
theorem dX4_placeInQueue_29 : decode cX4_placeInQueue 29 = .ok (.if_icmp .lt 9, 3) := by decide +kernel
theorem dX4_placeInQueue_32 : decode cX4_placeInQueue 32 = .ok (.iinc 2 1, 3) := by decide +kernel
theorem dX4_placeInQueue_35 : decode cX4_placeInQueue 35 = .ok (.goto (-33), 3) := by decide +kernel
theorem dX4_placeInQueue_38 : decode cX4_placeInQueue 38 = .ok (.iload_n 2, 1) := by decide +kernel
theorem dX4_placeInQueue_39 : decode cX4_placeInQueue 39 = .ok (.ireturn, 1) := by decide +kernel
theorem dX5_init_0 : decode cX5_init 0 = .ok (.aload_n 0, 1) := by decide +kernel
theorem dX5_init_1 : decode cX5_init 1 = .ok (.invokespecial 3, 3) := by decide +kernel
theorem dX5_init_4 : decode cX5_init 4 = .ok (.aload_n 0, 1) := by decide +kernel
theorem dX5_init_5 : decode cX5_init 5 = .ok (.iload_n 1, 1) := by decide +kernel
theorem dX5_init_6 : decode cX5_init 6 = .ok (.ifCond .ge 7, 3) := by decide +kernel
theorem dX5_init_9 : decode cX5_init 9 = .ok (.iconst 0, 1) := by decide +kernel
theorem dX5_init_10 : decode cX5_init 10 = .ok (.goto 4, 3) := by decide +kernel
theorem dX5_init_13 : decode cX5_init 13 = .ok (.iload_n 1, 1) := by decide +kernel
theorem dX5_init_14 : decode cX5_init 14 = .ok (.newarray .int, 2) := by decide +kernel
theorem dX5_init_16 : decode cX5_init 16 = .ok (.putfield 9, 3) := by decide +kernel
theorem dX5_init_19 : decode cX5_init 19 = .ok (.aload_n 0, 1) := by decide +kernel
theorem dX5_init_20 : decode cX5_init 20 = .ok (.iconst 0, 1) := by decide +kernel
theorem dX5_init_21 : decode cX5_init 21 = .ok (.putfield 15, 3) := by decide +kernel
theorem dX5_init_24 : decode cX5_init 24 = .ok (.return_, 1) := by decide +kernel
set_option maxRecDepth 20000 in
theorem ggX5_filled_X5_init : GoodIn wsX5_filled wsX5_init := goodIn_r _ [6, 7, 8, 9, 10, 11, 12, 25, 26] (by decide +kernel) (by decide +kernel)
set_option maxRecDepth 20000 in
theorem gX5_filled_X5_init : GoodIn wsX5_filled (wsX5_init) := ggX5_filled_X5_init
set_option maxRecDepth 20000 in
theorem ggX5_filled_X5_add : GoodIn wsX5_filled wsX5_add := goodIn_r _ [16, 12, 17, 18, 19, 3, 20, 11, 21, 22, 23, 24, 25, 26] (by decide +kernel) (by decide +kernel)
set_option maxRecDepth 20000 in
theorem gX5_filled_X5_add : GoodIn wsX5_filled (wsV RX5 22 RX5 yX5_add wsX5_add) := goodIn_app (goodIn_of _ (by decide +kernel)) ggX5_filled_X5_add
theorem dX5_filled_0 : decode cX5_filled 0 = .ok (.new 10, 3) := by decide +kernel
theorem dX5_filled_3 : decode cX5_filled 3 = .ok (.dup, 1) := by decide +kernel
theorem dX5_filled_4 : decode cX5_filled 4 = .ok (.iload_n 0, 1) := by decide +kernel
theorem dX5_filled_5 : decode cX5_filled 5 = .ok (.invokespecial 19, 3) := by decide +kernel
theorem dX5_filled_8 : decode cX5_filled 8 = .ok (.astore_n 2, 1) := by decide +kernel
theorem dX5_filled_9 : decode cX5_filled 9 = .ok (.iconst 0, 1) := by decide +kernel
theorem dX5_filled_10 : decode cX5_filled 10 = .ok (.istore_n 3, 1) := by decide +kernel
theorem dX5_filled_11 : decode cX5_filled 11 = .ok (.iload_n 3, 1) := by decide +kernel
theorem dX5_filled_12 : decode cX5_filled 12 = .ok (.iload_n 0, 1) := by decide +kernel
theorem dX5_filled_13 : decode cX5_filled 13 = .ok (.if_icmp .ge 14, 3) := by decide +kernel
theorem dX5_filled_16 : decode cX5_filled 16 = .ok (.aload_n 2, 1) := by decide +kernel
theorem dX5_filled_17 : decode cX5_filled 17 = .ok (.iload_n 1, 1) := by decide +kernel
theorem dX5_filled_18 : decode cX5_filled 18 = .ok (.invokevirtual 22, 3) := by decide +kernel
theorem dX5_filled_21 : decode cX5_filled 21 = .ok (.iinc 3 1, 3) := by decide +kernel
theorem dX5_filled_24 : decode cX5_filled 24 = .ok (.goto (-13), 3) := by decide +kernel
theorem dX5_filled_27 : decode cX5_filled 27 = .ok (.aload_n 2, 1) := by decide +kernel
theorem dX5_filled_28 : decode cX5_filled 28 = .ok (.areturn, 1) := by decide +kernel
theorem dX5_size_0 : decode cX5_size 0 = .ok (.aload_n 0, 1) := by decide +kernel
theorem dX5_size_1 : decode cX5_size 1 = .ok (.getfield 15, 3) := by decide +kernel
theorem dX5_size_4 : decode cX5_size 4 = .ok (.ireturn, 1) := by decide +kernel
theorem dX5_has_0 : decode cX5_has 0 = .ok (.iload_n 1, 1) := by decide +kernel
theorem dX5_has_1 : decode cX5_has 1 = .ok (.ifCond .lt 24, 3) := by decide +kernel
theorem dX5_has_4 : decode cX5_has 4 = .ok (.iload_n 1, 1) := by decide +kernel
theorem dX5_has_5 : decode cX5_has 5 = .ok (.aload_n 0, 1) := by decide +kernel
theorem dX5_has_6 : decode cX5_has 6 = .ok (.getfield 15, 3) := by decide +kernel
theorem dX5_has_9 : decode cX5_has 9 = .ok (.if_icmp .ge 16, 3) := by decide +kernel
theorem dX5_has_12 : decode cX5_has 12 = .ok (.iload_n 1, 1) := by decide +kernel
theorem dX5_has_13 : decode cX5_has 13 = .ok (.aload_n 0, 1) := by decide +kernel
theorem dX5_has_14 : decode cX5_has 14 = .ok (.getfield 9, 3) := by decide +kernel
theorem dX5_has_17 : decode cX5_has 17 = .ok (.arraylength, 1) := by decide +kernel
theorem dX5_has_18 : decode cX5_has 18 = .ok (.if_icmp .ge 7, 3) := by decide +kernel
theorem dX5_has_21 : decode cX5_has 21 = .ok (.iconst 1, 1) := by decide +kernel
theorem dX5_has_22 : decode cX5_has 22 = .ok (.goto 4, 3) := by decide +kernel
theorem dX5_has_25 : decode cX5_has 25 = .ok (.iconst 0, 1) := by decide +kernel
theorem dX5_has_26 : decode cX5_has 26 = .ok (.ireturn, 1) := by decide +kernel
set_option maxRecDepth 20000 in
theorem ggX5_at_X5_has : GoodIn wsX5_at wsX5_has := goodIn_r _ [6, 7, 1, 8, 9] (by decide +kernel) (by decide +kernel)
set_option maxRecDepth 20000 in
theorem gX5_at_X5_has : GoodIn wsX5_at (wsV RX5 25 RX5 yX5_has wsX5_has) := goodIn_app (goodIn_of _ (by decide +kernel)) ggX5_at_X5_has
theorem dX5_at_0 : decode cX5_at 0 = .ok (.aload_n 0, 1) := by decide +kernel
theorem dX5_at_1 : decode cX5_at 1 = .ok (.iload_n 1, 1) := by decide +kernel
theorem dX5_at_2 : decode cX5_at 2 = .ok (.invokevirtual 25, 3) := by decide +kernel
theorem dX5_at_5 : decode cX5_at 5 = .ok (.ifCond .eq 12, 3) := by decide +kernel
theorem dX5_at_8 : decode cX5_at 8 = .ok (.aload_n 0, 1) := by decide +kernel
theorem dX5_at_9 : decode cX5_at 9 = .ok (.getfield 9, 3) := by decide +kernel
theorem dX5_at_12 : decode cX5_at 12 = .ok (.iload_n 1, 1) := by decide +kernel
theorem dX5_at_13 : decode cX5_at 13 = .ok (.iaload, 1) := by decide +kernel
theorem dX5_at_14 : decode cX5_at 14 = .ok (.goto 4, 3) := by decide +kernel
theorem dX5_at_17 : decode cX5_at 17 = .ok (.iconst (-1), 1) := by decide +kernel
theorem dX5_at_18 : decode cX5_at 18 = .ok (.ireturn, 1) := by decide +kernel
set_option maxRecDepth 20000 in
theorem ggX5_set_X5_has : GoodIn wsX5_set wsX5_has := goodIn_r _ [6, 7, 1, 8, 9] (by decide +kernel) (by decide +kernel)
set_option maxRecDepth 20000 in
theorem gX5_set_X5_has : GoodIn wsX5_set (wsV RX5 25 RX5 yX5_has wsX5_has) := goodIn_app (goodIn_of _ (by decide +kernel)) ggX5_set_X5_has
theorem dX5_set_0 : decode cX5_set 0 = .ok (.aload_n 0, 1) := by decide +kernel
theorem dX5_set_1 : decode cX5_set 1 = .ok (.iload_n 1, 1) := by decide +kernel
theorem dX5_set_2 : decode cX5_set 2 = .ok (.invokevirtual 25, 3) := by decide +kernel
theorem dX5_set_5 : decode cX5_set 5 = .ok (.ifCond .eq 10, 3) := by decide +kernel
theorem dX5_set_8 : decode cX5_set 8 = .ok (.aload_n 0, 1) := by decide +kernel
theorem dX5_set_9 : decode cX5_set 9 = .ok (.getfield 9, 3) := by decide +kernel
theorem dX5_set_12 : decode cX5_set 12 = .ok (.iload_n 1, 1) := by decide +kernel
theorem dX5_set_13 : decode cX5_set 13 = .ok (.iload_n 2, 1) := by decide +kernel
theorem dX5_set_14 : decode cX5_set 14 = .ok (.iastore, 1) := by decide +kernel
theorem dX5_set_15 : decode cX5_set 15 = .ok (.return_, 1) := by decide +kernel
set_option maxRecDepth 20000 in
theorem ggX5_raise_X5_at : GoodIn wsX5_raise wsX5_at := goodIn_r _ [5, 6, 7, 8, 9, 4, 10, 11, 16, 17] (by decide +kernel) (by decide +kernel)
set_option maxRecDepth 20000 in
theorem gX5_raise_X5_at : GoodIn wsX5_raise (wsV RX5 29 RX5 yX5_at wsX5_at) := goodIn_app (goodIn_of _ (by decide +kernel)) ggX5_raise_X5_at
set_option maxRecDepth 20000 in
theorem ggX5_raise_X5_set : GoodIn wsX5_raise wsX5_set := goodIn_r _ [15, 6, 7, 8, 9, 4, 10, 11, 16, 17] (by decide +kernel) (by decide +kernel)
set_option maxRecDepth 20000 in
theorem gX5_raise_X5_set : GoodIn wsX5_raise (wsV RX5 33 RX5 yX5_set wsX5_set) := goodIn_app (goodIn_of _ (by decide +kernel)) ggX5_raise_X5_set
theorem dX5_raise_0 : decode cX5_raise 0 = .ok (.aload_n 0, 1) := by decide +kernel
theorem dX5_raise_1 : decode cX5_raise 1 = .ok (.iload_n 1, 1) := by decide +kernel
theorem dX5_raise_2 : decode cX5_raise 2 = .ok (.aload_n 0, 1) := by decide +kernel
theorem dX5_raise_3 : decode cX5_raise 3 = .ok (.iload_n 1, 1) := by decide +kernel
theorem dX5_raise_4 : decode cX5_raise 4 = .ok (.invokevirtual 29, 3) := by decide +kernel
theorem dX5_raise_7 : decode cX5_raise 7 = .ok (.iload_n 2, 1) := by decide +kernel
theorem dX5_raise_8 : decode cX5_raise 8 = .ok (.iadd, 1) := by decide +kernel
theorem dX5_raise_9 : decode cX5_raise 9 = .ok (.invokevirtual 33, 3) := by decide +kernel
theorem dX5_raise_12 : decode cX5_raise 12 = .ok (.return_, 1) := by decide +kernel
set_option maxRecDepth 20000 in
theorem ggX5_add_X5_insert : GoodIn wsX5_add wsX5_insert := goodIn_r _ [6, 1, 7, 8, 9, 10, 11, 12, 13] (by decide +kernel) (by decide +kernel)
set_option maxRecDepth 20000 in
theorem gX5_add_X5_insert : GoodIn wsX5_add (wsV RX5 37 RX5 yX5_insert wsX5_insert) := goodIn_app (goodIn_of _ (by decide +kernel)) ggX5_add_X5_insert
theorem dX5_add_0 : decode cX5_add 0 = .ok (.aload_n 0, 1) := by decide +kernel
theorem dX5_add_1 : decode cX5_add 1 = .ok (.aload_n 0, 1) := by decide +kernel
theorem dX5_add_2 : decode cX5_add 2 = .ok (.getfield 15, 3) := by decide +kernel
theorem dX5_add_5 : decode cX5_add 5 = .ok (.iload_n 1, 1) := by decide +kernel
theorem dX5_add_6 : decode cX5_add 6 = .ok (.invokevirtual 37, 3) := by decide +kernel
theorem dX5_add_9 : decode cX5_add 9 = .ok (.return_, 1) := by decide +kernel
theorem dX5_insert_0 : decode cX5_insert 0 = .ok (.iload_n 1, 1) := by decide +kernel
theorem dX5_insert_1 : decode cX5_insert 1 = .ok (.ifCond .lt 23, 3) := by decide +kernel
theorem dX5_insert_4 : decode cX5_insert 4 = .ok (.iload_n 1, 1) := by decide +kernel
theorem dX5_insert_5 : decode cX5_insert 5 = .ok (.aload_n 0, 1) := by decide +kernel
theorem dX5_insert_6 : decode cX5_insert 6 = .ok (.getfield 15, 3) := by decide +kernel
theorem dX5_insert_9 : decode cX5_insert 9 = .ok (.if_icmp .gt 15, 3) := by decide +kernel
theorem dX5_insert_12 : decode cX5_insert 12 = .ok (.aload_n 0, 1) := by decide +kernel
theorem dX5_insert_13 : decode cX5_insert 13 = .ok (.getfield 15, 3) := by decide +kernel
theorem dX5_insert_16 : decode cX5_insert 16 = .ok (.aload_n 0, 1) := by decide +kernel
theorem dX5_insert_17 : decode cX5_insert 17 = .ok (.getfield 9, 3) := by decide +kernel
theorem dX5_insert_20 : decode cX5_insert 20 = .ok (.arraylength, 1) := by decide +kernel
theorem dX5_insert_21 : decode cX5_insert 21 = .ok (.if_icmp .lt 4, 3) := by decide +kernel
theorem dX5_insert_24 : decode cX5_insert 24 = .ok (.return_, 1) := by decide +kernel
theorem dX5_insert_25 : decode cX5_insert 25 = .ok (.aload_n 0, 1) := by decide +kernel
theorem dX5_insert_26 : decode cX5_insert 26 = .ok (.getfield 9, 3) := by decide +kernel
theorem dX5_insert_29 : decode cX5_insert 29 = .ok (.iload_n 1, 1) := by decide +kernel
theorem dX5_insert_30 : decode cX5_insert 30 = .ok (.aload_n 0, 1) := by decide +kernel
theorem dX5_insert_31 : decode cX5_insert 31 = .ok (.getfield 9, 3) := by decide +kernel
theorem dX5_insert_34 : decode cX5_insert 34 = .ok (.iload_n 1, 1) := by decide +kernel
theorem dX5_insert_35 : decode cX5_insert 35 = .ok (.iconst 1, 1) := by decide +kernel
theorem dX5_insert_36 : decode cX5_insert 36 = .ok (.iadd, 1) := by decide +kernel
theorem dX5_insert_37 : decode cX5_insert 37 = .ok (.aload_n 0, 1) := by decide +kernel
theorem dX5_insert_38 : decode cX5_insert 38 = .ok (.getfield 15, 3) := by decide +kernel
theorem dX5_insert_41 : decode cX5_insert 41 = .ok (.iload_n 1, 1) := by decide +kernel
theorem dX5_insert_42 : decode cX5_insert 42 = .ok (.isub, 1) := by decide +kernel
theorem dX5_insert_43 : decode cX5_insert 43 = .ok (.invokestatic 40, 3) := by decide +kernel
theorem dX5_insert_46 : decode cX5_insert 46 = .ok (.aload_n 0, 1) := by decide +kernel
theorem dX5_insert_47 : decode cX5_insert 47 = .ok (.getfield 9, 3) := by decide +kernel
theorem dX5_insert_50 : decode cX5_insert 50 = .ok (.iload_n 1, 1) := by decide +kernel
theorem dX5_insert_51 : decode cX5_insert 51 = .ok (.iload_n 2, 1) := by decide +kernel
theorem dX5_insert_52 : decode cX5_insert 52 = .ok (.iastore, 1) := by decide +kernel
theorem dX5_insert_53 : decode cX5_insert 53 = .ok (.aload_n 0, 1) := by decide +kernel
theorem dX5_insert_54 : decode cX5_insert 54 = .ok (.dup, 1) := by decide +kernel
theorem dX5_insert_55 : decode cX5_insert 55 = .ok (.getfield 15, 3) := by decide +kernel
theorem dX5_insert_58 : decode cX5_insert 58 = .ok (.iconst 1, 1) := by decide +kernel
theorem dX5_insert_59 : decode cX5_insert 59 = .ok (.iadd, 1) := by decide +kernel
theorem dX5_insert_60 : decode cX5_insert 60 = .ok (.putfield 15, 3) := by decide +kernel
theorem dX5_insert_63 : decode cX5_insert 63 = .ok (.return_, 1) := by decide +kernel
set_option maxRecDepth 20000 in
theorem ggX5_remove_X5_has : GoodIn wsX5_remove wsX5_has := goodIn_r _ [11, 2, 1, 12, 13] (by decide +kernel) (by decide +kernel)
set_option maxRecDepth 20000 in
theorem gX5_remove_X5_has : GoodIn wsX5_remove (wsV RX5 25 RX5 yX5_has wsX5_has) := goodIn_app (goodIn_of _ (by decide +kernel)) ggX5_remove_X5_has
theorem dX5_remove_0 : decode cX5_remove 0 = .ok (.aload_n 0, 1) := by decide +kernel
theorem dX5_remove_1 : decode cX5_remove 1 = .ok (.iload_n 1, 1) := by decide +kernel
theorem dX5_remove_2 : decode cX5_remove 2 = .ok (.invokevirtual 25, 3) := by decide +kernel
theorem dX5_remove_5 : decode cX5_remove 5 = .ok (.ifCond .ne 5, 3) := by decide +kernel
theorem dX5_remove_8 : decode cX5_remove 8 = .ok (.iconst (-1), 1) := by decide +kernel
theorem dX5_remove_9 : decode cX5_remove 9 = .ok (.ireturn, 1) := by decide +kernel
theorem dX5_remove_10 : decode cX5_remove 10 = .ok (.aload_n 0, 1) := by decide +kernel
theorem dX5_remove_11 : decode cX5_remove 11 = .ok (.getfield 9, 3) := by decide +kernel
theorem dX5_remove_14 : decode cX5_remove 14 = .ok (.iload_n 1, 1) := by decide +kernel
theorem dX5_remove_15 : decode cX5_remove 15 = .ok (.iaload, 1) := by decide +kernel
theorem dX5_remove_16 : decode cX5_remove 16 = .ok (.istore_n 2, 1) := by decide +kernel
theorem dX5_remove_17 : decode cX5_remove 17 = .ok (.aload_n 0, 1) := by decide +kernel
theorem dX5_remove_18 : decode cX5_remove 18 = .ok (.getfield 9, 3) := by decide +kernel
theorem dX5_remove_21 : decode cX5_remove 21 = .ok (.iload_n 1, 1) := by decide +kernel
theorem dX5_remove_22 : decode cX5_remove 22 = .ok (.iconst 1, 1) := by decide +kernel
theorem dX5_remove_23 : decode cX5_remove 23 = .ok (.iadd, 1) := by decide +kernel
theorem dX5_remove_24 : decode cX5_remove 24 = .ok (.aload_n 0, 1) := by decide +kernel
theorem dX5_remove_25 : decode cX5_remove 25 = .ok (.getfield 9, 3) := by decide +kernel
theorem dX5_remove_28 : decode cX5_remove 28 = .ok (.iload_n 1, 1) := by decide +kernel
theorem dX5_remove_29 : decode cX5_remove 29 = .ok (.aload_n 0, 1) := by decide +kernel
theorem dX5_remove_30 : decode cX5_remove 30 = .ok (.getfield 15, 3) := by decide +kernel
theorem dX5_remove_33 : decode cX5_remove 33 = .ok (.iload_n 1, 1) := by decide +kernel
theorem dX5_remove_34 : decode cX5_remove 34 = .ok (.isub, 1) := by decide +kernel
theorem dX5_remove_35 : decode cX5_remove 35 = .ok (.iconst 1, 1) := by decide +kernel
theorem dX5_remove_36 : decode cX5_remove 36 = .ok (.isub, 1) := by decide +kernel
theorem dX5_remove_37 : decode cX5_remove 37 = .ok (.invokestatic 40, 3) := by decide +kernel
theorem dX5_remove_40 : decode cX5_remove 40 = .ok (.aload_n 0, 1) := by decide +kernel
theorem dX5_remove_41 : decode cX5_remove 41 = .ok (.dup, 1) := by decide +kernel
theorem dX5_remove_42 : decode cX5_remove 42 = .ok (.getfield 15, 3) := by decide +kernel
theorem dX5_remove_45 : decode cX5_remove 45 = .ok (.iconst 1, 1) := by decide +kernel
theorem dX5_remove_46 : decode cX5_remove 46 = .ok (.isub, 1) := by decide +kernel
theorem dX5_remove_47 : decode cX5_remove 47 = .ok (.putfield 15, 3) := by decide +kernel
theorem dX5_remove_50 : decode cX5_remove 50 = .ok (.iload_n 2, 1) := by decide +kernel
theorem dX5_remove_51 : decode cX5_remove 51 = .ok (.ireturn, 1) := by decide +kernel
set_option maxRecDepth 20000 in
theorem ggX5_indexOf_X5_at : GoodIn wsX5_indexOf wsX5_at := goodIn_r _ [6, 7, 8, 9, 10, 5, 11, 1, 12, 13] (by decide +kernel) (by decide +kernel)
set_option maxRecDepth 20000 in
theorem gX5_indexOf_X5_at : GoodIn wsX5_indexOf (wsV RX5 29 RX5 yX5_at wsX5_at) := goodIn_app (goodIn_of _ (by decide +kernel)) ggX5_indexOf_X5_at
theorem dX5_indexOf_0 : decode cX5_indexOf 0 = .ok (.iconst 0, 1) := by decide +kernel
theorem dX5_indexOf_1 : decode cX5_indexOf 1 = .ok (.istore_n 2, 1) := by decide +kernel
theorem dX5_indexOf_2 : decode cX5_indexOf 2 = .ok (.iload_n 2, 1) := by decide +kernel
theorem dX5_indexOf_3 : decode cX5_indexOf 3 = .ok (.aload_n 0, 1) := by decide +kernel
theorem dX5_indexOf_4 : decode cX5_indexOf 4 = .ok (.getfield 15, 3) := by decide +kernel
theorem dX5_indexOf_7 : decode cX5_indexOf 7 = .ok (.if_icmp .ge 20, 3) := by decide +kernel
theorem dX5_indexOf_10 : decode cX5_indexOf 10 = .ok (.aload_n 0, 1) := by decide +kernel
theorem dX5_indexOf_11 : decode cX5_indexOf 11 = .ok (.iload_n 2, 1) := by decide +kernel
theorem dX5_indexOf_12 : decode cX5_indexOf 12 = .ok (.invokevirtual 29, 3) := by decide +kernel
theorem dX5_indexOf_15 : decode cX5_indexOf 15 = .ok (.iload_n 1, 1) := by decide +kernel
theorem dX5_indexOf_16 : decode cX5_indexOf 16 = .ok (.if_icmp .ne 5, 3) := by decide +kernel
theorem dX5_indexOf_19 : decode cX5_indexOf 19 = .ok (.iload_n 2, 1) := by decide +kernel
theorem dX5_indexOf_20 : decode cX5_indexOf 20 = .ok (.ireturn, 1) := by decide +kernel
theorem dX5_indexOf_21 : decode cX5_indexOf 21 = .ok (.iinc 2 1, 3) := by decide +kernel
theorem dX5_indexOf_24 : decode cX5_indexOf 24 = .ok (.goto (-22), 3) := by decide +kernel
theorem dX5_indexOf_27 : decode cX5_indexOf 27 = .ok (.iconst (-1), 1) := by decide +kernel
theorem dX5_indexOf_28 : decode cX5_indexOf 28 = .ok (.ireturn, 1) := by decide +kernel
theorem dX5_clear_0 : decode cX5_clear 0 = .ok (.aload_n 0, 1) := by decide +kernel
theorem dX5_clear_1 : decode cX5_clear 1 = .ok (.iconst 0, 1) := by decide +kernel
theorem dX5_clear_2 : decode cX5_clear 2 = .ok (.putfield 15, 3) := by decide +kernel
theorem dX5_clear_5 : decode cX5_clear 5 = .ok (.return_, 1) := by decide +kernel
set_option maxRecDepth 20000 in
theorem ggX5_become_X5_clear : GoodIn wsX5_become wsX5_clear := goodIn_r _ [6, 1, 28, 29] (by decide +kernel) (by decide +kernel)
set_option maxRecDepth 20000 in
theorem gX5_become_X5_clear : GoodIn wsX5_become (wsV RX5 46 RX5 yX5_clear wsX5_clear) := goodIn_app (goodIn_of _ (by decide +kernel)) ggX5_become_X5_clear
set_option maxRecDepth 20000 in
theorem ggX5_become_X5_at : GoodIn wsX5_become wsX5_at := goodIn_r _ [10, 11, 12, 13, 14, 5, 15, 1, 28, 29] (by decide +kernel) (by decide +kernel)
set_option maxRecDepth 20000 in
theorem gX5_become_X5_at : GoodIn wsX5_become (wsV RX5 29 RX5 yX5_at wsX5_at) := goodIn_app (goodIn_of _ (by decide +kernel)) ggX5_become_X5_at
set_option maxRecDepth 20000 in
theorem ggX5_become_X5_add : GoodIn wsX5_become wsX5_add := goodIn_r _ [19, 1, 20, 21, 22, 5, 23, 11, 24, 25, 26, 27, 28, 29] (by decide +kernel) (by decide +kernel)
set_option maxRecDepth 20000 in
theorem gX5_become_X5_add : GoodIn wsX5_become (wsV RX5 22 RX5 yX5_add wsX5_add) := goodIn_app (goodIn_of _ (by decide +kernel)) ggX5_become_X5_add
theorem dX5_become_0 : decode cX5_become 0 = .ok (.aload_n 0, 1) := by decide +kernel
theorem dX5_become_1 : decode cX5_become 1 = .ok (.invokevirtual 46, 3) := by decide +kernel
theorem dX5_become_4 : decode cX5_become 4 = .ok (.iconst 0, 1) := by decide +kernel
theorem dX5_become_5 : decode cX5_become 5 = .ok (.istore_n 2, 1) := by decide +kernel
theorem dX5_become_6 : decode cX5_become 6 = .ok (.iload_n 2, 1) := by decide +kernel
theorem dX5_become_7 : decode cX5_become 7 = .ok (.aload_n 1, 1) := by decide +kernel
theorem dX5_become_8 : decode cX5_become 8 = .ok (.getfield 15, 3) := by decide +kernel
theorem dX5_become_11 : decode cX5_become 11 = .ok (.if_icmp .ge 18, 3) := by decide +kernel
theorem dX5_become_14 : decode cX5_become 14 = .ok (.aload_n 0, 1) := by decide +kernel
theorem dX5_become_15 : decode cX5_become 15 = .ok (.aload_n 1, 1) := by decide +kernel
theorem dX5_become_16 : decode cX5_become 16 = .ok (.iload_n 2, 1) := by decide +kernel
theorem dX5_become_17 : decode cX5_become 17 = .ok (.invokevirtual 29, 3) := by decide +kernel
theorem dX5_become_20 : decode cX5_become 20 = .ok (.invokevirtual 22, 3) := by decide +kernel
theorem dX5_become_23 : decode cX5_become 23 = .ok (.iinc 2 1, 3) := by decide +kernel
theorem dX5_become_26 : decode cX5_become 26 = .ok (.goto (-20), 3) := by decide +kernel
theorem dX5_become_29 : decode cX5_become 29 = .ok (.return_, 1) := by decide +kernel
set_option maxRecDepth 20000 in
theorem ggX6_init_X5_init : GoodIn wsX6_init wsX5_init := goodIn_r _ [15, 16, 2, 3, 17, 18, 19, 20, 21] (by decide +kernel) (by decide +kernel)
set_option maxRecDepth 20000 in
theorem gX6_init_X5_init : GoodIn wsX6_init (wsX5_init) := ggX6_init_X5_init
theorem dX6_init_0 : decode cX6_init 0 = .ok (.aload_n 0, 1) := by decide +kernel
theorem dX6_init_1 : decode cX6_init 1 = .ok (.invokespecial 3, 3) := by decide +kernel
theorem dX6_init_4 : decode cX6_init 4 = .ok (.aload_n 0, 1) := by decide +kernel
theorem dX6_init_5 : decode cX6_init 5 = .ok (.new 9, 3) := by decide +kernel
theorem dX6_init_8 : decode cX6_init 8 = .ok (.dup, 1) := by decide +kernel
theorem dX6_init_9 : decode cX6_init 9 = .ok (.sipush 300, 3) := by decide +kernel
theorem dX6_init_12 : decode cX6_init 12 = .ok (.invokespecial 11, 3) := by decide +kernel
theorem dX6_init_15 : decode cX6_init 15 = .ok (.putfield 14, 3) := by decide +kernel
theorem dX6_init_18 : decode cX6_init 18 = .ok (.aload_n 0, 1) := by decide +kernel
theorem dX6_init_19 : decode cX6_init 19 = .ok (.new 9, 3) := by decide +kernel
theorem dX6_init_22 : decode cX6_init 22 = .ok (.dup, 1) := by decide +kernel
theorem dX6_init_23 : decode cX6_init 23 = .ok (.sipush 300, 3) := by decide +kernel
theorem dX6_init_26 : decode cX6_init 26 = .ok (.invokespecial 11, 3) := by decide +kernel
theorem dX6_init_29 : decode cX6_init 29 = .ok (.putfield 20, 3) := by decide +kernel
theorem dX6_init_32 : decode cX6_init 32 = .ok (.aload_n 0, 1) := by decide +kernel
theorem dX6_init_33 : decode cX6_init 33 = .ok (.new 9, 3) := by decide +kernel
theorem dX6_init_36 : decode cX6_init 36 = .ok (.dup, 1) := by decide +kernel
theorem dX6_init_37 : decode cX6_init 37 = .ok (.sipush 300, 3) := by decide +kernel
theorem dX6_init_40 : decode cX6_init 40 = .ok (.invokespecial 11, 3) := by decide +kernel
theorem dX6_init_43 : decode cX6_init 43 = .ok (.putfield 23, 3) := by decide +kernel
theorem dX6_init_46 : decode cX6_init 46 = .ok (.aload_n 0, 1) := by decide +kernel
theorem dX6_init_47 : decode cX6_init 47 = .ok (.new 9, 3) := by decide +kernel
theorem dX6_init_50 : decode cX6_init 50 = .ok (.dup, 1) := by decide +kernel
theorem dX6_init_51 : decode cX6_init 51 = .ok (.sipush 300, 3) := by decide +kernel
theorem dX6_init_54 : decode cX6_init 54 = .ok (.invokespecial 11, 3) := by decide +kernel
theorem dX6_init_57 : decode cX6_init 57 = .ok (.putfield 26, 3) := by decide +kernel
theorem dX6_init_60 : decode cX6_init 60 = .ok (.aload_n 0, 1) := by decide +kernel
theorem dX6_init_61 : decode cX6_init 61 = .ok (.new 9, 3) := by decide +kernel
theorem dX6_init_64 : decode cX6_init 64 = .ok (.dup, 1) := by decide +kernel
theorem dX6_init_65 : decode cX6_init 65 = .ok (.sipush 300, 3) := by decide +kernel
theorem dX6_init_68 : decode cX6_init 68 = .ok (.invokespecial 11, 3) := by decide +kernel
theorem dX6_init_71 : decode cX6_init 71 = .ok (.putfield 29, 3) := by decide +kernel
theorem dX6_init_74 : decode cX6_init 74 = .ok (.aload_n 0, 1) := by decide +kernel
theorem dX6_init_75 : decode cX6_init 75 = .ok (.new 9, 3) := by decide +kernel
theorem dX6_init_78 : decode cX6_init 78 = .ok (.dup, 1) := by decide +kernel
theorem dX6_init_79 : decode cX6_init 79 = .ok (.sipush 300, 3) := by decide +kernel
theorem dX6_init_82 : decode cX6_init 82 = .ok (.invokespecial 11, 3) := by decide +kernel
theorem dX6_init_85 : decode cX6_init 85 = .ok (.putfield 32, 3) := by decide +kernel
theorem dX6_init_88 : decode cX6_init 88 = .ok (.return_, 1) := by decide +kernel
set_option maxRecDepth 20000 in
theorem ggX6_count_X5_size : GoodIn wsX6_count wsX5_size := goodIn_r _ [6, 7, 14, 15] (by decide +kernel) (by decide +kernel)
set_option maxRecDepth 20000 in
theorem gX6_count_X5_size : GoodIn wsX6_count (wsV RX6 35 RX5 yX5_size wsX5_size) := goodIn_app (goodIn_of _ (by decide +kernel)) ggX6_count_X5_size
theorem dX6_count_0 : decode cX6_count 0 = .ok (.aload_n 0, 1) := by decide +kernel
theorem dX6_count_1 : decode cX6_count 1 = .ok (.getfield 14, 3) := by decide +kernel
theorem dX6_count_4 : decode cX6_count 4 = .ok (.invokevirtual 35, 3) := by decide +kernel
theorem dX6_count_7 : decode cX6_count 7 = .ok (.ireturn, 1) := by decide +kernel
set_option maxRecDepth 20000 in
theorem ggX6_add_X5_add : GoodIn wsX6_add wsX5_add := goodIn_r _ [11, 12, 13, 14, 15, 10, 16, 17, 18, 19, 20, 21, 37, 38] (by decide +kernel) (by decide +kernel)
set_option maxRecDepth 20000 in
theorem gX6_add_X5_add : GoodIn wsX6_add (wsV RX6 39 RX5 yX5_add wsX5_add) := goodIn_app (goodIn_of _ (by decide +kernel)) ggX6_add_X5_add
set_option maxRecDepth 20000 in
theorem ggX6_add_X6_count : GoodIn wsX6_add wsX6_count := goodIn_r _ [26, 1, 27, 28, 29, 10, 30, 12, 31, 32, 33, 34, 35, 36, 37, 38] (by decide +kernel) (by decide +kernel)
set_option maxRecDepth 20000 in
theorem gX6_add_X6_count : GoodIn wsX6_add (wsV RX6 42 RX6 yX6_count wsX6_count) := goodIn_app (goodIn_of _ (by decide +kernel)) ggX6_add_X6_count
theorem dX6_add_0 : decode cX6_add 0 = .ok (.aload_n 0, 1) := by decide +kernel
theorem dX6_add_1 : decode cX6_add 1 = .ok (.getfield 14, 3) := by decide +kernel
theorem dX6_add_4 : decode cX6_add 4 = .ok (.iload_n 2, 1) := by decide +kernel
theorem dX6_add_5 : decode cX6_add 5 = .ok (.invokevirtual 39, 3) := by decide +kernel
theorem dX6_add_8 : decode cX6_add 8 = .ok (.aload_n 0, 1) := by decide +kernel
theorem dX6_add_9 : decode cX6_add 9 = .ok (.getfield 20, 3) := by decide +kernel
theorem dX6_add_12 : decode cX6_add 12 = .ok (.iload_n 1, 1) := by decide +kernel
theorem dX6_add_13 : decode cX6_add 13 = .ok (.invokevirtual 39, 3) := by decide +kernel
theorem dX6_add_16 : decode cX6_add 16 = .ok (.aload_n 0, 1) := by decide +kernel
theorem dX6_add_17 : decode cX6_add 17 = .ok (.getfield 23, 3) := by decide +kernel
theorem dX6_add_20 : decode cX6_add 20 = .ok (.iload_n 3, 1) := by decide +kernel
theorem dX6_add_21 : decode cX6_add 21 = .ok (.invokevirtual 39, 3) := by decide +kernel
theorem dX6_add_24 : decode cX6_add 24 = .ok (.aload_n 0, 1) := by decide +kernel
theorem dX6_add_25 : decode cX6_add 25 = .ok (.getfield 26, 3) := by decide +kernel
theorem dX6_add_28 : decode cX6_add 28 = .ok (.iconst 0, 1) := by decide +kernel
theorem dX6_add_29 : decode cX6_add 29 = .ok (.invokevirtual 39, 3) := by decide +kernel
theorem dX6_add_32 : decode cX6_add 32 = .ok (.aload_n 0, 1) := by decide +kernel
theorem dX6_add_33 : decode cX6_add 33 = .ok (.getfield 29, 3) := by decide +kernel
theorem dX6_add_36 : decode cX6_add 36 = .ok (.iconst (-1), 1) := by decide +kernel
theorem dX6_add_37 : decode cX6_add 37 = .ok (.invokevirtual 39, 3) := by decide +kernel
theorem dX6_add_40 : decode cX6_add 40 = .ok (.aload_n 0, 1) := by decide +kernel
theorem dX6_add_41 : decode cX6_add 41 = .ok (.getfield 32, 3) := by decide +kernel
theorem dX6_add_44 : decode cX6_add 44 = .ok (.iconst 0, 1) := by decide +kernel
theorem dX6_add_45 : decode cX6_add 45 = .ok (.invokevirtual 39, 3) := by decide +kernel
theorem dX6_add_48 : decode cX6_add 48 = .ok (.aload_n 0, 1) := by decide +kernel
theorem dX6_add_49 : decode cX6_add 49 = .ok (.invokevirtual 42, 3) := by decide +kernel
theorem dX6_add_52 : decode cX6_add 52 = .ok (.iconst 1, 1) := by decide +kernel
theorem dX6_add_53 : decode cX6_add 53 = .ok (.isub, 1) := by decide +kernel
theorem dX6_add_54 : decode cX6_add 54 = .ok (.ireturn, 1) := by decide +kernel
set_option maxRecDepth 20000 in
theorem ggX6_signOf_X5_at : GoodIn wsX6_signOf wsX5_at := goodIn_r _ [6, 7, 8, 9, 10, 5, 11, 12, 19, 20] (by decide +kernel) (by decide +kernel)
set_option maxRecDepth 20000 in
theorem gX6_signOf_X5_at : GoodIn wsX6_signOf (wsV RX6 45 RX5 yX5_at wsX5_at) := goodIn_app (goodIn_of _ (by decide +kernel)) ggX6_signOf_X5_at
theorem dX6_signOf_0 : decode cX6_signOf 0 = .ok (.aload_n 0, 1) := by decide +kernel
theorem dX6_signOf_1 : decode cX6_signOf 1 = .ok (.getfield 14, 3) := by decide +kernel
theorem dX6_signOf_4 : decode cX6_signOf 4 = .ok (.iload_n 1, 1) := by decide +kernel
theorem dX6_signOf_5 : decode cX6_signOf 5 = .ok (.invokevirtual 45, 3) := by decide +kernel
theorem dX6_signOf_8 : decode cX6_signOf 8 = .ok (.ireturn, 1) := by decide +kernel
set_option maxRecDepth 20000 in
theorem ggX6_writerOf_X5_at : GoodIn wsX6_writerOf wsX5_at := goodIn_r _ [6, 7, 8, 9, 10, 5, 11, 12, 19, 20] (by decide +kernel) (by decide +kernel)
set_option maxRecDepth 20000 in
theorem gX6_writerOf_X5_at : GoodIn wsX6_writerOf (wsV RX6 45 RX5 yX5_at wsX5_at) := goodIn_app (goodIn_of _ (by decide +kernel)) ggX6_writerOf_X5_at
theorem dX6_writerOf_0 : decode cX6_writerOf 0 = .ok (.aload_n 0, 1) := by decide +kernel
theorem dX6_writerOf_1 : decode cX6_writerOf 1 = .ok (.getfield 20, 3) := by decide +kernel
theorem dX6_writerOf_4 : decode cX6_writerOf 4 = .ok (.iload_n 1, 1) := by decide +kernel
theorem dX6_writerOf_5 : decode cX6_writerOf 5 = .ok (.invokevirtual 45, 3) := by decide +kernel
theorem dX6_writerOf_8 : decode cX6_writerOf 8 = .ok (.ireturn, 1) := by decide +kernel
set_option maxRecDepth 20000 in
theorem ggX6_anchorOf_X5_at : GoodIn wsX6_anchorOf wsX5_at := goodIn_r _ [6, 7, 8, 9, 10, 5, 11, 12, 19, 20] (by decide +kernel) (by decide +kernel)
set_option maxRecDepth 20000 in
theorem gX6_anchorOf_X5_at : GoodIn wsX6_anchorOf (wsV RX6 45 RX5 yX5_at wsX5_at) := goodIn_app (goodIn_of _ (by decide +kernel)) ggX6_anchorOf_X5_at
theorem dX6_anchorOf_0 : decode cX6_anchorOf 0 = .ok (.aload_n 0, 1) := by decide +kernel
theorem dX6_anchorOf_1 : decode cX6_anchorOf 1 = .ok (.getfield 23, 3) := by decide +kernel
theorem dX6_anchorOf_4 : decode cX6_anchorOf 4 = .ok (.iload_n 1, 1) := by decide +kernel
theorem dX6_anchorOf_5 : decode cX6_anchorOf 5 = .ok (.invokevirtual 45, 3) := by decide +kernel
theorem dX6_anchorOf_8 : decode cX6_anchorOf 8 = .ok (.ireturn, 1) := by decide +kernel
set_option maxRecDepth 20000 in
theorem ggX6_cameIn_X5_at : GoodIn wsX6_cameIn wsX5_at := goodIn_r _ [6, 7, 8, 9, 10, 5, 11, 12, 19, 20] (by decide +kernel) (by decide +kernel)
set_option maxRecDepth 20000 in
theorem gX6_cameIn_X5_at : GoodIn wsX6_cameIn (wsV RX6 45 RX5 yX5_at wsX5_at) := goodIn_app (goodIn_of _ (by decide +kernel)) ggX6_cameIn_X5_at
theorem dX6_cameIn_0 : decode cX6_cameIn 0 = .ok (.aload_n 0, 1) := by decide +kernel
theorem dX6_cameIn_1 : decode cX6_cameIn 1 = .ok (.getfield 26, 3) := by decide +kernel
theorem dX6_cameIn_4 : decode cX6_cameIn 4 = .ok (.iload_n 1, 1) := by decide +kernel
theorem dX6_cameIn_5 : decode cX6_cameIn 5 = .ok (.invokevirtual 45, 3) := by decide +kernel
theorem dX6_cameIn_8 : decode cX6_cameIn 8 = .ok (.iconst 1, 1) := by decide +kernel
theorem dX6_cameIn_9 : decode cX6_cameIn 9 = .ok (.if_icmp .eq 15, 3) := by decide +kernel
theorem dX6_cameIn_12 : decode cX6_cameIn 12 = .ok (.aload_n 0, 1) := by decide +kernel
theorem dX6_cameIn_13 : decode cX6_cameIn 13 = .ok (.getfield 26, 3) := by decide +kernel
theorem dX6_cameIn_16 : decode cX6_cameIn 16 = .ok (.iload_n 1, 1) := by decide +kernel
theorem dX6_cameIn_17 : decode cX6_cameIn 17 = .ok (.invokevirtual 45, 3) := by decide +kernel
theorem dX6_cameIn_20 : decode cX6_cameIn 20 = .ok (.iconst 2, 1) := by decide +kernel
theorem dX6_cameIn_21 : decode cX6_cameIn 21 = .ok (.if_icmp .ne 7, 3) := by decide +kernel
theorem dX6_cameIn_24 : decode cX6_cameIn 24 = .ok (.iconst 1, 1) := by decide +kernel
theorem dX6_cameIn_25 : decode cX6_cameIn 25 = .ok (.goto 4, 3) := by decide +kernel
theorem dX6_cameIn_28 : decode cX6_cameIn 28 = .ok (.iconst 0, 1) := by decide +kernel
theorem dX6_cameIn_29 : decode cX6_cameIn 29 = .ok (.ireturn, 1) := by decide +kernel
set_option maxRecDepth 20000 in
theorem ggX6_isThere_X5_at : GoodIn wsX6_isThere wsX5_at := goodIn_r _ [6, 7, 8, 9, 10, 5, 11, 12, 19, 20] (by decide +kernel) (by decide +kernel)
set_option maxRecDepth 20000 in
theorem gX6_isThere_X5_at : GoodIn wsX6_isThere (wsV RX6 45 RX5 yX5_at wsX5_at) := goodIn_app (goodIn_of _ (by decide +kernel)) ggX6_isThere_X5_at
theorem dX6_isThere_0 : decode cX6_isThere 0 = .ok (.aload_n 0, 1) := by decide +kernel
theorem dX6_isThere_1 : decode cX6_isThere 1 = .ok (.getfield 26, 3) := by decide +kernel
theorem dX6_isThere_4 : decode cX6_isThere 4 = .ok (.iload_n 1, 1) := by decide +kernel
theorem dX6_isThere_5 : decode cX6_isThere 5 = .ok (.invokevirtual 45, 3) := by decide +kernel
theorem dX6_isThere_8 : decode cX6_isThere 8 = .ok (.iconst 1, 1) := by decide +kernel
theorem dX6_isThere_9 : decode cX6_isThere 9 = .ok (.if_icmp .ne 7, 3) := by decide +kernel
theorem dX6_isThere_12 : decode cX6_isThere 12 = .ok (.iconst 1, 1) := by decide +kernel
theorem dX6_isThere_13 : decode cX6_isThere 13 = .ok (.goto 4, 3) := by decide +kernel
theorem dX6_isThere_16 : decode cX6_isThere 16 = .ok (.iconst 0, 1) := by decide +kernel
theorem dX6_isThere_17 : decode cX6_isThere 17 = .ok (.ireturn, 1) := by decide +kernel
set_option maxRecDepth 20000 in
theorem ggX6_setThere_X5_set : GoodIn wsX6_setThere wsX5_set := goodIn_r _ [6, 7, 8, 9, 10, 5, 11, 12, 19, 20] (by decide +kernel) (by decide +kernel)
set_option maxRecDepth 20000 in
theorem gX6_setThere_X5_set : GoodIn wsX6_setThere (wsV RX6 49 RX5 yX5_set wsX5_set) := goodIn_app (goodIn_of _ (by decide +kernel)) ggX6_setThere_X5_set
theorem dX6_setThere_0 : decode cX6_setThere 0 = .ok (.aload_n 0, 1) := by decide +kernel
theorem dX6_setThere_1 : decode cX6_setThere 1 = .ok (.getfield 26, 3) := by decide +kernel
theorem dX6_setThere_4 : decode cX6_setThere 4 = .ok (.iload_n 1, 1) := by decide +kernel
theorem dX6_setThere_5 : decode cX6_setThere 5 = .ok (.iconst 1, 1) := by decide +kernel
theorem dX6_setThere_6 : decode cX6_setThere 6 = .ok (.invokevirtual 49, 3) := by decide +kernel
theorem dX6_setThere_9 : decode cX6_setThere 9 = .ok (.return_, 1) := by decide +kernel
set_option maxRecDepth 20000 in
theorem ggX6_setDeleted_X5_set : GoodIn wsX6_setDeleted wsX5_set := goodIn_r _ [6, 7, 8, 9, 10, 5, 11, 12, 19, 20] (by decide +kernel) (by decide +kernel)
set_option maxRecDepth 20000 in
theorem gX6_setDeleted_X5_set : GoodIn wsX6_setDeleted (wsV RX6 49 RX5 yX5_set wsX5_set) := goodIn_app (goodIn_of _ (by decide +kernel)) ggX6_setDeleted_X5_set
theorem dX6_setDeleted_0 : decode cX6_setDeleted 0 = .ok (.aload_n 0, 1) := by decide +kernel
theorem dX6_setDeleted_1 : decode cX6_setDeleted 1 = .ok (.getfield 26, 3) := by decide +kernel
theorem dX6_setDeleted_4 : decode cX6_setDeleted 4 = .ok (.iload_n 1, 1) := by decide +kernel
theorem dX6_setDeleted_5 : decode cX6_setDeleted 5 = .ok (.iconst 2, 1) := by decide +kernel
theorem dX6_setDeleted_6 : decode cX6_setDeleted 6 = .ok (.invokevirtual 49, 3) := by decide +kernel
theorem dX6_setDeleted_9 : decode cX6_setDeleted 9 = .ok (.return_, 1) := by decide +kernel
set_option maxRecDepth 20000 in
theorem ggX6_reviewOf_X5_at : GoodIn wsX6_reviewOf wsX5_at := goodIn_r _ [6, 7, 8, 9, 10, 5, 11, 12, 19, 20] (by decide +kernel) (by decide +kernel)
set_option maxRecDepth 20000 in
theorem gX6_reviewOf_X5_at : GoodIn wsX6_reviewOf (wsV RX6 45 RX5 yX5_at wsX5_at) := goodIn_app (goodIn_of _ (by decide +kernel)) ggX6_reviewOf_X5_at
theorem dX6_reviewOf_0 : decode cX6_reviewOf 0 = .ok (.aload_n 0, 1) := by decide +kernel
theorem dX6_reviewOf_1 : decode cX6_reviewOf 1 = .ok (.getfield 29, 3) := by decide +kernel
theorem dX6_reviewOf_4 : decode cX6_reviewOf 4 = .ok (.iload_n 1, 1) := by decide +kernel
theorem dX6_reviewOf_5 : decode cX6_reviewOf 5 = .ok (.invokevirtual 45, 3) := by decide +kernel
theorem dX6_reviewOf_8 : decode cX6_reviewOf 8 = .ok (.ireturn, 1) := by decide +kernel
set_option maxRecDepth 20000 in
theorem ggX6_isFrozen_X6_reviewOf : GoodIn wsX6_isFrozen wsX6_reviewOf := goodIn_r _ [5, 6, 7, 8, 9, 10, 11, 12, 13, 14, 15, 16, 17, 18, 19, 20, 21, 22, 23, 24, 25] (by decide +kernel) (by decide +kernel)
set_option maxRecDepth 20000 in
theorem gX6_isFrozen_X6_reviewOf : GoodIn wsX6_isFrozen (wsV RX6 53 RX6 yX6_reviewOf wsX6_reviewOf) := goodIn_app (goodIn_of _ (by decide +kernel)) ggX6_isFrozen_X6_reviewOf
theorem dX6_isFrozen_0 : decode cX6_isFrozen 0 = .ok (.aload_n 0, 1) := by decide +kernel
theorem dX6_isFrozen_1 : decode cX6_isFrozen 1 = .ok (.iload_n 1, 1) := by decide +kernel
theorem dX6_isFrozen_2 : decode cX6_isFrozen 2 = .ok (.invokevirtual 53, 3) := by decide +kernel
theorem dX6_isFrozen_5 : decode cX6_isFrozen 5 = .ok (.iconst (-1), 1) := by decide +kernel
theorem dX6_isFrozen_6 : decode cX6_isFrozen 6 = .ok (.if_icmp .eq 7, 3) := by decide +kernel
theorem dX6_isFrozen_9 : decode cX6_isFrozen 9 = .ok (.iconst 1, 1) := by decide +kernel
theorem dX6_isFrozen_10 : decode cX6_isFrozen 10 = .ok (.goto 4, 3) := by decide +kernel
theorem dX6_isFrozen_13 : decode cX6_isFrozen 13 = .ok (.iconst 0, 1) := by decide +kernel
theorem dX6_isFrozen_14 : decode cX6_isFrozen 14 = .ok (.ireturn, 1) := by decide +kernel
set_option maxRecDepth 20000 in
theorem ggX6_setFrozen_X5_set : GoodIn wsX6_setFrozen wsX5_set := goodIn_r _ [6, 7, 8, 9, 10, 5, 11, 12, 19, 20] (by decide +kernel) (by decide +kernel)
set_option maxRecDepth 20000 in
theorem gX6_setFrozen_X5_set : GoodIn wsX6_setFrozen (wsV RX6 49 RX5 yX5_set wsX5_set) := goodIn_app (goodIn_of _ (by decide +kernel)) ggX6_setFrozen_X5_set
theorem dX6_setFrozen_0 : decode cX6_setFrozen 0 = .ok (.aload_n 0, 1) := by decide +kernel
theorem dX6_setFrozen_1 : decode cX6_setFrozen 1 = .ok (.getfield 29, 3) := by decide +kernel
theorem dX6_setFrozen_4 : decode cX6_setFrozen 4 = .ok (.iload_n 1, 1) := by decide +kernel
theorem dX6_setFrozen_5 : decode cX6_setFrozen 5 = .ok (.iload_n 2, 1) := by decide +kernel
theorem dX6_setFrozen_6 : decode cX6_setFrozen 6 = .ok (.invokevirtual 49, 3) := by decide +kernel
theorem dX6_setFrozen_9 : decode cX6_setFrozen 9 = .ok (.return_, 1) := by decide +kernel
set_option maxRecDepth 20000 in
theorem ggX6_unfreeze_X6_count : GoodIn wsX6_unfreeze wsX6_count := goodIn_r _ [6, 7, 8, 9, 10, 11, 12, 13, 31, 32, 33, 34, 35, 36, 37, 38] (by decide +kernel) (by decide +kernel)
set_option maxRecDepth 20000 in
theorem gX6_unfreeze_X6_count : GoodIn wsX6_unfreeze (wsV RX6 42 RX6 yX6_count wsX6_count) := goodIn_app (goodIn_of _ (by decide +kernel)) ggX6_unfreeze_X6_count
set_option maxRecDepth 20000 in
theorem ggX6_unfreeze_X6_reviewOf : GoodIn wsX6_unfreeze wsX6_reviewOf := goodIn_r _ [17, 1, 18, 19, 20, 11, 21, 22, 23, 24, 25, 26, 13, 31, 32, 33, 34, 35, 36, 37, 38] (by decide +kernel) (by decide +kernel)
set_option maxRecDepth 20000 in
theorem gX6_unfreeze_X6_reviewOf : GoodIn wsX6_unfreeze (wsV RX6 53 RX6 yX6_reviewOf wsX6_reviewOf) := goodIn_app (goodIn_of _ (by decide +kernel)) ggX6_unfreeze_X6_reviewOf
set_option maxRecDepth 20000 in
theorem ggX6_unfreeze_X5_set : GoodIn wsX6_unfreeze wsX5_set := goodIn_r _ [30, 22, 23, 24, 25, 11, 26, 13, 37, 38] (by decide +kernel) (by decide +kernel)
set_option maxRecDepth 20000 in
theorem gX6_unfreeze_X5_set : GoodIn wsX6_unfreeze (wsV RX6 49 RX5 yX5_set wsX5_set) := goodIn_app (goodIn_of _ (by decide +kernel)) ggX6_unfreeze_X5_set
theorem dX6_unfreeze_0 : decode cX6_unfreeze 0 = .ok (.iconst 0, 1) := by decide +kernel
theorem dX6_unfreeze_1 : decode cX6_unfreeze 1 = .ok (.istore_n 2, 1) := by decide +kernel
theorem dX6_unfreeze_2 : decode cX6_unfreeze 2 = .ok (.iconst 0, 1) := by decide +kernel
theorem dX6_unfreeze_3 : decode cX6_unfreeze 3 = .ok (.istore_n 3, 1) := by decide +kernel
theorem dX6_unfreeze_4 : decode cX6_unfreeze 4 = .ok (.iload_n 3, 1) := by decide +kernel
theorem dX6_unfreeze_5 : decode cX6_unfreeze 5 = .ok (.aload_n 0, 1) := by decide +kernel
theorem dX6_unfreeze_6 : decode cX6_unfreeze 6 = .ok (.invokevirtual 42, 3) := by decide +kernel
theorem dX6_unfreeze_9 : decode cX6_unfreeze 9 = .ok (.if_icmp .ge 30, 3) := by decide +kernel
theorem dX6_unfreeze_12 : decode cX6_unfreeze 12 = .ok (.aload_n 0, 1) := by decide +kernel
theorem dX6_unfreeze_13 : decode cX6_unfreeze 13 = .ok (.iload_n 3, 1) := by decide +kernel
theorem dX6_unfreeze_14 : decode cX6_unfreeze 14 = .ok (.invokevirtual 53, 3) := by decide +kernel
theorem dX6_unfreeze_17 : decode cX6_unfreeze 17 = .ok (.iload_n 1, 1) := by decide +kernel
theorem dX6_unfreeze_18 : decode cX6_unfreeze 18 = .ok (.if_icmp .ne 15, 3) := by decide +kernel
theorem dX6_unfreeze_21 : decode cX6_unfreeze 21 = .ok (.aload_n 0, 1) := by decide +kernel
theorem dX6_unfreeze_22 : decode cX6_unfreeze 22 = .ok (.getfield 29, 3) := by decide +kernel
theorem dX6_unfreeze_25 : decode cX6_unfreeze 25 = .ok (.iload_n 3, 1) := by decide +kernel
theorem dX6_unfreeze_26 : decode cX6_unfreeze 26 = .ok (.iconst (-1), 1) := by decide +kernel
theorem dX6_unfreeze_27 : decode cX6_unfreeze 27 = .ok (.invokevirtual 49, 3) := by decide +kernel
theorem dX6_unfreeze_30 : decode cX6_unfreeze 30 = .ok (.iinc 2 1, 3) := by decide +kernel
theorem dX6_unfreeze_33 : decode cX6_unfreeze 33 = .ok (.iinc 3 1, 3) := by decide +kernel
theorem dX6_unfreeze_36 : decode cX6_unfreeze 36 = .ok (.goto (-32), 3) := by decide +kernel
theorem dX6_unfreeze_39 : decode cX6_unfreeze 39 = .ok (.iload_n 2, 1) := by decide +kernel
theorem dX6_unfreeze_40 : decode cX6_unfreeze 40 = .ok (.ireturn, 1) := by decide +kernel
set_option maxRecDepth 20000 in
theorem ggX6_keepIn_X6_count : GoodIn wsX6_keepIn wsX6_count := goodIn_r _ [6, 7, 8, 9, 10, 11, 12, 13, 32, 33, 34, 35, 36, 37, 38, 39] (by decide +kernel) (by decide +kernel)
set_option maxRecDepth 20000 in
theorem gX6_keepIn_X6_count : GoodIn wsX6_keepIn (wsV RX6 42 RX6 yX6_count wsX6_count) := goodIn_app (goodIn_of _ (by decide +kernel)) ggX6_keepIn_X6_count
set_option maxRecDepth 20000 in
theorem ggX6_keepIn_X6_isThere : GoodIn wsX6_keepIn wsX6_isThere := goodIn_r _ [17, 18, 19, 20, 21, 11, 22, 23, 24, 25, 26, 27, 13, 32, 33, 34, 35, 36, 37, 38, 39] (by decide +kernel) (by decide +kernel)
set_option maxRecDepth 20000 in
theorem gX6_keepIn_X6_isThere : GoodIn wsX6_keepIn (wsV RX6 56 RX6 yX6_isThere wsX6_isThere) := goodIn_app (goodIn_of _ (by decide +kernel)) ggX6_keepIn_X6_isThere
set_option maxRecDepth 20000 in
theorem ggX6_keepIn_X5_at : GoodIn wsX6_keepIn wsX5_at := goodIn_r _ [22, 23, 24, 25, 26, 11, 27, 13, 38, 39] (by decide +kernel) (by decide +kernel)
set_option maxRecDepth 20000 in
theorem gX6_keepIn_X5_at : GoodIn wsX6_keepIn (wsV RX6 45 RX5 yX5_at wsX5_at) := goodIn_app (goodIn_of _ (by decide +kernel)) ggX6_keepIn_X5_at
set_option maxRecDepth 20000 in
theorem ggX6_keepIn_X5_set : GoodIn wsX6_keepIn wsX5_set := goodIn_r _ [31, 23, 24, 25, 26, 11, 27, 13, 38, 39] (by decide +kernel) (by decide +kernel)
set_option maxRecDepth 20000 in
theorem gX6_keepIn_X5_set : GoodIn wsX6_keepIn (wsV RX6 49 RX5 yX5_set wsX5_set) := goodIn_app (goodIn_of _ (by decide +kernel)) ggX6_keepIn_X5_set
theorem dX6_keepIn_0 : decode cX6_keepIn 0 = .ok (.iconst 0, 1) := by decide +kernel
theorem dX6_keepIn_1 : decode cX6_keepIn 1 = .ok (.istore_n 2, 1) := by decide +kernel
theorem dX6_keepIn_2 : decode cX6_keepIn 2 = .ok (.iload_n 2, 1) := by decide +kernel
theorem dX6_keepIn_3 : decode cX6_keepIn 3 = .ok (.aload_n 0, 1) := by decide +kernel
theorem dX6_keepIn_4 : decode cX6_keepIn 4 = .ok (.invokevirtual 42, 3) := by decide +kernel
theorem dX6_keepIn_7 : decode cX6_keepIn 7 = .ok (.if_icmp .ge 37, 3) := by decide +kernel
theorem dX6_keepIn_10 : decode cX6_keepIn 10 = .ok (.aload_n 0, 1) := by decide +kernel
theorem dX6_keepIn_11 : decode cX6_keepIn 11 = .ok (.iload_n 2, 1) := by decide +kernel
theorem dX6_keepIn_12 : decode cX6_keepIn 12 = .ok (.invokevirtual 56, 3) := by decide +kernel
theorem dX6_keepIn_15 : decode cX6_keepIn 15 = .ok (.ifCond .eq 23, 3) := by decide +kernel
theorem dX6_keepIn_18 : decode cX6_keepIn 18 = .ok (.aload_n 0, 1) := by decide +kernel
theorem dX6_keepIn_19 : decode cX6_keepIn 19 = .ok (.getfield 32, 3) := by decide +kernel
theorem dX6_keepIn_22 : decode cX6_keepIn 22 = .ok (.iload_n 2, 1) := by decide +kernel
theorem dX6_keepIn_23 : decode cX6_keepIn 23 = .ok (.aload_n 0, 1) := by decide +kernel
theorem dX6_keepIn_24 : decode cX6_keepIn 24 = .ok (.getfield 32, 3) := by decide +kernel
theorem dX6_keepIn_27 : decode cX6_keepIn 27 = .ok (.iload_n 2, 1) := by decide +kernel
theorem dX6_keepIn_28 : decode cX6_keepIn 28 = .ok (.invokevirtual 45, 3) := by decide +kernel
theorem dX6_keepIn_31 : decode cX6_keepIn 31 = .ok (.iconst 1, 1) := by decide +kernel
theorem dX6_keepIn_32 : decode cX6_keepIn 32 = .ok (.iload_n 1, 1) := by decide +kernel
theorem dX6_keepIn_33 : decode cX6_keepIn 33 = .ok (.ishl, 1) := by decide +kernel
theorem dX6_keepIn_34 : decode cX6_keepIn 34 = .ok (.ior, 1) := by decide +kernel
theorem dX6_keepIn_35 : decode cX6_keepIn 35 = .ok (.invokevirtual 49, 3) := by decide +kernel
theorem dX6_keepIn_38 : decode cX6_keepIn 38 = .ok (.iinc 2 1, 3) := by decide +kernel
theorem dX6_keepIn_41 : decode cX6_keepIn 41 = .ok (.goto (-39), 3) := by decide +kernel
theorem dX6_keepIn_44 : decode cX6_keepIn 44 = .ok (.return_, 1) := by decide +kernel
set_option maxRecDepth 20000 in
theorem ggX7_init_X5_init : GoodIn wsX7_init wsX5_init := goodIn_r _ [14, 15, 2, 3, 16, 17, 18, 25, 26] (by decide +kernel) (by decide +kernel)
set_option maxRecDepth 20000 in
theorem gX7_init_X5_init : GoodIn wsX7_init (wsX5_init) := ggX7_init_X5_init
set_option maxRecDepth 20000 in
theorem ggX7_init_X0_init : GoodIn wsX7_init wsX0_init := goodIn_r _ [20, 21, 2, 3, 22, 5, 6, 23, 24, 13, 14, 15, 16, 17, 18, 25, 26, 29] (by decide +kernel) (by decide +kernel)
set_option maxRecDepth 20000 in
theorem gX7_init_X0_init_n22 : GoodIn wsX7_init (wsX0_init) := ggX7_init_X0_init
theorem dX7_init_0 : decode cX7_init 0 = .ok (.aload_n 0, 1) := by decide +kernel
theorem dX7_init_1 : decode cX7_init 1 = .ok (.invokespecial 3, 3) := by decide +kernel
theorem dX7_init_4 : decode cX7_init 4 = .ok (.aload_n 0, 1) := by decide +kernel
theorem dX7_init_5 : decode cX7_init 5 = .ok (.new 9, 3) := by decide +kernel
theorem dX7_init_8 : decode cX7_init 8 = .ok (.dup, 1) := by decide +kernel
theorem dX7_init_9 : decode cX7_init 9 = .ok (.sipush 300, 3) := by decide +kernel
theorem dX7_init_12 : decode cX7_init 12 = .ok (.invokespecial 11, 3) := by decide +kernel
theorem dX7_init_15 : decode cX7_init 15 = .ok (.putfield 14, 3) := by decide +kernel
theorem dX7_init_18 : decode cX7_init 18 = .ok (.aload_n 0, 1) := by decide +kernel
theorem dX7_init_19 : decode cX7_init 19 = .ok (.new 20, 3) := by decide +kernel
theorem dX7_init_22 : decode cX7_init 22 = .ok (.dup, 1) := by decide +kernel
theorem dX7_init_23 : decode cX7_init 23 = .ok (.invokespecial 22, 3) := by decide +kernel
theorem dX7_init_26 : decode cX7_init 26 = .ok (.putfield 23, 3) := by decide +kernel
theorem dX7_init_29 : decode cX7_init 29 = .ok (.return_, 1) := by decide +kernel
theorem dX7_copied_0 : decode cX7_copied 0 = .ok (.aload_n 0, 1) := by decide +kernel
theorem dX7_copied_1 : decode cX7_copied 1 = .ok (.getfield 14, 3) := by decide +kernel
theorem dX7_copied_4 : decode cX7_copied 4 = .ok (.areturn, 1) := by decide +kernel
set_option maxRecDepth 20000 in
theorem ggX7_unmerged_X0_count : GoodIn wsX7_unmerged wsX0_count := goodIn_r _ [6, 7, 8, 9, 10, 11, 12, 13, 16, 17, 18] (by decide +kernel) (by decide +kernel)
set_option maxRecDepth 20000 in
theorem gX7_unmerged_X0_count : GoodIn wsX7_unmerged (wsV RX7 27 RX0 yX0_count wsX0_count) := goodIn_app (goodIn_of _ (by decide +kernel)) ggX7_unmerged_X0_count
theorem dX7_unmerged_0 : decode cX7_unmerged 0 = .ok (.aload_n 0, 1) := by decide +kernel
theorem dX7_unmerged_1 : decode cX7_unmerged 1 = .ok (.getfield 23, 3) := by decide +kernel
theorem dX7_unmerged_4 : decode cX7_unmerged 4 = .ok (.invokevirtual 27, 3) := by decide +kernel
theorem dX7_unmerged_7 : decode cX7_unmerged 7 = .ok (.ireturn, 1) := by decide +kernel
set_option maxRecDepth 20000 in
theorem ggX7_putIn_X5_insert : GoodIn wsX7_putIn wsX5_insert := goodIn_r _ [7, 8, 9, 10, 11, 12, 13, 27, 28] (by decide +kernel) (by decide +kernel)
set_option maxRecDepth 20000 in
theorem gX7_putIn_X5_insert : GoodIn wsX7_putIn (wsV RX7 31 RX5 yX5_insert wsX5_insert) := goodIn_app (goodIn_of _ (by decide +kernel)) ggX7_putIn_X5_insert
set_option maxRecDepth 20000 in
theorem ggX7_putIn_X0_addTyped : GoodIn wsX7_putIn wsX0_addTyped := goodIn_r _ [18, 19, 20, 21, 22, 6, 23, 8, 24, 4, 5, 7, 9, 10, 11, 12, 13, 29, 27, 28] (by decide +kernel) (by decide +kernel)
set_option maxRecDepth 20000 in
theorem gX7_putIn_X0_addTyped : GoodIn wsX7_putIn (wsV RX7 35 RX0 yX0_addTyped wsX0_addTyped) := goodIn_app (goodIn_of _ (by decide +kernel)) ggX7_putIn_X0_addTyped
theorem dX7_putIn_0 : decode cX7_putIn 0 = .ok (.aload_n 0, 1) := by decide +kernel
theorem dX7_putIn_1 : decode cX7_putIn 1 = .ok (.getfield 14, 3) := by decide +kernel
theorem dX7_putIn_4 : decode cX7_putIn 4 = .ok (.iload_n 1, 1) := by decide +kernel
theorem dX7_putIn_5 : decode cX7_putIn 5 = .ok (.iload_n 2, 1) := by decide +kernel
theorem dX7_putIn_6 : decode cX7_putIn 6 = .ok (.invokevirtual 31, 3) := by decide +kernel
theorem dX7_putIn_9 : decode cX7_putIn 9 = .ok (.aload_n 0, 1) := by decide +kernel
theorem dX7_putIn_10 : decode cX7_putIn 10 = .ok (.getfield 23, 3) := by decide +kernel
theorem dX7_putIn_13 : decode cX7_putIn 13 = .ok (.iload_n 2, 1) := by decide +kernel
theorem dX7_putIn_14 : decode cX7_putIn 14 = .ok (.invokevirtual 35, 3) := by decide +kernel
theorem dX7_putIn_17 : decode cX7_putIn 17 = .ok (.return_, 1) := by decide +kernel
set_option maxRecDepth 20000 in
theorem ggX7_takeOut_X5_remove : GoodIn wsX7_takeOut wsX5_remove := goodIn_r _ [7, 8, 9, 10, 11, 12, 13, 14, 15, 16, 6, 17, 34, 35] (by decide +kernel) (by decide +kernel)
set_option maxRecDepth 20000 in
theorem gX7_takeOut_X5_remove : GoodIn wsX7_takeOut (wsV RX7 38 RX5 yX5_remove wsX5_remove) := goodIn_app (goodIn_of _ (by decide +kernel)) ggX7_takeOut_X5_remove
set_option maxRecDepth 20000 in
theorem ggX7_takeOut_X0_addDeleted : GoodIn wsX7_takeOut wsX0_addDeleted := goodIn_r _ [22, 23, 24, 25, 26, 6, 27, 9, 28, 29, 30, 31, 8, 10, 11, 12, 13, 36, 34, 35] (by decide +kernel) (by decide +kernel)
set_option maxRecDepth 20000 in
theorem gX7_takeOut_X0_addDeleted : GoodIn wsX7_takeOut (wsV RX7 42 RX0 yX0_addDeleted wsX0_addDeleted) := goodIn_app (goodIn_of _ (by decide +kernel)) ggX7_takeOut_X0_addDeleted
theorem dX7_takeOut_0 : decode cX7_takeOut 0 = .ok (.aload_n 0, 1) := by decide +kernel
theorem dX7_takeOut_1 : decode cX7_takeOut 1 = .ok (.getfield 14, 3) := by decide +kernel
theorem dX7_takeOut_4 : decode cX7_takeOut 4 = .ok (.iload_n 1, 1) := by decide +kernel
theorem dX7_takeOut_5 : decode cX7_takeOut 5 = .ok (.invokevirtual 38, 3) := by decide +kernel
theorem dX7_takeOut_8 : decode cX7_takeOut 8 = .ok (.istore_n 2, 1) := by decide +kernel
theorem dX7_takeOut_9 : decode cX7_takeOut 9 = .ok (.aload_n 0, 1) := by decide +kernel
theorem dX7_takeOut_10 : decode cX7_takeOut 10 = .ok (.getfield 23, 3) := by decide +kernel
theorem dX7_takeOut_13 : decode cX7_takeOut 13 = .ok (.iload_n 2, 1) := by decide +kernel
theorem dX7_takeOut_14 : decode cX7_takeOut 14 = .ok (.invokevirtual 42, 3) := by decide +kernel
theorem dX7_takeOut_17 : decode cX7_takeOut 17 = .ok (.iload_n 2, 1) := by decide +kernel
theorem dX7_takeOut_18 : decode cX7_takeOut 18 = .ok (.ireturn, 1) := by decide +kernel
set_option maxRecDepth 20000 in
theorem ggX7_mergeInto_X0_count : GoodIn wsX7_mergeInto wsX0_count := goodIn_r _ [7, 8, 9, 10, 11, 12, 13, 14, 146, 147, 148] (by decide +kernel) (by decide +kernel)
set_option maxRecDepth 20000 in
theorem gX7_mergeInto_X0_count : GoodIn wsX7_mergeInto (wsV RX7 27 RX0 yX0_count wsX0_count) := goodIn_app (goodIn_of _ (by decide +kernel)) ggX7_mergeInto_X0_count
set_option maxRecDepth 20000 in
theorem ggX7_mergeInto_X0_numberAt : GoodIn wsX7_mergeInto wsX0_numberAt := goodIn_r _ [18, 8, 19, 20, 21, 6, 22, 23, 24, 25, 12, 26, 27, 28, 29, 30, 31, 14, 146, 147, 148] (by decide +kernel) (by decide +kernel)
set_option maxRecDepth 20000 in
theorem gX7_mergeInto_X0_numberAt : GoodIn wsX7_mergeInto (wsV RX7 45 RX0 yX0_numberAt wsX0_numberAt) := goodIn_app (goodIn_of _ (by decide +kernel)) ggX7_mergeInto_X0_numberAt
set_option maxRecDepth 20000 in
theorem ggX7_mergeInto_X0_isTyped : GoodIn wsX7_mergeInto wsX0_isTyped := goodIn_r _ [22, 8, 23, 24, 25, 12, 26, 27, 28, 29, 30, 31, 14, 146, 147, 148] (by decide +kernel) (by decide +kernel)
set_option maxRecDepth 20000 in
theorem gX7_mergeInto_X0_isTyped : GoodIn wsX7_mergeInto (wsV RX7 48 RX0 yX0_isTyped wsX0_isTyped) := goodIn_app (goodIn_of _ (by decide +kernel)) ggX7_mergeInto_X0_isTyped
set_option maxRecDepth 20000 in
theorem ggX7_mergeInto_X2_putIn : GoodIn wsX7_mergeInto wsX2_putIn := goodIn_r _ [37, 38, 39, 40, 41, 42, 43, 36, 44, 45, 46, 47, 48, 49, 50, 51, 24, 25, 12, 26, 27, 28, 29, 30, 31, 14, 52, 53, 54, 55, 56, 57, 58, 59, 60, 61, 62, 63, 64, 65, 66, 67, 68, 69, 70, 71, 10, 11, 13, 72, 73, 74, 75, 76, 77, 78, 79, 80, 81, 82, 83, 84, 85, 86, 87, 88, 89, 90, 91, 92, 93, 94, 95, 6, 96, 8, 97, 98, 99, 100, 101, 149, 150, 151, 152, 153, 154, 155, 156, 157, 158, 147, 148, 146] (by decide +kernel) (by decide +kernel)
set_option maxRecDepth 20000 in
theorem gX7_mergeInto_X2_putIn : GoodIn wsX7_mergeInto (wsV RX7 52 RX2 yX2_putIn wsX2_putIn) := goodIn_app (goodIn_of _ (by decide +kernel)) ggX7_mergeInto_X2_putIn
set_option maxRecDepth 20000 in
theorem ggX7_mergeInto_X2_takeOut : GoodIn wsX7_mergeInto wsX2_takeOut := goodIn_r _ [105, 39, 40, 67, 68, 69, 48, 70, 56, 51, 24, 25, 12, 26, 27, 28, 29, 30, 31, 14, 106, 107, 108, 109, 110, 73, 74, 75, 76, 111, 112, 113, 114, 89, 90, 91, 92, 115, 116, 117, 6, 118, 8, 97, 98, 99, 100, 101, 78, 79, 80, 81, 82, 83, 84, 149, 150, 151, 152, 153, 154, 155, 156, 157, 158, 147, 148, 146] (by decide +kernel) (by decide +kernel)
set_option maxRecDepth 20000 in
theorem gX7_mergeInto_X2_takeOut : GoodIn wsX7_mergeInto (wsV RX7 57 RX2 yX2_takeOut wsX2_takeOut) := goodIn_app (goodIn_of _ (by decide +kernel)) ggX7_mergeInto_X2_takeOut
set_option maxRecDepth 20000 in
theorem ggX7_mergeInto_X0_clear : GoodIn wsX7_mergeInto wsX0_clear := goodIn_r _ [122, 8, 123, 124, 125, 12, 126, 14, 146, 147, 148] (by decide +kernel) (by decide +kernel)
set_option maxRecDepth 20000 in
theorem gX7_mergeInto_X0_clear : GoodIn wsX7_mergeInto (wsV RX7 60 RX0 yX0_clear wsX0_clear) := goodIn_app (goodIn_of _ (by decide +kernel)) ggX7_mergeInto_X0_clear
set_option maxRecDepth 20000 in
theorem ggX7_mergeInto_X2_renewText : GoodIn wsX7_mergeInto wsX2_renewText := goodIn_r _ [130, 131, 38, 39, 132, 124, 125, 12, 126, 14, 71, 10, 11, 13, 66, 24, 25, 26, 27, 28, 29, 30, 31, 67, 68, 69, 48, 70, 56, 51, 133, 98, 99, 100, 101, 78, 79, 80, 81, 82, 83, 84, 149, 150, 151, 152, 147, 148, 153, 154, 155, 156, 157, 158] (by decide +kernel) (by decide +kernel)
set_option maxRecDepth 20000 in
theorem gX7_mergeInto_X2_renewText : GoodIn wsX7_mergeInto (wsV RX7 63 RX2 yX2_renewText wsX2_renewText) := goodIn_app (goodIn_of _ (by decide +kernel)) ggX7_mergeInto_X2_renewText
set_option maxRecDepth 20000 in
theorem ggX7_mergeInto_X2_text : GoodIn wsX7_mergeInto wsX2_text := goodIn_r _ [137, 131, 149, 150, 151, 152] (by decide +kernel) (by decide +kernel)
set_option maxRecDepth 20000 in
theorem gX7_mergeInto_X2_text : GoodIn wsX7_mergeInto (wsV RX7 66 RX2 yX2_text wsX2_text) := goodIn_app (goodIn_of _ (by decide +kernel)) ggX7_mergeInto_X2_text
set_option maxRecDepth 20000 in
theorem ggX7_mergeInto_X5_become : GoodIn wsX7_mergeInto wsX5_become := goodIn_r _ [141, 14, 142, 124, 125, 12, 126, 61, 24, 25, 26, 27, 28, 29, 30, 31, 143, 98, 99, 100, 101, 78, 79, 80, 81, 82, 83, 84, 147, 148] (by decide +kernel) (by decide +kernel)
set_option maxRecDepth 20000 in
theorem gX7_mergeInto_X5_become : GoodIn wsX7_mergeInto (wsV RX7 70 RX5 yX5_become wsX5_become) := goodIn_app (goodIn_of _ (by decide +kernel)) ggX7_mergeInto_X5_become
theorem dX7_mergeInto_0 : decode cX7_mergeInto 0 = .ok (.iconst 0, 1) := by decide +kernel
theorem dX7_mergeInto_1 : decode cX7_mergeInto 1 = .ok (.istore_n 2, 1) := by decide +kernel
theorem dX7_mergeInto_2 : decode cX7_mergeInto 2 = .ok (.iconst 0, 1) := by decide +kernel
theorem dX7_mergeInto_3 : decode cX7_mergeInto 3 = .ok (.istore_n 3, 1) := by decide +kernel
theorem dX7_mergeInto_4 : decode cX7_mergeInto 4 = .ok (.iload_n 3, 1) := by decide +kernel
theorem dX7_mergeInto_5 : decode cX7_mergeInto 5 = .ok (.aload_n 0, 1) := by decide +kernel
theorem dX7_mergeInto_6 : decode cX7_mergeInto 6 = .ok (.getfield 23, 3) := by decide +kernel
theorem dX7_mergeInto_9 : decode cX7_mergeInto 9 = .ok (.invokevirtual 27, 3) := by decide +kernel
theorem dX7_mergeInto_12 : decode cX7_mergeInto 12 = .ok (.if_icmp .ge 55, 3) := by decide +kernel
theorem dX7_mergeInto_15 : decode cX7_mergeInto 15 = .ok (.aload_n 0, 1) := by decide +kernel
theorem dX7_mergeInto_16 : decode cX7_mergeInto 16 = .ok (.getfield 23, 3) := by decide +kernel
theorem dX7_mergeInto_19 : decode cX7_mergeInto 19 = .ok (.iload_n 3, 1) := by decide +kernel
theorem dX7_mergeInto_20 : decode cX7_mergeInto 20 = .ok (.invokevirtual 45, 3) := by decide +kernel
theorem dX7_mergeInto_23 : decode cX7_mergeInto 23 = .ok (.istore 4, 2) := by decide +kernel
theorem dX7_mergeInto_25 : decode cX7_mergeInto 25 = .ok (.aload_n 0, 1) := by decide +kernel
theorem dX7_mergeInto_26 : decode cX7_mergeInto 26 = .ok (.getfield 23, 3) := by decide +kernel
theorem dX7_mergeInto_29 : decode cX7_mergeInto 29 = .ok (.iload_n 3, 1) := by decide +kernel
theorem dX7_mergeInto_30 : decode cX7_mergeInto 30 = .ok (.invokevirtual 48, 3) := by decide +kernel
theorem dX7_mergeInto_33 : decode cX7_mergeInto 33 = .ok (.ifCond .eq 12, 3) := by decide +kernel
theorem dX7_mergeInto_36 : decode cX7_mergeInto 36 = .ok (.aload_n 1, 1) := by decide +kernel
theorem dX7_mergeInto_37 : decode cX7_mergeInto 37 = .ok (.iload 4, 2) := by decide +kernel
theorem dX7_mergeInto_39 : decode cX7_mergeInto 39 = .ok (.invokevirtual 52, 3) := by decide +kernel
theorem dX7_mergeInto_42 : decode cX7_mergeInto 42 = .ok (.goto 9, 3) := by decide +kernel
theorem dX7_mergeInto_45 : decode cX7_mergeInto 45 = .ok (.aload_n 1, 1) := by decide +kernel
theorem dX7_mergeInto_46 : decode cX7_mergeInto 46 = .ok (.iload 4, 2) := by decide +kernel
theorem dX7_mergeInto_48 : decode cX7_mergeInto 48 = .ok (.invokevirtual 57, 3) := by decide +kernel
theorem dX7_mergeInto_51 : decode cX7_mergeInto 51 = .ok (.istore 5, 2) := by decide +kernel
theorem dX7_mergeInto_53 : decode cX7_mergeInto 53 = .ok (.iload 5, 2) := by decide +kernel
theorem dX7_mergeInto_55 : decode cX7_mergeInto 55 = .ok (.ifCond .ne 6, 3) := by decide +kernel
theorem dX7_mergeInto_58 : decode cX7_mergeInto 58 = .ok (.iinc 2 1, 3) := by decide +kernel
theorem dX7_mergeInto_61 : decode cX7_mergeInto 61 = .ok (.iinc 3 1, 3) := by decide +kernel
theorem dX7_mergeInto_64 : decode cX7_mergeInto 64 = .ok (.goto (-60), 3) := by decide +kernel
theorem dX7_mergeInto_67 : decode cX7_mergeInto 67 = .ok (.aload_n 0, 1) := by decide +kernel
theorem dX7_mergeInto_68 : decode cX7_mergeInto 68 = .ok (.getfield 23, 3) := by decide +kernel
theorem dX7_mergeInto_71 : decode cX7_mergeInto 71 = .ok (.invokevirtual 60, 3) := by decide +kernel
theorem dX7_mergeInto_74 : decode cX7_mergeInto 74 = .ok (.aload_n 1, 1) := by decide +kernel
theorem dX7_mergeInto_75 : decode cX7_mergeInto 75 = .ok (.invokevirtual 63, 3) := by decide +kernel
theorem dX7_mergeInto_78 : decode cX7_mergeInto 78 = .ok (.aload_n 0, 1) := by decide +kernel
theorem dX7_mergeInto_79 : decode cX7_mergeInto 79 = .ok (.getfield 14, 3) := by decide +kernel
theorem dX7_mergeInto_82 : decode cX7_mergeInto 82 = .ok (.aload_n 1, 1) := by decide +kernel
theorem dX7_mergeInto_83 : decode cX7_mergeInto 83 = .ok (.invokevirtual 66, 3) := by decide +kernel
theorem dX7_mergeInto_86 : decode cX7_mergeInto 86 = .ok (.invokevirtual 70, 3) := by decide +kernel
theorem dX7_mergeInto_89 : decode cX7_mergeInto 89 = .ok (.iload_n 2, 1) := by decide +kernel
theorem dX7_mergeInto_90 : decode cX7_mergeInto 90 = .ok (.ireturn, 1) := by decide +kernel
