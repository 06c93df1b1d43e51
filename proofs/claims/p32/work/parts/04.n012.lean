set_option maxRecDepth 20000 in
theorem ggX0_init_X5_init : GoodIn wsX0_init wsX5_init := goodIn_r _ [10, 11, 2, 3, 12, 13, 14, 15, 16] (by decide +kernel) (by decide +kernel)
set_option maxRecDepth 20000 in
theorem gX0_init_X5_init : GoodIn wsX0_init (wsX5_init) := ggX0_init_X5_init
theorem dX0_init_0 : decode cX0_init 0 = .ok (.aload_n 0, 1) := by decide +kernel
theorem dX0_init_1 : decode cX0_init 1 = .ok (.invokespecial 3, 3) := by decide +kernel
theorem dX0_init_4 : decode cX0_init 4 = .ok (.aload_n 0, 1) := by decide +kernel
theorem dX0_init_5 : decode cX0_init 5 = .ok (.new 9, 3) := by decide +kernel
theorem dX0_init_8 : decode cX0_init 8 = .ok (.dup, 1) := by decide +kernel
theorem dX0_init_9 : decode cX0_init 9 = .ok (.sipush 600, 3) := by decide +kernel
theorem dX0_init_12 : decode cX0_init 12 = .ok (.invokespecial 11, 3) := by decide +kernel
theorem dX0_init_15 : decode cX0_init 15 = .ok (.putfield 14, 3) := by decide +kernel
theorem dX0_init_18 : decode cX0_init 18 = .ok (.return_, 1) := by decide +kernel
set_option maxRecDepth 20000 in
theorem ggX0_count_X5_size : GoodIn wsX0_count wsX5_size := goodIn_r _ [6, 7, 9, 10] (by decide +kernel) (by decide +kernel)
set_option maxRecDepth 20000 in
theorem gX0_count_X5_size : GoodIn wsX0_count (wsV RX0 20 RX5 yX5_size wsX5_size) := goodIn_app (goodIn_of _ (by decide +kernel)) ggX0_count_X5_size
theorem dX0_count_0 : decode cX0_count 0 = .ok (.aload_n 0, 1) := by decide +kernel
theorem dX0_count_1 : decode cX0_count 1 = .ok (.getfield 14, 3) := by decide +kernel
theorem dX0_count_4 : decode cX0_count 4 = .ok (.invokevirtual 20, 3) := by decide +kernel
theorem dX0_count_7 : decode cX0_count 7 = .ok (.ireturn, 1) := by decide +kernel
set_option maxRecDepth 20000 in
theorem ggX0_addTyped_X5_add : GoodIn wsX0_addTyped wsX5_add := goodIn_r _ [6, 7, 8, 9, 10, 5, 11, 12, 13, 14, 15, 16, 18, 19] (by decide +kernel) (by decide +kernel)
set_option maxRecDepth 20000 in
theorem gX0_addTyped_X5_add : GoodIn wsX0_addTyped (wsV RX0 24 RX5 yX5_add wsX5_add) := goodIn_app (goodIn_of _ (by decide +kernel)) ggX0_addTyped_X5_add
theorem dX0_addTyped_0 : decode cX0_addTyped 0 = .ok (.aload_n 0, 1) := by decide +kernel
theorem dX0_addTyped_1 : decode cX0_addTyped 1 = .ok (.getfield 14, 3) := by decide +kernel
theorem dX0_addTyped_4 : decode cX0_addTyped 4 = .ok (.iload_n 1, 1) := by decide +kernel
theorem dX0_addTyped_5 : decode cX0_addTyped 5 = .ok (.invokevirtual 24, 3) := by decide +kernel
theorem dX0_addTyped_8 : decode cX0_addTyped 8 = .ok (.return_, 1) := by decide +kernel
set_option maxRecDepth 20000 in
theorem ggX0_addDeleted_X5_add : GoodIn wsX0_addDeleted wsX5_add := goodIn_r _ [6, 7, 8, 9, 10, 5, 11, 12, 13, 14, 15, 16, 18, 19] (by decide +kernel) (by decide +kernel)
set_option maxRecDepth 20000 in
theorem gX0_addDeleted_X5_add : GoodIn wsX0_addDeleted (wsV RX0 24 RX5 yX5_add wsX5_add) := goodIn_app (goodIn_of _ (by decide +kernel)) ggX0_addDeleted_X5_add
theorem dX0_addDeleted_0 : decode cX0_addDeleted 0 = .ok (.aload_n 0, 1) := by decide +kernel
theorem dX0_addDeleted_1 : decode cX0_addDeleted 1 = .ok (.getfield 14, 3) := by decide +kernel
theorem dX0_addDeleted_4 : decode cX0_addDeleted 4 = .ok (.sipush 300, 3) := by decide +kernel
theorem dX0_addDeleted_7 : decode cX0_addDeleted 7 = .ok (.iload_n 1, 1) := by decide +kernel
theorem dX0_addDeleted_8 : decode cX0_addDeleted 8 = .ok (.iadd, 1) := by decide +kernel
theorem dX0_addDeleted_9 : decode cX0_addDeleted 9 = .ok (.invokevirtual 24, 3) := by decide +kernel
theorem dX0_addDeleted_12 : decode cX0_addDeleted 12 = .ok (.return_, 1) := by decide +kernel
set_option maxRecDepth 20000 in
theorem ggX0_isTyped_X5_at : GoodIn wsX0_isTyped wsX5_at := goodIn_r _ [6, 7, 8, 9, 10, 5, 11, 12, 14, 15] (by decide +kernel) (by decide +kernel)
set_option maxRecDepth 20000 in
theorem gX0_isTyped_X5_at : GoodIn wsX0_isTyped (wsV RX0 27 RX5 yX5_at wsX5_at) := goodIn_app (goodIn_of _ (by decide +kernel)) ggX0_isTyped_X5_at
theorem dX0_isTyped_0 : decode cX0_isTyped 0 = .ok (.aload_n 0, 1) := by decide +kernel
theorem dX0_isTyped_1 : decode cX0_isTyped 1 = .ok (.getfield 14, 3) := by decide +kernel
theorem dX0_isTyped_4 : decode cX0_isTyped 4 = .ok (.iload_n 1, 1) := by decide +kernel
theorem dX0_isTyped_5 : decode cX0_isTyped 5 = .ok (.invokevirtual 27, 3) := by decide +kernel
theorem dX0_isTyped_8 : decode cX0_isTyped 8 = .ok (.sipush 300, 3) := by decide +kernel
theorem dX0_isTyped_11 : decode cX0_isTyped 11 = .ok (.if_icmp .ge 7, 3) := by decide +kernel
theorem dX0_isTyped_14 : decode cX0_isTyped 14 = .ok (.iconst 1, 1) := by decide +kernel
theorem dX0_isTyped_15 : decode cX0_isTyped 15 = .ok (.goto 4, 3) := by decide +kernel
theorem dX0_isTyped_18 : decode cX0_isTyped 18 = .ok (.iconst 0, 1) := by decide +kernel
theorem dX0_isTyped_19 : decode cX0_isTyped 19 = .ok (.ireturn, 1) := by decide +kernel
set_option maxRecDepth 20000 in
theorem ggX0_numberAt_X0_isTyped : GoodIn wsX0_numberAt wsX0_isTyped := goodIn_r _ [6, 1, 7, 8, 9, 10, 11, 12, 13, 14, 15, 16, 17, 18, 19, 20] (by decide +kernel) (by decide +kernel)
set_option maxRecDepth 20000 in
theorem gX0_numberAt_X0_isTyped : GoodIn wsX0_numberAt (wsV RX0 31 RX0 yX0_isTyped wsX0_isTyped) := goodIn_app (goodIn_of _ (by decide +kernel)) ggX0_numberAt_X0_isTyped
set_option maxRecDepth 20000 in
theorem ggX0_numberAt_X5_at : GoodIn wsX0_numberAt wsX5_at := goodIn_r _ [11, 12, 13, 14, 15, 10, 16, 17, 19, 20] (by decide +kernel) (by decide +kernel)
set_option maxRecDepth 20000 in
theorem gX0_numberAt_X5_at : GoodIn wsX0_numberAt (wsV RX0 27 RX5 yX5_at wsX5_at) := goodIn_app (goodIn_of _ (by decide +kernel)) ggX0_numberAt_X5_at
theorem dX0_numberAt_0 : decode cX0_numberAt 0 = .ok (.aload_n 0, 1) := by decide +kernel
theorem dX0_numberAt_1 : decode cX0_numberAt 1 = .ok (.iload_n 1, 1) := by decide +kernel
theorem dX0_numberAt_2 : decode cX0_numberAt 2 = .ok (.invokevirtual 31, 3) := by decide +kernel
theorem dX0_numberAt_5 : decode cX0_numberAt 5 = .ok (.ifCond .eq 14, 3) := by decide +kernel
theorem dX0_numberAt_8 : decode cX0_numberAt 8 = .ok (.aload_n 0, 1) := by decide +kernel
theorem dX0_numberAt_9 : decode cX0_numberAt 9 = .ok (.getfield 14, 3) := by decide +kernel
theorem dX0_numberAt_12 : decode cX0_numberAt 12 = .ok (.iload_n 1, 1) := by decide +kernel
theorem dX0_numberAt_13 : decode cX0_numberAt 13 = .ok (.invokevirtual 27, 3) := by decide +kernel
theorem dX0_numberAt_16 : decode cX0_numberAt 16 = .ok (.goto 15, 3) := by decide +kernel
theorem dX0_numberAt_19 : decode cX0_numberAt 19 = .ok (.aload_n 0, 1) := by decide +kernel
theorem dX0_numberAt_20 : decode cX0_numberAt 20 = .ok (.getfield 14, 3) := by decide +kernel
theorem dX0_numberAt_23 : decode cX0_numberAt 23 = .ok (.iload_n 1, 1) := by decide +kernel
theorem dX0_numberAt_24 : decode cX0_numberAt 24 = .ok (.invokevirtual 27, 3) := by decide +kernel
theorem dX0_numberAt_27 : decode cX0_numberAt 27 = .ok (.sipush 300, 3) := by decide +kernel
theorem dX0_numberAt_30 : decode cX0_numberAt 30 = .ok (.isub, 1) := by decide +kernel
theorem dX0_numberAt_31 : decode cX0_numberAt 31 = .ok (.ireturn, 1) := by decide +kernel
set_option maxRecDepth 20000 in
theorem ggX0_clear_X5_clear : GoodIn wsX0_clear wsX5_clear := goodIn_r _ [6, 7, 9, 10] (by decide +kernel) (by decide +kernel)
set_option maxRecDepth 20000 in
theorem gX0_clear_X5_clear : GoodIn wsX0_clear (wsV RX0 35 RX5 yX5_clear wsX5_clear) := goodIn_app (goodIn_of _ (by decide +kernel)) ggX0_clear_X5_clear
theorem dX0_clear_0 : decode cX0_clear 0 = .ok (.aload_n 0, 1) := by decide +kernel
theorem dX0_clear_1 : decode cX0_clear 1 = .ok (.getfield 14, 3) := by decide +kernel
theorem dX0_clear_4 : decode cX0_clear 4 = .ok (.invokevirtual 35, 3) := by decide +kernel
theorem dX0_clear_7 : decode cX0_clear 7 = .ok (.return_, 1) := by decide +kernel
set_option maxRecDepth 20000 in
theorem ggX1_init_X5_init : GoodIn wsX1_init wsX5_init := goodIn_r _ [11, 12, 2, 3, 13, 14, 15, 16, 17] (by decide +kernel) (by decide +kernel)
set_option maxRecDepth 20000 in
theorem gX1_init_X5_init : GoodIn wsX1_init (wsX5_init) := ggX1_init_X5_init
theorem dX1_init_0 : decode cX1_init 0 = .ok (.aload_n 0, 1) := by decide +kernel
theorem dX1_init_1 : decode cX1_init 1 = .ok (.invokespecial 3, 3) := by decide +kernel
theorem dX1_init_4 : decode cX1_init 4 = .ok (.aload_n 0, 1) := by decide +kernel
theorem dX1_init_5 : decode cX1_init 5 = .ok (.new 9, 3) := by decide +kernel
theorem dX1_init_8 : decode cX1_init 8 = .ok (.dup, 1) := by decide +kernel
theorem dX1_init_9 : decode cX1_init 9 = .ok (.bipush 40, 2) := by decide +kernel
theorem dX1_init_11 : decode cX1_init 11 = .ok (.invokespecial 11, 3) := by decide +kernel
theorem dX1_init_14 : decode cX1_init 14 = .ok (.putfield 14, 3) := by decide +kernel
theorem dX1_init_17 : decode cX1_init 17 = .ok (.aload_n 0, 1) := by decide +kernel
theorem dX1_init_18 : decode cX1_init 18 = .ok (.new 9, 3) := by decide +kernel
theorem dX1_init_21 : decode cX1_init 21 = .ok (.dup, 1) := by decide +kernel
theorem dX1_init_22 : decode cX1_init 22 = .ok (.bipush 40, 2) := by decide +kernel
theorem dX1_init_24 : decode cX1_init 24 = .ok (.invokespecial 11, 3) := by decide +kernel
theorem dX1_init_27 : decode cX1_init 27 = .ok (.putfield 20, 3) := by decide +kernel
theorem dX1_init_30 : decode cX1_init 30 = .ok (.return_, 1) := by decide +kernel
set_option maxRecDepth 20000 in
theorem ggX1_count_X5_size : GoodIn wsX1_count wsX5_size := goodIn_r _ [6, 7, 10, 11] (by decide +kernel) (by decide +kernel)
set_option maxRecDepth 20000 in
theorem gX1_count_X5_size : GoodIn wsX1_count (wsV RX1 23 RX5 yX5_size wsX5_size) := goodIn_app (goodIn_of _ (by decide +kernel)) ggX1_count_X5_size
theorem dX1_count_0 : decode cX1_count 0 = .ok (.aload_n 0, 1) := by decide +kernel
theorem dX1_count_1 : decode cX1_count 1 = .ok (.getfield 14, 3) := by decide +kernel
theorem dX1_count_4 : decode cX1_count 4 = .ok (.invokevirtual 23, 3) := by decide +kernel
theorem dX1_count_7 : decode cX1_count 7 = .ok (.ireturn, 1) := by decide +kernel
set_option maxRecDepth 20000 in
theorem ggX1_add_X5_add : GoodIn wsX1_add wsX5_add := goodIn_r _ [7, 8, 9, 10, 11, 6, 12, 13, 14, 15, 16, 17, 29, 30] (by decide +kernel) (by decide +kernel)
set_option maxRecDepth 20000 in
theorem gX1_add_X5_add : GoodIn wsX1_add (wsV RX1 27 RX5 yX5_add wsX5_add) := goodIn_app (goodIn_of _ (by decide +kernel)) ggX1_add_X5_add
set_option maxRecDepth 20000 in
theorem ggX1_add_X1_count : GoodIn wsX1_add wsX1_count := goodIn_r _ [22, 1, 23, 24, 25, 6, 26, 8, 27, 28, 29, 30] (by decide +kernel) (by decide +kernel)
set_option maxRecDepth 20000 in
theorem gX1_add_X1_count : GoodIn wsX1_add (wsV RX1 30 RX1 yX1_count wsX1_count) := goodIn_app (goodIn_of _ (by decide +kernel)) ggX1_add_X1_count
theorem dX1_add_0 : decode cX1_add 0 = .ok (.aload_n 0, 1) := by decide +kernel
theorem dX1_add_1 : decode cX1_add 1 = .ok (.getfield 14, 3) := by decide +kernel
theorem dX1_add_4 : decode cX1_add 4 = .ok (.iload_n 1, 1) := by decide +kernel
theorem dX1_add_5 : decode cX1_add 5 = .ok (.invokevirtual 27, 3) := by decide +kernel
theorem dX1_add_8 : decode cX1_add 8 = .ok (.aload_n 0, 1) := by decide +kernel
theorem dX1_add_9 : decode cX1_add 9 = .ok (.getfield 20, 3) := by decide +kernel
theorem dX1_add_12 : decode cX1_add 12 = .ok (.iload_n 2, 1) := by decide +kernel
theorem dX1_add_13 : decode cX1_add 13 = .ok (.invokevirtual 27, 3) := by decide +kernel
theorem dX1_add_16 : decode cX1_add 16 = .ok (.aload_n 0, 1) := by decide +kernel
theorem dX1_add_17 : decode cX1_add 17 = .ok (.invokevirtual 30, 3) := by decide +kernel
theorem dX1_add_20 : decode cX1_add 20 = .ok (.iconst 1, 1) := by decide +kernel
theorem dX1_add_21 : decode cX1_add 21 = .ok (.isub, 1) := by decide +kernel
theorem dX1_add_22 : decode cX1_add 22 = .ok (.ireturn, 1) := by decide +kernel
set_option maxRecDepth 20000 in
theorem ggX1_firstOf_X5_at : GoodIn wsX1_firstOf wsX5_at := goodIn_r _ [6, 7, 8, 9, 10, 5, 11, 12, 15, 16] (by decide +kernel) (by decide +kernel)
set_option maxRecDepth 20000 in
theorem gX1_firstOf_X5_at : GoodIn wsX1_firstOf (wsV RX1 33 RX5 yX5_at wsX5_at) := goodIn_app (goodIn_of _ (by decide +kernel)) ggX1_firstOf_X5_at
theorem dX1_firstOf_0 : decode cX1_firstOf 0 = .ok (.aload_n 0, 1) := by decide +kernel
theorem dX1_firstOf_1 : decode cX1_firstOf 1 = .ok (.getfield 14, 3) := by decide +kernel
theorem dX1_firstOf_4 : decode cX1_firstOf 4 = .ok (.iload_n 1, 1) := by decide +kernel
theorem dX1_firstOf_5 : decode cX1_firstOf 5 = .ok (.invokevirtual 33, 3) := by decide +kernel
theorem dX1_firstOf_8 : decode cX1_firstOf 8 = .ok (.ireturn, 1) := by decide +kernel
set_option maxRecDepth 20000 in
theorem ggX1_lastOf_X5_at : GoodIn wsX1_lastOf wsX5_at := goodIn_r _ [6, 7, 8, 9, 10, 5, 11, 12, 15, 16] (by decide +kernel) (by decide +kernel)
set_option maxRecDepth 20000 in
theorem gX1_lastOf_X5_at : GoodIn wsX1_lastOf (wsV RX1 33 RX5 yX5_at wsX5_at) := goodIn_app (goodIn_of _ (by decide +kernel)) ggX1_lastOf_X5_at
theorem dX1_lastOf_0 : decode cX1_lastOf 0 = .ok (.aload_n 0, 1) := by decide +kernel
theorem dX1_lastOf_1 : decode cX1_lastOf 1 = .ok (.getfield 20, 3) := by decide +kernel
theorem dX1_lastOf_4 : decode cX1_lastOf 4 = .ok (.iload_n 1, 1) := by decide +kernel
theorem dX1_lastOf_5 : decode cX1_lastOf 5 = .ok (.invokevirtual 33, 3) := by decide +kernel
theorem dX1_lastOf_8 : decode cX1_lastOf 8 = .ok (.ireturn, 1) := by decide +kernel
set_option maxRecDepth 20000 in
theorem ggX2_init_X6_init : GoodIn wsX2_init wsX6_init := goodIn_r _ [18, 19, 2, 3, 20, 9, 10, 21, 22, 23, 24, 25, 26, 27, 28, 29, 30, 31, 32, 33, 51, 52, 41, 42, 43, 44, 45, 46] (by decide +kernel) (by decide +kernel)
set_option maxRecDepth 20000 in
theorem gX2_init_X6_init_n11 : GoodIn wsX2_init (wsX6_init) := ggX2_init_X6_init
set_option maxRecDepth 20000 in
theorem ggX2_init_X5_init : GoodIn wsX2_init wsX5_init := goodIn_r _ [29, 30, 2, 3, 31, 32, 33, 51, 52] (by decide +kernel) (by decide +kernel)
set_option maxRecDepth 20000 in
theorem gX2_init_X5_init : GoodIn wsX2_init (wsX5_init) := ggX2_init_X5_init
set_option maxRecDepth 20000 in
theorem ggX2_init_X0_init : GoodIn wsX2_init wsX0_init := goodIn_r _ [36, 37, 2, 3, 38, 9, 10, 39, 40, 28, 29, 30, 31, 32, 33, 51, 52, 53] (by decide +kernel) (by decide +kernel)
set_option maxRecDepth 20000 in
theorem gX2_init_X0_init_n32 : GoodIn wsX2_init (wsX0_init) := ggX2_init_X0_init
theorem dX2_init_0 : decode cX2_init 0 = .ok (.aload_n 0, 1) := by decide +kernel
theorem dX2_init_1 : decode cX2_init 1 = .ok (.invokespecial 3, 3) := by decide +kernel
theorem dX2_init_4 : decode cX2_init 4 = .ok (.aload_n 0, 1) := by decide +kernel
theorem dX2_init_5 : decode cX2_init 5 = .ok (.new 9, 3) := by decide +kernel
theorem dX2_init_8 : decode cX2_init 8 = .ok (.dup, 1) := by decide +kernel
theorem dX2_init_9 : decode cX2_init 9 = .ok (.invokespecial 11, 3) := by decide +kernel
theorem dX2_init_12 : decode cX2_init 12 = .ok (.putfield 12, 3) := by decide +kernel
theorem dX2_init_15 : decode cX2_init 15 = .ok (.aload_n 0, 1) := by decide +kernel
theorem dX2_init_16 : decode cX2_init 16 = .ok (.new 18, 3) := by decide +kernel
theorem dX2_init_19 : decode cX2_init 19 = .ok (.dup, 1) := by decide +kernel
theorem dX2_init_20 : decode cX2_init 20 = .ok (.sipush 300, 3) := by decide +kernel
theorem dX2_init_23 : decode cX2_init 23 = .ok (.invokespecial 20, 3) := by decide +kernel
theorem dX2_init_26 : decode cX2_init 26 = .ok (.putfield 23, 3) := by decide +kernel
theorem dX2_init_29 : decode cX2_init 29 = .ok (.aload_n 0, 1) := by decide +kernel
theorem dX2_init_30 : decode cX2_init 30 = .ok (.new 18, 3) := by decide +kernel
theorem dX2_init_33 : decode cX2_init 33 = .ok (.dup, 1) := by decide +kernel
theorem dX2_init_34 : decode cX2_init 34 = .ok (.sipush 300, 3) := by decide +kernel
theorem dX2_init_37 : decode cX2_init 37 = .ok (.invokespecial 20, 3) := by decide +kernel
theorem dX2_init_40 : decode cX2_init 40 = .ok (.putfield 27, 3) := by decide +kernel
theorem dX2_init_43 : decode cX2_init 43 = .ok (.aload_n 0, 1) := by decide +kernel
theorem dX2_init_44 : decode cX2_init 44 = .ok (.new 30, 3) := by decide +kernel
theorem dX2_init_47 : decode cX2_init 47 = .ok (.dup, 1) := by decide +kernel
theorem dX2_init_48 : decode cX2_init 48 = .ok (.invokespecial 32, 3) := by decide +kernel
theorem dX2_init_51 : decode cX2_init 51 = .ok (.putfield 33, 3) := by decide +kernel
theorem dX2_init_54 : decode cX2_init 54 = .ok (.return_, 1) := by decide +kernel
theorem dX2_words_0 : decode cX2_words 0 = .ok (.aload_n 0, 1) := by decide +kernel
theorem dX2_words_1 : decode cX2_words 1 = .ok (.getfield 12, 3) := by decide +kernel
theorem dX2_words_4 : decode cX2_words 4 = .ok (.areturn, 1) := by decide +kernel
theorem dX2_text_0 : decode cX2_text 0 = .ok (.aload_n 0, 1) := by decide +kernel
theorem dX2_text_1 : decode cX2_text 1 = .ok (.getfield 27, 3) := by decide +kernel
theorem dX2_text_4 : decode cX2_text 4 = .ok (.areturn, 1) := by decide +kernel
set_option maxRecDepth 20000 in
theorem ggX2_putIn_X2_anchorInRow : GoodIn wsX2_putIn wsX2_anchorInRow := goodIn_r _ [8, 2, 9, 10, 11, 12, 13, 14, 15, 16, 17, 18, 19, 20, 21, 22, 23, 24, 25, 26, 27, 28, 29, 30, 81, 82, 83, 84, 85, 86, 87, 88, 89, 90, 91, 92] (by decide +kernel) (by decide +kernel)
set_option maxRecDepth 20000 in
theorem gX2_putIn_X2_anchorInRow : GoodIn wsX2_putIn (wsV RX2 37 RX2 yX2_anchorInRow wsX2_anchorInRow) := goodIn_app (goodIn_of _ (by decide +kernel)) ggX2_putIn_X2_anchorInRow
set_option maxRecDepth 20000 in
theorem ggX2_putIn_X5_indexOf : GoodIn wsX2_putIn wsX5_indexOf := goodIn_r _ [34, 25, 35, 16, 17, 18, 19, 20, 21, 22, 23, 24, 91, 92] (by decide +kernel) (by decide +kernel)
set_option maxRecDepth 20000 in
theorem gX2_putIn_X5_indexOf : GoodIn wsX2_putIn (wsV RX2 41 RX5 yX5_indexOf wsX5_indexOf) := goodIn_app (goodIn_of _ (by decide +kernel)) ggX2_putIn_X5_indexOf
set_option maxRecDepth 20000 in
theorem ggX2_putIn_X2_partsReview : GoodIn wsX2_putIn wsX2_partsReview := goodIn_r _ [39, 2, 1, 40, 16, 17, 18, 19, 20, 21, 22, 23, 24, 25, 41, 42, 43, 12, 44, 30, 15, 45, 46, 47, 48, 49, 50, 51, 52, 53, 81, 82, 83, 84, 91, 92, 85, 86, 87, 88, 89, 90] (by decide +kernel) (by decide +kernel)
set_option maxRecDepth 20000 in
theorem gX2_putIn_X2_partsReview : GoodIn wsX2_putIn (wsV RX2 44 RX2 yX2_partsReview wsX2_partsReview) := goodIn_app (goodIn_of _ (by decide +kernel)) ggX2_putIn_X2_partsReview
set_option maxRecDepth 20000 in
theorem ggX2_putIn_X5_insert : GoodIn wsX2_putIn wsX5_insert := goodIn_r _ [57, 25, 20, 58, 59, 60, 61, 91, 92] (by decide +kernel) (by decide +kernel)
set_option maxRecDepth 20000 in
theorem gX2_putIn_X5_insert : GoodIn wsX2_putIn (wsV RX2 48 RX5 yX5_insert wsX5_insert) := goodIn_app (goodIn_of _ (by decide +kernel)) ggX2_putIn_X5_insert
set_option maxRecDepth 20000 in
theorem ggX2_putIn_X6_setThere : GoodIn wsX2_putIn wsX6_setThere := goodIn_r _ [65, 30, 66, 67, 68, 18, 69, 20, 21, 22, 23, 24, 25, 85, 86, 87, 88, 89, 90, 91, 92] (by decide +kernel) (by decide +kernel)
set_option maxRecDepth 20000 in
theorem gX2_putIn_X6_setThere : GoodIn wsX2_putIn (wsV RX2 52 RX6 yX6_setThere wsX6_setThere) := goodIn_app (goodIn_of _ (by decide +kernel)) ggX2_putIn_X6_setThere
set_option maxRecDepth 20000 in
theorem ggX2_putIn_X0_addTyped : GoodIn wsX2_putIn wsX0_addTyped := goodIn_r _ [74, 75, 76, 77, 78, 18, 79, 25, 80, 55, 56, 57, 20, 58, 59, 60, 61, 93, 91, 92] (by decide +kernel) (by decide +kernel)
set_option maxRecDepth 20000 in
theorem gX2_putIn_X0_addTyped : GoodIn wsX2_putIn (wsV RX2 55 RX0 yX0_addTyped wsX0_addTyped) := goodIn_app (goodIn_of _ (by decide +kernel)) ggX2_putIn_X0_addTyped
theorem dX2_putIn_0 : decode cX2_putIn 0 = .ok (.aload_n 0, 1) := by decide +kernel
theorem dX2_putIn_1 : decode cX2_putIn 1 = .ok (.iload_n 1, 1) := by decide +kernel
theorem dX2_putIn_2 : decode cX2_putIn 2 = .ok (.invokevirtual 37, 3) := by decide +kernel
theorem dX2_putIn_5 : decode cX2_putIn 5 = .ok (.istore_n 2, 1) := by decide +kernel
theorem dX2_putIn_6 : decode cX2_putIn 6 = .ok (.iload_n 2, 1) := by decide +kernel
theorem dX2_putIn_7 : decode cX2_putIn 7 = .ok (.iconst (-1), 1) := by decide +kernel
theorem dX2_putIn_8 : decode cX2_putIn 8 = .ok (.if_icmp .ne 7, 3) := by decide +kernel
theorem dX2_putIn_11 : decode cX2_putIn 11 = .ok (.iconst 0, 1) := by decide +kernel
theorem dX2_putIn_12 : decode cX2_putIn 12 = .ok (.goto 13, 3) := by decide +kernel
theorem dX2_putIn_15 : decode cX2_putIn 15 = .ok (.aload_n 0, 1) := by decide +kernel
theorem dX2_putIn_16 : decode cX2_putIn 16 = .ok (.getfield 23, 3) := by decide +kernel
theorem dX2_putIn_19 : decode cX2_putIn 19 = .ok (.iload_n 2, 1) := by decide +kernel
theorem dX2_putIn_20 : decode cX2_putIn 20 = .ok (.invokevirtual 41, 3) := by decide +kernel
theorem dX2_putIn_23 : decode cX2_putIn 23 = .ok (.iconst 1, 1) := by decide +kernel
theorem dX2_putIn_24 : decode cX2_putIn 24 = .ok (.iadd, 1) := by decide +kernel
theorem dX2_putIn_25 : decode cX2_putIn 25 = .ok (.istore_n 3, 1) := by decide +kernel
theorem dX2_putIn_26 : decode cX2_putIn 26 = .ok (.aload_n 0, 1) := by decide +kernel
theorem dX2_putIn_27 : decode cX2_putIn 27 = .ok (.iload_n 3, 1) := by decide +kernel
theorem dX2_putIn_28 : decode cX2_putIn 28 = .ok (.invokevirtual 44, 3) := by decide +kernel
theorem dX2_putIn_31 : decode cX2_putIn 31 = .ok (.ifCond .eq 5, 3) := by decide +kernel
theorem dX2_putIn_34 : decode cX2_putIn 34 = .ok (.iconst 0, 1) := by decide +kernel
theorem dX2_putIn_35 : decode cX2_putIn 35 = .ok (.ireturn, 1) := by decide +kernel
theorem dX2_putIn_36 : decode cX2_putIn 36 = .ok (.aload_n 0, 1) := by decide +kernel
theorem dX2_putIn_37 : decode cX2_putIn 37 = .ok (.getfield 23, 3) := by decide +kernel
theorem dX2_putIn_40 : decode cX2_putIn 40 = .ok (.iload_n 3, 1) := by decide +kernel
theorem dX2_putIn_41 : decode cX2_putIn 41 = .ok (.iload_n 1, 1) := by decide +kernel
theorem dX2_putIn_42 : decode cX2_putIn 42 = .ok (.invokevirtual 48, 3) := by decide +kernel
theorem dX2_putIn_45 : decode cX2_putIn 45 = .ok (.aload_n 0, 1) := by decide +kernel
theorem dX2_putIn_46 : decode cX2_putIn 46 = .ok (.getfield 12, 3) := by decide +kernel
theorem dX2_putIn_49 : decode cX2_putIn 49 = .ok (.iload_n 1, 1) := by decide +kernel
theorem dX2_putIn_50 : decode cX2_putIn 50 = .ok (.invokevirtual 52, 3) := by decide +kernel
theorem dX2_putIn_53 : decode cX2_putIn 53 = .ok (.aload_n 0, 1) := by decide +kernel
theorem dX2_putIn_54 : decode cX2_putIn 54 = .ok (.getfield 33, 3) := by decide +kernel
theorem dX2_putIn_57 : decode cX2_putIn 57 = .ok (.iload_n 1, 1) := by decide +kernel
theorem dX2_putIn_58 : decode cX2_putIn 58 = .ok (.invokevirtual 55, 3) := by decide +kernel
theorem dX2_putIn_61 : decode cX2_putIn 61 = .ok (.iconst 1, 1) := by decide +kernel
theorem dX2_putIn_62 : decode cX2_putIn 62 = .ok (.ireturn, 1) := by decide +kernel
set_option maxRecDepth 20000 in
theorem ggX2_takeOut_X6_isThere : GoodIn wsX2_takeOut wsX6_isThere := goodIn_r _ [7, 8, 9, 10, 11, 12, 13, 14, 15, 16, 17, 18, 19, 59, 60, 61, 62, 63, 64, 65, 66] (by decide +kernel) (by decide +kernel)
set_option maxRecDepth 20000 in
theorem gX2_takeOut_X6_isThere : GoodIn wsX2_takeOut (wsV RX2 58 RX6 yX6_isThere wsX6_isThere) := goodIn_app (goodIn_of _ (by decide +kernel)) ggX2_takeOut_X6_isThere
set_option maxRecDepth 20000 in
theorem ggX2_takeOut_X6_isFrozen : GoodIn wsX2_takeOut wsX6_isFrozen := goodIn_r _ [23, 24, 25, 26, 6, 27, 28, 9, 10, 11, 12, 13, 14, 15, 16, 17, 18, 19, 59, 60, 61, 62, 63, 64, 65, 66] (by decide +kernel) (by decide +kernel)
set_option maxRecDepth 20000 in
theorem gX2_takeOut_X6_isFrozen : GoodIn wsX2_takeOut (wsV RX2 61 RX6 yX6_isFrozen wsX6_isFrozen) := goodIn_app (goodIn_of _ (by decide +kernel)) ggX2_takeOut_X6_isFrozen
set_option maxRecDepth 20000 in
theorem ggX2_takeOut_X6_setDeleted : GoodIn wsX2_takeOut wsX6_setDeleted := goodIn_r _ [32, 8, 33, 34, 35, 12, 36, 14, 15, 16, 17, 18, 19, 59, 60, 61, 62, 63, 64, 65, 66] (by decide +kernel) (by decide +kernel)
set_option maxRecDepth 20000 in
theorem gX2_takeOut_X6_setDeleted : GoodIn wsX2_takeOut (wsV RX2 64 RX6 yX6_setDeleted wsX6_setDeleted) := goodIn_app (goodIn_of _ (by decide +kernel)) ggX2_takeOut_X6_setDeleted
set_option maxRecDepth 20000 in
theorem ggX2_takeOut_X0_addDeleted : GoodIn wsX2_takeOut wsX0_addDeleted := goodIn_r _ [41, 42, 43, 44, 45, 12, 46, 19, 47, 48, 49, 50, 14, 51, 52, 53, 54, 67, 65, 66] (by decide +kernel) (by decide +kernel)
set_option maxRecDepth 20000 in
theorem gX2_takeOut_X0_addDeleted : GoodIn wsX2_takeOut (wsV RX2 67 RX0 yX0_addDeleted wsX0_addDeleted) := goodIn_app (goodIn_of _ (by decide +kernel)) ggX2_takeOut_X0_addDeleted
theorem dX2_takeOut_0 : decode cX2_takeOut 0 = .ok (.aload_n 0, 1) := by decide +kernel
theorem dX2_takeOut_1 : decode cX2_takeOut 1 = .ok (.getfield 12, 3) := by decide +kernel
theorem dX2_takeOut_4 : decode cX2_takeOut 4 = .ok (.iload_n 1, 1) := by decide +kernel
theorem dX2_takeOut_5 : decode cX2_takeOut 5 = .ok (.invokevirtual 58, 3) := by decide +kernel
theorem dX2_takeOut_8 : decode cX2_takeOut 8 = .ok (.ifCond .ne 5, 3) := by decide +kernel
theorem dX2_takeOut_11 : decode cX2_takeOut 11 = .ok (.iconst 1, 1) := by decide +kernel
theorem dX2_takeOut_12 : decode cX2_takeOut 12 = .ok (.ireturn, 1) := by decide +kernel
theorem dX2_takeOut_13 : decode cX2_takeOut 13 = .ok (.aload_n 0, 1) := by decide +kernel
theorem dX2_takeOut_14 : decode cX2_takeOut 14 = .ok (.getfield 12, 3) := by decide +kernel
theorem dX2_takeOut_17 : decode cX2_takeOut 17 = .ok (.iload_n 1, 1) := by decide +kernel
theorem dX2_takeOut_18 : decode cX2_takeOut 18 = .ok (.invokevirtual 61, 3) := by decide +kernel
theorem dX2_takeOut_21 : decode cX2_takeOut 21 = .ok (.ifCond .eq 5, 3) := by decide +kernel
theorem dX2_takeOut_24 : decode cX2_takeOut 24 = .ok (.iconst 0, 1) := by decide +kernel
theorem dX2_takeOut_25 : decode cX2_takeOut 25 = .ok (.ireturn, 1) := by decide +kernel
theorem dX2_takeOut_26 : decode cX2_takeOut 26 = .ok (.aload_n 0, 1) := by decide +kernel
theorem dX2_takeOut_27 : decode cX2_takeOut 27 = .ok (.getfield 12, 3) := by decide +kernel
theorem dX2_takeOut_30 : decode cX2_takeOut 30 = .ok (.iload_n 1, 1) := by decide +kernel
theorem dX2_takeOut_31 : decode cX2_takeOut 31 = .ok (.invokevirtual 64, 3) := by decide +kernel
theorem dX2_takeOut_34 : decode cX2_takeOut 34 = .ok (.aload_n 0, 1) := by decide +kernel
theorem dX2_takeOut_35 : decode cX2_takeOut 35 = .ok (.getfield 33, 3) := by decide +kernel
theorem dX2_takeOut_38 : decode cX2_takeOut 38 = .ok (.iload_n 1, 1) := by decide +kernel
theorem dX2_takeOut_39 : decode cX2_takeOut 39 = .ok (.invokevirtual 67, 3) := by decide +kernel
theorem dX2_takeOut_42 : decode cX2_takeOut 42 = .ok (.iconst 1, 1) := by decide +kernel
theorem dX2_takeOut_43 : decode cX2_takeOut 43 = .ok (.ireturn, 1) := by decide +kernel
set_option maxRecDepth 20000 in
theorem ggX2_renewText_X5_clear : GoodIn wsX2_renewText wsX5_clear := goodIn_r _ [8, 9, 46, 47] (by decide +kernel) (by decide +kernel)
set_option maxRecDepth 20000 in
theorem gX2_renewText_X5_clear : GoodIn wsX2_renewText (wsV RX2 70 RX5 yX5_clear wsX5_clear) := goodIn_app (goodIn_of _ (by decide +kernel)) ggX2_renewText_X5_clear
set_option maxRecDepth 20000 in
theorem ggX2_renewText_X5_size : GoodIn wsX2_renewText wsX5_size := goodIn_r _ [13, 9, 46, 47] (by decide +kernel) (by decide +kernel)
set_option maxRecDepth 20000 in
theorem gX2_renewText_X5_size : GoodIn wsX2_renewText (wsV RX2 73 RX5 yX5_size wsX5_size) := goodIn_app (goodIn_of _ (by decide +kernel)) ggX2_renewText_X5_size
set_option maxRecDepth 20000 in
theorem ggX2_renewText_X5_at : GoodIn wsX2_renewText wsX5_at := goodIn_r _ [17, 18, 19, 20, 21, 7, 22, 9, 46, 47] (by decide +kernel) (by decide +kernel)
set_option maxRecDepth 20000 in
theorem gX2_renewText_X5_at : GoodIn wsX2_renewText (wsV RX2 77 RX5 yX5_at wsX5_at) := goodIn_app (goodIn_of _ (by decide +kernel)) ggX2_renewText_X5_at
set_option maxRecDepth 20000 in
theorem ggX2_renewText_X6_isThere : GoodIn wsX2_renewText wsX6_isThere := goodIn_r _ [27, 28, 29, 15, 16, 7, 17, 18, 19, 20, 21, 22, 9, 48, 49, 50, 51, 52, 53, 46, 47] (by decide +kernel) (by decide +kernel)
set_option maxRecDepth 20000 in
theorem gX2_renewText_X6_isThere : GoodIn wsX2_renewText (wsV RX2 58 RX6 yX6_isThere wsX6_isThere) := goodIn_app (goodIn_of _ (by decide +kernel)) ggX2_renewText_X6_isThere
set_option maxRecDepth 20000 in
theorem ggX2_renewText_X5_add : GoodIn wsX2_renewText wsX5_add := goodIn_r _ [33, 9, 34, 35, 36, 7, 37, 18, 38, 39, 40, 41, 46, 47] (by decide +kernel) (by decide +kernel)
set_option maxRecDepth 20000 in
theorem gX2_renewText_X5_add : GoodIn wsX2_renewText (wsV RX2 80 RX5 yX5_add wsX5_add) := goodIn_app (goodIn_of _ (by decide +kernel)) ggX2_renewText_X5_add
theorem dX2_renewText_0 : decode cX2_renewText 0 = .ok (.aload_n 0, 1) := by decide +kernel
theorem dX2_renewText_1 : decode cX2_renewText 1 = .ok (.getfield 27, 3) := by decide +kernel
theorem dX2_renewText_4 : decode cX2_renewText 4 = .ok (.invokevirtual 70, 3) := by decide +kernel
theorem dX2_renewText_7 : decode cX2_renewText 7 = .ok (.iconst 0, 1) := by decide +kernel
theorem dX2_renewText_8 : decode cX2_renewText 8 = .ok (.istore_n 1, 1) := by decide +kernel
theorem dX2_renewText_9 : decode cX2_renewText 9 = .ok (.iload_n 1, 1) := by decide +kernel
theorem dX2_renewText_10 : decode cX2_renewText 10 = .ok (.aload_n 0, 1) := by decide +kernel
theorem dX2_renewText_11 : decode cX2_renewText 11 = .ok (.getfield 23, 3) := by decide +kernel
theorem dX2_renewText_14 : decode cX2_renewText 14 = .ok (.invokevirtual 73, 3) := by decide +kernel
theorem dX2_renewText_17 : decode cX2_renewText 17 = .ok (.if_icmp .ge 42, 3) := by decide +kernel
theorem dX2_renewText_20 : decode cX2_renewText 20 = .ok (.aload_n 0, 1) := by decide +kernel
theorem dX2_renewText_21 : decode cX2_renewText 21 = .ok (.getfield 12, 3) := by decide +kernel
theorem dX2_renewText_24 : decode cX2_renewText 24 = .ok (.aload_n 0, 1) := by decide +kernel
theorem dX2_renewText_25 : decode cX2_renewText 25 = .ok (.getfield 23, 3) := by decide +kernel
theorem dX2_renewText_28 : decode cX2_renewText 28 = .ok (.iload_n 1, 1) := by decide +kernel
theorem dX2_renewText_29 : decode cX2_renewText 29 = .ok (.invokevirtual 77, 3) := by decide +kernel
theorem dX2_renewText_32 : decode cX2_renewText 32 = .ok (.invokevirtual 58, 3) := by decide +kernel
theorem dX2_renewText_35 : decode cX2_renewText 35 = .ok (.ifCond .eq 18, 3) := by decide +kernel
theorem dX2_renewText_38 : decode cX2_renewText 38 = .ok (.aload_n 0, 1) := by decide +kernel
theorem dX2_renewText_39 : decode cX2_renewText 39 = .ok (.getfield 27, 3) := by decide +kernel
theorem dX2_renewText_42 : decode cX2_renewText 42 = .ok (.aload_n 0, 1) := by decide +kernel
theorem dX2_renewText_43 : decode cX2_renewText 43 = .ok (.getfield 23, 3) := by decide +kernel
theorem dX2_renewText_46 : decode cX2_renewText 46 = .ok (.iload_n 1, 1) := by decide +kernel
theorem dX2_renewText_47 : decode cX2_renewText 47 = .ok (.invokevirtual 77, 3) := by decide +kernel
theorem dX2_renewText_50 : decode cX2_renewText 50 = .ok (.invokevirtual 80, 3) := by decide +kernel
theorem dX2_renewText_53 : decode cX2_renewText 53 = .ok (.iinc 1 1, 3) := by decide +kernel
theorem dX2_renewText_56 : decode cX2_renewText 56 = .ok (.goto (-47), 3) := by decide +kernel
theorem dX2_renewText_59 : decode cX2_renewText 59 = .ok (.return_, 1) := by decide +kernel
set_option maxRecDepth 20000 in
theorem ggX2_countBy_X5_size : GoodIn wsX2_countBy wsX5_size := goodIn_r _ [7, 8, 29, 30] (by decide +kernel) (by decide +kernel)
set_option maxRecDepth 20000 in
theorem gX2_countBy_X5_size : GoodIn wsX2_countBy (wsV RX2 73 RX5 yX5_size wsX5_size) := goodIn_app (goodIn_of _ (by decide +kernel)) ggX2_countBy_X5_size
set_option maxRecDepth 20000 in
theorem ggX2_countBy_X5_at : GoodIn wsX2_countBy wsX5_at := goodIn_r _ [12, 13, 14, 15, 16, 6, 17, 8, 29, 30] (by decide +kernel) (by decide +kernel)
set_option maxRecDepth 20000 in
theorem gX2_countBy_X5_at : GoodIn wsX2_countBy (wsV RX2 77 RX5 yX5_at wsX5_at) := goodIn_app (goodIn_of _ (by decide +kernel)) ggX2_countBy_X5_at
set_option maxRecDepth 20000 in
theorem ggX2_countBy_X6_writerOf : GoodIn wsX2_countBy wsX6_writerOf := goodIn_r _ [22, 23, 24, 10, 11, 6, 12, 13, 14, 15, 16, 17, 8, 31, 32, 33, 34, 35, 36, 29, 30] (by decide +kernel) (by decide +kernel)
set_option maxRecDepth 20000 in
theorem gX2_countBy_X6_writerOf : GoodIn wsX2_countBy (wsV RX2 83 RX6 yX6_writerOf wsX6_writerOf) := goodIn_app (goodIn_of _ (by decide +kernel)) ggX2_countBy_X6_writerOf
theorem dX2_countBy_0 : decode cX2_countBy 0 = .ok (.iconst 0, 1) := by decide +kernel
theorem dX2_countBy_1 : decode cX2_countBy 1 = .ok (.istore_n 2, 1) := by decide +kernel
theorem dX2_countBy_2 : decode cX2_countBy 2 = .ok (.iconst 0, 1) := by decide +kernel
theorem dX2_countBy_3 : decode cX2_countBy 3 = .ok (.istore_n 3, 1) := by decide +kernel
theorem dX2_countBy_4 : decode cX2_countBy 4 = .ok (.iload_n 3, 1) := by decide +kernel
theorem dX2_countBy_5 : decode cX2_countBy 5 = .ok (.aload_n 0, 1) := by decide +kernel
theorem dX2_countBy_6 : decode cX2_countBy 6 = .ok (.getfield 27, 3) := by decide +kernel
theorem dX2_countBy_9 : decode cX2_countBy 9 = .ok (.invokevirtual 73, 3) := by decide +kernel
theorem dX2_countBy_12 : decode cX2_countBy 12 = .ok (.if_icmp .ge 31, 3) := by decide +kernel
theorem dX2_countBy_15 : decode cX2_countBy 15 = .ok (.aload_n 0, 1) := by decide +kernel
theorem dX2_countBy_16 : decode cX2_countBy 16 = .ok (.getfield 12, 3) := by decide +kernel
theorem dX2_countBy_19 : decode cX2_countBy 19 = .ok (.aload_n 0, 1) := by decide +kernel
theorem dX2_countBy_20 : decode cX2_countBy 20 = .ok (.getfield 27, 3) := by decide +kernel
theorem dX2_countBy_23 : decode cX2_countBy 23 = .ok (.iload_n 3, 1) := by decide +kernel
theorem dX2_countBy_24 : decode cX2_countBy 24 = .ok (.invokevirtual 77, 3) := by decide +kernel
theorem dX2_countBy_27 : decode cX2_countBy 27 = .ok (.invokevirtual 83, 3) := by decide +kernel
theorem dX2_countBy_30 : decode cX2_countBy 30 = .ok (.iload_n 1, 1) := by decide +kernel
theorem dX2_countBy_31 : decode cX2_countBy 31 = .ok (.if_icmp .ne 6, 3) := by decide +kernel
theorem dX2_countBy_34 : decode cX2_countBy 34 = .ok (.iinc 2 1, 3) := by decide +kernel
theorem dX2_countBy_37 : decode cX2_countBy 37 = .ok (.iinc 3 1, 3) := by decide +kernel
theorem dX2_countBy_40 : decode cX2_countBy 40 = .ok (.goto (-36), 3) := by decide +kernel
theorem dX2_countBy_43 : decode cX2_countBy 43 = .ok (.iload_n 2, 1) := by decide +kernel
theorem dX2_countBy_44 : decode cX2_countBy 44 = .ok (.ireturn, 1) := by decide +kernel
set_option maxRecDepth 20000 in
theorem ggX2_countAnewBy_X0_count : GoodIn wsX2_countAnewBy wsX0_count := goodIn_r _ [7, 8, 9, 10, 11, 12, 13, 14, 44, 45, 46] (by decide +kernel) (by decide +kernel)
set_option maxRecDepth 20000 in
theorem gX2_countAnewBy_X0_count : GoodIn wsX2_countAnewBy (wsV RX2 86 RX0 yX0_count wsX0_count) := goodIn_app (goodIn_of _ (by decide +kernel)) ggX2_countAnewBy_X0_count
set_option maxRecDepth 20000 in
theorem ggX2_countAnewBy_X0_numberAt : GoodIn wsX2_countAnewBy wsX0_numberAt := goodIn_r _ [18, 8, 19, 20, 21, 6, 22, 23, 24, 25, 12, 26, 27, 28, 29, 30, 31, 14, 44, 45, 46] (by decide +kernel) (by decide +kernel)
set_option maxRecDepth 20000 in
theorem gX2_countAnewBy_X0_numberAt : GoodIn wsX2_countAnewBy (wsV RX2 89 RX0 yX0_numberAt wsX0_numberAt) := goodIn_app (goodIn_of _ (by decide +kernel)) ggX2_countAnewBy_X0_numberAt
set_option maxRecDepth 20000 in
theorem ggX2_countAnewBy_X6_writerOf : GoodIn wsX2_countAnewBy wsX6_writerOf := goodIn_r _ [36, 37, 38, 24, 25, 12, 26, 27, 28, 29, 30, 31, 14, 47, 48, 49, 50, 51, 52, 45, 46] (by decide +kernel) (by decide +kernel)
set_option maxRecDepth 20000 in
theorem gX2_countAnewBy_X6_writerOf : GoodIn wsX2_countAnewBy (wsV RX2 83 RX6 yX6_writerOf wsX6_writerOf) := goodIn_app (goodIn_of _ (by decide +kernel)) ggX2_countAnewBy_X6_writerOf
set_option maxRecDepth 20000 in
theorem ggX2_countAnewBy_X0_isTyped : GoodIn wsX2_countAnewBy wsX0_isTyped := goodIn_r _ [22, 8, 23, 24, 25, 12, 26, 27, 28, 29, 30, 31, 14, 44, 45, 46] (by decide +kernel) (by decide +kernel)
set_option maxRecDepth 20000 in
theorem gX2_countAnewBy_X0_isTyped : GoodIn wsX2_countAnewBy (wsV RX2 92 RX0 yX0_isTyped wsX0_isTyped) := goodIn_app (goodIn_of _ (by decide +kernel)) ggX2_countAnewBy_X0_isTyped
theorem dX2_countAnewBy_0 : decode cX2_countAnewBy 0 = .ok (.iconst 0, 1) := by decide +kernel
theorem dX2_countAnewBy_1 : decode cX2_countAnewBy 1 = .ok (.istore_n 2, 1) := by decide +kernel
theorem dX2_countAnewBy_2 : decode cX2_countAnewBy 2 = .ok (.iconst 0, 1) := by decide +kernel
theorem dX2_countAnewBy_3 : decode cX2_countAnewBy 3 = .ok (.istore_n 3, 1) := by decide +kernel
theorem dX2_countAnewBy_4 : decode cX2_countAnewBy 4 = .ok (.iload_n 3, 1) := by decide +kernel
theorem dX2_countAnewBy_5 : decode cX2_countAnewBy 5 = .ok (.aload_n 0, 1) := by decide +kernel
theorem dX2_countAnewBy_6 : decode cX2_countAnewBy 6 = .ok (.getfield 33, 3) := by decide +kernel
theorem dX2_countAnewBy_9 : decode cX2_countAnewBy 9 = .ok (.invokevirtual 86, 3) := by decide +kernel
theorem dX2_countAnewBy_12 : decode cX2_countAnewBy 12 = .ok (.if_icmp .ge 47, 3) := by decide +kernel
theorem dX2_countAnewBy_15 : decode cX2_countAnewBy 15 = .ok (.aload_n 0, 1) := by decide +kernel
theorem dX2_countAnewBy_16 : decode cX2_countAnewBy 16 = .ok (.getfield 12, 3) := by decide +kernel
theorem dX2_countAnewBy_19 : decode cX2_countAnewBy 19 = .ok (.aload_n 0, 1) := by decide +kernel
theorem dX2_countAnewBy_20 : decode cX2_countAnewBy 20 = .ok (.getfield 33, 3) := by decide +kernel
theorem dX2_countAnewBy_23 : decode cX2_countAnewBy 23 = .ok (.iload_n 3, 1) := by decide +kernel
theorem dX2_countAnewBy_24 : decode cX2_countAnewBy 24 = .ok (.invokevirtual 89, 3) := by decide +kernel
theorem dX2_countAnewBy_27 : decode cX2_countAnewBy 27 = .ok (.invokevirtual 83, 3) := by decide +kernel
theorem dX2_countAnewBy_30 : decode cX2_countAnewBy 30 = .ok (.iload_n 1, 1) := by decide +kernel
theorem dX2_countAnewBy_31 : decode cX2_countAnewBy 31 = .ok (.if_icmp .ne 22, 3) := by decide +kernel
theorem dX2_countAnewBy_34 : decode cX2_countAnewBy 34 = .ok (.iload_n 2, 1) := by decide +kernel
theorem dX2_countAnewBy_35 : decode cX2_countAnewBy 35 = .ok (.aload_n 0, 1) := by decide +kernel
theorem dX2_countAnewBy_36 : decode cX2_countAnewBy 36 = .ok (.getfield 33, 3) := by decide +kernel
theorem dX2_countAnewBy_39 : decode cX2_countAnewBy 39 = .ok (.iload_n 3, 1) := by decide +kernel
theorem dX2_countAnewBy_40 : decode cX2_countAnewBy 40 = .ok (.invokevirtual 92, 3) := by decide +kernel
theorem dX2_countAnewBy_43 : decode cX2_countAnewBy 43 = .ok (.ifCond .eq 7, 3) := by decide +kernel
theorem dX2_countAnewBy_46 : decode cX2_countAnewBy 46 = .ok (.iconst 1, 1) := by decide +kernel
theorem dX2_countAnewBy_47 : decode cX2_countAnewBy 47 = .ok (.goto 4, 3) := by decide +kernel
theorem dX2_countAnewBy_50 : decode cX2_countAnewBy 50 = .ok (.iconst (-1), 1) := by decide +kernel
theorem dX2_countAnewBy_51 : decode cX2_countAnewBy 51 = .ok (.iadd, 1) := by decide +kernel
theorem dX2_countAnewBy_52 : decode cX2_countAnewBy 52 = .ok (.istore_n 2, 1) := by decide +kernel
theorem dX2_countAnewBy_53 : decode cX2_countAnewBy 53 = .ok (.iinc 3 1, 3) := by decide +kernel
theorem dX2_countAnewBy_56 : decode cX2_countAnewBy 56 = .ok (.goto (-52), 3) := by decide +kernel
theorem dX2_countAnewBy_59 : decode cX2_countAnewBy 59 = .ok (.iload_n 2, 1) := by decide +kernel
theorem dX2_countAnewBy_60 : decode cX2_countAnewBy 60 = .ok (.ireturn, 1) := by decide +kernel
set_option maxRecDepth 20000 in
theorem ggX2_hasFrozen_X5_size : GoodIn wsX2_hasFrozen wsX5_size := goodIn_r _ [7, 8, 33, 34] (by decide +kernel) (by decide +kernel)
set_option maxRecDepth 20000 in
theorem gX2_hasFrozen_X5_size : GoodIn wsX2_hasFrozen (wsV RX2 73 RX5 yX5_size wsX5_size) := goodIn_app (goodIn_of _ (by decide +kernel)) ggX2_hasFrozen_X5_size
set_option maxRecDepth 20000 in
theorem ggX2_hasFrozen_X5_at : GoodIn wsX2_hasFrozen wsX5_at := goodIn_r _ [12, 13, 14, 15, 16, 6, 17, 8, 33, 34] (by decide +kernel) (by decide +kernel)
set_option maxRecDepth 20000 in
theorem gX2_hasFrozen_X5_at : GoodIn wsX2_hasFrozen (wsV RX2 77 RX5 yX5_at wsX5_at) := goodIn_app (goodIn_of _ (by decide +kernel)) ggX2_hasFrozen_X5_at
set_option maxRecDepth 20000 in
theorem ggX2_hasFrozen_X6_isFrozen : GoodIn wsX2_hasFrozen wsX6_isFrozen := goodIn_r _ [22, 23, 24, 25, 21, 26, 27, 28, 10, 11, 6, 12, 13, 14, 15, 16, 17, 8, 35, 36, 37, 38, 39, 40, 33, 34] (by decide +kernel) (by decide +kernel)
set_option maxRecDepth 20000 in
theorem gX2_hasFrozen_X6_isFrozen : GoodIn wsX2_hasFrozen (wsV RX2 61 RX6 yX6_isFrozen wsX6_isFrozen) := goodIn_app (goodIn_of _ (by decide +kernel)) ggX2_hasFrozen_X6_isFrozen
theorem dX2_hasFrozen_0 : decode cX2_hasFrozen 0 = .ok (.iload_n 1, 1) := by decide +kernel
theorem dX2_hasFrozen_1 : decode cX2_hasFrozen 1 = .ok (.istore_n 3, 1) := by decide +kernel
theorem dX2_hasFrozen_2 : decode cX2_hasFrozen 2 = .ok (.iload_n 3, 1) := by decide +kernel
theorem dX2_hasFrozen_3 : decode cX2_hasFrozen 3 = .ok (.iload_n 2, 1) := by decide +kernel
theorem dX2_hasFrozen_4 : decode cX2_hasFrozen 4 = .ok (.if_icmp .gt 40, 3) := by decide +kernel
theorem dX2_hasFrozen_7 : decode cX2_hasFrozen 7 = .ok (.iload_n 3, 1) := by decide +kernel
theorem dX2_hasFrozen_8 : decode cX2_hasFrozen 8 = .ok (.aload_n 0, 1) := by decide +kernel
theorem dX2_hasFrozen_9 : decode cX2_hasFrozen 9 = .ok (.getfield 27, 3) := by decide +kernel
theorem dX2_hasFrozen_12 : decode cX2_hasFrozen 12 = .ok (.invokevirtual 73, 3) := by decide +kernel
theorem dX2_hasFrozen_15 : decode cX2_hasFrozen 15 = .ok (.if_icmp .ge 29, 3) := by decide +kernel
theorem dX2_hasFrozen_18 : decode cX2_hasFrozen 18 = .ok (.aload_n 0, 1) := by decide +kernel
theorem dX2_hasFrozen_19 : decode cX2_hasFrozen 19 = .ok (.getfield 12, 3) := by decide +kernel
theorem dX2_hasFrozen_22 : decode cX2_hasFrozen 22 = .ok (.aload_n 0, 1) := by decide +kernel
theorem dX2_hasFrozen_23 : decode cX2_hasFrozen 23 = .ok (.getfield 27, 3) := by decide +kernel
theorem dX2_hasFrozen_26 : decode cX2_hasFrozen 26 = .ok (.iload_n 3, 1) := by decide +kernel
theorem dX2_hasFrozen_27 : decode cX2_hasFrozen 27 = .ok (.invokevirtual 77, 3) := by decide +kernel
theorem dX2_hasFrozen_30 : decode cX2_hasFrozen 30 = .ok (.invokevirtual 61, 3) := by decide +kernel
theorem dX2_hasFrozen_33 : decode cX2_hasFrozen 33 = .ok (.ifCond .eq 5, 3) := by decide +kernel
theorem dX2_hasFrozen_36 : decode cX2_hasFrozen 36 = .ok (.iconst 1, 1) := by decide +kernel
theorem dX2_hasFrozen_37 : decode cX2_hasFrozen 37 = .ok (.ireturn, 1) := by decide +kernel
theorem dX2_hasFrozen_38 : decode cX2_hasFrozen 38 = .ok (.iinc 3 1, 3) := by decide +kernel
theorem dX2_hasFrozen_41 : decode cX2_hasFrozen 41 = .ok (.goto (-39), 3) := by decide +kernel
theorem dX2_hasFrozen_44 : decode cX2_hasFrozen 44 = .ok (.iconst 0, 1) := by decide +kernel
theorem dX2_hasFrozen_45 : decode cX2_hasFrozen 45 = .ok (.ireturn, 1) := by decide +kernel
set_option maxRecDepth 20000 in
theorem ggX2_freeze_X5_size : GoodIn wsX2_freeze wsX5_size := goodIn_r _ [7, 8, 32, 33] (by decide +kernel) (by decide +kernel)
set_option maxRecDepth 20000 in
theorem gX2_freeze_X5_size : GoodIn wsX2_freeze (wsV RX2 73 RX5 yX5_size wsX5_size) := goodIn_app (goodIn_of _ (by decide +kernel)) ggX2_freeze_X5_size
set_option maxRecDepth 20000 in
theorem ggX2_freeze_X5_at : GoodIn wsX2_freeze wsX5_at := goodIn_r _ [12, 13, 14, 15, 16, 6, 17, 8, 32, 33] (by decide +kernel) (by decide +kernel)
set_option maxRecDepth 20000 in
theorem gX2_freeze_X5_at : GoodIn wsX2_freeze (wsV RX2 77 RX5 yX5_at wsX5_at) := goodIn_app (goodIn_of _ (by decide +kernel)) ggX2_freeze_X5_at
set_option maxRecDepth 20000 in
theorem ggX2_freeze_X6_setFrozen : GoodIn wsX2_freeze wsX6_setFrozen := goodIn_r _ [22, 23, 24, 25, 26, 6, 27, 13, 14, 15, 16, 17, 8, 34, 35, 36, 37, 38, 39, 32, 33] (by decide +kernel) (by decide +kernel)
set_option maxRecDepth 20000 in
theorem gX2_freeze_X6_setFrozen : GoodIn wsX2_freeze (wsV RX2 95 RX6 yX6_setFrozen wsX6_setFrozen) := goodIn_app (goodIn_of _ (by decide +kernel)) ggX2_freeze_X6_setFrozen
theorem dX2_freeze_0 : decode cX2_freeze 0 = .ok (.iload_n 1, 1) := by decide +kernel
theorem dX2_freeze_1 : decode cX2_freeze 1 = .ok (.istore 4, 2) := by decide +kernel
theorem dX2_freeze_3 : decode cX2_freeze 3 = .ok (.iload 4, 2) := by decide +kernel
theorem dX2_freeze_5 : decode cX2_freeze 5 = .ok (.iload_n 2, 1) := by decide +kernel
theorem dX2_freeze_6 : decode cX2_freeze 6 = .ok (.if_icmp .gt 38, 3) := by decide +kernel
theorem dX2_freeze_9 : decode cX2_freeze 9 = .ok (.iload 4, 2) := by decide +kernel
theorem dX2_freeze_11 : decode cX2_freeze 11 = .ok (.aload_n 0, 1) := by decide +kernel
theorem dX2_freeze_12 : decode cX2_freeze 12 = .ok (.getfield 27, 3) := by decide +kernel
theorem dX2_freeze_15 : decode cX2_freeze 15 = .ok (.invokevirtual 73, 3) := by decide +kernel
theorem dX2_freeze_18 : decode cX2_freeze 18 = .ok (.if_icmp .ge 26, 3) := by decide +kernel
theorem dX2_freeze_21 : decode cX2_freeze 21 = .ok (.aload_n 0, 1) := by decide +kernel
theorem dX2_freeze_22 : decode cX2_freeze 22 = .ok (.getfield 12, 3) := by decide +kernel
theorem dX2_freeze_25 : decode cX2_freeze 25 = .ok (.aload_n 0, 1) := by decide +kernel
theorem dX2_freeze_26 : decode cX2_freeze 26 = .ok (.getfield 27, 3) := by decide +kernel
theorem dX2_freeze_29 : decode cX2_freeze 29 = .ok (.iload 4, 2) := by decide +kernel
theorem dX2_freeze_31 : decode cX2_freeze 31 = .ok (.invokevirtual 77, 3) := by decide +kernel
theorem dX2_freeze_34 : decode cX2_freeze 34 = .ok (.iload_n 3, 1) := by decide +kernel
theorem dX2_freeze_35 : decode cX2_freeze 35 = .ok (.invokevirtual 95, 3) := by decide +kernel
theorem dX2_freeze_38 : decode cX2_freeze 38 = .ok (.iinc 4 1, 3) := by decide +kernel
theorem dX2_freeze_41 : decode cX2_freeze 41 = .ok (.goto (-38), 3) := by decide +kernel
theorem dX2_freeze_44 : decode cX2_freeze 44 = .ok (.return_, 1) := by decide +kernel
set_option maxRecDepth 20000 in
theorem ggX2_firstBetween_X5_indexOf : GoodIn wsX2_firstBetween wsX5_indexOf := goodIn_r _ [7, 8, 9, 10, 11, 6, 12, 13, 14, 15, 16, 17, 30, 31] (by decide +kernel) (by decide +kernel)
set_option maxRecDepth 20000 in
theorem gX2_firstBetween_X5_indexOf : GoodIn wsX2_firstBetween (wsV RX2 41 RX5 yX5_indexOf wsX5_indexOf) := goodIn_app (goodIn_of _ (by decide +kernel)) ggX2_firstBetween_X5_indexOf
set_option maxRecDepth 20000 in
theorem ggX2_firstBetween_X5_at : GoodIn wsX2_firstBetween wsX5_at := goodIn_r _ [12, 13, 14, 15, 16, 6, 17, 8, 30, 31] (by decide +kernel) (by decide +kernel)
set_option maxRecDepth 20000 in
theorem gX2_firstBetween_X5_at : GoodIn wsX2_firstBetween (wsV RX2 77 RX5 yX5_at wsX5_at) := goodIn_app (goodIn_of _ (by decide +kernel)) ggX2_firstBetween_X5_at
set_option maxRecDepth 20000 in
theorem ggX2_firstBetween_X6_isThere : GoodIn wsX2_firstBetween wsX6_isThere := goodIn_r _ [23, 24, 25, 10, 11, 6, 12, 13, 14, 15, 16, 17, 8, 32, 33, 34, 35, 36, 37, 30, 31] (by decide +kernel) (by decide +kernel)
set_option maxRecDepth 20000 in
theorem gX2_firstBetween_X6_isThere : GoodIn wsX2_firstBetween (wsV RX2 58 RX6 yX6_isThere wsX6_isThere) := goodIn_app (goodIn_of _ (by decide +kernel)) ggX2_firstBetween_X6_isThere
theorem dX2_firstBetween_0 : decode cX2_firstBetween 0 = .ok (.aload_n 0, 1) := by decide +kernel
theorem dX2_firstBetween_1 : decode cX2_firstBetween 1 = .ok (.getfield 23, 3) := by decide +kernel
theorem dX2_firstBetween_4 : decode cX2_firstBetween 4 = .ok (.iload_n 2, 1) := by decide +kernel
theorem dX2_firstBetween_5 : decode cX2_firstBetween 5 = .ok (.invokevirtual 41, 3) := by decide +kernel
theorem dX2_firstBetween_8 : decode cX2_firstBetween 8 = .ok (.istore_n 3, 1) := by decide +kernel
theorem dX2_firstBetween_9 : decode cX2_firstBetween 9 = .ok (.aload_n 0, 1) := by decide +kernel
theorem dX2_firstBetween_10 : decode cX2_firstBetween 10 = .ok (.getfield 23, 3) := by decide +kernel
theorem dX2_firstBetween_13 : decode cX2_firstBetween 13 = .ok (.iload_n 1, 1) := by decide +kernel
theorem dX2_firstBetween_14 : decode cX2_firstBetween 14 = .ok (.invokevirtual 41, 3) := by decide +kernel
theorem dX2_firstBetween_17 : decode cX2_firstBetween 17 = .ok (.istore 4, 2) := by decide +kernel
theorem dX2_firstBetween_19 : decode cX2_firstBetween 19 = .ok (.iload 4, 2) := by decide +kernel
theorem dX2_firstBetween_21 : decode cX2_firstBetween 21 = .ok (.iload_n 3, 1) := by decide +kernel
theorem dX2_firstBetween_22 : decode cX2_firstBetween 22 = .ok (.if_icmp .gt 38, 3) := by decide +kernel
theorem dX2_firstBetween_25 : decode cX2_firstBetween 25 = .ok (.aload_n 0, 1) := by decide +kernel
theorem dX2_firstBetween_26 : decode cX2_firstBetween 26 = .ok (.getfield 12, 3) := by decide +kernel
theorem dX2_firstBetween_29 : decode cX2_firstBetween 29 = .ok (.aload_n 0, 1) := by decide +kernel
theorem dX2_firstBetween_30 : decode cX2_firstBetween 30 = .ok (.getfield 23, 3) := by decide +kernel
theorem dX2_firstBetween_33 : decode cX2_firstBetween 33 = .ok (.iload 4, 2) := by decide +kernel
theorem dX2_firstBetween_35 : decode cX2_firstBetween 35 = .ok (.invokevirtual 77, 3) := by decide +kernel
theorem dX2_firstBetween_38 : decode cX2_firstBetween 38 = .ok (.invokevirtual 58, 3) := by decide +kernel
theorem dX2_firstBetween_41 : decode cX2_firstBetween 41 = .ok (.ifCond .eq 13, 3) := by decide +kernel
theorem dX2_firstBetween_44 : decode cX2_firstBetween 44 = .ok (.aload_n 0, 1) := by decide +kernel
theorem dX2_firstBetween_45 : decode cX2_firstBetween 45 = .ok (.getfield 23, 3) := by decide +kernel
theorem dX2_firstBetween_48 : decode cX2_firstBetween 48 = .ok (.iload 4, 2) := by decide +kernel
theorem dX2_firstBetween_50 : decode cX2_firstBetween 50 = .ok (.invokevirtual 77, 3) := by decide +kernel
theorem dX2_firstBetween_53 : decode cX2_firstBetween 53 = .ok (.ireturn, 1) := by decide +kernel
theorem dX2_firstBetween_54 : decode cX2_firstBetween 54 = .ok (.iinc 4 1, 3) := by decide +kernel
theorem dX2_firstBetween_57 : decode cX2_firstBetween 57 = .ok (.goto (-38), 3) := by decide +kernel
theorem dX2_firstBetween_60 : decode cX2_firstBetween 60 = .ok (.iconst (-1), 1) := by decide +kernel
theorem dX2_firstBetween_61 : decode cX2_firstBetween 61 = .ok (.ireturn, 1) := by decide +kernel
set_option maxRecDepth 20000 in
theorem ggX2_countBetween_X5_indexOf : GoodIn wsX2_countBetween wsX5_indexOf := goodIn_r _ [7, 8, 9, 10, 11, 6, 12, 13, 14, 15, 16, 17, 30, 31] (by decide +kernel) (by decide +kernel)
set_option maxRecDepth 20000 in
theorem gX2_countBetween_X5_indexOf : GoodIn wsX2_countBetween (wsV RX2 41 RX5 yX5_indexOf wsX5_indexOf) := goodIn_app (goodIn_of _ (by decide +kernel)) ggX2_countBetween_X5_indexOf
set_option maxRecDepth 20000 in
theorem ggX2_countBetween_X5_at : GoodIn wsX2_countBetween wsX5_at := goodIn_r _ [12, 13, 14, 15, 16, 6, 17, 8, 30, 31] (by decide +kernel) (by decide +kernel)
set_option maxRecDepth 20000 in
theorem gX2_countBetween_X5_at : GoodIn wsX2_countBetween (wsV RX2 77 RX5 yX5_at wsX5_at) := goodIn_app (goodIn_of _ (by decide +kernel)) ggX2_countBetween_X5_at
set_option maxRecDepth 20000 in
theorem ggX2_countBetween_X6_isThere : GoodIn wsX2_countBetween wsX6_isThere := goodIn_r _ [23, 24, 25, 10, 11, 6, 12, 13, 14, 15, 16, 17, 8, 32, 33, 34, 35, 36, 37, 30, 31] (by decide +kernel) (by decide +kernel)
set_option maxRecDepth 20000 in
theorem gX2_countBetween_X6_isThere : GoodIn wsX2_countBetween (wsV RX2 58 RX6 yX6_isThere wsX6_isThere) := goodIn_app (goodIn_of _ (by decide +kernel)) ggX2_countBetween_X6_isThere
theorem dX2_countBetween_0 : decode cX2_countBetween 0 = .ok (.iconst 0, 1) := by decide +kernel
theorem dX2_countBetween_1 : decode cX2_countBetween 1 = .ok (.istore_n 3, 1) := by decide +kernel
theorem dX2_countBetween_2 : decode cX2_countBetween 2 = .ok (.aload_n 0, 1) := by decide +kernel
theorem dX2_countBetween_3 : decode cX2_countBetween 3 = .ok (.getfield 23, 3) := by decide +kernel
theorem dX2_countBetween_6 : decode cX2_countBetween 6 = .ok (.iload_n 2, 1) := by decide +kernel
theorem dX2_countBetween_7 : decode cX2_countBetween 7 = .ok (.invokevirtual 41, 3) := by decide +kernel
theorem dX2_countBetween_10 : decode cX2_countBetween 10 = .ok (.istore 4, 2) := by decide +kernel
theorem dX2_countBetween_12 : decode cX2_countBetween 12 = .ok (.aload_n 0, 1) := by decide +kernel
theorem dX2_countBetween_13 : decode cX2_countBetween 13 = .ok (.getfield 23, 3) := by decide +kernel
theorem dX2_countBetween_16 : decode cX2_countBetween 16 = .ok (.iload_n 1, 1) := by decide +kernel
theorem dX2_countBetween_17 : decode cX2_countBetween 17 = .ok (.invokevirtual 41, 3) := by decide +kernel
theorem dX2_countBetween_20 : decode cX2_countBetween 20 = .ok (.istore 5, 2) := by decide +kernel
theorem dX2_countBetween_22 : decode cX2_countBetween 22 = .ok (.iload 5, 2) := by decide +kernel
theorem dX2_countBetween_24 : decode cX2_countBetween 24 = .ok (.iload 4, 2) := by decide +kernel
theorem dX2_countBetween_26 : decode cX2_countBetween 26 = .ok (.if_icmp .gt 31, 3) := by decide +kernel
theorem dX2_countBetween_29 : decode cX2_countBetween 29 = .ok (.aload_n 0, 1) := by decide +kernel
theorem dX2_countBetween_30 : decode cX2_countBetween 30 = .ok (.getfield 12, 3) := by decide +kernel
theorem dX2_countBetween_33 : decode cX2_countBetween 33 = .ok (.aload_n 0, 1) := by decide +kernel
theorem dX2_countBetween_34 : decode cX2_countBetween 34 = .ok (.getfield 23, 3) := by decide +kernel
theorem dX2_countBetween_37 : decode cX2_countBetween 37 = .ok (.iload 5, 2) := by decide +kernel
theorem dX2_countBetween_39 : decode cX2_countBetween 39 = .ok (.invokevirtual 77, 3) := by decide +kernel
theorem dX2_countBetween_42 : decode cX2_countBetween 42 = .ok (.invokevirtual 58, 3) := by decide +kernel
theorem dX2_countBetween_45 : decode cX2_countBetween 45 = .ok (.ifCond .eq 6, 3) := by decide +kernel
theorem dX2_countBetween_48 : decode cX2_countBetween 48 = .ok (.iinc 3 1, 3) := by decide +kernel
theorem dX2_countBetween_51 : decode cX2_countBetween 51 = .ok (.iinc 5 1, 3) := by decide +kernel
theorem dX2_countBetween_54 : decode cX2_countBetween 54 = .ok (.goto (-32), 3) := by decide +kernel
theorem dX2_countBetween_57 : decode cX2_countBetween 57 = .ok (.iload_n 3, 1) := by decide +kernel
theorem dX2_countBetween_58 : decode cX2_countBetween 58 = .ok (.ireturn, 1) := by decide +kernel
set_option maxRecDepth 20000 in
theorem ggX2_anchorInRow_X6_anchorOf : GoodIn wsX2_anchorInRow wsX6_anchorOf := goodIn_r _ [6, 7, 8, 9, 10, 11, 12, 13, 14, 15, 16, 17, 18, 28, 29, 30, 31, 32, 33, 34, 35] (by decide +kernel) (by decide +kernel)
set_option maxRecDepth 20000 in
theorem gX2_anchorInRow_X6_anchorOf : GoodIn wsX2_anchorInRow (wsV RX2 98 RX6 yX6_anchorOf wsX6_anchorOf) := goodIn_app (goodIn_of _ (by decide +kernel)) ggX2_anchorInRow_X6_anchorOf
set_option maxRecDepth 20000 in
theorem ggX2_anchorInRow_X6_cameIn : GoodIn wsX2_anchorInRow wsX6_cameIn := goodIn_r _ [22, 23, 8, 9, 10, 11, 12, 13, 14, 15, 16, 17, 18, 28, 29, 30, 31, 32, 33, 34, 35] (by decide +kernel) (by decide +kernel)
set_option maxRecDepth 20000 in
theorem gX2_anchorInRow_X6_cameIn : GoodIn wsX2_anchorInRow (wsV RX2 101 RX6 yX6_cameIn wsX6_cameIn) := goodIn_app (goodIn_of _ (by decide +kernel)) ggX2_anchorInRow_X6_cameIn
theorem dX2_anchorInRow_0 : decode cX2_anchorInRow 0 = .ok (.aload_n 0, 1) := by decide +kernel
theorem dX2_anchorInRow_1 : decode cX2_anchorInRow 1 = .ok (.getfield 12, 3) := by decide +kernel
theorem dX2_anchorInRow_4 : decode cX2_anchorInRow 4 = .ok (.iload_n 1, 1) := by decide +kernel
theorem dX2_anchorInRow_5 : decode cX2_anchorInRow 5 = .ok (.invokevirtual 98, 3) := by decide +kernel
theorem dX2_anchorInRow_8 : decode cX2_anchorInRow 8 = .ok (.istore_n 2, 1) := by decide +kernel
theorem dX2_anchorInRow_9 : decode cX2_anchorInRow 9 = .ok (.iconst 0, 1) := by decide +kernel
theorem dX2_anchorInRow_10 : decode cX2_anchorInRow 10 = .ok (.istore_n 3, 1) := by decide +kernel
theorem dX2_anchorInRow_11 : decode cX2_anchorInRow 11 = .ok (.iload_n 3, 1) := by decide +kernel
theorem dX2_anchorInRow_12 : decode cX2_anchorInRow 12 = .ok (.sipush 300, 3) := by decide +kernel
theorem dX2_anchorInRow_15 : decode cX2_anchorInRow 15 = .ok (.if_icmp .ge 34, 3) := by decide +kernel
theorem dX2_anchorInRow_18 : decode cX2_anchorInRow 18 = .ok (.iload_n 2, 1) := by decide +kernel
theorem dX2_anchorInRow_19 : decode cX2_anchorInRow 19 = .ok (.iconst (-1), 1) := by decide +kernel
theorem dX2_anchorInRow_20 : decode cX2_anchorInRow 20 = .ok (.if_icmp .eq 29, 3) := by decide +kernel
theorem dX2_anchorInRow_23 : decode cX2_anchorInRow 23 = .ok (.aload_n 0, 1) := by decide +kernel
theorem dX2_anchorInRow_24 : decode cX2_anchorInRow 24 = .ok (.getfield 12, 3) := by decide +kernel
theorem dX2_anchorInRow_27 : decode cX2_anchorInRow 27 = .ok (.iload_n 2, 1) := by decide +kernel
theorem dX2_anchorInRow_28 : decode cX2_anchorInRow 28 = .ok (.invokevirtual 101, 3) := by decide +kernel
theorem dX2_anchorInRow_31 : decode cX2_anchorInRow 31 = .ok (.ifCond .ne 18, 3) := by decide +kernel
theorem dX2_anchorInRow_34 : decode cX2_anchorInRow 34 = .ok (.aload_n 0, 1) := by decide +kernel
theorem dX2_anchorInRow_35 : decode cX2_anchorInRow 35 = .ok (.getfield 12, 3) := by decide +kernel
theorem dX2_anchorInRow_38 : decode cX2_anchorInRow 38 = .ok (.iload_n 2, 1) := by decide +kernel
theorem dX2_anchorInRow_39 : decode cX2_anchorInRow 39 = .ok (.invokevirtual 98, 3) := by decide +kernel
theorem dX2_anchorInRow_42 : decode cX2_anchorInRow 42 = .ok (.istore_n 2, 1) := by decide +kernel
theorem dX2_anchorInRow_43 : decode cX2_anchorInRow 43 = .ok (.iinc 3 1, 3) := by decide +kernel
theorem dX2_anchorInRow_46 : decode cX2_anchorInRow 46 = .ok (.goto (-35), 3) := by decide +kernel
theorem dX2_anchorInRow_49 : decode cX2_anchorInRow 49 = .ok (.iload_n 2, 1) := by decide +kernel
theorem dX2_anchorInRow_50 : decode cX2_anchorInRow 50 = .ok (.ireturn, 1) := by decide +kernel
set_option maxRecDepth 20000 in
theorem ggX2_partsReview_X5_at : GoodIn wsX2_partsReview wsX5_at := goodIn_r _ [7, 8, 9, 10, 11, 6, 12, 13, 34, 35] (by decide +kernel) (by decide +kernel)
set_option maxRecDepth 20000 in
theorem gX2_partsReview_X5_at : GoodIn wsX2_partsReview (wsV RX2 77 RX5 yX5_at wsX5_at) := goodIn_app (goodIn_of _ (by decide +kernel)) ggX2_partsReview_X5_at
set_option maxRecDepth 20000 in
theorem ggX2_partsReview_X6_isThere : GoodIn wsX2_partsReview wsX6_isThere := goodIn_r _ [18, 19, 20, 4, 5, 6, 7, 8, 9, 10, 11, 12, 13, 36, 37, 38, 39, 40, 41, 34, 35] (by decide +kernel) (by decide +kernel)
set_option maxRecDepth 20000 in
theorem gX2_partsReview_X6_isThere : GoodIn wsX2_partsReview (wsV RX2 58 RX6 yX6_isThere wsX6_isThere) := goodIn_app (goodIn_of _ (by decide +kernel)) ggX2_partsReview_X6_isThere
set_option maxRecDepth 20000 in
theorem ggX2_partsReview_X5_size : GoodIn wsX2_partsReview wsX5_size := goodIn_r _ [24, 13, 34, 35] (by decide +kernel) (by decide +kernel)
set_option maxRecDepth 20000 in
theorem gX2_partsReview_X5_size : GoodIn wsX2_partsReview (wsV RX2 73 RX5 yX5_size wsX5_size) := goodIn_app (goodIn_of _ (by decide +kernel)) ggX2_partsReview_X5_size
set_option maxRecDepth 20000 in
theorem ggX2_partsReview_X6_reviewOf : GoodIn wsX2_partsReview wsX6_reviewOf := goodIn_r _ [28, 29, 20, 4, 5, 6, 7, 8, 9, 10, 11, 12, 13, 36, 37, 38, 39, 40, 41, 34, 35] (by decide +kernel) (by decide +kernel)
set_option maxRecDepth 20000 in
theorem gX2_partsReview_X6_reviewOf : GoodIn wsX2_partsReview (wsV RX2 104 RX6 yX6_reviewOf wsX6_reviewOf) := goodIn_app (goodIn_of _ (by decide +kernel)) ggX2_partsReview_X6_reviewOf
theorem dX2_partsReview_0 : decode cX2_partsReview 0 = .ok (.iload_n 1, 1) := by decide +kernel
theorem dX2_partsReview_1 : decode cX2_partsReview 1 = .ok (.iconst 1, 1) := by decide +kernel
theorem dX2_partsReview_2 : decode cX2_partsReview 2 = .ok (.isub, 1) := by decide +kernel
theorem dX2_partsReview_3 : decode cX2_partsReview 3 = .ok (.istore_n 2, 1) := by decide +kernel
theorem dX2_partsReview_4 : decode cX2_partsReview 4 = .ok (.iload_n 2, 1) := by decide +kernel
theorem dX2_partsReview_5 : decode cX2_partsReview 5 = .ok (.ifCond .lt 27, 3) := by decide +kernel
theorem dX2_partsReview_8 : decode cX2_partsReview 8 = .ok (.aload_n 0, 1) := by decide +kernel
theorem dX2_partsReview_9 : decode cX2_partsReview 9 = .ok (.getfield 12, 3) := by decide +kernel
theorem dX2_partsReview_12 : decode cX2_partsReview 12 = .ok (.aload_n 0, 1) := by decide +kernel
theorem dX2_partsReview_13 : decode cX2_partsReview 13 = .ok (.getfield 23, 3) := by decide +kernel
theorem dX2_partsReview_16 : decode cX2_partsReview 16 = .ok (.iload_n 2, 1) := by decide +kernel
theorem dX2_partsReview_17 : decode cX2_partsReview 17 = .ok (.invokevirtual 77, 3) := by decide +kernel
theorem dX2_partsReview_20 : decode cX2_partsReview 20 = .ok (.invokevirtual 58, 3) := by decide +kernel
theorem dX2_partsReview_23 : decode cX2_partsReview 23 = .ok (.ifCond .ne 9, 3) := by decide +kernel
theorem dX2_partsReview_26 : decode cX2_partsReview 26 = .ok (.iinc 2 (-1), 3) := by decide +kernel
theorem dX2_partsReview_29 : decode cX2_partsReview 29 = .ok (.goto (-25), 3) := by decide +kernel
theorem dX2_partsReview_32 : decode cX2_partsReview 32 = .ok (.iload_n 1, 1) := by decide +kernel
theorem dX2_partsReview_33 : decode cX2_partsReview 33 = .ok (.istore_n 3, 1) := by decide +kernel
theorem dX2_partsReview_34 : decode cX2_partsReview 34 = .ok (.iload_n 3, 1) := by decide +kernel
theorem dX2_partsReview_35 : decode cX2_partsReview 35 = .ok (.aload_n 0, 1) := by decide +kernel
theorem dX2_partsReview_36 : decode cX2_partsReview 36 = .ok (.getfield 23, 3) := by decide +kernel
theorem dX2_partsReview_39 : decode cX2_partsReview 39 = .ok (.invokevirtual 73, 3) := by decide +kernel
theorem dX2_partsReview_42 : decode cX2_partsReview 42 = .ok (.if_icmp .ge 27, 3) := by decide +kernel
theorem dX2_partsReview_45 : decode cX2_partsReview 45 = .ok (.aload_n 0, 1) := by decide +kernel
theorem dX2_partsReview_46 : decode cX2_partsReview 46 = .ok (.getfield 12, 3) := by decide +kernel
theorem dX2_partsReview_49 : decode cX2_partsReview 49 = .ok (.aload_n 0, 1) := by decide +kernel
theorem dX2_partsReview_50 : decode cX2_partsReview 50 = .ok (.getfield 23, 3) := by decide +kernel
theorem dX2_partsReview_53 : decode cX2_partsReview 53 = .ok (.iload_n 3, 1) := by decide +kernel
theorem dX2_partsReview_54 : decode cX2_partsReview 54 = .ok (.invokevirtual 77, 3) := by decide +kernel
theorem dX2_partsReview_57 : decode cX2_partsReview 57 = .ok (.invokevirtual 58, 3) := by decide +kernel
theorem dX2_partsReview_60 : decode cX2_partsReview 60 = .ok (.ifCond .ne 9, 3) := by decide +kernel
theorem dX2_partsReview_63 : decode cX2_partsReview 63 = .ok (.iinc 3 1, 3) := by decide +kernel
theorem dX2_partsReview_66 : decode cX2_partsReview 66 = .ok (.goto (-32), 3) := by decide +kernel
theorem dX2_partsReview_69 : decode cX2_partsReview 69 = .ok (.aload_n 0, 1) := by decide +kernel
theorem dX2_partsReview_70 : decode cX2_partsReview 70 = .ok (.getfield 12, 3) := by decide +kernel
theorem dX2_partsReview_73 : decode cX2_partsReview 73 = .ok (.aload_n 0, 1) := by decide +kernel
theorem dX2_partsReview_74 : decode cX2_partsReview 74 = .ok (.getfield 23, 3) := by decide +kernel
theorem dX2_partsReview_77 : decode cX2_partsReview 77 = .ok (.iload_n 2, 1) := by decide +kernel
theorem dX2_partsReview_78 : decode cX2_partsReview 78 = .ok (.invokevirtual 77, 3) := by decide +kernel
theorem dX2_partsReview_81 : decode cX2_partsReview 81 = .ok (.invokevirtual 104, 3) := by decide +kernel
theorem dX2_partsReview_84 : decode cX2_partsReview 84 = .ok (.istore 4, 2) := by decide +kernel
theorem dX2_partsReview_86 : decode cX2_partsReview 86 = .ok (.iload 4, 2) := by decide +kernel
theorem dX2_partsReview_88 : decode cX2_partsReview 88 = .ok (.iconst (-1), 1) := by decide +kernel
theorem dX2_partsReview_89 : decode cX2_partsReview 89 = .ok (.if_icmp .eq 27, 3) := by decide +kernel
theorem dX2_partsReview_92 : decode cX2_partsReview 92 = .ok (.iload 4, 2) := by decide +kernel
theorem dX2_partsReview_94 : decode cX2_partsReview 94 = .ok (.aload_n 0, 1) := by decide +kernel
theorem dX2_partsReview_95 : decode cX2_partsReview 95 = .ok (.getfield 12, 3) := by decide +kernel
theorem dX2_partsReview_98 : decode cX2_partsReview 98 = .ok (.aload_n 0, 1) := by decide +kernel
theorem dX2_partsReview_99 : decode cX2_partsReview 99 = .ok (.getfield 23, 3) := by decide +kernel
theorem dX2_partsReview_102 : decode cX2_partsReview 102 = .ok (.iload_n 3, 1) := by decide +kernel
theorem dX2_partsReview_103 : decode cX2_partsReview 103 = .ok (.invokevirtual 77, 3) := by decide +kernel
theorem dX2_partsReview_106 : decode cX2_partsReview 106 = .ok (.invokevirtual 104, 3) := by decide +kernel
theorem dX2_partsReview_109 : decode cX2_partsReview 109 = .ok (.if_icmp .ne 7, 3) := by decide +kernel
theorem dX2_partsReview_112 : decode cX2_partsReview 112 = .ok (.iconst 1, 1) := by decide +kernel
theorem dX2_partsReview_113 : decode cX2_partsReview 113 = .ok (.goto 4, 3) := by decide +kernel
theorem dX2_partsReview_116 : decode cX2_partsReview 116 = .ok (.iconst 0, 1) := by decide +kernel
theorem dX2_partsReview_117 : decode cX2_partsReview 117 = .ok (.ireturn, 1) := by decide +kernel
