theorem goodIn_c {big a : List Cond} {c : Cond} (hc : c ∈ big ∧ ((c.onTables && c.keeps) = true ∨ ∃ ty, c = .arrayClass ty)) (ha : GoodIn big a) : GoodIn big (c :: a) := fun w h => (List.mem_cons.mp h).elim (fun e => e ▸ hc) (ha w)
theorem dL_cell_0 : decode cL_cell 0 = .ok (.iload_n 1, 1) := by decide +kernel
theorem dL_cell_1 : decode cL_cell 1 = .ok (.aload_n 0, 1) := by decide +kernel
theorem dL_cell_2 : decode cL_cell 2 = .ok (.arraylength, 1) := by decide +kernel
theorem dL_cell_3 : decode cL_cell 3 = .ok (.if_icmp .ge 9, 3) := by decide +kernel
theorem dL_cell_6 : decode cL_cell 6 = .ok (.aload_n 0, 1) := by decide +kernel
theorem dL_cell_7 : decode cL_cell 7 = .ok (.iload_n 1, 1) := by decide +kernel
theorem dL_cell_8 : decode cL_cell 8 = .ok (.iaload, 1) := by decide +kernel
theorem dL_cell_9 : decode cL_cell 9 = .ok (.goto 18, 3) := by decide +kernel
theorem dL_cell_12 : decode cL_cell 12 = .ok (.sipush 7919, 3) := by decide +kernel
theorem dL_cell_15 : decode cL_cell 15 = .ok (.iload_n 1, 1) := by decide +kernel
theorem dL_cell_16 : decode cL_cell 16 = .ok (.sipush 1493, 3) := by decide +kernel
theorem dL_cell_19 : decode cL_cell 19 = .ok (.iadd, 1) := by decide +kernel
theorem dL_cell_20 : decode cL_cell 20 = .ok (.imul, 1) := by decide +kernel
theorem dL_cell_21 : decode cL_cell 21 = .ok (.iload_n 1, 1) := by decide +kernel
theorem dL_cell_22 : decode cL_cell 22 = .ok (.sipush 401, 3) := by decide +kernel
theorem dL_cell_25 : decode cL_cell 25 = .ok (.iadd, 1) := by decide +kernel
theorem dL_cell_26 : decode cL_cell 26 = .ok (.imul, 1) := by decide +kernel
theorem dL_cell_27 : decode cL_cell 27 = .ok (.ireturn, 1) := by decide +kernel
theorem dL_low_0 : decode cL_low 0 = .ok (.iload_n 0, 1) := by decide +kernel
theorem dL_low_1 : decode cL_low 1 = .ok (.ldc 7, 2) := by decide +kernel
theorem dL_low_3 : decode cL_low 3 = .ok (.iand, 1) := by decide +kernel
theorem dL_low_4 : decode cL_low 4 = .ok (.iload_n 1, 1) := by decide +kernel
theorem dL_low_5 : decode cL_low 5 = .ok (.irem, 1) := by decide +kernel
theorem dL_low_6 : decode cL_low 6 = .ok (.ireturn, 1) := by decide +kernel
set_option maxRecDepth 20000 in
theorem ggL_type_X8_type : GoodIn wsL_type wsX8_type := goodIn_ca (goodIn_ca (goodIn_ca (goodIn_r _ [9, 10, 11, 12, 13, 8, 14, 15, 16, 17, 18, 19, 20, 21, 22, 23, 24, 25, 26, 27, 28, 29, 30, 31, 32, 33, 34, 35, 36, 37, 38, 39, 40, 41, 42, 43, 44, 45, 46, 47, 48, 49, 50, 51, 52, 53, 54, 55, 56, 57, 58, 59, 60, 61, 62, 63, 64, 65, 66, 67, 68, 69, 70, 71, 72, 73, 74, 75, 76, 77, 78, 79, 80, 81, 82, 83, 84, 85, 86, 87, 88, 89, 90, 91, 92, 93, 94, 95, 96, 97, 98, 99, 100, 101, 102, 103, 104, 105, 106, 107, 108, 109, 110, 111, 112, 113, 114, 115, 116] (by decide +kernel) (by decide +kernel)) (goodIn_sub (fun _ h => List.mem_cons_of_mem _ (List.mem_append_left _ (List.mem_append_left _ (List.mem_append_right _ h)))) (by decide +kernel))) (goodIn_sub (fun _ h => List.mem_cons_of_mem _ (List.mem_append_left _ (List.mem_append_right _ h))) (by decide +kernel))) (goodIn_sub (fun _ h => List.mem_cons_of_mem _ (List.mem_append_right _ h)) (by decide +kernel))
set_option maxRecDepth 20000 in
theorem gL_type_X8_type : GoodIn wsL_type (wsV RL 8 RX8 yX8_type wsX8_type) := goodIn_app (goodIn_of _ (by decide +kernel)) ggL_type_X8_type
theorem dL_type_0 : decode cL_type 0 = .ok (.aload_n 0, 1) := by decide +kernel
theorem dL_type_1 : decode cL_type 1 = .ok (.iload_n 1, 1) := by decide +kernel
theorem dL_type_2 : decode cL_type 2 = .ok (.iload_n 2, 1) := by decide +kernel
theorem dL_type_3 : decode cL_type 3 = .ok (.iload_n 3, 1) := by decide +kernel
theorem dL_type_4 : decode cL_type 4 = .ok (.invokevirtual 8, 3) := by decide +kernel
theorem dL_type_7 : decode cL_type 7 = .ok (.ireturn, 1) := by decide +kernel
theorem dL_type_8 : decode cL_type 8 = .ok (.astore 4, 2) := by decide +kernel
theorem dL_type_10 : decode cL_type 10 = .ok (.ldc 16, 2) := by decide +kernel
theorem dL_type_12 : decode cL_type 12 = .ok (.ireturn, 1) := by decide +kernel
theorem dL_type_13 : decode cL_type 13 = .ok (.astore 4, 2) := by decide +kernel
theorem dL_type_15 : decode cL_type 15 = .ok (.ldc 16, 2) := by decide +kernel
theorem dL_type_17 : decode cL_type 17 = .ok (.ireturn, 1) := by decide +kernel
theorem dL_type_18 : decode cL_type 18 = .ok (.astore 4, 2) := by decide +kernel
theorem dL_type_20 : decode cL_type 20 = .ok (.ldc 16, 2) := by decide +kernel
theorem dL_type_22 : decode cL_type 22 = .ok (.ireturn, 1) := by decide +kernel
set_option maxRecDepth 20000 in
theorem ggL_delete_X8_delete : GoodIn wsL_delete wsX8_delete := goodIn_ca (goodIn_r _ [7, 8, 9, 10, 6, 11, 12, 13, 14, 15, 16, 17, 18, 19, 20, 21, 22, 23, 24, 25, 26, 27, 28, 29, 30, 31, 32, 33, 34, 35, 36, 37, 38, 39, 40, 41, 42, 43, 44, 45, 46, 47, 48, 49, 50, 51, 52, 53, 54, 55, 56, 57, 58, 59, 60, 61, 62, 63, 64, 65, 66, 67, 68, 69, 70, 71, 72, 73, 74, 75] (by decide +kernel) (by decide +kernel)) (goodIn_sub (fun _ h => List.mem_cons_of_mem _ (List.mem_append_right _ h)) (by decide +kernel))
set_option maxRecDepth 20000 in
theorem gL_delete_X8_delete : GoodIn wsL_delete (wsV RL 21 RX8 yX8_delete wsX8_delete) := goodIn_app (goodIn_of _ (by decide +kernel)) ggL_delete_X8_delete
theorem dL_delete_0 : decode cL_delete 0 = .ok (.aload_n 0, 1) := by decide +kernel
theorem dL_delete_1 : decode cL_delete 1 = .ok (.iload_n 1, 1) := by decide +kernel
theorem dL_delete_2 : decode cL_delete 2 = .ok (.iload_n 2, 1) := by decide +kernel
theorem dL_delete_3 : decode cL_delete 3 = .ok (.invokevirtual 21, 3) := by decide +kernel
theorem dL_delete_6 : decode cL_delete 6 = .ok (.ireturn, 1) := by decide +kernel
theorem dL_delete_7 : decode cL_delete 7 = .ok (.astore_n 3, 1) := by decide +kernel
theorem dL_delete_8 : decode cL_delete 8 = .ok (.ldc 16, 2) := by decide +kernel
theorem dL_delete_10 : decode cL_delete 10 = .ok (.ireturn, 1) := by decide +kernel
set_option maxRecDepth 20000 in
theorem ggL_merge_X8_merge : GoodIn wsL_merge wsX8_merge := goodIn_ca (goodIn_r _ [7, 8, 9, 10, 11, 6, 12, 13, 14, 15, 16, 17, 18, 19, 20, 21, 22, 23, 24, 25, 26, 27, 28, 29, 30, 31, 32, 33, 34, 35, 36, 37, 38, 39, 40, 41, 42, 43, 44, 45, 46, 47, 48, 49, 50, 51, 52, 53, 54, 55, 56, 57, 58, 59, 60, 61, 62, 63, 64, 65, 66, 67, 68, 69, 70, 71, 72, 73, 74, 75, 76, 77, 78, 79, 80, 81, 82, 83, 84, 85, 86, 87, 88, 89, 90, 91, 92, 93, 94, 95, 96, 97, 98, 99, 100, 101, 102, 103, 104, 105, 106, 107, 108, 109, 110, 111, 112, 113, 114, 115, 116, 117, 118, 119, 120, 121, 122, 123, 124, 125, 126, 127, 128, 129, 130, 131, 132, 133, 134, 135, 136, 137, 138, 139, 140, 141, 142, 143, 144, 145, 146, 147, 148, 149, 150, 151, 152, 153, 154, 155, 156, 157, 158, 159, 160, 161, 162, 163, 164, 165, 166, 167, 168, 169, 170, 171, 172, 173, 174, 175, 176, 177, 178, 179, 180, 181, 182, 183, 184, 185, 186, 187] (by decide +kernel) (by decide +kernel)) (goodIn_sub (fun _ h => List.mem_cons_of_mem _ (List.mem_append_right _ h)) (by decide +kernel))
set_option maxRecDepth 20000 in
theorem gL_merge_X8_merge : GoodIn wsL_merge (wsV RL 25 RX8 yX8_merge wsX8_merge) := goodIn_app (goodIn_of _ (by decide +kernel)) ggL_merge_X8_merge
theorem dL_merge_0 : decode cL_merge 0 = .ok (.aload_n 0, 1) := by decide +kernel
theorem dL_merge_1 : decode cL_merge 1 = .ok (.iload_n 1, 1) := by decide +kernel
theorem dL_merge_2 : decode cL_merge 2 = .ok (.invokevirtual 25, 3) := by decide +kernel
theorem dL_merge_5 : decode cL_merge 5 = .ok (.ireturn, 1) := by decide +kernel
theorem dL_merge_6 : decode cL_merge 6 = .ok (.astore_n 2, 1) := by decide +kernel
theorem dL_merge_7 : decode cL_merge 7 = .ok (.ldc 16, 2) := by decide +kernel
theorem dL_merge_9 : decode cL_merge 9 = .ok (.ireturn, 1) := by decide +kernel
set_option maxRecDepth 20000 in
theorem ggL_setRate_X8_setRate : GoodIn wsL_setRate wsX8_setRate := goodIn_ca (goodIn_ca (goodIn_r _ [8, 9, 10, 11, 7, 12, 13, 14, 15, 16, 17, 18, 19, 20, 21, 22, 23, 24, 25, 26, 27, 28, 29, 30, 31, 32, 33, 34, 35, 36, 37, 38, 39, 40, 41, 42, 43, 44, 45, 46, 47, 48, 49, 50, 51, 52, 53, 54, 55, 56, 57, 58, 59, 60, 61, 62] (by decide +kernel) (by decide +kernel)) (goodIn_sub (fun _ h => List.mem_cons_of_mem _ (List.mem_append_left _ (List.mem_append_right _ h))) (by decide +kernel))) (goodIn_sub (fun _ h => List.mem_cons_of_mem _ (List.mem_append_right _ h)) (by decide +kernel))
set_option maxRecDepth 20000 in
theorem gL_setRate_X8_setRate : GoodIn wsL_setRate (wsV RL 29 RX8 yX8_setRate wsX8_setRate) := goodIn_app (goodIn_of _ (by decide +kernel)) ggL_setRate_X8_setRate
theorem dL_setRate_0 : decode cL_setRate 0 = .ok (.aload_n 0, 1) := by decide +kernel
theorem dL_setRate_1 : decode cL_setRate 1 = .ok (.iload_n 1, 1) := by decide +kernel
theorem dL_setRate_2 : decode cL_setRate 2 = .ok (.iload_n 2, 1) := by decide +kernel
theorem dL_setRate_3 : decode cL_setRate 3 = .ok (.invokevirtual 29, 3) := by decide +kernel
theorem dL_setRate_6 : decode cL_setRate 6 = .ok (.ireturn, 1) := by decide +kernel
theorem dL_setRate_7 : decode cL_setRate 7 = .ok (.astore_n 3, 1) := by decide +kernel
theorem dL_setRate_8 : decode cL_setRate 8 = .ok (.ldc 16, 2) := by decide +kernel
theorem dL_setRate_10 : decode cL_setRate 10 = .ok (.ireturn, 1) := by decide +kernel
theorem dL_setRate_11 : decode cL_setRate 11 = .ok (.astore_n 3, 1) := by decide +kernel
theorem dL_setRate_12 : decode cL_setRate 12 = .ok (.ldc 16, 2) := by decide +kernel
theorem dL_setRate_14 : decode cL_setRate 14 = .ok (.ireturn, 1) := by decide +kernel
set_option maxRecDepth 20000 in
theorem ggL_order_X8_order : GoodIn wsL_order wsX8_order := goodIn_ca (goodIn_ca (goodIn_ca (goodIn_r _ [9, 10, 11, 12, 13, 8, 14, 15, 16, 17, 18, 19, 20, 21, 22, 23, 24, 25, 26, 27, 28, 29, 30, 31, 32, 33, 34, 35, 36, 37, 38, 39, 40, 41, 42, 43, 44, 45, 46, 47, 48, 49, 50, 51, 52, 53, 54, 55, 56, 57, 58, 59, 60, 61, 62, 63, 64, 65, 66, 67, 68, 69, 70, 71, 72, 73, 74, 75, 76, 77, 78, 79, 80, 81, 82, 83, 84, 85, 86, 87, 88, 89, 90, 91, 92, 93, 94, 95, 96, 97, 98, 99, 100, 101, 102, 103, 104, 105, 106, 107, 108, 109, 110, 111, 112, 113, 114, 115, 116, 117, 118, 119, 120, 121, 122, 123, 124, 125, 126, 127, 128, 129, 130, 131, 132, 133, 134, 135, 136, 137, 138, 139, 140, 141, 142, 143] (by decide +kernel) (by decide +kernel)) (goodIn_sub (fun _ h => List.mem_cons_of_mem _ (List.mem_append_left _ (List.mem_append_left _ (List.mem_append_right _ h)))) (by decide +kernel))) (goodIn_sub (fun _ h => List.mem_cons_of_mem _ (List.mem_append_left _ (List.mem_append_right _ h))) (by decide +kernel))) (goodIn_sub (fun _ h => List.mem_cons_of_mem _ (List.mem_append_right _ h)) (by decide +kernel))
set_option maxRecDepth 20000 in
theorem gL_order_X8_order : GoodIn wsL_order (wsV RL 32 RX8 yX8_order wsX8_order) := goodIn_app (goodIn_of _ (by decide +kernel)) ggL_order_X8_order
theorem dL_order_0 : decode cL_order 0 = .ok (.aload_n 0, 1) := by decide +kernel
theorem dL_order_1 : decode cL_order 1 = .ok (.iload_n 1, 1) := by decide +kernel
theorem dL_order_2 : decode cL_order 2 = .ok (.iload_n 2, 1) := by decide +kernel
theorem dL_order_3 : decode cL_order 3 = .ok (.iload_n 3, 1) := by decide +kernel
theorem dL_order_4 : decode cL_order 4 = .ok (.invokevirtual 32, 3) := by decide +kernel
theorem dL_order_7 : decode cL_order 7 = .ok (.ireturn, 1) := by decide +kernel
theorem dL_order_8 : decode cL_order 8 = .ok (.astore 4, 2) := by decide +kernel
theorem dL_order_10 : decode cL_order 10 = .ok (.ldc 16, 2) := by decide +kernel
theorem dL_order_12 : decode cL_order 12 = .ok (.ireturn, 1) := by decide +kernel
theorem dL_order_13 : decode cL_order 13 = .ok (.astore 4, 2) := by decide +kernel
theorem dL_order_15 : decode cL_order 15 = .ok (.ldc 16, 2) := by decide +kernel
theorem dL_order_17 : decode cL_order 17 = .ok (.ireturn, 1) := by decide +kernel
theorem dL_order_18 : decode cL_order 18 = .ok (.astore 4, 2) := by decide +kernel
theorem dL_order_20 : decode cL_order 20 = .ok (.ldc 16, 2) := by decide +kernel
theorem dL_order_22 : decode cL_order 22 = .ok (.ireturn, 1) := by decide +kernel
set_option maxRecDepth 20000 in
theorem ggL_finish_X8_finish : GoodIn wsL_finish wsX8_finish := goodIn_ca (goodIn_ca (goodIn_ca (goodIn_r _ [9, 10, 11, 12, 13, 14, 15, 16, 17, 18, 19, 20, 21, 22, 23, 24, 8, 25, 26, 27, 28, 29, 30, 31, 32, 33, 34, 35, 36, 37, 38, 39, 40, 41, 42, 43, 44, 45, 46, 47, 48, 49, 50, 51, 52, 53, 54, 55, 56, 57, 58, 59, 60, 61, 62, 63, 64, 65, 66, 67, 68, 69, 70, 71, 72, 73, 74, 75, 76, 77, 78, 79, 80, 81, 82, 83, 84, 85, 86, 87, 88, 89, 90, 91, 92, 93, 94, 95, 96, 97, 98, 99, 100, 101, 102, 103] (by decide +kernel) (by decide +kernel)) (goodIn_sub (fun _ h => List.mem_cons_of_mem _ (List.mem_append_left _ (List.mem_append_left _ (List.mem_append_right _ h)))) (by decide +kernel))) (goodIn_sub (fun _ h => List.mem_cons_of_mem _ (List.mem_append_left _ (List.mem_append_right _ h))) (by decide +kernel))) (goodIn_sub (fun _ h => List.mem_cons_of_mem _ (List.mem_append_right _ h)) (by decide +kernel))
set_option maxRecDepth 20000 in
theorem gL_finish_X8_finish : GoodIn wsL_finish (wsV RL 35 RX8 yX8_finish wsX8_finish) := goodIn_app (goodIn_of _ (by decide +kernel)) ggL_finish_X8_finish
theorem dL_finish_0 : decode cL_finish 0 = .ok (.aload_n 0, 1) := by decide +kernel
theorem dL_finish_1 : decode cL_finish 1 = .ok (.iload_n 1, 1) := by decide +kernel
theorem dL_finish_2 : decode cL_finish 2 = .ok (.iload_n 2, 1) := by decide +kernel
theorem dL_finish_3 : decode cL_finish 3 = .ok (.invokevirtual 35, 3) := by decide +kernel
theorem dL_finish_6 : decode cL_finish 6 = .ok (.ireturn, 1) := by decide +kernel
theorem dL_finish_7 : decode cL_finish 7 = .ok (.astore_n 3, 1) := by decide +kernel
theorem dL_finish_8 : decode cL_finish 8 = .ok (.ldc 16, 2) := by decide +kernel
theorem dL_finish_10 : decode cL_finish 10 = .ok (.ireturn, 1) := by decide +kernel
theorem dL_finish_11 : decode cL_finish 11 = .ok (.astore_n 3, 1) := by decide +kernel
theorem dL_finish_12 : decode cL_finish 12 = .ok (.ldc 16, 2) := by decide +kernel
theorem dL_finish_14 : decode cL_finish 14 = .ok (.ireturn, 1) := by decide +kernel
theorem dL_finish_15 : decode cL_finish 15 = .ok (.astore_n 3, 1) := by decide +kernel
theorem dL_finish_16 : decode cL_finish 16 = .ok (.ldc 16, 2) := by decide +kernel
theorem dL_finish_18 : decode cL_finish 18 = .ok (.ireturn, 1) := by decide +kernel
set_option maxRecDepth 20000 in
theorem ggL_cancel_X8_cancel : GoodIn wsL_cancel wsX8_cancel := goodIn_ca (goodIn_ca (goodIn_r _ [8, 9, 10, 11, 12, 13, 14, 15, 16, 17, 18, 19, 20, 21, 22, 23, 24, 7, 25, 26, 27, 28, 29, 30, 31, 32, 33, 34, 35, 36, 37, 38, 39, 40, 41, 42, 43, 44, 45, 46, 47, 48, 49, 50, 51, 52, 53, 54, 55, 56, 57, 58, 59, 60, 61, 62, 63, 64, 65, 66, 67, 68, 69, 70, 71, 72, 73, 74, 75, 76, 77, 78, 79, 80, 81, 82, 83, 84, 85, 86, 87, 88, 89, 90, 91, 92, 93, 94, 95, 96, 97] (by decide +kernel) (by decide +kernel)) (goodIn_sub (fun _ h => List.mem_cons_of_mem _ (List.mem_append_left _ (List.mem_append_right _ h))) (by decide +kernel))) (goodIn_sub (fun _ h => List.mem_cons_of_mem _ (List.mem_append_right _ h)) (by decide +kernel))
set_option maxRecDepth 20000 in
theorem gL_cancel_X8_cancel : GoodIn wsL_cancel (wsV RL 38 RX8 yX8_cancel wsX8_cancel) := goodIn_app (goodIn_of _ (by decide +kernel)) ggL_cancel_X8_cancel
theorem dL_cancel_0 : decode cL_cancel 0 = .ok (.aload_n 0, 1) := by decide +kernel
theorem dL_cancel_1 : decode cL_cancel 1 = .ok (.iload_n 1, 1) := by decide +kernel
theorem dL_cancel_2 : decode cL_cancel 2 = .ok (.invokevirtual 38, 3) := by decide +kernel
theorem dL_cancel_5 : decode cL_cancel 5 = .ok (.ireturn, 1) := by decide +kernel
theorem dL_cancel_6 : decode cL_cancel 6 = .ok (.astore_n 2, 1) := by decide +kernel
theorem dL_cancel_7 : decode cL_cancel 7 = .ok (.ldc 16, 2) := by decide +kernel
theorem dL_cancel_9 : decode cL_cancel 9 = .ok (.ireturn, 1) := by decide +kernel
theorem dL_cancel_10 : decode cL_cancel 10 = .ok (.astore_n 2, 1) := by decide +kernel
theorem dL_cancel_11 : decode cL_cancel 11 = .ok (.ldc 16, 2) := by decide +kernel
theorem dL_cancel_13 : decode cL_cancel 13 = .ok (.ireturn, 1) := by decide +kernel
set_option maxRecDepth 20000 in
theorem ggL_addIssue_X8_addIssue : GoodIn wsL_addIssue wsX8_addIssue := goodIn_ca (goodIn_ca (goodIn_r _ [8, 9, 10, 11, 12, 7, 13, 14, 15, 16, 17, 18, 19, 20, 21, 22, 23, 24, 25, 26, 27, 28, 29, 30, 31, 32, 33, 34, 35, 36, 37, 38, 39, 40, 41, 42, 43, 44, 45, 46, 47, 48, 49, 50, 51, 52, 53, 54, 55, 56, 57, 58, 59, 60, 61, 62, 63, 64, 65, 66, 67, 68, 69, 70, 71, 72, 73, 74, 75, 76, 77, 78, 79, 80, 81, 82, 83, 84, 85] (by decide +kernel) (by decide +kernel)) (goodIn_sub (fun _ h => List.mem_cons_of_mem _ (List.mem_append_left _ (List.mem_append_right _ h))) (by decide +kernel))) (goodIn_sub (fun _ h => List.mem_cons_of_mem _ (List.mem_append_right _ h)) (by decide +kernel))
set_option maxRecDepth 20000 in
theorem gL_addIssue_X8_addIssue : GoodIn wsL_addIssue (wsV RL 41 RX8 yX8_addIssue wsX8_addIssue) := goodIn_app (goodIn_of _ (by decide +kernel)) ggL_addIssue_X8_addIssue
theorem dL_addIssue_0 : decode cL_addIssue 0 = .ok (.aload_n 0, 1) := by decide +kernel
theorem dL_addIssue_1 : decode cL_addIssue 1 = .ok (.iload_n 1, 1) := by decide +kernel
theorem dL_addIssue_2 : decode cL_addIssue 2 = .ok (.iload_n 2, 1) := by decide +kernel
theorem dL_addIssue_3 : decode cL_addIssue 3 = .ok (.invokevirtual 41, 3) := by decide +kernel
theorem dL_addIssue_6 : decode cL_addIssue 6 = .ok (.ireturn, 1) := by decide +kernel
theorem dL_addIssue_7 : decode cL_addIssue 7 = .ok (.astore_n 3, 1) := by decide +kernel
theorem dL_addIssue_8 : decode cL_addIssue 8 = .ok (.ldc 16, 2) := by decide +kernel
theorem dL_addIssue_10 : decode cL_addIssue 10 = .ok (.ireturn, 1) := by decide +kernel
theorem dL_addIssue_11 : decode cL_addIssue 11 = .ok (.astore_n 3, 1) := by decide +kernel
theorem dL_addIssue_12 : decode cL_addIssue 12 = .ok (.ldc 16, 2) := by decide +kernel
theorem dL_addIssue_14 : decode cL_addIssue 14 = .ok (.ireturn, 1) := by decide +kernel
set_option maxRecDepth 20000 in
theorem ggL_pass_X8_pass : GoodIn wsL_pass wsX8_pass := goodIn_ca (goodIn_ca (goodIn_r _ [8, 9, 10, 11, 12, 7, 13, 14, 15, 16, 17, 18, 19, 20, 21, 22, 23, 24, 25, 26, 27, 28, 29, 30, 31, 32, 33, 34, 35, 36, 37, 38, 39, 40, 41, 42, 43, 44, 45, 46, 47, 48, 49, 50, 51, 52, 53, 54, 55, 56, 57, 58, 59, 60, 61, 62, 63, 64, 65, 66, 67, 68, 69, 70, 71, 72, 73, 74, 75, 76, 77, 78, 79, 80, 81, 82, 83, 84, 85, 86, 87, 88, 89, 90, 91, 92, 93, 94, 95, 96, 97, 98, 99, 100, 101, 102, 103, 104, 105, 106, 107, 108, 109, 110, 111, 112, 113, 114, 115, 116, 117, 118, 119, 120, 121, 122, 123, 124, 125, 126, 127, 128, 129, 130, 131, 132, 133, 134, 135, 136, 137, 138, 139, 140, 141, 142, 143, 144, 145, 146, 147, 148, 149, 150, 151, 152, 153, 154, 155, 156, 157] (by decide +kernel) (by decide +kernel)) (goodIn_sub (fun _ h => List.mem_cons_of_mem _ (List.mem_append_left _ (List.mem_append_right _ h))) (by decide +kernel))) (goodIn_sub (fun _ h => List.mem_cons_of_mem _ (List.mem_append_right _ h)) (by decide +kernel))
set_option maxRecDepth 20000 in
theorem gL_pass_X8_pass : GoodIn wsL_pass (wsV RL 44 RX8 yX8_pass wsX8_pass) := goodIn_app (goodIn_of _ (by decide +kernel)) ggL_pass_X8_pass
theorem dL_pass_0 : decode cL_pass 0 = .ok (.aload_n 0, 1) := by decide +kernel
theorem dL_pass_1 : decode cL_pass 1 = .ok (.iload_n 1, 1) := by decide +kernel
theorem dL_pass_2 : decode cL_pass 2 = .ok (.invokevirtual 44, 3) := by decide +kernel
theorem dL_pass_5 : decode cL_pass 5 = .ok (.ireturn, 1) := by decide +kernel
theorem dL_pass_6 : decode cL_pass 6 = .ok (.astore_n 2, 1) := by decide +kernel
theorem dL_pass_7 : decode cL_pass 7 = .ok (.ldc 16, 2) := by decide +kernel
theorem dL_pass_9 : decode cL_pass 9 = .ok (.ireturn, 1) := by decide +kernel
theorem dL_pass_10 : decode cL_pass 10 = .ok (.astore_n 2, 1) := by decide +kernel
theorem dL_pass_11 : decode cL_pass 11 = .ok (.ldc 16, 2) := by decide +kernel
theorem dL_pass_13 : decode cL_pass 13 = .ok (.ireturn, 1) := by decide +kernel
set_option maxRecDepth 20000 in
theorem ggL_comment_X8_comment : GoodIn wsL_comment wsX8_comment := goodIn_ca (goodIn_ca (goodIn_ca (goodIn_r _ [9, 10, 11, 12, 13, 14, 8, 15, 16, 17, 18, 19, 20, 21, 22, 23, 24, 25, 26, 27, 28, 29, 30, 31, 32, 33, 34, 35, 36, 37, 38, 39, 40, 41, 42, 43, 44, 45, 46, 47, 48, 49, 50, 51, 52, 53, 54, 55, 56, 57, 58, 59, 60, 61, 62, 63, 64, 65, 66, 67, 68, 69, 70, 71, 72, 73, 74, 75, 76, 77, 78, 79, 80, 81, 82, 83, 84, 85, 86, 87, 88, 89, 90, 91, 92, 93, 94, 95, 96, 97] (by decide +kernel) (by decide +kernel)) (goodIn_sub (fun _ h => List.mem_cons_of_mem _ (List.mem_append_left _ (List.mem_append_left _ (List.mem_append_right _ h)))) (by decide +kernel))) (goodIn_sub (fun _ h => List.mem_cons_of_mem _ (List.mem_append_left _ (List.mem_append_right _ h))) (by decide +kernel))) (goodIn_sub (fun _ h => List.mem_cons_of_mem _ (List.mem_append_right _ h)) (by decide +kernel))
set_option maxRecDepth 20000 in
theorem gL_comment_X8_comment : GoodIn wsL_comment (wsV RL 47 RX8 yX8_comment wsX8_comment) := goodIn_app (goodIn_of _ (by decide +kernel)) ggL_comment_X8_comment
theorem dL_comment_0 : decode cL_comment 0 = .ok (.aload_n 0, 1) := by decide +kernel
theorem dL_comment_1 : decode cL_comment 1 = .ok (.iload_n 1, 1) := by decide +kernel
theorem dL_comment_2 : decode cL_comment 2 = .ok (.iload_n 2, 1) := by decide +kernel
theorem dL_comment_3 : decode cL_comment 3 = .ok (.invokevirtual 47, 3) := by decide +kernel
theorem dL_comment_6 : decode cL_comment 6 = .ok (.ireturn, 1) := by decide +kernel
theorem dL_comment_7 : decode cL_comment 7 = .ok (.astore_n 3, 1) := by decide +kernel
theorem dL_comment_8 : decode cL_comment 8 = .ok (.ldc 16, 2) := by decide +kernel
theorem dL_comment_10 : decode cL_comment 10 = .ok (.ireturn, 1) := by decide +kernel
theorem dL_comment_11 : decode cL_comment 11 = .ok (.astore_n 3, 1) := by decide +kernel
theorem dL_comment_12 : decode cL_comment 12 = .ok (.ldc 16, 2) := by decide +kernel
theorem dL_comment_14 : decode cL_comment 14 = .ok (.ireturn, 1) := by decide +kernel
theorem dL_comment_15 : decode cL_comment 15 = .ok (.astore_n 3, 1) := by decide +kernel
theorem dL_comment_16 : decode cL_comment 16 = .ok (.ldc 16, 2) := by decide +kernel
theorem dL_comment_18 : decode cL_comment 18 = .ok (.ireturn, 1) := by decide +kernel
set_option maxRecDepth 20000 in
theorem ggL_keep_X8_keep : GoodIn wsL_keep wsX8_keep := goodIn_ca (goodIn_r _ [7, 8, 9, 10, 11, 6, 12, 13, 14, 15, 16, 17, 18, 19, 20, 21, 22, 23, 24, 25, 26, 27, 28, 29, 30, 31, 32, 33, 34, 35, 36, 37, 38, 39, 40, 41, 42, 43, 44, 45, 46, 47, 48, 49, 50, 51, 52, 53, 54, 55, 56, 57, 58, 59, 60, 61, 62, 63, 64, 65, 66] (by decide +kernel) (by decide +kernel)) (goodIn_sub (fun _ h => List.mem_cons_of_mem _ (List.mem_append_right _ h)) (by decide +kernel))
set_option maxRecDepth 20000 in
theorem gL_keep_X8_keep : GoodIn wsL_keep (wsV RL 50 RX8 yX8_keep wsX8_keep) := goodIn_app (goodIn_of _ (by decide +kernel)) ggL_keep_X8_keep
theorem dL_keep_0 : decode cL_keep 0 = .ok (.aload_n 0, 1) := by decide +kernel
theorem dL_keep_1 : decode cL_keep 1 = .ok (.invokevirtual 50, 3) := by decide +kernel
theorem dL_keep_4 : decode cL_keep 4 = .ok (.ireturn, 1) := by decide +kernel
theorem dL_keep_5 : decode cL_keep 5 = .ok (.astore_n 1, 1) := by decide +kernel
theorem dL_keep_6 : decode cL_keep 6 = .ok (.ldc 16, 2) := by decide +kernel
theorem dL_keep_8 : decode cL_keep 8 = .ok (.ireturn, 1) := by decide +kernel
set_option maxRecDepth 20000 in
theorem ggL_stateOf_X8_stateOf : GoodIn wsL_stateOf wsX8_stateOf := goodIn_ca (goodIn_r _ [6, 7, 8, 9, 10, 11, 12, 13, 14, 15, 16, 17, 18, 19, 20, 21, 5, 22, 23, 24, 25, 26, 27, 28, 29, 30, 31, 32, 33, 34, 35, 36, 37, 38, 39, 40, 41, 42, 43, 44, 45, 46, 47, 48, 49, 50, 51, 52, 53, 54, 55, 56, 57] (by decide +kernel) (by decide +kernel)) (goodIn_sub (fun _ h => List.mem_cons_of_mem _ (List.mem_append_right _ h)) (by decide +kernel))
set_option maxRecDepth 20000 in
theorem gL_stateOf_X8_stateOf : GoodIn wsL_stateOf (wsV RL 54 RX8 yX8_stateOf wsX8_stateOf) := goodIn_app (goodIn_of _ (by decide +kernel)) ggL_stateOf_X8_stateOf
theorem dL_stateOf_0 : decode cL_stateOf 0 = .ok (.aload_n 0, 1) := by decide +kernel
theorem dL_stateOf_1 : decode cL_stateOf 1 = .ok (.iload_n 1, 1) := by decide +kernel
theorem dL_stateOf_2 : decode cL_stateOf 2 = .ok (.invokevirtual 54, 3) := by decide +kernel
theorem dL_stateOf_5 : decode cL_stateOf 5 = .ok (.ireturn, 1) := by decide +kernel
theorem dL_stateOf_6 : decode cL_stateOf 6 = .ok (.astore_n 2, 1) := by decide +kernel
theorem dL_stateOf_7 : decode cL_stateOf 7 = .ok (.iconst (-1), 1) := by decide +kernel
theorem dL_stateOf_8 : decode cL_stateOf 8 = .ok (.ireturn, 1) := by decide +kernel
set_option maxRecDepth 20000 in
theorem ggL_span_X8_span : GoodIn wsL_span wsX8_span := goodIn_ca (goodIn_r _ [6, 7, 8, 9, 10, 11, 12, 13, 14, 15, 16, 17, 18, 19, 20, 21, 22, 5, 23, 24, 25, 26, 27, 28, 29, 30, 31, 32, 33, 34, 35, 36, 37, 38, 39, 40, 41, 42, 43, 44, 45, 46, 47, 48, 49, 50, 51, 52, 53, 54, 55, 56, 57, 58, 59, 60, 61, 62, 63, 64, 65, 66, 67, 68, 69, 70, 71, 72, 73, 74, 75, 76, 77, 78, 79, 80, 81, 82, 83, 84, 85, 86, 87, 88, 89, 90, 91, 92, 93, 94, 95, 96] (by decide +kernel) (by decide +kernel)) (goodIn_sub (fun _ h => List.mem_cons_of_mem _ (List.mem_append_right _ h)) (by decide +kernel))
set_option maxRecDepth 20000 in
theorem gL_span_X8_span : GoodIn wsL_span (wsV RL 57 RX8 yX8_span wsX8_span) := goodIn_app (goodIn_of _ (by decide +kernel)) ggL_span_X8_span
theorem dL_span_0 : decode cL_span 0 = .ok (.aload_n 0, 1) := by decide +kernel
theorem dL_span_1 : decode cL_span 1 = .ok (.iload_n 1, 1) := by decide +kernel
theorem dL_span_2 : decode cL_span 2 = .ok (.invokevirtual 57, 3) := by decide +kernel
theorem dL_span_5 : decode cL_span 5 = .ok (.ireturn, 1) := by decide +kernel
theorem dL_span_6 : decode cL_span 6 = .ok (.astore_n 2, 1) := by decide +kernel
theorem dL_span_7 : decode cL_span 7 = .ok (.bipush (-2), 2) := by decide +kernel
theorem dL_span_9 : decode cL_span 9 = .ok (.ireturn, 1) := by decide +kernel
set_option maxRecDepth 20000 in
theorem ggL_word_X8_word : GoodIn wsL_word wsX8_word := goodIn_ca (goodIn_r _ [6, 7, 8, 9, 10, 5, 11, 12, 13, 14, 15, 16, 17, 18, 19, 20, 21, 22, 23, 24, 25, 26, 27, 28, 29, 30, 31, 32, 33, 34, 35, 36, 37, 38, 39, 40, 41, 42, 43, 44, 45, 46, 47, 48, 49, 50, 51, 52, 53, 54, 55, 56, 57, 58, 59, 60, 61, 62, 63] (by decide +kernel) (by decide +kernel)) (goodIn_sub (fun _ h => List.mem_cons_of_mem _ (List.mem_append_right _ h)) (by decide +kernel))
set_option maxRecDepth 20000 in
theorem gL_word_X8_word : GoodIn wsL_word (wsV RL 60 RX8 yX8_word wsX8_word) := goodIn_app (goodIn_of _ (by decide +kernel)) ggL_word_X8_word
theorem dL_word_0 : decode cL_word 0 = .ok (.aload_n 0, 1) := by decide +kernel
theorem dL_word_1 : decode cL_word 1 = .ok (.iload_n 1, 1) := by decide +kernel
theorem dL_word_2 : decode cL_word 2 = .ok (.invokevirtual 60, 3) := by decide +kernel
theorem dL_word_5 : decode cL_word 5 = .ok (.ireturn, 1) := by decide +kernel
theorem dL_word_6 : decode cL_word 6 = .ok (.astore_n 2, 1) := by decide +kernel
theorem dL_word_7 : decode cL_word 7 = .ok (.iconst (-1), 1) := by decide +kernel
theorem dL_word_8 : decode cL_word 8 = .ok (.ireturn, 1) := by decide +kernel
set_option maxRecDepth 20000 in
theorem ggL_act_L_low : GoodIn wsL_act wsL_low := goodIn_r _ [4, 5] (by decide +kernel) (by decide +kernel)
set_option maxRecDepth 20000 in
theorem gL_act_L_low : GoodIn wsL_act (va_wsS RL 63 yL_low wsL_low) := goodIn_app (goodIn_of _ (by decide +kernel)) ggL_act_L_low
set_option maxRecDepth 20000 in
theorem ggL_act_X8_copy : GoodIn wsL_act wsX8_copy := goodIn_ca (goodIn_r _ [10, 11, 12, 13, 9, 14, 15, 16, 17, 18, 19, 20, 21, 22, 23, 24, 25, 26, 27, 28, 29, 463, 464, 465, 466, 467, 468, 469, 470, 471, 472, 473, 474, 475] (by decide +kernel) (by decide +kernel)) (goodIn_sub (fun _ h => List.mem_cons_of_mem _ (List.mem_append_left _ (List.mem_append_left _ (List.mem_append_right _ h)))) (by decide +kernel))
set_option maxRecDepth 20000 in
theorem gL_act_X8_copy : GoodIn wsL_act (wsV RL 68 RX8 yX8_copy wsX8_copy) := goodIn_app (goodIn_of _ (by decide +kernel)) ggL_act_X8_copy
set_option maxRecDepth 20000 in
theorem ggL_act_X8_length : GoodIn wsL_act wsX8_length := goodIn_r _ [33, 34, 35, 36, 37, 38, 39, 40, 24, 25, 26, 27, 28, 29, 463, 464, 465, 466, 467, 468, 469, 470, 471, 476, 477, 478, 479, 474, 475] (by decide +kernel) (by decide +kernel)
set_option maxRecDepth 20000 in
theorem gL_act_X8_length : GoodIn wsL_act (wsV RL 71 RX8 yX8_length wsX8_length) := goodIn_app (goodIn_of _ (by decide +kernel)) ggL_act_X8_length
set_option maxRecDepth 20000 in
theorem ggL_act_L_type : GoodIn wsL_act wsL_type := goodIn_ca (goodIn_ca (goodIn_ca (goodIn_r _ [43, 44, 45, 46, 47, 48, 49, 50, 9, 51, 52, 11, 12, 13, 14, 15, 16, 17, 18, 19, 20, 21, 22, 23, 24, 25, 26, 27, 28, 29, 53, 54, 55, 56, 57, 58, 59, 60, 61, 62, 63, 64, 65, 66, 67, 68, 69, 70, 71, 72, 73, 74, 75, 76, 77, 78, 79, 80, 81, 82, 83, 84, 85, 86, 87, 88, 89, 90, 91, 92, 93, 94, 95, 96, 97, 98, 99, 100, 101, 102, 103, 104, 105, 106, 107, 108, 109, 110, 111, 112, 113, 114, 115, 116, 117, 118, 119, 463, 464, 465, 466, 467, 468, 469, 470, 471, 472, 473, 474, 475, 480, 481, 482, 483, 484, 485, 486] (by decide +kernel) (by decide +kernel)) (goodIn_sub (fun _ h => List.mem_cons_of_mem _ (List.mem_append_left _ (List.mem_append_left _ (List.mem_append_right _ h)))) (by decide +kernel))) (goodIn_sub (fun _ h => List.mem_cons_of_mem _ (List.mem_append_left _ (List.mem_append_right _ h))) (by decide +kernel))) (goodIn_sub (fun _ h => List.mem_cons_of_mem _ (List.mem_append_right _ h)) (by decide +kernel))
set_option maxRecDepth 20000 in
theorem gL_act_L_type : GoodIn wsL_act (va_wsS RL 74 yL_type wsL_type) := goodIn_app (goodIn_of _ (by decide +kernel)) ggL_act_L_type
set_option maxRecDepth 20000 in
theorem ggL_act_L_delete : GoodIn wsL_act wsL_delete := goodIn_ca (goodIn_r _ [122, 44, 47, 123, 124, 125, 9, 126, 11, 12, 13, 14, 15, 16, 17, 18, 19, 20, 21, 22, 23, 24, 25, 26, 27, 28, 29, 53, 54, 55, 127, 128, 129, 130, 111, 131, 132, 133, 134, 80, 102, 103, 104, 105, 81, 82, 83, 84, 135, 136, 137, 116, 138, 118, 119, 95, 96, 97, 98, 99, 100, 101, 463, 464, 465, 466, 467, 468, 469, 470, 471, 472, 473, 474, 475, 486] (by decide +kernel) (by decide +kernel)) (goodIn_sub (fun _ h => List.mem_cons_of_mem _ (List.mem_append_left _ (List.mem_append_left _ (List.mem_append_right _ h)))) (by decide +kernel))
set_option maxRecDepth 20000 in
theorem gL_act_L_delete : GoodIn wsL_act (va_wsS RL 77 yL_delete wsL_delete) := goodIn_app (goodIn_of _ (by decide +kernel)) ggL_act_L_delete
set_option maxRecDepth 20000 in
theorem ggL_act_L_merge : GoodIn wsL_act wsL_merge := goodIn_ca (goodIn_r _ [141, 44, 47, 142, 143, 144, 9, 145, 34, 11, 12, 13, 14, 15, 16, 17, 146, 147, 148, 21, 149, 111, 23, 150, 151, 152, 116, 153, 118, 154, 25, 26, 27, 28, 29, 155, 156, 157, 158, 159, 160, 161, 162, 163, 77, 78, 79, 80, 81, 82, 83, 84, 164, 165, 166, 167, 38, 168, 169, 170, 171, 172, 173, 174, 175, 176, 177, 178, 67, 179, 90, 180, 181, 182, 183, 184, 91, 185, 186, 187, 188, 189, 190, 191, 192, 193, 194, 195, 196, 197, 198, 199, 200, 201, 202, 203, 92, 204, 99, 100, 101, 102, 103, 104, 105, 205, 206, 207, 208, 209, 210, 211, 212, 213, 114, 115, 117, 119, 95, 96, 97, 98, 214, 215, 216, 217, 218, 219, 220, 221, 222, 223, 224, 225, 226, 227, 136, 137, 138, 228, 229, 230, 231, 232, 233, 234, 235, 236, 237, 238, 239, 40, 240, 241, 242, 36, 37, 39, 243, 244, 245, 246, 247, 248, 463, 464, 465, 466, 467, 468, 469, 470, 471, 472, 473, 486, 474, 475, 476, 477, 478, 479, 480, 481, 482, 483, 484, 485] (by decide +kernel) (by decide +kernel)) (goodIn_sub (fun _ h => List.mem_cons_of_mem _ (List.mem_append_left _ (List.mem_append_left _ (List.mem_append_right _ h)))) (by decide +kernel))
set_option maxRecDepth 20000 in
theorem gL_act_L_merge : GoodIn wsL_act (va_wsS RL 80 yL_merge wsL_merge) := goodIn_app (goodIn_of _ (by decide +kernel)) ggL_act_L_merge
set_option maxRecDepth 20000 in
theorem ggL_act_L_setRate : GoodIn wsL_act wsL_setRate := goodIn_ca (goodIn_ca (goodIn_r _ [251, 44, 45, 47, 252, 253, 254, 9, 255, 256, 53, 54, 55, 15, 16, 56, 57, 58, 59, 60, 61, 62, 63, 257, 258, 259, 260, 261, 262, 263, 77, 78, 27, 79, 80, 81, 82, 83, 84, 29, 264, 210, 211, 212, 463, 464, 465, 466, 467, 468, 469, 470, 471, 487, 488, 489, 490, 491, 492, 493, 494, 474, 475] (by decide +kernel) (by decide +kernel)) (goodIn_sub (fun _ h => List.mem_cons_of_mem _ (List.mem_append_left _ (List.mem_append_left _ (List.mem_append_right _ h)))) (by decide +kernel))) (goodIn_sub (fun _ h => List.mem_cons_of_mem _ (List.mem_append_left _ (List.mem_append_right _ h))) (by decide +kernel))
set_option maxRecDepth 20000 in
theorem gL_act_L_setRate : GoodIn wsL_act (va_wsS RL 83 yL_setRate wsL_setRate) := goodIn_app (goodIn_of _ (by decide +kernel)) ggL_act_L_setRate
set_option maxRecDepth 20000 in
theorem ggL_act_L_order : GoodIn wsL_act wsL_order := goodIn_ca (goodIn_ca (goodIn_ca (goodIn_r _ [267, 44, 45, 46, 47, 268, 269, 270, 9, 271, 34, 256, 53, 54, 55, 15, 16, 272, 273, 274, 275, 276, 277, 278, 279, 35, 36, 37, 38, 39, 40, 24, 25, 26, 27, 28, 29, 59, 60, 61, 62, 63, 280, 281, 282, 283, 170, 199, 194, 77, 78, 79, 80, 81, 82, 83, 84, 218, 219, 220, 67, 221, 222, 201, 202, 203, 92, 180, 71, 72, 73, 74, 75, 284, 285, 286, 260, 287, 288, 289, 290, 291, 292, 293, 294, 295, 262, 296, 297, 298, 95, 96, 97, 98, 99, 100, 101, 102, 103, 104, 105, 263, 299, 300, 301, 302, 303, 304, 305, 306, 307, 209, 210, 211, 212, 463, 464, 465, 466, 467, 468, 469, 470, 471, 476, 477, 478, 479, 474, 475, 480, 481, 482, 483, 484, 485, 487, 488, 489, 490, 491, 492, 493, 494] (by decide +kernel) (by decide +kernel)) (goodIn_sub (fun _ h => List.mem_cons_of_mem _ (List.mem_append_left _ (List.mem_append_left _ (List.mem_append_right _ h)))) (by decide +kernel))) (goodIn_sub (fun _ h => List.mem_cons_of_mem _ (List.mem_append_left _ (List.mem_append_right _ h))) (by decide +kernel))) (goodIn_sub (fun _ h => List.mem_cons_of_mem _ (List.mem_append_right _ h)) (by decide +kernel))
set_option maxRecDepth 20000 in
theorem gL_act_L_order : GoodIn wsL_act (va_wsS RL 85 yL_order wsL_order) := goodIn_app (goodIn_of _ (by decide +kernel)) ggL_act_L_order
set_option maxRecDepth 20000 in
theorem ggL_act_L_finish : GoodIn wsL_act wsL_finish := goodIn_ca (goodIn_ca (goodIn_ca (goodIn_r _ [310, 44, 45, 46, 47, 311, 312, 313, 9, 314, 256, 284, 285, 286, 260, 287, 288, 289, 25, 26, 27, 28, 29, 53, 54, 55, 15, 16, 56, 57, 58, 59, 60, 61, 62, 63, 315, 316, 317, 318, 296, 263, 77, 78, 79, 80, 81, 82, 83, 84, 71, 72, 73, 74, 75, 319, 320, 321, 322, 297, 323, 324, 295, 264, 210, 211, 212, 325, 326, 327, 328, 329, 99, 100, 101, 102, 103, 104, 105, 330, 331, 332, 333, 189, 334, 463, 464, 465, 466, 467, 468, 469, 470, 471, 487, 488, 489, 490, 491, 492, 493, 494, 474, 475] (by decide +kernel) (by decide +kernel)) (goodIn_sub (fun _ h => List.mem_cons_of_mem _ (List.mem_append_left _ (List.mem_append_left _ (List.mem_append_right _ h)))) (by decide +kernel))) (goodIn_sub (fun _ h => List.mem_cons_of_mem _ (List.mem_append_left _ (List.mem_append_right _ h))) (by decide +kernel))) (goodIn_sub (fun _ h => List.mem_cons_of_mem _ (List.mem_append_right _ h)) (by decide +kernel))
set_option maxRecDepth 20000 in
theorem gL_act_L_finish : GoodIn wsL_act (va_wsS RL 87 yL_finish wsL_finish) := goodIn_app (goodIn_of _ (by decide +kernel)) ggL_act_L_finish
set_option maxRecDepth 20000 in
theorem ggL_act_L_cancel : GoodIn wsL_act wsL_cancel := goodIn_ca (goodIn_ca (goodIn_r _ [337, 44, 46, 47, 338, 339, 340, 9, 341, 256, 52, 284, 285, 286, 260, 287, 288, 289, 25, 26, 27, 28, 29, 53, 54, 55, 15, 16, 315, 316, 317, 318, 296, 263, 77, 78, 79, 80, 81, 82, 83, 84, 71, 72, 73, 74, 75, 342, 343, 344, 345, 264, 210, 211, 212, 346, 347, 348, 67, 349, 92, 106, 65, 66, 68, 69, 70, 222, 201, 202, 203, 180, 209, 463, 464, 465, 466, 467, 468, 469, 470, 471, 487, 488, 489, 490, 491, 492, 493, 494, 474, 475, 480, 481, 482, 483, 484, 485] (by decide +kernel) (by decide +kernel)) (goodIn_sub (fun _ h => List.mem_cons_of_mem _ (List.mem_append_left _ (List.mem_append_left _ (List.mem_append_right _ h)))) (by decide +kernel))) (goodIn_sub (fun _ h => List.mem_cons_of_mem _ (List.mem_append_right _ h)) (by decide +kernel))
set_option maxRecDepth 20000 in
theorem gL_act_L_cancel : GoodIn wsL_act (va_wsS RL 89 yL_cancel wsL_cancel) := goodIn_app (goodIn_of _ (by decide +kernel)) ggL_act_L_cancel
set_option maxRecDepth 20000 in
theorem ggL_act_X8_today : GoodIn wsL_act wsX8_today := goodIn_r _ [353, 354, 463, 464, 465, 466, 467, 468, 469, 470, 471] (by decide +kernel) (by decide +kernel)
set_option maxRecDepth 20000 in
theorem gL_act_X8_today : GoodIn wsL_act (wsV RL 91 RX8 yX8_today wsX8_today) := goodIn_app (goodIn_of _ (by decide +kernel)) ggL_act_X8_today
set_option maxRecDepth 20000 in
theorem ggL_act_L_addIssue : GoodIn wsL_act wsL_addIssue := goodIn_ca (goodIn_ca (goodIn_r _ [357, 45, 46, 47, 358, 359, 360, 9, 361, 354, 362, 56, 57, 58, 59, 60, 61, 62, 63, 363, 364, 365, 366, 367, 368, 369, 25, 26, 27, 28, 29, 71, 72, 73, 74, 75, 370, 371, 372, 373, 374, 186, 187, 188, 189, 77, 78, 79, 80, 81, 82, 83, 84, 375, 376, 377, 378, 379, 380, 381, 95, 96, 97, 98, 99, 100, 101, 102, 103, 104, 105, 382, 463, 464, 465, 466, 467, 468, 469, 470, 471, 495, 496, 497, 474, 475] (by decide +kernel) (by decide +kernel)) (goodIn_sub (fun _ h => List.mem_cons_of_mem _ (List.mem_append_left _ (List.mem_append_right _ h))) (by decide +kernel))) (goodIn_sub (fun _ h => List.mem_cons_of_mem _ (List.mem_append_right _ h)) (by decide +kernel))
set_option maxRecDepth 20000 in
theorem gL_act_L_addIssue : GoodIn wsL_act (va_wsS RL 94 yL_addIssue wsL_addIssue) := goodIn_app (goodIn_of _ (by decide +kernel)) ggL_act_L_addIssue
set_option maxRecDepth 20000 in
theorem ggL_act_L_pass : GoodIn wsL_act wsL_pass := goodIn_ca (goodIn_ca (goodIn_r _ [385, 45, 46, 47, 386, 387, 388, 9, 389, 354, 362, 56, 57, 58, 59, 60, 61, 62, 63, 71, 72, 73, 74, 75, 370, 371, 372, 366, 373, 368, 374, 186, 187, 27, 188, 29, 189, 77, 78, 79, 80, 81, 82, 83, 84, 390, 391, 392, 393, 256, 394, 395, 396, 397, 379, 398, 399, 400, 401, 260, 402, 323, 263, 403, 404, 405, 406, 294, 407, 408, 409, 410, 52, 411, 412, 413, 414, 415, 296, 416, 132, 133, 134, 102, 103, 104, 105, 264, 210, 211, 212, 64, 65, 66, 67, 68, 69, 70, 25, 26, 28, 417, 201, 202, 203, 92, 180, 418, 419, 420, 421, 89, 422, 331, 332, 333, 334, 346, 347, 348, 349, 106, 222, 209, 423, 424, 425, 426, 380, 427, 463, 464, 465, 466, 467, 468, 469, 470, 471, 495, 496, 497, 474, 475, 487, 488, 489, 490, 491, 492, 493, 494, 480, 481, 482, 483, 484, 485] (by decide +kernel) (by decide +kernel)) (goodIn_sub (fun _ h => List.mem_cons_of_mem _ (List.mem_append_left _ (List.mem_append_right _ h))) (by decide +kernel))) (goodIn_sub (fun _ h => List.mem_cons_of_mem _ (List.mem_append_right _ h)) (by decide +kernel))
set_option maxRecDepth 20000 in
theorem gL_act_L_pass : GoodIn wsL_act (va_wsS RL 96 yL_pass wsL_pass) := goodIn_app (goodIn_of _ (by decide +kernel)) ggL_act_L_pass
set_option maxRecDepth 20000 in
theorem ggL_act_L_comment : GoodIn wsL_act wsL_comment := goodIn_ca (goodIn_ca (goodIn_ca (goodIn_r _ [430, 44, 45, 46, 47, 431, 432, 433, 9, 434, 435, 34, 272, 273, 274, 275, 276, 277, 278, 279, 35, 36, 37, 38, 39, 40, 24, 25, 26, 27, 28, 29, 53, 54, 55, 15, 16, 59, 60, 61, 62, 63, 436, 437, 438, 439, 440, 441, 442, 71, 72, 73, 74, 75, 76, 77, 78, 79, 80, 81, 82, 83, 84, 443, 444, 445, 446, 447, 448, 95, 96, 97, 98, 99, 100, 101, 102, 103, 104, 105, 449, 463, 464, 465, 466, 467, 468, 469, 470, 471, 476, 477, 478, 479, 474, 475, 498, 499] (by decide +kernel) (by decide +kernel)) (goodIn_sub (fun _ h => List.mem_cons_of_mem _ (List.mem_append_left _ (List.mem_append_left _ (List.mem_append_right _ h)))) (by decide +kernel))) (goodIn_sub (fun _ h => List.mem_cons_of_mem _ (List.mem_append_left _ (List.mem_append_right _ h))) (by decide +kernel))) (goodIn_sub (fun _ h => List.mem_cons_of_mem _ (List.mem_append_right _ h)) (by decide +kernel))
set_option maxRecDepth 20000 in
theorem gL_act_L_comment : GoodIn wsL_act (va_wsS RL 98 yL_comment wsL_comment) := goodIn_app (goodIn_of _ (by decide +kernel)) ggL_act_L_comment
set_option maxRecDepth 20000 in
theorem ggL_act_L_keep : GoodIn wsL_act wsL_keep := goodIn_ca (goodIn_r _ [452, 46, 47, 453, 454, 455, 9, 456, 457, 52, 71, 72, 73, 74, 75, 458, 459, 460, 67, 461, 93, 106, 65, 66, 68, 69, 70, 25, 26, 27, 28, 29, 462, 196, 197, 198, 91, 180, 77, 78, 79, 80, 81, 82, 83, 84, 209, 210, 211, 212, 463, 464, 465, 466, 467, 468, 469, 470, 471, 480, 481, 482, 483, 484, 485, 474, 475] (by decide +kernel) (by decide +kernel)) (goodIn_sub (fun _ h => List.mem_cons_of_mem _ (List.mem_append_right _ h)) (by decide +kernel))
set_option maxRecDepth 20000 in
theorem gL_act_L_keep : GoodIn wsL_act (va_wsS RL 100 yL_keep wsL_keep) := goodIn_app (goodIn_of _ (by decide +kernel)) ggL_act_L_keep
theorem dL_act_0 : decode cL_act 0 = .ok (.iload_n 1, 1) := by decide +kernel
theorem dL_act_1 : decode cL_act 1 = .ok (.bipush 24, 2) := by decide +kernel
theorem dL_act_3 : decode cL_act 3 = .ok (.ishr, 1) := by decide +kernel
theorem dL_act_4 : decode cL_act 4 = .ok (.bipush 9, 2) := by decide +kernel
theorem dL_act_6 : decode cL_act 6 = .ok (.invokestatic 63, 3) := by decide +kernel
theorem dL_act_9 : decode cL_act 9 = .ok (.ifCond .ne 7, 3) := by decide +kernel
theorem dL_act_12 : decode cL_act 12 = .ok (.iconst 1, 1) := by decide +kernel
theorem dL_act_13 : decode cL_act 13 = .ok (.goto 4, 3) := by decide +kernel
theorem dL_act_16 : decode cL_act 16 = .ok (.iconst 0, 1) := by decide +kernel
theorem dL_act_17 : decode cL_act 17 = .ok (.istore_n 2, 1) := by decide +kernel
theorem dL_act_18 : decode cL_act 18 = .ok (.iload_n 2, 1) := by decide +kernel
theorem dL_act_19 : decode cL_act 19 = .ok (.ifCond .eq 16, 3) := by decide +kernel
theorem dL_act_22 : decode cL_act 22 = .ok (.iload_n 1, 1) := by decide +kernel
theorem dL_act_23 : decode cL_act 23 = .ok (.iconst 4, 1) := by decide +kernel
theorem dL_act_24 : decode cL_act 24 = .ok (.ishr, 1) := by decide +kernel
theorem dL_act_25 : decode cL_act 25 = .ok (.bipush 8, 2) := by decide +kernel
theorem dL_act_27 : decode cL_act 27 = .ok (.invokestatic 63, 3) := by decide +kernel
theorem dL_act_30 : decode cL_act 30 = .ok (.iconst 1, 1) := by decide +kernel
theorem dL_act_31 : decode cL_act 31 = .ok (.isub, 1) := by decide +kernel
theorem dL_act_32 : decode cL_act 32 = .ok (.goto 10, 3) := by decide +kernel
theorem dL_act_35 : decode cL_act 35 = .ok (.iload_n 1, 1) := by decide +kernel
theorem dL_act_36 : decode cL_act 36 = .ok (.iconst 4, 1) := by decide +kernel
theorem dL_act_37 : decode cL_act 37 = .ok (.ishr, 1) := by decide +kernel
theorem dL_act_38 : decode cL_act 38 = .ok (.iconst 3, 1) := by decide +kernel
theorem dL_act_39 : decode cL_act 39 = .ok (.invokestatic 63, 3) := by decide +kernel
theorem dL_act_42 : decode cL_act 42 = .ok (.istore_n 3, 1) := by decide +kernel
theorem dL_act_43 : decode cL_act 43 = .ok (.iload_n 2, 1) := by decide +kernel
theorem dL_act_44 : decode cL_act 44 = .ok (.ifCond .eq 8, 3) := by decide +kernel
theorem dL_act_47 : decode cL_act 47 = .ok (.bipush 9, 2) := by decide +kernel
theorem dL_act_49 : decode cL_act 49 = .ok (.goto 8, 3) := by decide +kernel
theorem dL_act_52 : decode cL_act 52 = .ok (.aload_n 0, 1) := by decide +kernel
theorem dL_act_53 : decode cL_act 53 = .ok (.iload_n 3, 1) := by decide +kernel
theorem dL_act_54 : decode cL_act 54 = .ok (.invokevirtual 68, 3) := by decide +kernel
theorem dL_act_57 : decode cL_act 57 = .ok (.istore 4, 2) := by decide +kernel
theorem dL_act_59 : decode cL_act 59 = .ok (.iload_n 2, 1) := by decide +kernel
theorem dL_act_60 : decode cL_act 60 = .ok (.ifCond .eq 18, 3) := by decide +kernel
theorem dL_act_63 : decode cL_act 63 = .ok (.iload_n 1, 1) := by decide +kernel
theorem dL_act_64 : decode cL_act 64 = .ok (.bipush 7, 2) := by decide +kernel
theorem dL_act_66 : decode cL_act 66 = .ok (.ishr, 1) := by decide +kernel
theorem dL_act_67 : decode cL_act 67 = .ok (.sipush 300, 3) := by decide +kernel
theorem dL_act_70 : decode cL_act 70 = .ok (.invokestatic 63, 3) := by decide +kernel
theorem dL_act_73 : decode cL_act 73 = .ok (.iconst 1, 1) := by decide +kernel
theorem dL_act_74 : decode cL_act 74 = .ok (.isub, 1) := by decide +kernel
theorem dL_act_75 : decode cL_act 75 = .ok (.goto 21, 3) := by decide +kernel
theorem dL_act_78 : decode cL_act 78 = .ok (.iload 4, 2) := by decide +kernel
theorem dL_act_80 : decode cL_act 80 = .ok (.ifCond .ne 7, 3) := by decide +kernel
theorem dL_act_83 : decode cL_act 83 = .ok (.iconst 0, 1) := by decide +kernel
theorem dL_act_84 : decode cL_act 84 = .ok (.goto 12, 3) := by decide +kernel
theorem dL_act_87 : decode cL_act 87 = .ok (.iload_n 1, 1) := by decide +kernel
theorem dL_act_88 : decode cL_act 88 = .ok (.bipush 7, 2) := by decide +kernel
theorem dL_act_90 : decode cL_act 90 = .ok (.ishr, 1) := by decide +kernel
theorem dL_act_91 : decode cL_act 91 = .ok (.iload 4, 2) := by decide +kernel
theorem dL_act_93 : decode cL_act 93 = .ok (.invokestatic 63, 3) := by decide +kernel
theorem dL_act_96 : decode cL_act 96 = .ok (.istore 5, 2) := by decide +kernel
theorem dL_act_98 : decode cL_act 98 = .ok (.aload_n 0, 1) := by decide +kernel
theorem dL_act_99 : decode cL_act 99 = .ok (.invokevirtual 71, 3) := by decide +kernel
theorem dL_act_102 : decode cL_act 102 = .ok (.istore 6, 2) := by decide +kernel
theorem dL_act_104 : decode cL_act 104 = .ok (.iload_n 2, 1) := by decide +kernel
theorem dL_act_105 : decode cL_act 105 = .ok (.ifCond .eq 16, 3) := by decide +kernel
theorem dL_act_108 : decode cL_act 108 = .ok (.iload_n 1, 1) := by decide +kernel
theorem dL_act_109 : decode cL_act 109 = .ok (.iconst 4, 1) := by decide +kernel
theorem dL_act_110 : decode cL_act 110 = .ok (.ishr, 1) := by decide +kernel
theorem dL_act_111 : decode cL_act 111 = .ok (.bipush 40, 2) := by decide +kernel
theorem dL_act_113 : decode cL_act 113 = .ok (.invokestatic 63, 3) := by decide +kernel
theorem dL_act_116 : decode cL_act 116 = .ok (.iconst 1, 1) := by decide +kernel
theorem dL_act_117 : decode cL_act 117 = .ok (.isub, 1) := by decide +kernel
theorem dL_act_118 : decode cL_act 118 = .ok (.goto 20, 3) := by decide +kernel
theorem dL_act_121 : decode cL_act 121 = .ok (.iload 6, 2) := by decide +kernel
theorem dL_act_123 : decode cL_act 123 = .ok (.ifCond .ne 7, 3) := by decide +kernel
theorem dL_act_126 : decode cL_act 126 = .ok (.iconst 0, 1) := by decide +kernel
theorem dL_act_127 : decode cL_act 127 = .ok (.goto 11, 3) := by decide +kernel
theorem dL_act_130 : decode cL_act 130 = .ok (.iload_n 1, 1) := by decide +kernel
theorem dL_act_131 : decode cL_act 131 = .ok (.iconst 4, 1) := by decide +kernel
theorem dL_act_132 : decode cL_act 132 = .ok (.ishr, 1) := by decide +kernel
theorem dL_act_133 : decode cL_act 133 = .ok (.iload 6, 2) := by decide +kernel
theorem dL_act_135 : decode cL_act 135 = .ok (.invokestatic 63, 3) := by decide +kernel
theorem dL_act_138 : decode cL_act 138 = .ok (.istore 7, 2) := by decide +kernel
theorem dL_act_140 : decode cL_act 140 = .ok (.iload_n 2, 1) := by decide +kernel
theorem dL_act_141 : decode cL_act 141 = .ok (.ifCond .eq 17, 3) := by decide +kernel
theorem dL_act_144 : decode cL_act 144 = .ok (.iload_n 1, 1) := by decide +kernel
theorem dL_act_145 : decode cL_act 145 = .ok (.bipush 9, 2) := by decide +kernel
theorem dL_act_147 : decode cL_act 147 = .ok (.ishr, 1) := by decide +kernel
theorem dL_act_148 : decode cL_act 148 = .ok (.bipush 40, 2) := by decide +kernel
theorem dL_act_150 : decode cL_act 150 = .ok (.invokestatic 63, 3) := by decide +kernel
theorem dL_act_153 : decode cL_act 153 = .ok (.iconst 1, 1) := by decide +kernel
theorem dL_act_154 : decode cL_act 154 = .ok (.isub, 1) := by decide +kernel
theorem dL_act_155 : decode cL_act 155 = .ok (.goto 40, 3) := by decide +kernel
theorem dL_act_158 : decode cL_act 158 = .ok (.iload 6, 2) := by decide +kernel
theorem dL_act_160 : decode cL_act 160 = .ok (.ifCond .ne 7, 3) := by decide +kernel
theorem dL_act_163 : decode cL_act 163 = .ok (.iconst 0, 1) := by decide +kernel
theorem dL_act_164 : decode cL_act 164 = .ok (.goto 31, 3) := by decide +kernel
theorem dL_act_167 : decode cL_act 167 = .ok (.iload 7, 2) := by decide +kernel
theorem dL_act_169 : decode cL_act 169 = .ok (.iload_n 1, 1) := by decide +kernel
theorem dL_act_170 : decode cL_act 170 = .ok (.bipush 9, 2) := by decide +kernel
theorem dL_act_172 : decode cL_act 172 = .ok (.ishr, 1) := by decide +kernel
theorem dL_act_173 : decode cL_act 173 = .ok (.iload 6, 2) := by decide +kernel
theorem dL_act_175 : decode cL_act 175 = .ok (.iload 7, 2) := by decide +kernel
theorem dL_act_177 : decode cL_act 177 = .ok (.isub, 1) := by decide +kernel
theorem dL_act_178 : decode cL_act 178 = .ok (.iconst 4, 1) := by decide +kernel
theorem dL_act_179 : decode cL_act 179 = .ok (.if_icmp .ge 11, 3) := by decide +kernel
theorem dL_act_182 : decode cL_act 182 = .ok (.iload 6, 2) := by decide +kernel
theorem dL_act_184 : decode cL_act 184 = .ok (.iload 7, 2) := by decide +kernel
theorem dL_act_186 : decode cL_act 186 = .ok (.isub, 1) := by decide +kernel
theorem dL_act_187 : decode cL_act 187 = .ok (.goto 4, 3) := by decide +kernel
theorem dL_act_190 : decode cL_act 190 = .ok (.iconst 4, 1) := by decide +kernel
theorem dL_act_191 : decode cL_act 191 = .ok (.invokestatic 63, 3) := by decide +kernel
theorem dL_act_194 : decode cL_act 194 = .ok (.iadd, 1) := by decide +kernel
theorem dL_act_195 : decode cL_act 195 = .ok (.istore 8, 2) := by decide +kernel
theorem dL_act_197 : decode cL_act 197 = .ok (.iload_n 2, 1) := by decide +kernel
theorem dL_act_198 : decode cL_act 198 = .ok (.ifCond .eq 16, 3) := by decide +kernel
theorem dL_act_201 : decode cL_act 201 = .ok (.iload_n 1, 1) := by decide +kernel
theorem dL_act_202 : decode cL_act 202 = .ok (.iconst 4, 1) := by decide +kernel
theorem dL_act_203 : decode cL_act 203 = .ok (.ishr, 1) := by decide +kernel
theorem dL_act_204 : decode cL_act 204 = .ok (.bipush 33, 2) := by decide +kernel
theorem dL_act_206 : decode cL_act 206 = .ok (.invokestatic 63, 3) := by decide +kernel
theorem dL_act_209 : decode cL_act 209 = .ok (.iconst 1, 1) := by decide +kernel
theorem dL_act_210 : decode cL_act 210 = .ok (.isub, 1) := by decide +kernel
theorem dL_act_211 : decode cL_act 211 = .ok (.goto 10, 3) := by decide +kernel
theorem dL_act_214 : decode cL_act 214 = .ok (.iload_n 1, 1) := by decide +kernel
theorem dL_act_215 : decode cL_act 215 = .ok (.iconst 4, 1) := by decide +kernel
theorem dL_act_216 : decode cL_act 216 = .ok (.ishr, 1) := by decide +kernel
theorem dL_act_217 : decode cL_act 217 = .ok (.iconst 5, 1) := by decide +kernel
theorem dL_act_218 : decode cL_act 218 = .ok (.invokestatic 63, 3) := by decide +kernel
theorem dL_act_221 : decode cL_act 221 = .ok (.istore 9, 2) := by decide +kernel
theorem dL_act_223 : decode cL_act 223 = .ok (.iload_n 1, 1) := by decide +kernel
theorem dL_act_224 : decode cL_act 224 = .ok (.bipush 24, 2) := by decide +kernel
theorem dL_act_226 : decode cL_act 226 = .ok (.invokestatic 63, 3) := by decide +kernel
theorem dL_act_229 : decode cL_act 229 = .ok (.tableswitch 415 0 22 #[107, 107, 107, 107, 107, 107, 162, 162, 170, 170, 170, 176, 232, 232, 232, 267, 267, 300, 307, 370, 370, 401, 410], 107) := by decide +kernel
theorem dL_act_336 : decode cL_act 336 = .ok (.aload_n 0, 1) := by decide +kernel
theorem dL_act_337 : decode cL_act 337 = .ok (.iload_n 3, 1) := by decide +kernel
theorem dL_act_338 : decode cL_act 338 = .ok (.iload_n 2, 1) := by decide +kernel
theorem dL_act_339 : decode cL_act 339 = .ok (.ifCond .eq 8, 3) := by decide +kernel
theorem dL_act_342 : decode cL_act 342 = .ok (.iload 5, 2) := by decide +kernel
theorem dL_act_344 : decode cL_act 344 = .ok (.goto 14, 3) := by decide +kernel
theorem dL_act_347 : decode cL_act 347 = .ok (.iload_n 1, 1) := by decide +kernel
theorem dL_act_348 : decode cL_act 348 = .ok (.bipush 7, 2) := by decide +kernel
theorem dL_act_350 : decode cL_act 350 = .ok (.ishr, 1) := by decide +kernel
theorem dL_act_351 : decode cL_act 351 = .ok (.iload 4, 2) := by decide +kernel
theorem dL_act_353 : decode cL_act 353 = .ok (.iconst 1, 1) := by decide +kernel
theorem dL_act_354 : decode cL_act 354 = .ok (.iadd, 1) := by decide +kernel
theorem dL_act_355 : decode cL_act 355 = .ok (.invokestatic 63, 3) := by decide +kernel
theorem dL_act_358 : decode cL_act 358 = .ok (.iload_n 2, 1) := by decide +kernel
theorem dL_act_359 : decode cL_act 359 = .ok (.ifCond .eq 18, 3) := by decide +kernel
theorem dL_act_362 : decode cL_act 362 = .ok (.iload_n 1, 1) := by decide +kernel
theorem dL_act_363 : decode cL_act 363 = .ok (.bipush 12, 2) := by decide +kernel
theorem dL_act_365 : decode cL_act 365 = .ok (.ishr, 1) := by decide +kernel
theorem dL_act_366 : decode cL_act 366 = .ok (.sipush 1002, 3) := by decide +kernel
theorem dL_act_369 : decode cL_act 369 = .ok (.invokestatic 63, 3) := by decide +kernel
theorem dL_act_372 : decode cL_act 372 = .ok (.iconst 1, 1) := by decide +kernel
theorem dL_act_373 : decode cL_act 373 = .ok (.isub, 1) := by decide +kernel
theorem dL_act_374 : decode cL_act 374 = .ok (.goto 13, 3) := by decide +kernel
theorem dL_act_377 : decode cL_act 377 = .ok (.iload_n 1, 1) := by decide +kernel
theorem dL_act_378 : decode cL_act 378 = .ok (.bipush 12, 2) := by decide +kernel
theorem dL_act_380 : decode cL_act 380 = .ok (.ishr, 1) := by decide +kernel
theorem dL_act_381 : decode cL_act 381 = .ok (.sipush 1000, 3) := by decide +kernel
theorem dL_act_384 : decode cL_act 384 = .ok (.invokestatic 63, 3) := by decide +kernel
theorem dL_act_387 : decode cL_act 387 = .ok (.invokestatic 74, 3) := by decide +kernel
theorem dL_act_390 : decode cL_act 390 = .ok (.ireturn, 1) := by decide +kernel
theorem dL_act_391 : decode cL_act 391 = .ok (.aload_n 0, 1) := by decide +kernel
theorem dL_act_392 : decode cL_act 392 = .ok (.iload_n 3, 1) := by decide +kernel
theorem dL_act_393 : decode cL_act 393 = .ok (.iload 5, 2) := by decide +kernel
theorem dL_act_395 : decode cL_act 395 = .ok (.invokestatic 77, 3) := by decide +kernel
theorem dL_act_398 : decode cL_act 398 = .ok (.ireturn, 1) := by decide +kernel
theorem dL_act_399 : decode cL_act 399 = .ok (.aload_n 0, 1) := by decide +kernel
theorem dL_act_400 : decode cL_act 400 = .ok (.iload_n 3, 1) := by decide +kernel
theorem dL_act_401 : decode cL_act 401 = .ok (.invokestatic 80, 3) := by decide +kernel
theorem dL_act_404 : decode cL_act 404 = .ok (.ireturn, 1) := by decide +kernel
theorem dL_act_405 : decode cL_act 405 = .ok (.aload_n 0, 1) := by decide +kernel
theorem dL_act_406 : decode cL_act 406 = .ok (.iload_n 2, 1) := by decide +kernel
theorem dL_act_407 : decode cL_act 407 = .ok (.ifCond .eq 16, 3) := by decide +kernel
theorem dL_act_410 : decode cL_act 410 = .ok (.iload_n 1, 1) := by decide +kernel
theorem dL_act_411 : decode cL_act 411 = .ok (.iconst 4, 1) := by decide +kernel
theorem dL_act_412 : decode cL_act 412 = .ok (.ishr, 1) := by decide +kernel
theorem dL_act_413 : decode cL_act 413 = .ok (.bipush 6, 2) := by decide +kernel
theorem dL_act_415 : decode cL_act 415 = .ok (.invokestatic 63, 3) := by decide +kernel
theorem dL_act_418 : decode cL_act 418 = .ok (.iconst 1, 1) := by decide +kernel
theorem dL_act_419 : decode cL_act 419 = .ok (.isub, 1) := by decide +kernel
theorem dL_act_420 : decode cL_act 420 = .ok (.goto 10, 3) := by decide +kernel
theorem dL_act_423 : decode cL_act 423 = .ok (.iload_n 1, 1) := by decide +kernel
theorem dL_act_424 : decode cL_act 424 = .ok (.iconst 4, 1) := by decide +kernel
theorem dL_act_425 : decode cL_act 425 = .ok (.ishr, 1) := by decide +kernel
theorem dL_act_426 : decode cL_act 426 = .ok (.iconst 4, 1) := by decide +kernel
theorem dL_act_427 : decode cL_act 427 = .ok (.invokestatic 63, 3) := by decide +kernel
theorem dL_act_430 : decode cL_act 430 = .ok (.iload_n 2, 1) := by decide +kernel
theorem dL_act_431 : decode cL_act 431 = .ok (.ifCond .eq 17, 3) := by decide +kernel
theorem dL_act_434 : decode cL_act 434 = .ok (.iload_n 1, 1) := by decide +kernel
theorem dL_act_435 : decode cL_act 435 = .ok (.bipush 7, 2) := by decide +kernel
theorem dL_act_437 : decode cL_act 437 = .ok (.ishr, 1) := by decide +kernel
theorem dL_act_438 : decode cL_act 438 = .ok (.bipush 103, 2) := by decide +kernel
theorem dL_act_440 : decode cL_act 440 = .ok (.invokestatic 63, 3) := by decide +kernel
theorem dL_act_443 : decode cL_act 443 = .ok (.iconst 1, 1) := by decide +kernel
theorem dL_act_444 : decode cL_act 444 = .ok (.isub, 1) := by decide +kernel
theorem dL_act_445 : decode cL_act 445 = .ok (.goto 12, 3) := by decide +kernel
theorem dL_act_448 : decode cL_act 448 = .ok (.iload_n 1, 1) := by decide +kernel
theorem dL_act_449 : decode cL_act 449 = .ok (.bipush 7, 2) := by decide +kernel
theorem dL_act_451 : decode cL_act 451 = .ok (.ishr, 1) := by decide +kernel
theorem dL_act_452 : decode cL_act 452 = .ok (.bipush 9, 2) := by decide +kernel
theorem dL_act_454 : decode cL_act 454 = .ok (.invokestatic 63, 3) := by decide +kernel
theorem dL_act_457 : decode cL_act 457 = .ok (.invokestatic 83, 3) := by decide +kernel
theorem dL_act_460 : decode cL_act 460 = .ok (.ireturn, 1) := by decide +kernel
theorem dL_act_461 : decode cL_act 461 = .ok (.aload_n 0, 1) := by decide +kernel
theorem dL_act_462 : decode cL_act 462 = .ok (.iload_n 2, 1) := by decide +kernel
theorem dL_act_463 : decode cL_act 463 = .ok (.ifCond .eq 17, 3) := by decide +kernel
theorem dL_act_466 : decode cL_act 466 = .ok (.iload_n 1, 1) := by decide +kernel
theorem dL_act_467 : decode cL_act 467 = .ok (.bipush 14, 2) := by decide +kernel
theorem dL_act_469 : decode cL_act 469 = .ok (.ishr, 1) := by decide +kernel
theorem dL_act_470 : decode cL_act 470 = .ok (.bipush 6, 2) := by decide +kernel
theorem dL_act_472 : decode cL_act 472 = .ok (.invokestatic 63, 3) := by decide +kernel
theorem dL_act_475 : decode cL_act 475 = .ok (.iconst 1, 1) := by decide +kernel
theorem dL_act_476 : decode cL_act 476 = .ok (.isub, 1) := by decide +kernel
theorem dL_act_477 : decode cL_act 477 = .ok (.goto 11, 3) := by decide +kernel
theorem dL_act_480 : decode cL_act 480 = .ok (.iload_n 1, 1) := by decide +kernel
theorem dL_act_481 : decode cL_act 481 = .ok (.bipush 14, 2) := by decide +kernel
theorem dL_act_483 : decode cL_act 483 = .ok (.ishr, 1) := by decide +kernel
theorem dL_act_484 : decode cL_act 484 = .ok (.iconst 4, 1) := by decide +kernel
theorem dL_act_485 : decode cL_act 485 = .ok (.invokestatic 63, 3) := by decide +kernel
theorem dL_act_488 : decode cL_act 488 = .ok (.iload 7, 2) := by decide +kernel
theorem dL_act_490 : decode cL_act 490 = .ok (.iload 8, 2) := by decide +kernel
theorem dL_act_492 : decode cL_act 492 = .ok (.invokestatic 85, 3) := by decide +kernel
theorem dL_act_495 : decode cL_act 495 = .ok (.ireturn, 1) := by decide +kernel
theorem dL_act_496 : decode cL_act 496 = .ok (.aload_n 0, 1) := by decide +kernel
theorem dL_act_497 : decode cL_act 497 = .ok (.iload 9, 2) := by decide +kernel
theorem dL_act_499 : decode cL_act 499 = .ok (.iload_n 2, 1) := by decide +kernel
theorem dL_act_500 : decode cL_act 500 = .ok (.ifCond .eq 17, 3) := by decide +kernel
theorem dL_act_503 : decode cL_act 503 = .ok (.iload_n 1, 1) := by decide +kernel
theorem dL_act_504 : decode cL_act 504 = .ok (.bipush 9, 2) := by decide +kernel
theorem dL_act_506 : decode cL_act 506 = .ok (.ishr, 1) := by decide +kernel
theorem dL_act_507 : decode cL_act 507 = .ok (.bipush 12, 2) := by decide +kernel
theorem dL_act_509 : decode cL_act 509 = .ok (.invokestatic 63, 3) := by decide +kernel
theorem dL_act_512 : decode cL_act 512 = .ok (.iconst 1, 1) := by decide +kernel
theorem dL_act_513 : decode cL_act 513 = .ok (.isub, 1) := by decide +kernel
theorem dL_act_514 : decode cL_act 514 = .ok (.goto 11, 3) := by decide +kernel
theorem dL_act_517 : decode cL_act 517 = .ok (.iload_n 1, 1) := by decide +kernel
theorem dL_act_518 : decode cL_act 518 = .ok (.bipush 9, 2) := by decide +kernel
theorem dL_act_520 : decode cL_act 520 = .ok (.ishr, 1) := by decide +kernel
theorem dL_act_521 : decode cL_act 521 = .ok (.iconst 3, 1) := by decide +kernel
theorem dL_act_522 : decode cL_act 522 = .ok (.invokestatic 63, 3) := by decide +kernel
theorem dL_act_525 : decode cL_act 525 = .ok (.invokestatic 87, 3) := by decide +kernel
theorem dL_act_528 : decode cL_act 528 = .ok (.ireturn, 1) := by decide +kernel
theorem dL_act_529 : decode cL_act 529 = .ok (.aload_n 0, 1) := by decide +kernel
theorem dL_act_530 : decode cL_act 530 = .ok (.iload 9, 2) := by decide +kernel
theorem dL_act_532 : decode cL_act 532 = .ok (.invokestatic 89, 3) := by decide +kernel
theorem dL_act_535 : decode cL_act 535 = .ok (.ireturn, 1) := by decide +kernel
theorem dL_act_536 : decode cL_act 536 = .ok (.aload_n 0, 1) := by decide +kernel
theorem dL_act_537 : decode cL_act 537 = .ok (.iload_n 2, 1) := by decide +kernel
theorem dL_act_538 : decode cL_act 538 = .ok (.ifCond .eq 15, 3) := by decide +kernel
theorem dL_act_541 : decode cL_act 541 = .ok (.iload_n 1, 1) := by decide +kernel
theorem dL_act_542 : decode cL_act 542 = .ok (.iconst 4, 1) := by decide +kernel
theorem dL_act_543 : decode cL_act 543 = .ok (.ishr, 1) := by decide +kernel
theorem dL_act_544 : decode cL_act 544 = .ok (.sipush 1003, 3) := by decide +kernel
theorem dL_act_547 : decode cL_act 547 = .ok (.invokestatic 63, 3) := by decide +kernel
theorem dL_act_550 : decode cL_act 550 = .ok (.goto 17, 3) := by decide +kernel
theorem dL_act_553 : decode cL_act 553 = .ok (.aload_n 0, 1) := by decide +kernel
theorem dL_act_554 : decode cL_act 554 = .ok (.invokevirtual 91, 3) := by decide +kernel
theorem dL_act_557 : decode cL_act 557 = .ok (.iconst 1, 1) := by decide +kernel
theorem dL_act_558 : decode cL_act 558 = .ok (.iadd, 1) := by decide +kernel
theorem dL_act_559 : decode cL_act 559 = .ok (.iload_n 1, 1) := by decide +kernel
theorem dL_act_560 : decode cL_act 560 = .ok (.iconst 4, 1) := by decide +kernel
theorem dL_act_561 : decode cL_act 561 = .ok (.ishr, 1) := by decide +kernel
theorem dL_act_562 : decode cL_act 562 = .ok (.iconst 4, 1) := by decide +kernel
theorem dL_act_563 : decode cL_act 563 = .ok (.invokestatic 63, 3) := by decide +kernel
theorem dL_act_566 : decode cL_act 566 = .ok (.iadd, 1) := by decide +kernel
theorem dL_act_567 : decode cL_act 567 = .ok (.iload_n 2, 1) := by decide +kernel
theorem dL_act_568 : decode cL_act 568 = .ok (.ifCond .eq 16, 3) := by decide +kernel
theorem dL_act_571 : decode cL_act 571 = .ok (.iload_n 1, 1) := by decide +kernel
theorem dL_act_572 : decode cL_act 572 = .ok (.bipush 14, 2) := by decide +kernel
theorem dL_act_574 : decode cL_act 574 = .ok (.ishr, 1) := by decide +kernel
theorem dL_act_575 : decode cL_act 575 = .ok (.sipush 203, 3) := by decide +kernel
theorem dL_act_578 : decode cL_act 578 = .ok (.invokestatic 63, 3) := by decide +kernel
theorem dL_act_581 : decode cL_act 581 = .ok (.goto 14, 3) := by decide +kernel
theorem dL_act_584 : decode cL_act 584 = .ok (.iconst 1, 1) := by decide +kernel
theorem dL_act_585 : decode cL_act 585 = .ok (.iload_n 1, 1) := by decide +kernel
theorem dL_act_586 : decode cL_act 586 = .ok (.bipush 14, 2) := by decide +kernel
theorem dL_act_588 : decode cL_act 588 = .ok (.ishr, 1) := by decide +kernel
theorem dL_act_589 : decode cL_act 589 = .ok (.bipush 9, 2) := by decide +kernel
theorem dL_act_591 : decode cL_act 591 = .ok (.invokestatic 63, 3) := by decide +kernel
theorem dL_act_594 : decode cL_act 594 = .ok (.iadd, 1) := by decide +kernel
theorem dL_act_595 : decode cL_act 595 = .ok (.invokestatic 94, 3) := by decide +kernel
theorem dL_act_598 : decode cL_act 598 = .ok (.ireturn, 1) := by decide +kernel
theorem dL_act_599 : decode cL_act 599 = .ok (.aload_n 0, 1) := by decide +kernel
theorem dL_act_600 : decode cL_act 600 = .ok (.iload_n 2, 1) := by decide +kernel
theorem dL_act_601 : decode cL_act 601 = .ok (.ifCond .eq 16, 3) := by decide +kernel
theorem dL_act_604 : decode cL_act 604 = .ok (.iload_n 1, 1) := by decide +kernel
theorem dL_act_605 : decode cL_act 605 = .ok (.iconst 4, 1) := by decide +kernel
theorem dL_act_606 : decode cL_act 606 = .ok (.ishr, 1) := by decide +kernel
theorem dL_act_607 : decode cL_act 607 = .ok (.bipush 103, 2) := by decide +kernel
theorem dL_act_609 : decode cL_act 609 = .ok (.invokestatic 63, 3) := by decide +kernel
theorem dL_act_612 : decode cL_act 612 = .ok (.iconst 1, 1) := by decide +kernel
theorem dL_act_613 : decode cL_act 613 = .ok (.isub, 1) := by decide +kernel
theorem dL_act_614 : decode cL_act 614 = .ok (.goto 12, 3) := by decide +kernel
theorem dL_act_617 : decode cL_act 617 = .ok (.iconst 1, 1) := by decide +kernel
theorem dL_act_618 : decode cL_act 618 = .ok (.iload_n 1, 1) := by decide +kernel
theorem dL_act_619 : decode cL_act 619 = .ok (.iconst 4, 1) := by decide +kernel
theorem dL_act_620 : decode cL_act 620 = .ok (.ishr, 1) := by decide +kernel
theorem dL_act_621 : decode cL_act 621 = .ok (.iconst 2, 1) := by decide +kernel
theorem dL_act_622 : decode cL_act 622 = .ok (.invokestatic 63, 3) := by decide +kernel
theorem dL_act_625 : decode cL_act 625 = .ok (.iadd, 1) := by decide +kernel
theorem dL_act_626 : decode cL_act 626 = .ok (.invokestatic 96, 3) := by decide +kernel
theorem dL_act_629 : decode cL_act 629 = .ok (.ireturn, 1) := by decide +kernel
theorem dL_act_630 : decode cL_act 630 = .ok (.aload_n 0, 1) := by decide +kernel
theorem dL_act_631 : decode cL_act 631 = .ok (.iload 7, 2) := by decide +kernel
theorem dL_act_633 : decode cL_act 633 = .ok (.iload 8, 2) := by decide +kernel
theorem dL_act_635 : decode cL_act 635 = .ok (.invokestatic 98, 3) := by decide +kernel
theorem dL_act_638 : decode cL_act 638 = .ok (.ireturn, 1) := by decide +kernel
theorem dL_act_639 : decode cL_act 639 = .ok (.aload_n 0, 1) := by decide +kernel
theorem dL_act_640 : decode cL_act 640 = .ok (.invokestatic 100, 3) := by decide +kernel
theorem dL_act_643 : decode cL_act 643 = .ok (.ireturn, 1) := by decide +kernel
theorem dL_act_644 : decode cL_act 644 = .ok (.aload_n 0, 1) := by decide +kernel
theorem dL_act_645 : decode cL_act 645 = .ok (.iconst 0, 1) := by decide +kernel
theorem dL_act_646 : decode cL_act 646 = .ok (.iconst 0, 1) := by decide +kernel
theorem dL_act_647 : decode cL_act 647 = .ok (.bipush 7, 2) := by decide +kernel
theorem dL_act_649 : decode cL_act 649 = .ok (.invokestatic 74, 3) := by decide +kernel
theorem dL_act_652 : decode cL_act 652 = .ok (.ireturn, 1) := by decide +kernel
set_option maxRecDepth 20000 in
theorem ggL_areAlike_X8_length : GoodIn wsL_areAlike wsX8_length := goodIn_r _ [5, 6, 7, 8, 9, 10, 11, 12, 13, 14, 15, 16, 17, 18, 191, 192, 193, 194, 195, 196, 197, 198, 199, 200, 201, 202, 203, 204, 205] (by decide +kernel) (by decide +kernel)
set_option maxRecDepth 20000 in
theorem gL_areAlike_X8_length : GoodIn wsL_areAlike (wsV RL 71 RX8 yX8_length wsX8_length) := goodIn_app (goodIn_of _ (by decide +kernel)) ggL_areAlike_X8_length
set_option maxRecDepth 20000 in
theorem ggL_areAlike_X8_today : GoodIn wsL_areAlike wsX8_today := goodIn_r _ [22, 23, 191, 192, 193, 194, 195, 196, 197, 198, 199] (by decide +kernel) (by decide +kernel)
set_option maxRecDepth 20000 in
theorem gL_areAlike_X8_today : GoodIn wsL_areAlike (wsV RL 91 RX8 yX8_today wsX8_today) := goodIn_app (goodIn_of _ (by decide +kernel)) ggL_areAlike_X8_today
set_option maxRecDepth 20000 in
theorem ggL_areAlike_X8_waiting : GoodIn wsL_areAlike wsX8_waiting := goodIn_ca (goodIn_r _ [27, 28, 29, 30, 4, 31, 32, 33, 34, 35, 36, 37, 38, 39, 40, 41, 42, 16, 43, 44, 45, 46, 47, 48, 18, 191, 192, 193, 194, 195, 196, 197, 198, 199, 206, 207, 208, 209, 210, 211, 212, 213, 204, 205] (by decide +kernel) (by decide +kernel)) (goodIn_sub (fun _ h => List.mem_cons_of_mem _ (List.mem_append_left _ (List.mem_append_right _ h))) (by decide +kernel))
set_option maxRecDepth 20000 in
theorem gL_areAlike_X8_waiting : GoodIn wsL_areAlike (wsV RL 103 RX8 yX8_waiting wsX8_waiting) := goodIn_app (goodIn_of _ (by decide +kernel)) ggL_areAlike_X8_waiting
set_option maxRecDepth 20000 in
theorem ggL_areAlike_X8_copy : GoodIn wsL_areAlike wsX8_copy := goodIn_ca (goodIn_r _ [52, 53, 54, 55, 4, 56, 57, 58, 59, 60, 61, 62, 63, 64, 65, 13, 14, 15, 16, 17, 18, 191, 192, 193, 194, 195, 196, 197, 198, 199, 214, 215, 204, 205] (by decide +kernel) (by decide +kernel)) (goodIn_sub (fun _ h => List.mem_cons_of_mem _ (List.mem_append_right _ h)) (by decide +kernel))
set_option maxRecDepth 20000 in
theorem gL_areAlike_X8_copy : GoodIn wsL_areAlike (wsV RL 68 RX8 yX8_copy wsX8_copy) := goodIn_app (goodIn_of _ (by decide +kernel)) ggL_areAlike_X8_copy
set_option maxRecDepth 20000 in
theorem ggL_areAlike_X8_changes : GoodIn wsL_areAlike wsX8_changes := goodIn_ca (goodIn_r _ [69, 53, 54, 55, 4, 56, 57, 58, 59, 70, 71, 72, 63, 73, 74, 75, 76, 77, 78, 79, 80, 81, 14, 15, 16, 17, 18, 191, 192, 193, 194, 195, 196, 197, 198, 199, 214, 215, 216, 204, 205] (by decide +kernel) (by decide +kernel)) (goodIn_sub (fun _ h => List.mem_cons_of_mem _ (List.mem_append_right _ h)) (by decide +kernel))
set_option maxRecDepth 20000 in
theorem gL_areAlike_X8_changes : GoodIn wsL_areAlike (wsV RL 106 RX8 yX8_changes wsX8_changes) := goodIn_app (goodIn_of _ (by decide +kernel)) ggL_areAlike_X8_changes
set_option maxRecDepth 20000 in
theorem ggL_areAlike_X8_share : GoodIn wsL_areAlike wsX8_share := goodIn_ca (goodIn_r _ [85, 6, 86, 87, 4, 88, 57, 58, 89, 90, 91, 10, 92, 12, 93, 94, 14, 15, 16, 17, 18, 95, 41, 42, 43, 44, 45, 46, 47, 48, 96, 97, 98, 99, 100, 101, 102, 191, 192, 193, 194, 195, 196, 197, 198, 199, 200, 201, 202, 203, 204, 205, 217, 218, 219, 220, 221, 222] (by decide +kernel) (by decide +kernel)) (goodIn_sub (fun _ h => List.mem_cons_of_mem _ (List.mem_append_right _ h)) (by decide +kernel))
set_option maxRecDepth 20000 in
theorem gL_areAlike_X8_share : GoodIn wsL_areAlike (wsV RL 109 RX8 yX8_share wsX8_share) := goodIn_app (goodIn_of _ (by decide +kernel)) ggL_areAlike_X8_share
set_option maxRecDepth 20000 in
theorem ggL_areAlike_X8_royalties : GoodIn wsL_areAlike wsX8_royalties := goodIn_ca (goodIn_r _ [106, 107, 86, 87, 4, 88, 57, 58, 108, 41, 42, 16, 43, 44, 45, 46, 47, 48, 18, 191, 192, 193, 194, 195, 196, 197, 198, 199, 204, 205] (by decide +kernel) (by decide +kernel)) (goodIn_sub (fun _ h => List.mem_cons_of_mem _ (List.mem_append_right _ h)) (by decide +kernel))
set_option maxRecDepth 20000 in
theorem gL_areAlike_X8_royalties : GoodIn wsL_areAlike (wsV RL 112 RX8 yX8_royalties wsX8_royalties) := goodIn_app (goodIn_of _ (by decide +kernel)) ggL_areAlike_X8_royalties
set_option maxRecDepth 20000 in
theorem ggL_areAlike_X8_earned : GoodIn wsL_areAlike wsX8_earned := goodIn_ca (goodIn_r _ [112, 28, 86, 87, 4, 88, 57, 58, 113, 114, 115, 37, 116, 117, 40, 41, 42, 16, 43, 44, 45, 46, 47, 48, 18, 191, 192, 193, 194, 195, 196, 197, 198, 199, 206, 207, 208, 209, 210, 211, 212, 213, 204, 205] (by decide +kernel) (by decide +kernel)) (goodIn_sub (fun _ h => List.mem_cons_of_mem _ (List.mem_append_right _ h)) (by decide +kernel))
set_option maxRecDepth 20000 in
theorem gL_areAlike_X8_earned : GoodIn wsL_areAlike (wsV RL 115 RX8 yX8_earned wsX8_earned) := goodIn_app (goodIn_of _ (by decide +kernel)) ggL_areAlike_X8_earned
set_option maxRecDepth 20000 in
theorem ggL_areAlike_L_stateOf : GoodIn wsL_areAlike wsL_stateOf := goodIn_ca (goodIn_r _ [121, 122, 123, 124, 125, 4, 126, 28, 127, 128, 129, 37, 130, 131, 132, 14, 15, 16, 17, 18, 86, 87, 88, 57, 58, 133, 134, 135, 136, 137, 40, 41, 42, 43, 44, 45, 46, 47, 48, 191, 192, 193, 194, 195, 196, 197, 198, 199, 206, 207, 208, 209, 210, 211, 212, 213, 204, 205] (by decide +kernel) (by decide +kernel)) (goodIn_sub (fun _ h => List.mem_cons_of_mem _ (List.mem_append_right _ h)) (by decide +kernel))
set_option maxRecDepth 20000 in
theorem gL_areAlike_L_stateOf : GoodIn wsL_areAlike (va_wsS RL 118 yL_stateOf wsL_stateOf) := goodIn_app (goodIn_of _ (by decide +kernel)) ggL_areAlike_L_stateOf
set_option maxRecDepth 20000 in
theorem ggL_areAlike_X8_wordAt : GoodIn wsL_areAlike wsX8_wordAt := goodIn_ca (goodIn_r _ [141, 6, 142, 143, 144, 4, 145, 7, 8, 9, 10, 11, 12, 13, 14, 15, 16, 17, 18, 86, 87, 88, 57, 58, 108, 41, 42, 43, 44, 45, 46, 47, 48, 191, 192, 193, 194, 195, 196, 197, 198, 199, 200, 201, 202, 203, 204, 205] (by decide +kernel) (by decide +kernel)) (goodIn_sub (fun _ h => List.mem_cons_of_mem _ (List.mem_append_right _ h)) (by decide +kernel))
set_option maxRecDepth 20000 in
theorem gL_areAlike_X8_wordAt : GoodIn wsL_areAlike (wsV RL 120 RX8 yX8_wordAt wsX8_wordAt) := goodIn_app (goodIn_of _ (by decide +kernel)) ggL_areAlike_X8_wordAt
set_option maxRecDepth 20000 in
theorem ggL_areAlike_L_span : GoodIn wsL_areAlike wsL_span := goodIn_ca (goodIn_r _ [148, 122, 149, 150, 151, 4, 152, 153, 6, 154, 155, 156, 157, 158, 159, 160, 14, 15, 16, 17, 18, 86, 87, 88, 57, 58, 161, 162, 163, 164, 165, 41, 42, 43, 44, 45, 46, 47, 48, 166, 167, 168, 169, 170, 171, 172, 173, 10, 174, 175, 93, 176, 177, 178, 179, 180, 95, 181, 182, 183, 99, 184, 185, 102, 186, 187, 188, 189, 7, 8, 9, 11, 12, 190, 191, 192, 193, 194, 195, 196, 197, 198, 199, 223, 224, 204, 205, 200, 201, 202, 203, 217, 218, 219, 220, 221, 222] (by decide +kernel) (by decide +kernel)) (goodIn_sub (fun _ h => List.mem_cons_of_mem _ (List.mem_append_right _ h)) (by decide +kernel))
set_option maxRecDepth 20000 in
theorem gL_areAlike_L_span : GoodIn wsL_areAlike (va_wsS RL 123 yL_span wsL_span) := goodIn_app (goodIn_of _ (by decide +kernel)) ggL_areAlike_L_span
theorem dL_areAlike_0 : decode cL_areAlike 0 = .ok (.aload_n 0, 1) := by decide +kernel
theorem dL_areAlike_1 : decode cL_areAlike 1 = .ok (.invokevirtual 71, 3) := by decide +kernel
theorem dL_areAlike_4 : decode cL_areAlike 4 = .ok (.aload_n 1, 1) := by decide +kernel
theorem dL_areAlike_5 : decode cL_areAlike 5 = .ok (.invokevirtual 71, 3) := by decide +kernel
theorem dL_areAlike_8 : decode cL_areAlike 8 = .ok (.if_icmp .ne 44, 3) := by decide +kernel
theorem dL_areAlike_11 : decode cL_areAlike 11 = .ok (.aload_n 0, 1) := by decide +kernel
theorem dL_areAlike_12 : decode cL_areAlike 12 = .ok (.invokevirtual 91, 3) := by decide +kernel
theorem dL_areAlike_15 : decode cL_areAlike 15 = .ok (.aload_n 1, 1) := by decide +kernel
theorem dL_areAlike_16 : decode cL_areAlike 16 = .ok (.invokevirtual 91, 3) := by decide +kernel
theorem dL_areAlike_19 : decode cL_areAlike 19 = .ok (.if_icmp .ne 33, 3) := by decide +kernel
theorem dL_areAlike_22 : decode cL_areAlike 22 = .ok (.aload_n 0, 1) := by decide +kernel
theorem dL_areAlike_23 : decode cL_areAlike 23 = .ok (.iconst 0, 1) := by decide +kernel
theorem dL_areAlike_24 : decode cL_areAlike 24 = .ok (.invokevirtual 103, 3) := by decide +kernel
theorem dL_areAlike_27 : decode cL_areAlike 27 = .ok (.aload_n 1, 1) := by decide +kernel
theorem dL_areAlike_28 : decode cL_areAlike 28 = .ok (.iconst 0, 1) := by decide +kernel
theorem dL_areAlike_29 : decode cL_areAlike 29 = .ok (.invokevirtual 103, 3) := by decide +kernel
theorem dL_areAlike_32 : decode cL_areAlike 32 = .ok (.if_icmp .ne 20, 3) := by decide +kernel
theorem dL_areAlike_35 : decode cL_areAlike 35 = .ok (.aload_n 0, 1) := by decide +kernel
theorem dL_areAlike_36 : decode cL_areAlike 36 = .ok (.iconst 1, 1) := by decide +kernel
theorem dL_areAlike_37 : decode cL_areAlike 37 = .ok (.invokevirtual 103, 3) := by decide +kernel
theorem dL_areAlike_40 : decode cL_areAlike 40 = .ok (.aload_n 1, 1) := by decide +kernel
theorem dL_areAlike_41 : decode cL_areAlike 41 = .ok (.iconst 1, 1) := by decide +kernel
theorem dL_areAlike_42 : decode cL_areAlike 42 = .ok (.invokevirtual 103, 3) := by decide +kernel
theorem dL_areAlike_45 : decode cL_areAlike 45 = .ok (.if_icmp .ne 7, 3) := by decide +kernel
theorem dL_areAlike_48 : decode cL_areAlike 48 = .ok (.iconst 1, 1) := by decide +kernel
theorem dL_areAlike_49 : decode cL_areAlike 49 = .ok (.goto 4, 3) := by decide +kernel
theorem dL_areAlike_52 : decode cL_areAlike 52 = .ok (.iconst 0, 1) := by decide +kernel
theorem dL_areAlike_53 : decode cL_areAlike 53 = .ok (.istore_n 2, 1) := by decide +kernel
theorem dL_areAlike_54 : decode cL_areAlike 54 = .ok (.iconst 0, 1) := by decide +kernel
theorem dL_areAlike_55 : decode cL_areAlike 55 = .ok (.istore_n 3, 1) := by decide +kernel
theorem dL_areAlike_56 : decode cL_areAlike 56 = .ok (.iload_n 3, 1) := by decide +kernel
theorem dL_areAlike_57 : decode cL_areAlike 57 = .ok (.bipush 6, 2) := by decide +kernel
theorem dL_areAlike_59 : decode cL_areAlike 59 = .ok (.if_icmp .ge 71, 3) := by decide +kernel
theorem dL_areAlike_62 : decode cL_areAlike 62 = .ok (.iload_n 2, 1) := by decide +kernel
theorem dL_areAlike_63 : decode cL_areAlike 63 = .ok (.ifCond .eq 67, 3) := by decide +kernel
theorem dL_areAlike_66 : decode cL_areAlike 66 = .ok (.aload_n 0, 1) := by decide +kernel
theorem dL_areAlike_67 : decode cL_areAlike 67 = .ok (.iload_n 3, 1) := by decide +kernel
theorem dL_areAlike_68 : decode cL_areAlike 68 = .ok (.invokevirtual 68, 3) := by decide +kernel
theorem dL_areAlike_71 : decode cL_areAlike 71 = .ok (.aload_n 1, 1) := by decide +kernel
theorem dL_areAlike_72 : decode cL_areAlike 72 = .ok (.iload_n 3, 1) := by decide +kernel
theorem dL_areAlike_73 : decode cL_areAlike 73 = .ok (.invokevirtual 68, 3) := by decide +kernel
theorem dL_areAlike_76 : decode cL_areAlike 76 = .ok (.if_icmp .ne 46, 3) := by decide +kernel
theorem dL_areAlike_79 : decode cL_areAlike 79 = .ok (.aload_n 0, 1) := by decide +kernel
theorem dL_areAlike_80 : decode cL_areAlike 80 = .ok (.iload_n 3, 1) := by decide +kernel
theorem dL_areAlike_81 : decode cL_areAlike 81 = .ok (.invokevirtual 106, 3) := by decide +kernel
theorem dL_areAlike_84 : decode cL_areAlike 84 = .ok (.aload_n 1, 1) := by decide +kernel
theorem dL_areAlike_85 : decode cL_areAlike 85 = .ok (.iload_n 3, 1) := by decide +kernel
theorem dL_areAlike_86 : decode cL_areAlike 86 = .ok (.invokevirtual 106, 3) := by decide +kernel
theorem dL_areAlike_89 : decode cL_areAlike 89 = .ok (.if_icmp .ne 33, 3) := by decide +kernel
theorem dL_areAlike_92 : decode cL_areAlike 92 = .ok (.aload_n 0, 1) := by decide +kernel
theorem dL_areAlike_93 : decode cL_areAlike 93 = .ok (.iload_n 3, 1) := by decide +kernel
theorem dL_areAlike_94 : decode cL_areAlike 94 = .ok (.invokevirtual 109, 3) := by decide +kernel
theorem dL_areAlike_97 : decode cL_areAlike 97 = .ok (.aload_n 1, 1) := by decide +kernel
theorem dL_areAlike_98 : decode cL_areAlike 98 = .ok (.iload_n 3, 1) := by decide +kernel
theorem dL_areAlike_99 : decode cL_areAlike 99 = .ok (.invokevirtual 109, 3) := by decide +kernel
theorem dL_areAlike_102 : decode cL_areAlike 102 = .ok (.if_icmp .ne 20, 3) := by decide +kernel
theorem dL_areAlike_105 : decode cL_areAlike 105 = .ok (.aload_n 0, 1) := by decide +kernel
theorem dL_areAlike_106 : decode cL_areAlike 106 = .ok (.iload_n 3, 1) := by decide +kernel
theorem dL_areAlike_107 : decode cL_areAlike 107 = .ok (.invokevirtual 112, 3) := by decide +kernel
theorem dL_areAlike_110 : decode cL_areAlike 110 = .ok (.aload_n 1, 1) := by decide +kernel
theorem dL_areAlike_111 : decode cL_areAlike 111 = .ok (.iload_n 3, 1) := by decide +kernel
theorem dL_areAlike_112 : decode cL_areAlike 112 = .ok (.invokevirtual 112, 3) := by decide +kernel
theorem dL_areAlike_115 : decode cL_areAlike 115 = .ok (.if_icmp .ne 7, 3) := by decide +kernel
theorem dL_areAlike_118 : decode cL_areAlike 118 = .ok (.iconst 1, 1) := by decide +kernel
theorem dL_areAlike_119 : decode cL_areAlike 119 = .ok (.goto 4, 3) := by decide +kernel
theorem dL_areAlike_122 : decode cL_areAlike 122 = .ok (.iconst 0, 1) := by decide +kernel
theorem dL_areAlike_123 : decode cL_areAlike 123 = .ok (.istore_n 2, 1) := by decide +kernel
theorem dL_areAlike_124 : decode cL_areAlike 124 = .ok (.iinc 3 1, 3) := by decide +kernel
theorem dL_areAlike_127 : decode cL_areAlike 127 = .ok (.goto (-71), 3) := by decide +kernel
theorem dL_areAlike_130 : decode cL_areAlike 130 = .ok (.iconst 0, 1) := by decide +kernel
theorem dL_areAlike_131 : decode cL_areAlike 131 = .ok (.istore_n 3, 1) := by decide +kernel
theorem dL_areAlike_132 : decode cL_areAlike 132 = .ok (.iload_n 3, 1) := by decide +kernel
theorem dL_areAlike_133 : decode cL_areAlike 133 = .ok (.iconst 4, 1) := by decide +kernel
theorem dL_areAlike_134 : decode cL_areAlike 134 = .ok (.if_icmp .ge 32, 3) := by decide +kernel
theorem dL_areAlike_137 : decode cL_areAlike 137 = .ok (.iload_n 2, 1) := by decide +kernel
theorem dL_areAlike_138 : decode cL_areAlike 138 = .ok (.ifCond .eq 28, 3) := by decide +kernel
theorem dL_areAlike_141 : decode cL_areAlike 141 = .ok (.aload_n 0, 1) := by decide +kernel
theorem dL_areAlike_142 : decode cL_areAlike 142 = .ok (.iload_n 3, 1) := by decide +kernel
theorem dL_areAlike_143 : decode cL_areAlike 143 = .ok (.invokevirtual 115, 3) := by decide +kernel
theorem dL_areAlike_146 : decode cL_areAlike 146 = .ok (.aload_n 1, 1) := by decide +kernel
theorem dL_areAlike_147 : decode cL_areAlike 147 = .ok (.iload_n 3, 1) := by decide +kernel
theorem dL_areAlike_148 : decode cL_areAlike 148 = .ok (.invokevirtual 115, 3) := by decide +kernel
theorem dL_areAlike_151 : decode cL_areAlike 151 = .ok (.if_icmp .ne 7, 3) := by decide +kernel
theorem dL_areAlike_154 : decode cL_areAlike 154 = .ok (.iconst 1, 1) := by decide +kernel
theorem dL_areAlike_155 : decode cL_areAlike 155 = .ok (.goto 4, 3) := by decide +kernel
theorem dL_areAlike_158 : decode cL_areAlike 158 = .ok (.iconst 0, 1) := by decide +kernel
theorem dL_areAlike_159 : decode cL_areAlike 159 = .ok (.istore_n 2, 1) := by decide +kernel
theorem dL_areAlike_160 : decode cL_areAlike 160 = .ok (.iinc 3 1, 3) := by decide +kernel
theorem dL_areAlike_163 : decode cL_areAlike 163 = .ok (.goto (-31), 3) := by decide +kernel
theorem dL_areAlike_166 : decode cL_areAlike 166 = .ok (.iconst 0, 1) := by decide +kernel
theorem dL_areAlike_167 : decode cL_areAlike 167 = .ok (.istore_n 3, 1) := by decide +kernel
theorem dL_areAlike_168 : decode cL_areAlike 168 = .ok (.iload_n 3, 1) := by decide +kernel
theorem dL_areAlike_169 : decode cL_areAlike 169 = .ok (.bipush 8, 2) := by decide +kernel
theorem dL_areAlike_171 : decode cL_areAlike 171 = .ok (.if_icmp .ge 32, 3) := by decide +kernel
theorem dL_areAlike_174 : decode cL_areAlike 174 = .ok (.iload_n 2, 1) := by decide +kernel
theorem dL_areAlike_175 : decode cL_areAlike 175 = .ok (.ifCond .eq 28, 3) := by decide +kernel
theorem dL_areAlike_178 : decode cL_areAlike 178 = .ok (.aload_n 0, 1) := by decide +kernel
theorem dL_areAlike_179 : decode cL_areAlike 179 = .ok (.iload_n 3, 1) := by decide +kernel
theorem dL_areAlike_180 : decode cL_areAlike 180 = .ok (.invokestatic 118, 3) := by decide +kernel
theorem dL_areAlike_183 : decode cL_areAlike 183 = .ok (.aload_n 1, 1) := by decide +kernel
theorem dL_areAlike_184 : decode cL_areAlike 184 = .ok (.iload_n 3, 1) := by decide +kernel
theorem dL_areAlike_185 : decode cL_areAlike 185 = .ok (.invokestatic 118, 3) := by decide +kernel
theorem dL_areAlike_188 : decode cL_areAlike 188 = .ok (.if_icmp .ne 7, 3) := by decide +kernel
theorem dL_areAlike_191 : decode cL_areAlike 191 = .ok (.iconst 1, 1) := by decide +kernel
theorem dL_areAlike_192 : decode cL_areAlike 192 = .ok (.goto 4, 3) := by decide +kernel
theorem dL_areAlike_195 : decode cL_areAlike 195 = .ok (.iconst 0, 1) := by decide +kernel
theorem dL_areAlike_196 : decode cL_areAlike 196 = .ok (.istore_n 2, 1) := by decide +kernel
theorem dL_areAlike_197 : decode cL_areAlike 197 = .ok (.iinc 3 1, 3) := by decide +kernel
theorem dL_areAlike_200 : decode cL_areAlike 200 = .ok (.goto (-32), 3) := by decide +kernel
theorem dL_areAlike_203 : decode cL_areAlike 203 = .ok (.iconst 0, 1) := by decide +kernel
theorem dL_areAlike_204 : decode cL_areAlike 204 = .ok (.istore_n 3, 1) := by decide +kernel
theorem dL_areAlike_205 : decode cL_areAlike 205 = .ok (.iload_n 3, 1) := by decide +kernel
theorem dL_areAlike_206 : decode cL_areAlike 206 = .ok (.aload_n 0, 1) := by decide +kernel
theorem dL_areAlike_207 : decode cL_areAlike 207 = .ok (.invokevirtual 71, 3) := by decide +kernel
theorem dL_areAlike_210 : decode cL_areAlike 210 = .ok (.if_icmp .ge 38, 3) := by decide +kernel
theorem dL_areAlike_213 : decode cL_areAlike 213 = .ok (.iload_n 3, 1) := by decide +kernel
theorem dL_areAlike_214 : decode cL_areAlike 214 = .ok (.bipush 20, 2) := by decide +kernel
theorem dL_areAlike_216 : decode cL_areAlike 216 = .ok (.if_icmp .ge 32, 3) := by decide +kernel
theorem dL_areAlike_219 : decode cL_areAlike 219 = .ok (.iload_n 2, 1) := by decide +kernel
theorem dL_areAlike_220 : decode cL_areAlike 220 = .ok (.ifCond .eq 28, 3) := by decide +kernel
theorem dL_areAlike_223 : decode cL_areAlike 223 = .ok (.aload_n 0, 1) := by decide +kernel
theorem dL_areAlike_224 : decode cL_areAlike 224 = .ok (.iload_n 3, 1) := by decide +kernel
theorem dL_areAlike_225 : decode cL_areAlike 225 = .ok (.invokevirtual 120, 3) := by decide +kernel
theorem dL_areAlike_228 : decode cL_areAlike 228 = .ok (.aload_n 1, 1) := by decide +kernel
theorem dL_areAlike_229 : decode cL_areAlike 229 = .ok (.iload_n 3, 1) := by decide +kernel
theorem dL_areAlike_230 : decode cL_areAlike 230 = .ok (.invokevirtual 120, 3) := by decide +kernel
theorem dL_areAlike_233 : decode cL_areAlike 233 = .ok (.if_icmp .ne 7, 3) := by decide +kernel
theorem dL_areAlike_236 : decode cL_areAlike 236 = .ok (.iconst 1, 1) := by decide +kernel
theorem dL_areAlike_237 : decode cL_areAlike 237 = .ok (.goto 4, 3) := by decide +kernel
theorem dL_areAlike_240 : decode cL_areAlike 240 = .ok (.iconst 0, 1) := by decide +kernel
theorem dL_areAlike_241 : decode cL_areAlike 241 = .ok (.istore_n 2, 1) := by decide +kernel
theorem dL_areAlike_242 : decode cL_areAlike 242 = .ok (.iinc 3 1, 3) := by decide +kernel
theorem dL_areAlike_245 : decode cL_areAlike 245 = .ok (.goto (-40), 3) := by decide +kernel
theorem dL_areAlike_248 : decode cL_areAlike 248 = .ok (.iconst 0, 1) := by decide +kernel
theorem dL_areAlike_249 : decode cL_areAlike 249 = .ok (.istore_n 3, 1) := by decide +kernel
theorem dL_areAlike_250 : decode cL_areAlike 250 = .ok (.iload_n 3, 1) := by decide +kernel
theorem dL_areAlike_251 : decode cL_areAlike 251 = .ok (.iconst 5, 1) := by decide +kernel
theorem dL_areAlike_252 : decode cL_areAlike 252 = .ok (.if_icmp .ge 32, 3) := by decide +kernel
theorem dL_areAlike_255 : decode cL_areAlike 255 = .ok (.iload_n 2, 1) := by decide +kernel
theorem dL_areAlike_256 : decode cL_areAlike 256 = .ok (.ifCond .eq 28, 3) := by decide +kernel
theorem dL_areAlike_259 : decode cL_areAlike 259 = .ok (.aload_n 0, 1) := by decide +kernel
theorem dL_areAlike_260 : decode cL_areAlike 260 = .ok (.iload_n 3, 1) := by decide +kernel
theorem dL_areAlike_261 : decode cL_areAlike 261 = .ok (.invokestatic 123, 3) := by decide +kernel
theorem dL_areAlike_264 : decode cL_areAlike 264 = .ok (.aload_n 1, 1) := by decide +kernel
theorem dL_areAlike_265 : decode cL_areAlike 265 = .ok (.iload_n 3, 1) := by decide +kernel
theorem dL_areAlike_266 : decode cL_areAlike 266 = .ok (.invokestatic 123, 3) := by decide +kernel
theorem dL_areAlike_269 : decode cL_areAlike 269 = .ok (.if_icmp .ne 7, 3) := by decide +kernel
theorem dL_areAlike_272 : decode cL_areAlike 272 = .ok (.iconst 1, 1) := by decide +kernel
theorem dL_areAlike_273 : decode cL_areAlike 273 = .ok (.goto 4, 3) := by decide +kernel
theorem dL_areAlike_276 : decode cL_areAlike 276 = .ok (.iconst 0, 1) := by decide +kernel
theorem dL_areAlike_277 : decode cL_areAlike 277 = .ok (.istore_n 2, 1) := by decide +kernel
theorem dL_areAlike_278 : decode cL_areAlike 278 = .ok (.iinc 3 1, 3) := by decide +kernel
theorem dL_areAlike_281 : decode cL_areAlike 281 = .ok (.goto (-31), 3) := by decide +kernel
theorem dL_areAlike_284 : decode cL_areAlike 284 = .ok (.iload_n 2, 1) := by decide +kernel
theorem dL_areAlike_285 : decode cL_areAlike 285 = .ok (.ireturn, 1) := by decide +kernel
set_option maxRecDepth 20000 in
theorem ggL_isTextSo_X8_share : GoodIn wsL_isTextSo wsX8_share := goodIn_ca (goodIn_r _ [5, 6, 7, 8, 4, 9, 10, 11, 12, 13, 14, 15, 16, 17, 18, 19, 20, 21, 22, 23, 24, 25, 26, 27, 28, 29, 30, 31, 32, 33, 34, 35, 36, 37, 38, 39, 40, 151, 152, 153, 154, 155, 156, 157, 158, 159, 160, 161, 162, 163, 164, 165, 166, 167, 168, 169, 170, 171] (by decide +kernel) (by decide +kernel)) (goodIn_sub (fun _ h => List.mem_cons_of_mem _ (List.mem_append_right _ h)) (by decide +kernel))
set_option maxRecDepth 20000 in
theorem gL_isTextSo_X8_share : GoodIn wsL_isTextSo (wsV RL 109 RX8 yX8_share wsX8_share) := goodIn_app (goodIn_of _ (by decide +kernel)) ggL_isTextSo_X8_share
set_option maxRecDepth 20000 in
theorem ggL_isTextSo_X8_shareAnew : GoodIn wsL_isTextSo wsX8_shareAnew := goodIn_ca (goodIn_r _ [44, 6, 7, 8, 4, 9, 10, 11, 45, 46, 47, 15, 48, 49, 18, 50, 51, 52, 53, 54, 55, 56, 20, 21, 22, 23, 24, 57, 58, 59, 60, 61, 62, 63, 64, 65, 26, 27, 28, 29, 30, 31, 32, 33, 34, 35, 36, 37, 38, 39, 40, 66, 151, 152, 153, 154, 155, 156, 157, 158, 159, 160, 161, 162, 163, 172, 164, 165, 166, 167, 168, 169, 170, 171] (by decide +kernel) (by decide +kernel)) (goodIn_sub (fun _ h => List.mem_cons_of_mem _ (List.mem_append_right _ h)) (by decide +kernel))
set_option maxRecDepth 20000 in
theorem gL_isTextSo_X8_shareAnew : GoodIn wsL_isTextSo (wsV RL 125 RX8 yX8_shareAnew wsX8_shareAnew) := goodIn_app (goodIn_of _ (by decide +kernel)) ggL_isTextSo_X8_shareAnew
set_option maxRecDepth 20000 in
theorem ggL_isTextSo_X8_royalties : GoodIn wsL_isTextSo wsX8_royalties := goodIn_ca (goodIn_r _ [70, 71, 7, 8, 4, 9, 10, 11, 72, 26, 27, 22, 28, 29, 30, 31, 32, 33, 24, 151, 152, 153, 154, 155, 156, 157, 158, 159, 164, 165] (by decide +kernel) (by decide +kernel)) (goodIn_sub (fun _ h => List.mem_cons_of_mem _ (List.mem_append_right _ h)) (by decide +kernel))
set_option maxRecDepth 20000 in
theorem gL_isTextSo_X8_royalties : GoodIn wsL_isTextSo (wsV RL 112 RX8 yX8_royalties wsX8_royalties) := goodIn_app (goodIn_of _ (by decide +kernel)) ggL_isTextSo_X8_royalties
set_option maxRecDepth 20000 in
theorem ggL_isTextSo_X8_length : GoodIn wsL_isTextSo wsX8_length := goodIn_r _ [76, 6, 77, 78, 79, 15, 80, 17, 81, 20, 21, 22, 23, 24, 151, 152, 153, 154, 155, 156, 157, 158, 159, 160, 161, 162, 163, 164, 165] (by decide +kernel) (by decide +kernel)
set_option maxRecDepth 20000 in
theorem gL_isTextSo_X8_length : GoodIn wsL_isTextSo (wsV RL 71 RX8 yX8_length wsX8_length) := goodIn_app (goodIn_of _ (by decide +kernel)) ggL_isTextSo_X8_length
set_option maxRecDepth 20000 in
theorem ggL_isTextSo_X8_wordAt : GoodIn wsL_isTextSo wsX8_wordAt := goodIn_ca (goodIn_r _ [85, 6, 86, 87, 88, 4, 89, 77, 78, 79, 15, 80, 17, 81, 20, 21, 22, 23, 24, 7, 8, 9, 10, 11, 72, 26, 27, 28, 29, 30, 31, 32, 33, 151, 152, 153, 154, 155, 156, 157, 158, 159, 160, 161, 162, 163, 164, 165] (by decide +kernel) (by decide +kernel)) (goodIn_sub (fun _ h => List.mem_cons_of_mem _ (List.mem_append_right _ h)) (by decide +kernel))
set_option maxRecDepth 20000 in
theorem gL_isTextSo_X8_wordAt : GoodIn wsL_isTextSo (wsV RL 120 RX8 yX8_wordAt wsX8_wordAt) := goodIn_app (goodIn_of _ (by decide +kernel)) ggL_isTextSo_X8_wordAt
set_option maxRecDepth 20000 in
theorem ggL_isTextSo_X8_frozenBy : GoodIn wsL_isTextSo wsX8_frozenBy := goodIn_ca (goodIn_r _ [93, 94, 95, 96, 97, 4, 98, 99, 100, 101, 37, 102, 103, 104, 20, 21, 22, 23, 24, 7, 8, 9, 10, 11, 105, 106, 107, 108, 109, 40, 26, 27, 28, 29, 30, 31, 32, 33, 151, 152, 153, 154, 155, 156, 157, 158, 159, 166, 167, 168, 169, 170, 171, 164, 165] (by decide +kernel) (by decide +kernel)) (goodIn_sub (fun _ h => List.mem_cons_of_mem _ (List.mem_append_right _ h)) (by decide +kernel))
set_option maxRecDepth 20000 in
theorem gL_isTextSo_X8_frozenBy : GoodIn wsL_isTextSo (wsV RL 128 RX8 yX8_frozenBy wsX8_frozenBy) := goodIn_app (goodIn_of _ (by decide +kernel)) ggL_isTextSo_X8_frozenBy
set_option maxRecDepth 20000 in
theorem ggL_isTextSo_X8_stateOf : GoodIn wsL_isTextSo wsX8_stateOf := goodIn_ca (goodIn_r _ [113, 114, 115, 116, 117, 118, 119, 120, 121, 20, 21, 22, 23, 24, 7, 8, 4, 9, 10, 11, 122, 123, 124, 125, 126, 127, 26, 27, 28, 29, 30, 31, 32, 33, 151, 152, 153, 154, 155, 156, 157, 158, 159, 173, 174, 175, 176, 177, 178, 179, 180, 164, 165] (by decide +kernel) (by decide +kernel)) (goodIn_sub (fun _ h => List.mem_cons_of_mem _ (List.mem_append_right _ h)) (by decide +kernel))
set_option maxRecDepth 20000 in
theorem gL_isTextSo_X8_stateOf : GoodIn wsL_isTextSo (wsV RL 54 RX8 yX8_stateOf wsX8_stateOf) := goodIn_app (goodIn_of _ (by decide +kernel)) ggL_isTextSo_X8_stateOf
set_option maxRecDepth 20000 in
theorem ggL_isTextSo_X8_placeOf : GoodIn wsL_isTextSo wsX8_placeOf := goodIn_ca (goodIn_r _ [131, 6, 95, 96, 97, 4, 98, 94, 99, 100, 101, 37, 102, 103, 104, 20, 21, 22, 23, 24, 7, 8, 9, 10, 11, 77, 78, 79, 15, 80, 17, 132, 133, 134, 135, 136, 26, 27, 28, 29, 30, 31, 32, 33, 151, 152, 153, 154, 155, 156, 157, 158, 159, 166, 167, 168, 169, 170, 171, 164, 165, 160, 161, 162, 163] (by decide +kernel) (by decide +kernel)) (goodIn_sub (fun _ h => List.mem_cons_of_mem _ (List.mem_append_right _ h)) (by decide +kernel))
set_option maxRecDepth 20000 in
theorem gL_isTextSo_X8_placeOf : GoodIn wsL_isTextSo (wsV RL 131 RX8 yX8_placeOf wsX8_placeOf) := goodIn_app (goodIn_of _ (by decide +kernel)) ggL_isTextSo_X8_placeOf
set_option maxRecDepth 20000 in
theorem ggL_isTextSo_L_word : GoodIn wsL_isTextSo wsL_word := goodIn_ca (goodIn_r _ [140, 141, 142, 143, 144, 4, 145, 94, 95, 96, 97, 98, 99, 100, 101, 37, 102, 103, 104, 20, 21, 22, 23, 24, 7, 8, 9, 10, 11, 146, 35, 36, 38, 39, 40, 26, 27, 28, 29, 30, 31, 32, 33, 147, 148, 149, 150, 151, 152, 153, 154, 155, 156, 157, 158, 159, 166, 167, 168, 169, 170, 171, 164, 165] (by decide +kernel) (by decide +kernel)) (goodIn_sub (fun _ h => List.mem_cons_of_mem _ (List.mem_append_right _ h)) (by decide +kernel))
set_option maxRecDepth 20000 in
theorem gL_isTextSo_L_word : GoodIn wsL_isTextSo (va_wsS RL 134 yL_word wsL_word) := goodIn_app (goodIn_of _ (by decide +kernel)) ggL_isTextSo_L_word
set_option maxRecDepth 20000 in
theorem ggL_isTextSo_X8_word : GoodIn wsL_isTextSo wsX8_word := goodIn_ca (goodIn_r _ [145, 94, 95, 96, 97, 4, 98, 99, 100, 101, 37, 102, 103, 104, 20, 21, 22, 23, 24, 7, 8, 9, 10, 11, 146, 35, 36, 38, 39, 40, 26, 27, 28, 29, 30, 31, 32, 33, 147, 148, 149, 150, 151, 152, 153, 154, 155, 156, 157, 158, 159, 166, 167, 168, 169, 170, 171, 164, 165] (by decide +kernel) (by decide +kernel)) (goodIn_sub (fun _ h => List.mem_cons_of_mem _ (List.mem_append_right _ h)) (by decide +kernel))
set_option maxRecDepth 20000 in
theorem gL_isTextSo_X8_word : GoodIn wsL_isTextSo (wsV RL 60 RX8 yX8_word wsX8_word) := goodIn_app (goodIn_of _ (by decide +kernel)) ggL_isTextSo_X8_word
theorem dL_isTextSo_0 : decode cL_isTextSo 0 = .ok (.iconst 0, 1) := by decide +kernel
theorem dL_isTextSo_1 : decode cL_isTextSo 1 = .ok (.istore_n 1, 1) := by decide +kernel
theorem dL_isTextSo_2 : decode cL_isTextSo 2 = .ok (.iconst 0, 1) := by decide +kernel
theorem dL_isTextSo_3 : decode cL_isTextSo 3 = .ok (.istore_n 2, 1) := by decide +kernel
theorem dL_isTextSo_4 : decode cL_isTextSo 4 = .ok (.iconst 0, 1) := by decide +kernel
theorem dL_isTextSo_5 : decode cL_isTextSo 5 = .ok (.istore_n 3, 1) := by decide +kernel
theorem dL_isTextSo_6 : decode cL_isTextSo 6 = .ok (.iload_n 3, 1) := by decide +kernel
theorem dL_isTextSo_7 : decode cL_isTextSo 7 = .ok (.bipush 6, 2) := by decide +kernel
theorem dL_isTextSo_9 : decode cL_isTextSo 9 = .ok (.if_icmp .ge 48, 3) := by decide +kernel
theorem dL_isTextSo_12 : decode cL_isTextSo 12 = .ok (.aload_n 0, 1) := by decide +kernel
theorem dL_isTextSo_13 : decode cL_isTextSo 13 = .ok (.iload_n 3, 1) := by decide +kernel
theorem dL_isTextSo_14 : decode cL_isTextSo 14 = .ok (.invokevirtual 109, 3) := by decide +kernel
theorem dL_isTextSo_17 : decode cL_isTextSo 17 = .ok (.aload_n 0, 1) := by decide +kernel
theorem dL_isTextSo_18 : decode cL_isTextSo 18 = .ok (.iload_n 3, 1) := by decide +kernel
theorem dL_isTextSo_19 : decode cL_isTextSo 19 = .ok (.invokevirtual 125, 3) := by decide +kernel
theorem dL_isTextSo_22 : decode cL_isTextSo 22 = .ok (.if_icmp .ne 11, 3) := by decide +kernel
theorem dL_isTextSo_25 : decode cL_isTextSo 25 = .ok (.aload_n 0, 1) := by decide +kernel
theorem dL_isTextSo_26 : decode cL_isTextSo 26 = .ok (.iload_n 3, 1) := by decide +kernel
theorem dL_isTextSo_27 : decode cL_isTextSo 27 = .ok (.invokevirtual 109, 3) := by decide +kernel
theorem dL_isTextSo_30 : decode cL_isTextSo 30 = .ok (.ifCond .ge 5, 3) := by decide +kernel
theorem dL_isTextSo_33 : decode cL_isTextSo 33 = .ok (.iconst 0, 1) := by decide +kernel
theorem dL_isTextSo_34 : decode cL_isTextSo 34 = .ok (.ireturn, 1) := by decide +kernel
theorem dL_isTextSo_35 : decode cL_isTextSo 35 = .ok (.iload_n 1, 1) := by decide +kernel
theorem dL_isTextSo_36 : decode cL_isTextSo 36 = .ok (.aload_n 0, 1) := by decide +kernel
theorem dL_isTextSo_37 : decode cL_isTextSo 37 = .ok (.iload_n 3, 1) := by decide +kernel
theorem dL_isTextSo_38 : decode cL_isTextSo 38 = .ok (.invokevirtual 109, 3) := by decide +kernel
theorem dL_isTextSo_41 : decode cL_isTextSo 41 = .ok (.iadd, 1) := by decide +kernel
theorem dL_isTextSo_42 : decode cL_isTextSo 42 = .ok (.istore_n 1, 1) := by decide +kernel
theorem dL_isTextSo_43 : decode cL_isTextSo 43 = .ok (.iload_n 2, 1) := by decide +kernel
theorem dL_isTextSo_44 : decode cL_isTextSo 44 = .ok (.aload_n 0, 1) := by decide +kernel
theorem dL_isTextSo_45 : decode cL_isTextSo 45 = .ok (.iload_n 3, 1) := by decide +kernel
theorem dL_isTextSo_46 : decode cL_isTextSo 46 = .ok (.invokevirtual 112, 3) := by decide +kernel
theorem dL_isTextSo_49 : decode cL_isTextSo 49 = .ok (.iadd, 1) := by decide +kernel
theorem dL_isTextSo_50 : decode cL_isTextSo 50 = .ok (.istore_n 2, 1) := by decide +kernel
theorem dL_isTextSo_51 : decode cL_isTextSo 51 = .ok (.iinc 3 1, 3) := by decide +kernel
theorem dL_isTextSo_54 : decode cL_isTextSo 54 = .ok (.goto (-48), 3) := by decide +kernel
theorem dL_isTextSo_57 : decode cL_isTextSo 57 = .ok (.iconst 0, 1) := by decide +kernel
theorem dL_isTextSo_58 : decode cL_isTextSo 58 = .ok (.istore_n 3, 1) := by decide +kernel
theorem dL_isTextSo_59 : decode cL_isTextSo 59 = .ok (.iload_n 3, 1) := by decide +kernel
theorem dL_isTextSo_60 : decode cL_isTextSo 60 = .ok (.aload_n 0, 1) := by decide +kernel
theorem dL_isTextSo_61 : decode cL_isTextSo 61 = .ok (.invokevirtual 71, 3) := by decide +kernel
theorem dL_isTextSo_64 : decode cL_isTextSo 64 = .ok (.if_icmp .ge 69, 3) := by decide +kernel
theorem dL_isTextSo_67 : decode cL_isTextSo 67 = .ok (.aload_n 0, 1) := by decide +kernel
theorem dL_isTextSo_68 : decode cL_isTextSo 68 = .ok (.iload_n 3, 1) := by decide +kernel
theorem dL_isTextSo_69 : decode cL_isTextSo 69 = .ok (.invokevirtual 120, 3) := by decide +kernel
theorem dL_isTextSo_72 : decode cL_isTextSo 72 = .ok (.istore 4, 2) := by decide +kernel
theorem dL_isTextSo_74 : decode cL_isTextSo 74 = .ok (.aload_n 0, 1) := by decide +kernel
theorem dL_isTextSo_75 : decode cL_isTextSo 75 = .ok (.iload 4, 2) := by decide +kernel
theorem dL_isTextSo_77 : decode cL_isTextSo 77 = .ok (.invokevirtual 128, 3) := by decide +kernel
theorem dL_isTextSo_80 : decode cL_isTextSo 80 = .ok (.istore 5, 2) := by decide +kernel
theorem dL_isTextSo_82 : decode cL_isTextSo 82 = .ok (.iload 5, 2) := by decide +kernel
theorem dL_isTextSo_84 : decode cL_isTextSo 84 = .ok (.ifCond .ge 7, 3) := by decide +kernel
theorem dL_isTextSo_87 : decode cL_isTextSo 87 = .ok (.iconst 0, 1) := by decide +kernel
theorem dL_isTextSo_88 : decode cL_isTextSo 88 = .ok (.goto 9, 3) := by decide +kernel
theorem dL_isTextSo_91 : decode cL_isTextSo 91 = .ok (.aload_n 0, 1) := by decide +kernel
theorem dL_isTextSo_92 : decode cL_isTextSo 92 = .ok (.iload 5, 2) := by decide +kernel
theorem dL_isTextSo_94 : decode cL_isTextSo 94 = .ok (.invokevirtual 54, 3) := by decide +kernel
theorem dL_isTextSo_97 : decode cL_isTextSo 97 = .ok (.istore 6, 2) := by decide +kernel
theorem dL_isTextSo_99 : decode cL_isTextSo 99 = .ok (.aload_n 0, 1) := by decide +kernel
theorem dL_isTextSo_100 : decode cL_isTextSo 100 = .ok (.iload 4, 2) := by decide +kernel
theorem dL_isTextSo_102 : decode cL_isTextSo 102 = .ok (.invokevirtual 131, 3) := by decide +kernel
theorem dL_isTextSo_105 : decode cL_isTextSo 105 = .ok (.iload_n 3, 1) := by decide +kernel
theorem dL_isTextSo_106 : decode cL_isTextSo 106 = .ok (.if_icmp .ne 19, 3) := by decide +kernel
theorem dL_isTextSo_109 : decode cL_isTextSo 109 = .ok (.iload 5, 2) := by decide +kernel
theorem dL_isTextSo_111 : decode cL_isTextSo 111 = .ok (.ifCond .lt 16, 3) := by decide +kernel
theorem dL_isTextSo_114 : decode cL_isTextSo 114 = .ok (.iload 6, 2) := by decide +kernel
theorem dL_isTextSo_116 : decode cL_isTextSo 116 = .ok (.ifCond .eq 11, 3) := by decide +kernel
theorem dL_isTextSo_119 : decode cL_isTextSo 119 = .ok (.iload 6, 2) := by decide +kernel
theorem dL_isTextSo_121 : decode cL_isTextSo 121 = .ok (.iconst 1, 1) := by decide +kernel
theorem dL_isTextSo_122 : decode cL_isTextSo 122 = .ok (.if_icmp .eq 5, 3) := by decide +kernel
theorem dL_isTextSo_125 : decode cL_isTextSo 125 = .ok (.iconst 0, 1) := by decide +kernel
theorem dL_isTextSo_126 : decode cL_isTextSo 126 = .ok (.ireturn, 1) := by decide +kernel
theorem dL_isTextSo_127 : decode cL_isTextSo 127 = .ok (.iinc 3 1, 3) := by decide +kernel
theorem dL_isTextSo_130 : decode cL_isTextSo 130 = .ok (.goto (-71), 3) := by decide +kernel
theorem dL_isTextSo_133 : decode cL_isTextSo 133 = .ok (.iconst 0, 1) := by decide +kernel
theorem dL_isTextSo_134 : decode cL_isTextSo 134 = .ok (.istore_n 3, 1) := by decide +kernel
theorem dL_isTextSo_135 : decode cL_isTextSo 135 = .ok (.iconst 0, 1) := by decide +kernel
theorem dL_isTextSo_136 : decode cL_isTextSo 136 = .ok (.istore 4, 2) := by decide +kernel
theorem dL_isTextSo_138 : decode cL_isTextSo 138 = .ok (.aload_n 0, 1) := by decide +kernel
theorem dL_isTextSo_139 : decode cL_isTextSo 139 = .ok (.iload 4, 2) := by decide +kernel
theorem dL_isTextSo_141 : decode cL_isTextSo 141 = .ok (.invokestatic 134, 3) := by decide +kernel
theorem dL_isTextSo_144 : decode cL_isTextSo 144 = .ok (.ifCond .lt 58, 3) := by decide +kernel
theorem dL_isTextSo_147 : decode cL_isTextSo 147 = .ok (.iload_n 3, 1) := by decide +kernel
theorem dL_isTextSo_148 : decode cL_isTextSo 148 = .ok (.aload_n 0, 1) := by decide +kernel
theorem dL_isTextSo_149 : decode cL_isTextSo 149 = .ok (.iload 4, 2) := by decide +kernel
theorem dL_isTextSo_151 : decode cL_isTextSo 151 = .ok (.invokevirtual 131, 3) := by decide +kernel
theorem dL_isTextSo_154 : decode cL_isTextSo 154 = .ok (.ifCond .lt 7, 3) := by decide +kernel
theorem dL_isTextSo_157 : decode cL_isTextSo 157 = .ok (.iconst 1, 1) := by decide +kernel
theorem dL_isTextSo_158 : decode cL_isTextSo 158 = .ok (.goto 4, 3) := by decide +kernel
theorem dL_isTextSo_161 : decode cL_isTextSo 161 = .ok (.iconst 0, 1) := by decide +kernel
theorem dL_isTextSo_162 : decode cL_isTextSo 162 = .ok (.iadd, 1) := by decide +kernel
theorem dL_isTextSo_163 : decode cL_isTextSo 163 = .ok (.istore_n 3, 1) := by decide +kernel
theorem dL_isTextSo_164 : decode cL_isTextSo 164 = .ok (.aload_n 0, 1) := by decide +kernel
theorem dL_isTextSo_165 : decode cL_isTextSo 165 = .ok (.iload 4, 2) := by decide +kernel
theorem dL_isTextSo_167 : decode cL_isTextSo 167 = .ok (.invokevirtual 131, 3) := by decide +kernel
theorem dL_isTextSo_170 : decode cL_isTextSo 170 = .ok (.ifCond .ge 12, 3) := by decide +kernel
theorem dL_isTextSo_173 : decode cL_isTextSo 173 = .ok (.aload_n 0, 1) := by decide +kernel
theorem dL_isTextSo_174 : decode cL_isTextSo 174 = .ok (.iload 4, 2) := by decide +kernel
theorem dL_isTextSo_176 : decode cL_isTextSo 176 = .ok (.invokevirtual 128, 3) := by decide +kernel
theorem dL_isTextSo_179 : decode cL_isTextSo 179 = .ok (.ifCond .ge 15, 3) := by decide +kernel
theorem dL_isTextSo_182 : decode cL_isTextSo 182 = .ok (.aload_n 0, 1) := by decide +kernel
theorem dL_isTextSo_183 : decode cL_isTextSo 183 = .ok (.iload 4, 2) := by decide +kernel
theorem dL_isTextSo_185 : decode cL_isTextSo 185 = .ok (.invokevirtual 60, 3) := by decide +kernel
theorem dL_isTextSo_188 : decode cL_isTextSo 188 = .ok (.sipush 5999, 3) := by decide +kernel
theorem dL_isTextSo_191 : decode cL_isTextSo 191 = .ok (.if_icmp .le 5, 3) := by decide +kernel
theorem dL_isTextSo_194 : decode cL_isTextSo 194 = .ok (.iconst 0, 1) := by decide +kernel
theorem dL_isTextSo_195 : decode cL_isTextSo 195 = .ok (.ireturn, 1) := by decide +kernel
theorem dL_isTextSo_196 : decode cL_isTextSo 196 = .ok (.iinc 4 1, 3) := by decide +kernel
theorem dL_isTextSo_199 : decode cL_isTextSo 199 = .ok (.goto (-61), 3) := by decide +kernel
theorem dL_isTextSo_202 : decode cL_isTextSo 202 = .ok (.iload_n 1, 1) := by decide +kernel
theorem dL_isTextSo_203 : decode cL_isTextSo 203 = .ok (.aload_n 0, 1) := by decide +kernel
theorem dL_isTextSo_204 : decode cL_isTextSo 204 = .ok (.invokevirtual 71, 3) := by decide +kernel
theorem dL_isTextSo_207 : decode cL_isTextSo 207 = .ok (.if_icmp .ne 22, 3) := by decide +kernel
theorem dL_isTextSo_210 : decode cL_isTextSo 210 = .ok (.iload_n 3, 1) := by decide +kernel
theorem dL_isTextSo_211 : decode cL_isTextSo 211 = .ok (.iload_n 1, 1) := by decide +kernel
theorem dL_isTextSo_212 : decode cL_isTextSo 212 = .ok (.if_icmp .ne 17, 3) := by decide +kernel
theorem dL_isTextSo_215 : decode cL_isTextSo 215 = .ok (.iload_n 2, 1) := by decide +kernel
theorem dL_isTextSo_216 : decode cL_isTextSo 216 = .ok (.ifCond .lt 13, 3) := by decide +kernel
theorem dL_isTextSo_219 : decode cL_isTextSo 219 = .ok (.iload_n 2, 1) := by decide +kernel
theorem dL_isTextSo_220 : decode cL_isTextSo 220 = .ok (.iconst 5, 1) := by decide +kernel
theorem dL_isTextSo_221 : decode cL_isTextSo 221 = .ok (.irem, 1) := by decide +kernel
theorem dL_isTextSo_222 : decode cL_isTextSo 222 = .ok (.ifCond .ne 7, 3) := by decide +kernel
theorem dL_isTextSo_225 : decode cL_isTextSo 225 = .ok (.iconst 1, 1) := by decide +kernel
theorem dL_isTextSo_226 : decode cL_isTextSo 226 = .ok (.goto 4, 3) := by decide +kernel
theorem dL_isTextSo_229 : decode cL_isTextSo 229 = .ok (.iconst 0, 1) := by decide +kernel
theorem dL_isTextSo_230 : decode cL_isTextSo 230 = .ok (.ireturn, 1) := by decide +kernel
set_option maxRecDepth 20000 in
theorem ggL_areTiedSo_L_span : GoodIn wsL_areTiedSo wsL_span := goodIn_ca (goodIn_r _ [4, 5, 6, 7, 8, 9, 10, 11, 12, 13, 14, 15, 16, 17, 18, 19, 20, 21, 22, 23, 24, 25, 26, 27, 28, 29, 30, 31, 32, 33, 34, 35, 36, 37, 38, 39, 40, 41, 42, 43, 44, 45, 46, 47, 48, 49, 50, 51, 52, 53, 54, 55, 56, 57, 58, 59, 60, 61, 62, 63, 64, 65, 66, 67, 68, 69, 70, 71, 72, 73, 74, 75, 76, 77, 118, 119, 120, 121, 122, 123, 124, 125, 126, 127, 128, 129, 130, 131, 132, 133, 134, 135, 136, 137, 138, 139, 140] (by decide +kernel) (by decide +kernel)) (goodIn_sub (fun _ h => List.mem_cons_of_mem _ (List.mem_append_left _ (List.mem_append_right _ h))) (by decide +kernel))
set_option maxRecDepth 20000 in
theorem gL_areTiedSo_L_span : GoodIn wsL_areTiedSo (va_wsS RL 123 yL_span wsL_span) := goodIn_app (goodIn_of _ (by decide +kernel)) ggL_areTiedSo_L_span
set_option maxRecDepth 20000 in
theorem ggL_areTiedSo_X8_span : GoodIn wsL_areTiedSo wsX8_span := goodIn_ca (goodIn_r _ [10, 11, 12, 13, 14, 15, 16, 17, 18, 19, 20, 21, 22, 23, 24, 25, 26, 9, 27, 28, 29, 30, 31, 32, 33, 34, 35, 36, 37, 38, 39, 40, 41, 42, 43, 44, 45, 46, 47, 48, 49, 50, 51, 52, 53, 54, 55, 56, 57, 58, 59, 60, 61, 62, 63, 64, 65, 66, 67, 68, 69, 70, 71, 72, 73, 74, 75, 76, 77, 118, 119, 120, 121, 122, 123, 124, 125, 126, 127, 128, 129, 130, 131, 132, 133, 134, 135, 136, 137, 138, 139, 140] (by decide +kernel) (by decide +kernel)) (goodIn_sub (fun _ h => List.mem_cons_of_mem _ (List.mem_append_left _ (List.mem_append_right _ h))) (by decide +kernel))
set_option maxRecDepth 20000 in
theorem gL_areTiedSo_X8_span : GoodIn wsL_areTiedSo (wsV RL 57 RX8 yX8_span wsX8_span) := goodIn_app (goodIn_of _ (by decide +kernel)) ggL_areTiedSo_X8_span
set_option maxRecDepth 20000 in
theorem ggL_areTiedSo_X8_length : GoodIn wsL_areTiedSo wsX8_length := goodIn_r _ [81, 12, 72, 73, 74, 51, 75, 76, 82, 20, 21, 22, 23, 24, 118, 119, 120, 121, 122, 123, 124, 125, 126, 131, 132, 133, 134, 129, 130] (by decide +kernel) (by decide +kernel)
set_option maxRecDepth 20000 in
theorem gL_areTiedSo_X8_length : GoodIn wsL_areTiedSo (wsV RL 71 RX8 yX8_length wsX8_length) := goodIn_app (goodIn_of _ (by decide +kernel)) ggL_areTiedSo_X8_length
set_option maxRecDepth 20000 in
theorem ggL_areTiedSo_X8_waiting : GoodIn wsL_areTiedSo wsX8_waiting := goodIn_ca (goodIn_r _ [86, 87, 88, 89, 9, 90, 91, 92, 93, 94, 95, 96, 97, 98, 99, 35, 36, 22, 37, 38, 39, 40, 41, 42, 24, 118, 119, 120, 121, 122, 123, 124, 125, 126, 141, 142, 143, 144, 145, 146, 147, 148, 129, 130] (by decide +kernel) (by decide +kernel)) (goodIn_sub (fun _ h => List.mem_cons_of_mem _ (List.mem_append_right _ h)) (by decide +kernel))
set_option maxRecDepth 20000 in
theorem gL_areTiedSo_X8_waiting : GoodIn wsL_areTiedSo (wsV RL 103 RX8 yX8_waiting wsX8_waiting) := goodIn_app (goodIn_of _ (by decide +kernel)) ggL_areTiedSo_X8_waiting
set_option maxRecDepth 20000 in
theorem ggL_areTiedSo_X8_stateOf : GoodIn wsL_areTiedSo wsX8_stateOf := goodIn_ca (goodIn_r _ [103, 87, 104, 105, 106, 96, 107, 108, 109, 20, 21, 22, 23, 24, 25, 26, 9, 27, 28, 29, 110, 111, 112, 113, 114, 99, 35, 36, 37, 38, 39, 40, 41, 42, 118, 119, 120, 121, 122, 123, 124, 125, 126, 141, 142, 143, 144, 145, 146, 147, 148, 129, 130] (by decide +kernel) (by decide +kernel)) (goodIn_sub (fun _ h => List.mem_cons_of_mem _ (List.mem_append_left _ (List.mem_append_right _ h))) (by decide +kernel))
set_option maxRecDepth 20000 in
theorem gL_areTiedSo_X8_stateOf : GoodIn wsL_areTiedSo (wsV RL 54 RX8 yX8_stateOf wsX8_stateOf) := goodIn_app (goodIn_of _ (by decide +kernel)) ggL_areTiedSo_X8_stateOf
set_option maxRecDepth 20000 in
theorem ggL_areTiedSo_L_stateOf : GoodIn wsL_areTiedSo wsL_stateOf := goodIn_ca (goodIn_r _ [117, 5, 100, 101, 102, 9, 103, 87, 104, 105, 106, 96, 107, 108, 109, 20, 21, 22, 23, 24, 25, 26, 27, 28, 29, 110, 111, 112, 113, 114, 99, 35, 36, 37, 38, 39, 40, 41, 42, 118, 119, 120, 121, 122, 123, 124, 125, 126, 141, 142, 143, 144, 145, 146, 147, 148, 129, 130] (by decide +kernel) (by decide +kernel)) (goodIn_sub (fun _ h => List.mem_cons_of_mem _ (List.mem_append_left _ (List.mem_append_right _ h))) (by decide +kernel))
set_option maxRecDepth 20000 in
theorem gL_areTiedSo_L_stateOf : GoodIn wsL_areTiedSo (va_wsS RL 118 yL_stateOf wsL_stateOf) := goodIn_app (goodIn_of _ (by decide +kernel)) ggL_areTiedSo_L_stateOf
theorem dL_areTiedSo_0 : decode cL_areTiedSo 0 = .ok (.iconst 0, 1) := by decide +kernel
theorem dL_areTiedSo_1 : decode cL_areTiedSo 1 = .ok (.istore_n 1, 1) := by decide +kernel
theorem dL_areTiedSo_2 : decode cL_areTiedSo 2 = .ok (.aload_n 0, 1) := by decide +kernel
theorem dL_areTiedSo_3 : decode cL_areTiedSo 3 = .ok (.iload_n 1, 1) := by decide +kernel
theorem dL_areTiedSo_4 : decode cL_areTiedSo 4 = .ok (.invokestatic 123, 3) := by decide +kernel
theorem dL_areTiedSo_7 : decode cL_areTiedSo 7 = .ok (.bipush (-2), 2) := by decide +kernel
theorem dL_areTiedSo_9 : decode cL_areTiedSo 9 = .ok (.if_icmp .le 58, 3) := by decide +kernel
theorem dL_areTiedSo_12 : decode cL_areTiedSo 12 = .ok (.aload_n 0, 1) := by decide +kernel
theorem dL_areTiedSo_13 : decode cL_areTiedSo 13 = .ok (.iload_n 1, 1) := by decide +kernel
theorem dL_areTiedSo_14 : decode cL_areTiedSo 14 = .ok (.invokevirtual 57, 3) := by decide +kernel
theorem dL_areTiedSo_17 : decode cL_areTiedSo 17 = .ok (.istore_n 2, 1) := by decide +kernel
theorem dL_areTiedSo_18 : decode cL_areTiedSo 18 = .ok (.iload_n 2, 1) := by decide +kernel
theorem dL_areTiedSo_19 : decode cL_areTiedSo 19 = .ok (.iconst (-1), 1) := by decide +kernel
theorem dL_areTiedSo_20 : decode cL_areTiedSo 20 = .ok (.if_icmp .eq 29, 3) := by decide +kernel
theorem dL_areTiedSo_23 : decode cL_areTiedSo 23 = .ok (.iload_n 2, 1) := by decide +kernel
theorem dL_areTiedSo_24 : decode cL_areTiedSo 24 = .ok (.sipush 1000, 3) := by decide +kernel
theorem dL_areTiedSo_27 : decode cL_areTiedSo 27 = .ok (.irem, 1) := by decide +kernel
theorem dL_areTiedSo_28 : decode cL_areTiedSo 28 = .ok (.ifCond .le 25, 3) := by decide +kernel
theorem dL_areTiedSo_31 : decode cL_areTiedSo 31 = .ok (.iload_n 2, 1) := by decide +kernel
theorem dL_areTiedSo_32 : decode cL_areTiedSo 32 = .ok (.sipush 1000, 3) := by decide +kernel
theorem dL_areTiedSo_35 : decode cL_areTiedSo 35 = .ok (.idiv, 1) := by decide +kernel
theorem dL_areTiedSo_36 : decode cL_areTiedSo 36 = .ok (.iload_n 2, 1) := by decide +kernel
theorem dL_areTiedSo_37 : decode cL_areTiedSo 37 = .ok (.sipush 1000, 3) := by decide +kernel
theorem dL_areTiedSo_40 : decode cL_areTiedSo 40 = .ok (.irem, 1) := by decide +kernel
theorem dL_areTiedSo_41 : decode cL_areTiedSo 41 = .ok (.iadd, 1) := by decide +kernel
theorem dL_areTiedSo_42 : decode cL_areTiedSo 42 = .ok (.aload_n 0, 1) := by decide +kernel
theorem dL_areTiedSo_43 : decode cL_areTiedSo 43 = .ok (.invokevirtual 71, 3) := by decide +kernel
theorem dL_areTiedSo_46 : decode cL_areTiedSo 46 = .ok (.if_icmp .gt 7, 3) := by decide +kernel
theorem dL_areTiedSo_49 : decode cL_areTiedSo 49 = .ok (.iconst 1, 1) := by decide +kernel
theorem dL_areTiedSo_50 : decode cL_areTiedSo 50 = .ok (.goto 4, 3) := by decide +kernel
theorem dL_areTiedSo_53 : decode cL_areTiedSo 53 = .ok (.iconst 0, 1) := by decide +kernel
theorem dL_areTiedSo_54 : decode cL_areTiedSo 54 = .ok (.istore_n 3, 1) := by decide +kernel
theorem dL_areTiedSo_55 : decode cL_areTiedSo 55 = .ok (.iload_n 3, 1) := by decide +kernel
theorem dL_areTiedSo_56 : decode cL_areTiedSo 56 = .ok (.ifCond .ne 5, 3) := by decide +kernel
theorem dL_areTiedSo_59 : decode cL_areTiedSo 59 = .ok (.iconst 0, 1) := by decide +kernel
theorem dL_areTiedSo_60 : decode cL_areTiedSo 60 = .ok (.ireturn, 1) := by decide +kernel
theorem dL_areTiedSo_61 : decode cL_areTiedSo 61 = .ok (.iinc 1 1, 3) := by decide +kernel
theorem dL_areTiedSo_64 : decode cL_areTiedSo 64 = .ok (.goto (-62), 3) := by decide +kernel
theorem dL_areTiedSo_67 : decode cL_areTiedSo 67 = .ok (.iconst 0, 1) := by decide +kernel
theorem dL_areTiedSo_68 : decode cL_areTiedSo 68 = .ok (.istore_n 1, 1) := by decide +kernel
theorem dL_areTiedSo_69 : decode cL_areTiedSo 69 = .ok (.iconst 0, 1) := by decide +kernel
theorem dL_areTiedSo_70 : decode cL_areTiedSo 70 = .ok (.istore_n 2, 1) := by decide +kernel
theorem dL_areTiedSo_71 : decode cL_areTiedSo 71 = .ok (.aload_n 0, 1) := by decide +kernel
theorem dL_areTiedSo_72 : decode cL_areTiedSo 72 = .ok (.iload_n 2, 1) := by decide +kernel
theorem dL_areTiedSo_73 : decode cL_areTiedSo 73 = .ok (.invokevirtual 103, 3) := by decide +kernel
theorem dL_areTiedSo_76 : decode cL_areTiedSo 76 = .ok (.ifCond .lt 27, 3) := by decide +kernel
theorem dL_areTiedSo_79 : decode cL_areTiedSo 79 = .ok (.iinc 1 1, 3) := by decide +kernel
theorem dL_areTiedSo_82 : decode cL_areTiedSo 82 = .ok (.aload_n 0, 1) := by decide +kernel
theorem dL_areTiedSo_83 : decode cL_areTiedSo 83 = .ok (.aload_n 0, 1) := by decide +kernel
theorem dL_areTiedSo_84 : decode cL_areTiedSo 84 = .ok (.iload_n 2, 1) := by decide +kernel
theorem dL_areTiedSo_85 : decode cL_areTiedSo 85 = .ok (.invokevirtual 103, 3) := by decide +kernel
theorem dL_areTiedSo_88 : decode cL_areTiedSo 88 = .ok (.invokevirtual 54, 3) := by decide +kernel
theorem dL_areTiedSo_91 : decode cL_areTiedSo 91 = .ok (.iconst 1, 1) := by decide +kernel
theorem dL_areTiedSo_92 : decode cL_areTiedSo 92 = .ok (.if_icmp .eq 5, 3) := by decide +kernel
theorem dL_areTiedSo_95 : decode cL_areTiedSo 95 = .ok (.iconst 0, 1) := by decide +kernel
theorem dL_areTiedSo_96 : decode cL_areTiedSo 96 = .ok (.ireturn, 1) := by decide +kernel
theorem dL_areTiedSo_97 : decode cL_areTiedSo 97 = .ok (.iinc 2 1, 3) := by decide +kernel
theorem dL_areTiedSo_100 : decode cL_areTiedSo 100 = .ok (.goto (-29), 3) := by decide +kernel
theorem dL_areTiedSo_103 : decode cL_areTiedSo 103 = .ok (.iconst 0, 1) := by decide +kernel
theorem dL_areTiedSo_104 : decode cL_areTiedSo 104 = .ok (.istore_n 2, 1) := by decide +kernel
theorem dL_areTiedSo_105 : decode cL_areTiedSo 105 = .ok (.iconst 0, 1) := by decide +kernel
theorem dL_areTiedSo_106 : decode cL_areTiedSo 106 = .ok (.istore_n 3, 1) := by decide +kernel
theorem dL_areTiedSo_107 : decode cL_areTiedSo 107 = .ok (.aload_n 0, 1) := by decide +kernel
theorem dL_areTiedSo_108 : decode cL_areTiedSo 108 = .ok (.iload_n 3, 1) := by decide +kernel
theorem dL_areTiedSo_109 : decode cL_areTiedSo 109 = .ok (.invokestatic 118, 3) := by decide +kernel
theorem dL_areTiedSo_112 : decode cL_areTiedSo 112 = .ok (.ifCond .lt 26, 3) := by decide +kernel
theorem dL_areTiedSo_115 : decode cL_areTiedSo 115 = .ok (.iload_n 2, 1) := by decide +kernel
theorem dL_areTiedSo_116 : decode cL_areTiedSo 116 = .ok (.aload_n 0, 1) := by decide +kernel
theorem dL_areTiedSo_117 : decode cL_areTiedSo 117 = .ok (.iload_n 3, 1) := by decide +kernel
theorem dL_areTiedSo_118 : decode cL_areTiedSo 118 = .ok (.invokevirtual 54, 3) := by decide +kernel
theorem dL_areTiedSo_121 : decode cL_areTiedSo 121 = .ok (.iconst 1, 1) := by decide +kernel
theorem dL_areTiedSo_122 : decode cL_areTiedSo 122 = .ok (.if_icmp .ne 7, 3) := by decide +kernel
theorem dL_areTiedSo_125 : decode cL_areTiedSo 125 = .ok (.iconst 1, 1) := by decide +kernel
theorem dL_areTiedSo_126 : decode cL_areTiedSo 126 = .ok (.goto 4, 3) := by decide +kernel
theorem dL_areTiedSo_129 : decode cL_areTiedSo 129 = .ok (.iconst 0, 1) := by decide +kernel
theorem dL_areTiedSo_130 : decode cL_areTiedSo 130 = .ok (.iadd, 1) := by decide +kernel
theorem dL_areTiedSo_131 : decode cL_areTiedSo 131 = .ok (.istore_n 2, 1) := by decide +kernel
theorem dL_areTiedSo_132 : decode cL_areTiedSo 132 = .ok (.iinc 3 1, 3) := by decide +kernel
theorem dL_areTiedSo_135 : decode cL_areTiedSo 135 = .ok (.goto (-28), 3) := by decide +kernel
theorem dL_areTiedSo_138 : decode cL_areTiedSo 138 = .ok (.iload_n 2, 1) := by decide +kernel
theorem dL_areTiedSo_139 : decode cL_areTiedSo 139 = .ok (.iload_n 1, 1) := by decide +kernel
theorem dL_areTiedSo_140 : decode cL_areTiedSo 140 = .ok (.if_icmp .ne 7, 3) := by decide +kernel
theorem dL_areTiedSo_143 : decode cL_areTiedSo 143 = .ok (.iconst 1, 1) := by decide +kernel
theorem dL_areTiedSo_144 : decode cL_areTiedSo 144 = .ok (.goto 4, 3) := by decide +kernel
theorem dL_areTiedSo_147 : decode cL_areTiedSo 147 = .ok (.iconst 0, 1) := by decide +kernel
theorem dL_areTiedSo_148 : decode cL_areTiedSo 148 = .ok (.ireturn, 1) := by decide +kernel
set_option maxRecDepth 20000 in
theorem ggL_law_X8_init : GoodIn wsL_law wsX8_init := goodIn_r _ [6, 7, 8, 9, 10, 11, 12, 13, 14, 15, 16, 17, 18, 19, 20, 21, 22, 23, 24, 25, 26, 27, 28, 29, 30, 31, 32, 33, 34, 35, 36, 37, 38, 39, 40, 41, 42, 43, 44, 45, 46, 47, 48, 49, 50, 51, 52, 53, 54, 55, 56, 57, 58, 59, 60, 61, 62, 63, 64, 65, 66, 67, 68, 69, 70, 71, 72, 73, 74, 75, 76, 77, 78, 79, 80, 81, 82, 83, 84, 85, 86, 87, 88, 89, 90, 91, 92, 93, 94, 95, 96, 97, 98, 99, 100, 101, 102, 103, 104, 105, 106, 107, 108, 109, 110, 111, 112, 113, 114, 115, 116, 117, 118, 119, 120, 121, 122, 123, 124, 125, 126, 127, 128, 129, 130, 131, 666, 667, 668, 669, 657, 658, 659, 660, 661, 662, 663, 664, 665, 670, 671, 672, 673, 674, 675, 676, 677, 678, 679, 680, 681, 682, 683, 684, 685, 686, 687, 688, 689, 690, 691, 692, 693] (by decide +kernel) (by decide +kernel)
set_option maxRecDepth 20000 in
theorem gL_law_X8_init : GoodIn wsL_law (wsX8_init) := ggL_law_X8_init
set_option maxRecDepth 20000 in
theorem ggL_law_L_cell : GoodIn wsL_law wsL_cell := goodIn_r _ [135] (by decide +kernel) (by decide +kernel)
set_option maxRecDepth 20000 in
theorem gL_law_L_cell : GoodIn wsL_law (va_wsS RL 137 yL_cell wsL_cell) := goodIn_app (goodIn_of _ (by decide +kernel)) ggL_law_L_cell
set_option maxRecDepth 20000 in
theorem ggL_law_L_act : GoodIn wsL_law wsL_act := goodIn_ca (goodIn_ca (goodIn_ca (goodIn_c ⟨List.mem_of_getElem? (i := 138) (by rfl), good_of_word (by rfl)⟩ (goodIn_r _ [139, 140, 134, 141, 142, 143, 144, 145, 2, 146, 147, 148, 149, 150, 151, 152, 16, 153, 154, 155, 18, 156, 82, 157, 158, 159, 43, 160, 66, 161, 162, 163, 164, 13, 165, 166, 167, 12, 168, 45, 169, 170, 171, 172, 173, 174, 3, 175, 176, 177, 178, 14, 179, 180, 181, 182, 183, 184, 185, 186, 187, 188, 189, 190, 191, 192, 39, 193, 54, 194, 195, 196, 197, 198, 199, 200, 201, 202, 203, 65, 204, 205, 206, 207, 208, 209, 210, 211, 55, 56, 57, 58, 59, 212, 92, 93, 94, 95, 96, 97, 98, 99, 100, 101, 102, 213, 214, 215, 216, 217, 84, 218, 219, 220, 221, 48, 222, 72, 223, 224, 225, 226, 227, 228, 229, 230, 231, 232, 233, 234, 235, 236, 237, 238, 239, 240, 241, 242, 243, 244, 245, 246, 247, 248, 249, 250, 251, 252, 253, 254, 255, 256, 257, 258, 259, 260, 261, 262, 263, 264, 265, 266, 267, 268, 269, 270, 271, 272, 44, 40, 49, 273, 274, 275, 276, 277, 278, 279, 280, 281, 282, 283, 284, 285, 286, 287, 288, 289, 290, 291, 292, 293, 294, 295, 296, 297, 298, 299, 300, 301, 302, 303, 304, 305, 306, 307, 308, 309, 310, 311, 312, 313, 314, 315, 316, 317, 318, 319, 320, 321, 322, 323, 324, 325, 326, 327, 328, 329, 330, 331, 332, 333, 334, 335, 336, 337, 338, 339, 340, 341, 342, 343, 344, 345, 346, 347, 348, 91, 349, 350, 351, 352, 353, 354, 355, 23, 356, 357, 358, 22, 359, 113, 360, 361, 362, 363, 364, 365, 366, 367, 368, 369, 370, 371, 372, 373, 374, 375, 376, 377, 378, 379, 380, 381, 382, 383, 384, 107, 385, 386, 387, 388, 389, 108, 109, 110, 111, 390, 391, 392, 393, 394, 395, 396, 397, 398, 399, 400, 401, 402, 403, 404, 405, 406, 407, 408, 409, 410, 411, 412, 413, 414, 112, 114, 415, 416, 417, 418, 419, 420, 421, 422, 423, 424, 425, 426, 427, 428, 429, 430, 431, 432, 433, 434, 435, 436, 437, 438, 439, 440, 441, 442, 443, 33, 444, 445, 446, 447, 448, 449, 450, 27, 451, 452, 453, 26, 454, 121, 455, 456, 457, 458, 459, 460, 461, 462, 463, 464, 122, 123, 465, 466, 467, 468, 469, 470, 471, 472, 473, 474, 475, 476, 477, 478, 479, 480, 481, 482, 483, 484, 485, 486, 487, 488, 489, 490, 491, 492, 493, 494, 19, 495, 496, 497, 498, 499, 500, 501, 502, 503, 504, 505, 506, 507, 508, 509, 510, 511, 512, 513, 514, 515, 516, 517, 31, 518, 519, 520, 30, 521, 129, 522, 523, 524, 525, 526, 130, 527, 528, 529, 530, 531, 532, 533, 534, 535, 32, 536, 537, 538, 539, 540, 657, 658, 659, 660, 661, 662, 663, 664, 665, 670, 671, 691, 692, 666, 667, 668, 669, 685, 686, 687, 688, 689, 690, 693, 672, 673, 674, 675, 676, 677, 678, 679, 680, 681, 682, 683, 684] (by decide +kernel) (by decide +kernel))) (goodIn_sub (fun _ h => List.mem_append_left _ (List.mem_append_left _ (List.mem_append_right _ h))) (by decide +kernel))) (goodIn_sub (fun _ h => List.mem_append_left _ (List.mem_append_right _ h)) (by decide +kernel))) (goodIn_sub (fun _ h => List.mem_append_right _ h) (by decide +kernel))
set_option maxRecDepth 20000 in
theorem gL_law_L_act : GoodIn wsL_law (va_wsS RL 141 yL_act wsL_act) := goodIn_app (goodIn_of _ (by decide +kernel)) ggL_law_L_act
set_option maxRecDepth 20000 in
theorem ggL_law_L_areAlike : GoodIn wsL_law wsL_areAlike := goodIn_ca (goodIn_ca (goodIn_r _ [543, 161, 162, 163, 2, 164, 13, 165, 166, 167, 12, 168, 45, 157, 158, 159, 43, 160, 66, 440, 441, 442, 443, 33, 544, 545, 546, 547, 23, 185, 186, 187, 188, 189, 483, 484, 485, 22, 486, 112, 360, 201, 202, 203, 65, 204, 205, 206, 207, 143, 144, 145, 146, 147, 148, 149, 150, 151, 152, 16, 153, 154, 155, 18, 156, 82, 548, 549, 550, 551, 552, 553, 554, 555, 84, 254, 255, 256, 48, 257, 72, 258, 556, 557, 558, 559, 179, 180, 181, 560, 561, 562, 563, 40, 300, 295, 564, 502, 503, 39, 504, 55, 281, 565, 566, 567, 568, 19, 200, 569, 570, 571, 572, 573, 574, 575, 576, 114, 577, 578, 134, 579, 172, 580, 581, 582, 583, 381, 382, 383, 384, 107, 385, 407, 408, 409, 410, 110, 584, 585, 586, 587, 373, 374, 375, 376, 588, 589, 590, 591, 592, 593, 594, 31, 518, 519, 520, 30, 521, 129, 522, 595, 596, 597, 598, 599, 600, 601, 602, 603, 130, 604, 605, 606, 607, 44, 286, 287, 288, 289, 290, 296, 297, 298, 299, 57, 608, 609, 610, 611, 612, 657, 658, 659, 660, 661, 662, 663, 664, 665, 666, 667, 668, 669, 691, 692, 672, 673, 674, 675, 676, 677, 678, 679, 670, 671, 693, 685, 686, 687, 688, 689, 690, 683, 684] (by decide +kernel) (by decide +kernel)) (goodIn_sub (fun _ h => List.mem_append_left _ (List.mem_append_right _ h)) (by decide +kernel))) (goodIn_sub (fun _ h => List.mem_append_left _ (List.mem_append_left _ (List.mem_append_right _ h))) (by decide +kernel))
set_option maxRecDepth 20000 in
theorem gL_law_L_areAlike : GoodIn wsL_law (va_wsS RL 144 yL_areAlike wsL_areAlike) := goodIn_app (goodIn_of _ (by decide +kernel)) ggL_law_L_areAlike
set_option maxRecDepth 20000 in
theorem ggL_law_L_isTextSo : GoodIn wsL_law wsL_isTextSo := goodIn_ca (goodIn_r _ [615, 556, 557, 558, 2, 559, 13, 179, 180, 181, 151, 152, 560, 561, 562, 12, 563, 45, 40, 300, 158, 159, 43, 160, 66, 295, 201, 202, 203, 65, 204, 205, 206, 207, 564, 502, 503, 39, 504, 55, 281, 616, 617, 618, 619, 620, 621, 622, 623, 49, 624, 255, 256, 48, 257, 72, 258, 625, 260, 261, 262, 263, 264, 265, 266, 267, 626, 565, 566, 567, 568, 19, 200, 161, 162, 163, 164, 165, 166, 167, 168, 157, 584, 585, 586, 587, 373, 374, 375, 376, 627, 628, 629, 630, 14, 631, 632, 633, 634, 190, 191, 192, 193, 54, 194, 500, 302, 303, 304, 58, 580, 581, 582, 583, 23, 381, 382, 383, 22, 384, 107, 385, 407, 408, 409, 410, 110, 360, 635, 636, 637, 638, 612, 287, 288, 289, 290, 639, 640, 134, 641, 172, 642, 643, 644, 645, 501, 646, 647, 648, 649, 657, 658, 659, 660, 661, 662, 663, 664, 665, 666, 667, 668, 669, 691, 692, 685, 686, 687, 688, 689, 690, 693, 672, 673, 674, 675, 676, 677, 678, 679] (by decide +kernel) (by decide +kernel)) (goodIn_sub (fun _ h => List.mem_append_left _ (List.mem_append_left _ (List.mem_append_right _ h))) (by decide +kernel))
set_option maxRecDepth 20000 in
theorem gL_law_L_isTextSo : GoodIn wsL_law (va_wsS RL 148 yL_isTextSo wsL_isTextSo) := goodIn_app (goodIn_of _ (by decide +kernel)) ggL_law_L_isTextSo
set_option maxRecDepth 20000 in
theorem ggL_law_L_areTiedSo : GoodIn wsL_law wsL_areTiedSo := goodIn_ca (goodIn_ca (goodIn_r _ [652, 588, 589, 134, 590, 172, 591, 592, 593, 2, 594, 31, 13, 518, 519, 520, 30, 521, 129, 522, 158, 159, 43, 160, 66, 179, 180, 181, 151, 152, 595, 596, 597, 598, 599, 201, 202, 203, 65, 204, 205, 206, 207, 600, 601, 602, 603, 130, 604, 605, 606, 12, 607, 44, 40, 286, 287, 288, 289, 290, 295, 296, 297, 298, 39, 299, 57, 281, 608, 609, 610, 611, 165, 166, 167, 168, 45, 612, 161, 162, 163, 164, 157, 544, 545, 546, 547, 23, 185, 186, 187, 188, 189, 483, 484, 485, 22, 486, 112, 360, 580, 581, 582, 583, 381, 382, 383, 384, 107, 385, 407, 408, 409, 410, 110, 577, 578, 579, 657, 658, 659, 660, 661, 662, 663, 664, 665, 683, 684, 691, 692, 666, 667, 668, 669, 685, 686, 687, 688, 689, 690, 672, 673, 674, 675, 676, 677, 678, 679] (by decide +kernel) (by decide +kernel)) (goodIn_sub (fun _ h => List.mem_append_left _ (List.mem_append_left _ (List.mem_append_right _ h))) (by decide +kernel))) (goodIn_sub (fun _ h => List.mem_append_left _ (List.mem_append_right _ h)) (by decide +kernel))
set_option maxRecDepth 20000 in
theorem gL_law_L_areTiedSo : GoodIn wsL_law (va_wsS RL 152 yL_areTiedSo wsL_areTiedSo) := goodIn_app (goodIn_of _ (by decide +kernel)) ggL_law_L_areTiedSo
set_option maxRecDepth 20000 in
theorem ggL_law_X8_merge : GoodIn wsL_law wsX8_merge := goodIn_ca (goodIn_r _ [249, 13, 147, 148, 149, 2, 150, 151, 152, 16, 250, 251, 252, 18, 253, 84, 82, 254, 255, 256, 48, 257, 72, 258, 158, 159, 43, 160, 66, 259, 260, 261, 262, 263, 264, 265, 266, 267, 201, 202, 203, 65, 204, 205, 206, 207, 268, 269, 270, 271, 12, 272, 44, 40, 49, 273, 274, 275, 276, 277, 278, 279, 39, 280, 56, 281, 282, 283, 284, 285, 57, 286, 287, 288, 289, 290, 291, 292, 293, 294, 295, 296, 297, 298, 299, 300, 301, 302, 303, 304, 58, 305, 96, 97, 98, 99, 100, 101, 102, 306, 307, 308, 309, 310, 311, 312, 313, 314, 220, 221, 222, 223, 92, 93, 94, 95, 315, 316, 317, 318, 319, 320, 321, 322, 323, 324, 325, 326, 327, 328, 240, 241, 242, 329, 330, 331, 332, 333, 334, 335, 336, 337, 338, 339, 340, 45, 341, 342, 343, 166, 167, 168, 344, 345, 346, 347, 348, 91, 657, 658, 659, 660, 661, 662, 663, 664, 665, 670, 671, 693, 691, 692, 666, 667, 668, 669, 685, 686, 687, 688, 689, 690] (by decide +kernel) (by decide +kernel)) (goodIn_sub (fun _ h => List.mem_append_left _ (List.mem_append_left _ (List.mem_append_right _ h))) (by decide +kernel))
set_option maxRecDepth 20000 in
theorem gL_law_X8_merge : GoodIn wsL_law (wsV RL 25 RX8 yX8_merge wsX8_merge) := goodIn_app (goodIn_of _ (by decide +kernel)) ggL_law_X8_merge
set_option maxRecDepth 20000 in
theorem ggL_law_X8_changes : GoodIn wsL_law wsX8_changes := goodIn_ca (goodIn_r _ [551, 147, 148, 149, 2, 150, 151, 152, 16, 552, 553, 554, 18, 555, 84, 254, 255, 256, 48, 257, 72, 258, 158, 159, 43, 160, 66, 657, 658, 659, 660, 661, 662, 663, 664, 665, 670, 671, 693, 691, 692] (by decide +kernel) (by decide +kernel)) (goodIn_sub (fun _ h => List.mem_append_left _ (List.mem_append_left _ (List.mem_append_right _ h))) (by decide +kernel))
set_option maxRecDepth 20000 in
theorem gL_law_X8_changes : GoodIn wsL_law (wsV RL 106 RX8 yX8_changes wsX8_changes) := goodIn_app (goodIn_of _ (by decide +kernel)) ggL_law_X8_changes
set_option maxRecDepth 20000 in
theorem ggL_law_X8_copy : GoodIn wsL_law wsX8_copy := goodIn_ca (goodIn_r _ [146, 147, 148, 149, 2, 150, 151, 152, 16, 153, 154, 155, 18, 156, 82, 157, 158, 159, 43, 160, 66, 657, 658, 659, 660, 661, 662, 663, 664, 665, 670, 671, 691, 692] (by decide +kernel) (by decide +kernel)) (goodIn_sub (fun _ h => List.mem_append_left _ (List.mem_append_left _ (List.mem_append_right _ h))) (by decide +kernel))
set_option maxRecDepth 20000 in
theorem gL_law_X8_copy : GoodIn wsL_law (wsV RL 68 RX8 yX8_copy wsX8_copy) := goodIn_app (goodIn_of _ (by decide +kernel)) ggL_law_X8_copy
set_option maxRecDepth 20000 in
theorem ggL_law_X8_length : GoodIn wsL_law wsX8_length := goodIn_r _ [164, 13, 165, 166, 167, 12, 168, 45, 157, 158, 159, 43, 160, 66, 657, 658, 659, 660, 661, 662, 663, 664, 665, 666, 667, 668, 669, 691, 692] (by decide +kernel) (by decide +kernel)
set_option maxRecDepth 20000 in
theorem gL_law_X8_length : GoodIn wsL_law (wsV RL 71 RX8 yX8_length wsX8_length) := goodIn_app (goodIn_of _ (by decide +kernel)) ggL_law_X8_length
set_option maxRecDepth 20000 in
theorem ggL_law_X8_copyAt : GoodIn wsL_law wsX8_copyAt := goodIn_ca (goodIn_r _ [656, 147, 148, 149, 2, 150, 151, 152, 16, 153, 154, 155, 18, 156, 82, 157, 158, 159, 43, 160, 66, 179, 180, 181, 200, 201, 202, 203, 65, 204, 205, 206, 207, 657, 658, 659, 660, 661, 662, 663, 664, 665, 670, 671, 691, 692] (by decide +kernel) (by decide +kernel)) (goodIn_sub (fun _ h => List.mem_append_left _ (List.mem_append_left _ (List.mem_append_right _ h))) (by decide +kernel))
set_option maxRecDepth 20000 in
theorem gL_law_X8_copyAt : GoodIn wsL_law (wsV RL 155 RX8 yX8_copyAt wsX8_copyAt) := goodIn_app (goodIn_of _ (by decide +kernel)) ggL_law_X8_copyAt
set_option maxRecDepth 20000 in
theorem ggL_law_X8_wordAt : GoodIn wsL_law wsX8_wordAt := goodIn_ca (goodIn_r _ [587, 13, 373, 374, 375, 2, 376, 165, 166, 167, 12, 168, 45, 157, 158, 159, 43, 160, 66, 179, 180, 181, 151, 152, 200, 201, 202, 203, 65, 204, 205, 206, 207, 657, 658, 659, 660, 661, 662, 663, 664, 665, 666, 667, 668, 669, 691, 692] (by decide +kernel) (by decide +kernel)) (goodIn_sub (fun _ h => List.mem_append_left _ (List.mem_append_left _ (List.mem_append_right _ h))) (by decide +kernel))
set_option maxRecDepth 20000 in
theorem gL_law_X8_wordAt : GoodIn wsL_law (wsV RL 120 RX8 yX8_wordAt wsX8_wordAt) := goodIn_app (goodIn_of _ (by decide +kernel)) ggL_law_X8_wordAt
theorem dL_law_0 : decode cL_law 0 = .ok (.new 9, 3) := by decide +kernel
theorem dL_law_3 : decode cL_law 3 = .ok (.dup, 1) := by decide +kernel
theorem dL_law_4 : decode cL_law 4 = .ok (.invokespecial 136, 3) := by decide +kernel
theorem dL_law_7 : decode cL_law 7 = .ok (.astore_n 1, 1) := by decide +kernel
theorem dL_law_8 : decode cL_law 8 = .ok (.new 9, 3) := by decide +kernel
theorem dL_law_11 : decode cL_law 11 = .ok (.dup, 1) := by decide +kernel
theorem dL_law_12 : decode cL_law 12 = .ok (.invokespecial 136, 3) := by decide +kernel
theorem dL_law_15 : decode cL_law 15 = .ok (.astore_n 2, 1) := by decide +kernel
theorem dL_law_16 : decode cL_law 16 = .ok (.iconst 0, 1) := by decide +kernel
theorem dL_law_17 : decode cL_law 17 = .ok (.istore_n 3, 1) := by decide +kernel
theorem dL_law_18 : decode cL_law 18 = .ok (.iload_n 3, 1) := by decide +kernel
theorem dL_law_19 : decode cL_law 19 = .ok (.bipush 110, 2) := by decide +kernel
theorem dL_law_21 : decode cL_law 21 = .ok (.if_icmp .ge 77, 3) := by decide +kernel
theorem dL_law_24 : decode cL_law 24 = .ok (.aload_n 0, 1) := by decide +kernel
theorem dL_law_25 : decode cL_law 25 = .ok (.iload_n 3, 1) := by decide +kernel
theorem dL_law_26 : decode cL_law 26 = .ok (.invokestatic 137, 3) := by decide +kernel
theorem dL_law_29 : decode cL_law 29 = .ok (.istore 4, 2) := by decide +kernel
theorem dL_law_31 : decode cL_law 31 = .ok (.aload_n 1, 1) := by decide +kernel
theorem dL_law_32 : decode cL_law 32 = .ok (.iload 4, 2) := by decide +kernel
theorem dL_law_34 : decode cL_law 34 = .ok (.invokestatic 141, 3) := by decide +kernel
theorem dL_law_37 : decode cL_law 37 = .ok (.istore 5, 2) := by decide +kernel
theorem dL_law_39 : decode cL_law 39 = .ok (.iload 5, 2) := by decide +kernel
theorem dL_law_41 : decode cL_law 41 = .ok (.ldc 16, 2) := by decide +kernel
theorem dL_law_43 : decode cL_law 43 = .ok (.if_icmp .eq 14, 3) := by decide +kernel
theorem dL_law_46 : decode cL_law 46 = .ok (.aload_n 2, 1) := by decide +kernel
theorem dL_law_47 : decode cL_law 47 = .ok (.iload 4, 2) := by decide +kernel
theorem dL_law_49 : decode cL_law 49 = .ok (.invokestatic 141, 3) := by decide +kernel
theorem dL_law_52 : decode cL_law 52 = .ok (.iload 5, 2) := by decide +kernel
theorem dL_law_54 : decode cL_law 54 = .ok (.if_icmp .ne 11, 3) := by decide +kernel
theorem dL_law_57 : decode cL_law 57 = .ok (.aload_n 1, 1) := by decide +kernel
theorem dL_law_58 : decode cL_law 58 = .ok (.aload_n 2, 1) := by decide +kernel
theorem dL_law_59 : decode cL_law 59 = .ok (.invokestatic 144, 3) := by decide +kernel
theorem dL_law_62 : decode cL_law 62 = .ok (.ifCond .ne 5, 3) := by decide +kernel
theorem dL_law_65 : decode cL_law 65 = .ok (.iconst 0, 1) := by decide +kernel
theorem dL_law_66 : decode cL_law 66 = .ok (.ireturn, 1) := by decide +kernel
theorem dL_law_67 : decode cL_law 67 = .ok (.iload_n 3, 1) := by decide +kernel
theorem dL_law_68 : decode cL_law 68 = .ok (.bipush 10, 2) := by decide +kernel
theorem dL_law_70 : decode cL_law 70 = .ok (.irem, 1) := by decide +kernel
theorem dL_law_71 : decode cL_law 71 = .ok (.bipush 9, 2) := by decide +kernel
theorem dL_law_73 : decode cL_law 73 = .ok (.if_icmp .ne 19, 3) := by decide +kernel
theorem dL_law_76 : decode cL_law 76 = .ok (.aload_n 1, 1) := by decide +kernel
theorem dL_law_77 : decode cL_law 77 = .ok (.invokestatic 148, 3) := by decide +kernel
theorem dL_law_80 : decode cL_law 80 = .ok (.ifCond .eq 10, 3) := by decide +kernel
theorem dL_law_83 : decode cL_law 83 = .ok (.aload_n 1, 1) := by decide +kernel
theorem dL_law_84 : decode cL_law 84 = .ok (.invokestatic 152, 3) := by decide +kernel
theorem dL_law_87 : decode cL_law 87 = .ok (.ifCond .ne 5, 3) := by decide +kernel
theorem dL_law_90 : decode cL_law 90 = .ok (.iconst 0, 1) := by decide +kernel
theorem dL_law_91 : decode cL_law 91 = .ok (.ireturn, 1) := by decide +kernel
theorem dL_law_92 : decode cL_law 92 = .ok (.iinc 3 1, 3) := by decide +kernel
theorem dL_law_95 : decode cL_law 95 = .ok (.goto (-77), 3) := by decide +kernel
theorem dL_law_98 : decode cL_law 98 = .ok (.aload_n 1, 1) := by decide +kernel
theorem dL_law_99 : decode cL_law 99 = .ok (.iconst 2, 1) := by decide +kernel
theorem dL_law_100 : decode cL_law 100 = .ok (.invokevirtual 25, 3) := by decide +kernel
theorem dL_law_103 : decode cL_law 103 = .ok (.istore_n 3, 1) := by decide +kernel
theorem dL_law_104 : decode cL_law 104 = .ok (.iload_n 3, 1) := by decide +kernel
theorem dL_law_105 : decode cL_law 105 = .ok (.ifCond .lt 35, 3) := by decide +kernel
theorem dL_law_108 : decode cL_law 108 = .ok (.aload_n 1, 1) := by decide +kernel
theorem dL_law_109 : decode cL_law 109 = .ok (.iconst 2, 1) := by decide +kernel
theorem dL_law_110 : decode cL_law 110 = .ok (.invokevirtual 106, 3) := by decide +kernel
theorem dL_law_113 : decode cL_law 113 = .ok (.ifCond .ne 27, 3) := by decide +kernel
theorem dL_law_116 : decode cL_law 116 = .ok (.aload_n 1, 1) := by decide +kernel
theorem dL_law_117 : decode cL_law 117 = .ok (.iconst 2, 1) := by decide +kernel
theorem dL_law_118 : decode cL_law 118 = .ok (.invokevirtual 68, 3) := by decide +kernel
theorem dL_law_121 : decode cL_law 121 = .ok (.aload_n 1, 1) := by decide +kernel
theorem dL_law_122 : decode cL_law 122 = .ok (.invokevirtual 71, 3) := by decide +kernel
theorem dL_law_125 : decode cL_law 125 = .ok (.if_icmp .ne 15, 3) := by decide +kernel
theorem dL_law_128 : decode cL_law 128 = .ok (.aload_n 1, 1) := by decide +kernel
theorem dL_law_129 : decode cL_law 129 = .ok (.iconst 2, 1) := by decide +kernel
theorem dL_law_130 : decode cL_law 130 = .ok (.invokevirtual 25, 3) := by decide +kernel
theorem dL_law_133 : decode cL_law 133 = .ok (.ifCond .ne 7, 3) := by decide +kernel
theorem dL_law_136 : decode cL_law 136 = .ok (.iconst 1, 1) := by decide +kernel
theorem dL_law_137 : decode cL_law 137 = .ok (.goto 4, 3) := by decide +kernel
theorem dL_law_140 : decode cL_law 140 = .ok (.iconst 0, 1) := by decide +kernel
theorem dL_law_141 : decode cL_law 141 = .ok (.istore 4, 2) := by decide +kernel
theorem dL_law_143 : decode cL_law 143 = .ok (.iconst 0, 1) := by decide +kernel
theorem dL_law_144 : decode cL_law 144 = .ok (.istore 5, 2) := by decide +kernel
theorem dL_law_146 : decode cL_law 146 = .ok (.iload 5, 2) := by decide +kernel
theorem dL_law_148 : decode cL_law 148 = .ok (.aload_n 1, 1) := by decide +kernel
theorem dL_law_149 : decode cL_law 149 = .ok (.invokevirtual 71, 3) := by decide +kernel
theorem dL_law_152 : decode cL_law 152 = .ok (.if_icmp .ge 37, 3) := by decide +kernel
theorem dL_law_155 : decode cL_law 155 = .ok (.iload 4, 2) := by decide +kernel
theorem dL_law_157 : decode cL_law 157 = .ok (.ifCond .eq 32, 3) := by decide +kernel
theorem dL_law_160 : decode cL_law 160 = .ok (.aload_n 1, 1) := by decide +kernel
theorem dL_law_161 : decode cL_law 161 = .ok (.iconst 2, 1) := by decide +kernel
theorem dL_law_162 : decode cL_law 162 = .ok (.iload 5, 2) := by decide +kernel
theorem dL_law_164 : decode cL_law 164 = .ok (.invokevirtual 155, 3) := by decide +kernel
theorem dL_law_167 : decode cL_law 167 = .ok (.aload_n 1, 1) := by decide +kernel
theorem dL_law_168 : decode cL_law 168 = .ok (.iload 5, 2) := by decide +kernel
theorem dL_law_170 : decode cL_law 170 = .ok (.invokevirtual 120, 3) := by decide +kernel
theorem dL_law_173 : decode cL_law 173 = .ok (.if_icmp .ne 7, 3) := by decide +kernel
theorem dL_law_176 : decode cL_law 176 = .ok (.iconst 1, 1) := by decide +kernel
theorem dL_law_177 : decode cL_law 177 = .ok (.goto 4, 3) := by decide +kernel
theorem dL_law_180 : decode cL_law 180 = .ok (.iconst 0, 1) := by decide +kernel
theorem dL_law_181 : decode cL_law 181 = .ok (.istore 4, 2) := by decide +kernel
theorem dL_law_183 : decode cL_law 183 = .ok (.iinc 5 1, 3) := by decide +kernel
theorem dL_law_186 : decode cL_law 186 = .ok (.goto (-40), 3) := by decide +kernel
theorem dL_law_189 : decode cL_law 189 = .ok (.iload 4, 2) := by decide +kernel
theorem dL_law_191 : decode cL_law 191 = .ok (.ifCond .eq 14, 3) := by decide +kernel
theorem dL_law_194 : decode cL_law 194 = .ok (.aload_n 1, 1) := by decide +kernel
theorem dL_law_195 : decode cL_law 195 = .ok (.invokestatic 148, 3) := by decide +kernel
theorem dL_law_198 : decode cL_law 198 = .ok (.ifCond .eq 7, 3) := by decide +kernel
theorem dL_law_201 : decode cL_law 201 = .ok (.iconst 1, 1) := by decide +kernel
theorem dL_law_202 : decode cL_law 202 = .ok (.goto 4, 3) := by decide +kernel
theorem dL_law_205 : decode cL_law 205 = .ok (.iconst 0, 1) := by decide +kernel
theorem dL_law_206 : decode cL_law 206 = .ok (.ireturn, 1) := by decide +kernel
abbrev vwCl : List vw_C := [(RX0, TX0, 1), (RX1, TX1, 2), (RX2, TX2, 4), (RX3, TX3, 3), (RX4, TX4, 8), (RX5, TX5, 2), (RX6, TX6, 6), (RX7, TX7, 2), (RX8, TX8, 9)]
