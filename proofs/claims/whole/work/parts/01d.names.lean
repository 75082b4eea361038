theorem dX3_advance_0 : decode cX3_advance 0 = .ok (.iload_n 1, 1) := by decide +kernel
theorem dX3_advance_1 : decode cX3_advance 1 = .ok (.ifCond .lt 10, 3) := by decide +kernel
theorem dX3_advance_4 : decode cX3_advance 4 = .ok (.iload_n 1, 1) := by decide +kernel
theorem dX3_advance_5 : decode cX3_advance 5 = .ok (.sipush 1000, 3) := by decide +kernel
theorem dX3_advance_8 : decode cX3_advance 8 = .ok (.if_icmp .le 13, 3) := by decide +kernel
theorem dX3_advance_11 : decode cX3_advance 11 = .ok (.new 64, 3) := by decide +kernel
theorem dX3_advance_14 : decode cX3_advance 14 = .ok (.dup, 1) := by decide +kernel
theorem dX3_advance_15 : decode cX3_advance 15 = .ok (.ldc 124, 2) := by decide +kernel
theorem dX3_advance_17 : decode cX3_advance 17 = .ok (.invokespecial 68, 3) := by decide +kernel
theorem dX3_advance_20 : decode cX3_advance 20 = .ok (.athrow, 1) := by decide +kernel
theorem dX3_advance_21 : decode cX3_advance 21 = .ok (.aload_n 0, 1) := by decide +kernel
theorem dX3_advance_22 : decode cX3_advance 22 = .ok (.getfield 21, 3) := by decide +kernel
theorem dX3_advance_25 : decode cX3_advance 25 = .ok (.iload_n 1, 1) := by decide +kernel
theorem dX3_advance_26 : decode cX3_advance 26 = .ok (.invokevirtual 126, 3) := by decide +kernel
theorem dX3_advance_29 : decode cX3_advance 29 = .ok (.ireturn, 1) := by decide +kernel
theorem dX3_state_0 : decode cX3_state 0 = .ok (.aload_n 0, 1) := by decide +kernel
theorem dX3_state_1 : decode cX3_state 1 = .ok (.getfield 21, 3) := by decide +kernel
theorem dX3_state_4 : decode cX3_state 4 = .ok (.getfield 129, 3) := by decide +kernel
theorem dX3_state_7 : decode cX3_state 7 = .ok (.ireturn, 1) := by decide +kernel
theorem dX3_time_0 : decode cX3_time 0 = .ok (.aload_n 0, 1) := by decide +kernel
theorem dX3_time_1 : decode cX3_time 1 = .ok (.getfield 21, 3) := by decide +kernel
theorem dX3_time_4 : decode cX3_time 4 = .ok (.getfield 113, 3) := by decide +kernel
theorem dX3_time_7 : decode cX3_time 7 = .ok (.lreturn, 1) := by decide +kernel
set_option maxRecDepth 20000 in
theorem ggX3_value_X3_isBelow : GoodIn wsX3_value wsX3_isBelow := goodIn_r _ [8] (by decide +kernel) (by decide +kernel)
set_option maxRecDepth 20000 in
theorem gX3_value_X3_isBelow : GoodIn wsX3_value (va_wsS RX3 47 yX3_isBelow wsX3_isBelow) := goodIn_app (goodIn_of _ (by decide +kernel)) ggX3_value_X3_isBelow
theorem dX3_value_0 : decode cX3_value 0 = .ok (.iload_n 1, 1) := by decide +kernel
theorem dX3_value_1 : decode cX3_value 1 = .ok (.iconst 3, 1) := by decide +kernel
theorem dX3_value_2 : decode cX3_value 2 = .ok (.invokestatic 47, 3) := by decide +kernel
theorem dX3_value_5 : decode cX3_value 5 = .ok (.ifCond .ne 13, 3) := by decide +kernel
theorem dX3_value_8 : decode cX3_value 8 = .ok (.new 51, 3) := by decide +kernel
theorem dX3_value_11 : decode cX3_value 11 = .ok (.dup, 1) := by decide +kernel
theorem dX3_value_12 : decode cX3_value 12 = .ok (.ldc 58, 2) := by decide +kernel
theorem dX3_value_14 : decode cX3_value 14 = .ok (.invokespecial 55, 3) := by decide +kernel
theorem dX3_value_17 : decode cX3_value 17 = .ok (.athrow, 1) := by decide +kernel
theorem dX3_value_18 : decode cX3_value 18 = .ok (.aload_n 0, 1) := by decide +kernel
theorem dX3_value_19 : decode cX3_value 19 = .ok (.getfield 21, 3) := by decide +kernel
theorem dX3_value_22 : decode cX3_value 22 = .ok (.getfield 132, 3) := by decide +kernel
theorem dX3_value_25 : decode cX3_value 25 = .ok (.iload_n 1, 1) := by decide +kernel
theorem dX3_value_26 : decode cX3_value 26 = .ok (.iaload, 1) := by decide +kernel
theorem dX3_value_27 : decode cX3_value 27 = .ok (.ireturn, 1) := by decide +kernel
set_option maxRecDepth 20000 in
theorem ggX3_left_X3_isBelow : GoodIn wsX3_left wsX3_isBelow := goodIn_r _ [7] (by decide +kernel) (by decide +kernel)
set_option maxRecDepth 20000 in
theorem gX3_left_X3_isBelow : GoodIn wsX3_left (va_wsS RX3 47 yX3_isBelow wsX3_isBelow) := goodIn_app (goodIn_of _ (by decide +kernel)) ggX3_left_X3_isBelow
set_option maxRecDepth 20000 in
theorem ggX3_left_X0_ticksLeft : GoodIn wsX3_left wsX0_ticksLeft := goodIn_r _ [12, 13, 14, 15, 19, 20, 21, 22, 23, 24, 25, 26, 27, 28] (by decide +kernel) (by decide +kernel)
set_option maxRecDepth 20000 in
theorem gX3_left_X0_ticksLeft : GoodIn wsX3_left (wsV RX3 137 RX0 yX0_ticksLeft wsX0_ticksLeft) := goodIn_app (goodIn_of _ (by decide +kernel)) ggX3_left_X0_ticksLeft
theorem dX3_left_0 : decode cX3_left 0 = .ok (.iload_n 1, 1) := by decide +kernel
theorem dX3_left_1 : decode cX3_left 1 = .ok (.iconst 4, 1) := by decide +kernel
theorem dX3_left_2 : decode cX3_left 2 = .ok (.invokestatic 47, 3) := by decide +kernel
theorem dX3_left_5 : decode cX3_left 5 = .ok (.ifCond .ne 13, 3) := by decide +kernel
theorem dX3_left_8 : decode cX3_left 8 = .ok (.new 51, 3) := by decide +kernel
theorem dX3_left_11 : decode cX3_left 11 = .ok (.dup, 1) := by decide +kernel
theorem dX3_left_12 : decode cX3_left 12 = .ok (.ldc 135, 2) := by decide +kernel
theorem dX3_left_14 : decode cX3_left 14 = .ok (.invokespecial 55, 3) := by decide +kernel
theorem dX3_left_17 : decode cX3_left 17 = .ok (.athrow, 1) := by decide +kernel
theorem dX3_left_18 : decode cX3_left 18 = .ok (.aload_n 0, 1) := by decide +kernel
theorem dX3_left_19 : decode cX3_left 19 = .ok (.getfield 21, 3) := by decide +kernel
theorem dX3_left_22 : decode cX3_left 22 = .ok (.iload_n 1, 1) := by decide +kernel
theorem dX3_left_23 : decode cX3_left 23 = .ok (.invokevirtual 137, 3) := by decide +kernel
theorem dX3_left_26 : decode cX3_left 26 = .ok (.ireturn, 1) := by decide +kernel
theorem dX3_emitted_0 : decode cX3_emitted 0 = .ok (.aload_n 0, 1) := by decide +kernel
theorem dX3_emitted_1 : decode cX3_emitted 1 = .ok (.getfield 21, 3) := by decide +kernel
theorem dX3_emitted_4 : decode cX3_emitted 4 = .ok (.getfield 140, 3) := by decide +kernel
theorem dX3_emitted_7 : decode cX3_emitted 7 = .ok (.ireturn, 1) := by decide +kernel
set_option maxRecDepth 20000 in
theorem ggX3_output_X3_isBelow : GoodIn wsX3_output wsX3_isBelow := goodIn_r _ [9] (by decide +kernel) (by decide +kernel)
set_option maxRecDepth 20000 in
theorem gX3_output_X3_isBelow : GoodIn wsX3_output (va_wsS RX3 47 yX3_isBelow wsX3_isBelow) := goodIn_app (goodIn_of _ (by decide +kernel)) ggX3_output_X3_isBelow
theorem dX3_output_0 : decode cX3_output 0 = .ok (.iload_n 1, 1) := by decide +kernel
theorem dX3_output_1 : decode cX3_output 1 = .ok (.aload_n 0, 1) := by decide +kernel
theorem dX3_output_2 : decode cX3_output 2 = .ok (.getfield 21, 3) := by decide +kernel
theorem dX3_output_5 : decode cX3_output 5 = .ok (.getfield 143, 3) := by decide +kernel
theorem dX3_output_8 : decode cX3_output 8 = .ok (.invokestatic 47, 3) := by decide +kernel
theorem dX3_output_11 : decode cX3_output 11 = .ok (.ifCond .ne 13, 3) := by decide +kernel
theorem dX3_output_14 : decode cX3_output 14 = .ok (.new 51, 3) := by decide +kernel
theorem dX3_output_17 : decode cX3_output 17 = .ok (.dup, 1) := by decide +kernel
theorem dX3_output_18 : decode cX3_output 18 = .ok (.ldc 146, 2) := by decide +kernel
theorem dX3_output_20 : decode cX3_output 20 = .ok (.invokespecial 55, 3) := by decide +kernel
theorem dX3_output_23 : decode cX3_output 23 = .ok (.athrow, 1) := by decide +kernel
theorem dX3_output_24 : decode cX3_output 24 = .ok (.aload_n 0, 1) := by decide +kernel
theorem dX3_output_25 : decode cX3_output 25 = .ok (.getfield 21, 3) := by decide +kernel
theorem dX3_output_28 : decode cX3_output 28 = .ok (.getfield 148, 3) := by decide +kernel
theorem dX3_output_31 : decode cX3_output 31 = .ok (.iload_n 1, 1) := by decide +kernel
theorem dX3_output_32 : decode cX3_output 32 = .ok (.iaload, 1) := by decide +kernel
theorem dX3_output_33 : decode cX3_output 33 = .ok (.ireturn, 1) := by decide +kernel
set_option maxRecDepth 20000 in
theorem ggX3_fired_X3_isBelow : GoodIn wsX3_fired wsX3_isBelow := goodIn_r _ [10] (by decide +kernel) (by decide +kernel)
set_option maxRecDepth 20000 in
theorem gX3_fired_X3_isBelow : GoodIn wsX3_fired (va_wsS RX3 47 yX3_isBelow wsX3_isBelow) := goodIn_app (goodIn_of _ (by decide +kernel)) ggX3_fired_X3_isBelow
theorem dX3_fired_0 : decode cX3_fired 0 = .ok (.iload_n 1, 1) := by decide +kernel
theorem dX3_fired_1 : decode cX3_fired 1 = .ok (.aload_n 0, 1) := by decide +kernel
theorem dX3_fired_2 : decode cX3_fired 2 = .ok (.getfield 12, 3) := by decide +kernel
theorem dX3_fired_5 : decode cX3_fired 5 = .ok (.getfield 69, 3) := by decide +kernel
theorem dX3_fired_8 : decode cX3_fired 8 = .ok (.invokestatic 47, 3) := by decide +kernel
theorem dX3_fired_11 : decode cX3_fired 11 = .ok (.ifCond .ne 13, 3) := by decide +kernel
theorem dX3_fired_14 : decode cX3_fired 14 = .ok (.new 51, 3) := by decide +kernel
theorem dX3_fired_17 : decode cX3_fired 17 = .ok (.dup, 1) := by decide +kernel
theorem dX3_fired_18 : decode cX3_fired 18 = .ok (.ldc 86, 2) := by decide +kernel
theorem dX3_fired_20 : decode cX3_fired 20 = .ok (.invokespecial 55, 3) := by decide +kernel
theorem dX3_fired_23 : decode cX3_fired 23 = .ok (.athrow, 1) := by decide +kernel
theorem dX3_fired_24 : decode cX3_fired 24 = .ok (.aload_n 0, 1) := by decide +kernel
theorem dX3_fired_25 : decode cX3_fired 25 = .ok (.getfield 21, 3) := by decide +kernel
theorem dX3_fired_28 : decode cX3_fired 28 = .ok (.getfield 82, 3) := by decide +kernel
theorem dX3_fired_31 : decode cX3_fired 31 = .ok (.iload_n 1, 1) := by decide +kernel
theorem dX3_fired_32 : decode cX3_fired 32 = .ok (.iaload, 1) := by decide +kernel
theorem dX3_fired_33 : decode cX3_fired 33 = .ok (.ireturn, 1) := by decide +kernel
theorem dX3_ignored_0 : decode cX3_ignored 0 = .ok (.aload_n 0, 1) := by decide +kernel
theorem dX3_ignored_1 : decode cX3_ignored 1 = .ok (.getfield 21, 3) := by decide +kernel
theorem dX3_ignored_4 : decode cX3_ignored 4 = .ok (.getfield 151, 3) := by decide +kernel
theorem dX3_ignored_7 : decode cX3_ignored 7 = .ok (.ireturn, 1) := by decide +kernel
set_option maxRecDepth 20000 in
theorem ggX3_compile_X2_make : GoodIn wsX3_compile wsX2_make := goodIn_r _ [8, 9, 10, 11, 12, 13, 7, 14, 15, 16, 17, 18, 19, 20, 21, 22, 23, 24, 25, 26, 27, 28, 29, 30, 31, 32, 33, 34, 35, 36, 37, 38, 39, 40, 41, 42, 43, 44, 45, 46, 47, 48, 49, 50, 51, 52, 53, 54, 55, 56, 57, 58, 59, 60, 61, 62, 63, 64, 65, 66, 67, 68, 69, 70, 71, 72, 73, 74, 75, 76, 77, 78, 79, 80, 81, 82, 83, 84, 85, 86, 87, 88, 89, 90, 91, 92, 93, 94, 95, 96, 97, 98, 99, 100, 101, 102, 103, 104, 105, 109, 110, 111, 112, 113, 114, 115, 116, 117, 118, 119, 120, 121, 122, 123, 124, 125, 126, 127, 128, 129, 130, 131] (by decide +kernel) (by decide +kernel)
set_option maxRecDepth 20000 in
theorem gX3_compile_X2_make : GoodIn wsX3_compile (wsV RX3 154 RX2 yX2_make wsX2_make) := goodIn_app (goodIn_of _ (by decide +kernel)) ggX3_compile_X2_make
theorem dX3_compile_0 : decode cX3_compile 0 = .ok (.aload_n 0, 1) := by decide +kernel
theorem dX3_compile_1 : decode cX3_compile 1 = .ok (.getfield 28, 3) := by decide +kernel
theorem dX3_compile_4 : decode cX3_compile 4 = .ok (.getfield 43, 3) := by decide +kernel
theorem dX3_compile_7 : decode cX3_compile 7 = .ok (.ifCond .ne 10, 3) := by decide +kernel
theorem dX3_compile_10 : decode cX3_compile 10 = .ok (.aload_n 0, 1) := by decide +kernel
theorem dX3_compile_11 : decode cX3_compile 11 = .ok (.getfield 28, 3) := by decide +kernel
theorem dX3_compile_14 : decode cX3_compile 14 = .ok (.invokevirtual 154, 3) := by decide +kernel
theorem dX3_compile_17 : decode cX3_compile 17 = .ok (.aload_n 0, 1) := by decide +kernel
theorem dX3_compile_18 : decode cX3_compile 18 = .ok (.getfield 28, 3) := by decide +kernel
theorem dX3_compile_21 : decode cX3_compile 21 = .ok (.getfield 157, 3) := by decide +kernel
theorem dX3_compile_24 : decode cX3_compile 24 = .ok (.ireturn, 1) := by decide +kernel
theorem dX3_isCompiled_0 : decode cX3_isCompiled 0 = .ok (.aload_n 0, 1) := by decide +kernel
theorem dX3_isCompiled_1 : decode cX3_isCompiled 1 = .ok (.getfield 28, 3) := by decide +kernel
theorem dX3_isCompiled_4 : decode cX3_isCompiled 4 = .ok (.getfield 43, 3) := by decide +kernel
theorem dX3_isCompiled_7 : decode cX3_isCompiled 7 = .ok (.ireturn, 1) := by decide +kernel
set_option maxRecDepth 20000 in
theorem ggX3_classOf_X3_needTable : GoodIn wsX3_classOf wsX3_needTable := goodIn_ca (goodIn_r _ [11, 12, 13, 5, 14, 18, 19, 20, 34, 35, 36, 37, 38, 39, 40, 41, 42, 43] (by decide +kernel) (by decide +kernel)) (goodIn_sub (fun _ h => List.mem_cons_of_mem _ (List.mem_append_right _ h)) (by decide +kernel))
set_option maxRecDepth 20000 in
theorem gX3_classOf_X3_needTable : GoodIn wsX3_classOf (wsV RX3 160 RX3 yX3_needTable wsX3_needTable) := goodIn_app (goodIn_of _ (by decide +kernel)) ggX3_classOf_X3_needTable
set_option maxRecDepth 20000 in
theorem ggX3_classOf_X3_isBelow : GoodIn wsX3_classOf wsX3_isBelow := goodIn_r _ [17] (by decide +kernel) (by decide +kernel)
set_option maxRecDepth 20000 in
theorem gX3_classOf_X3_isBelow : GoodIn wsX3_classOf (va_wsS RX3 47 yX3_isBelow wsX3_isBelow) := goodIn_app (goodIn_of _ (by decide +kernel)) ggX3_classOf_X3_isBelow
theorem dX3_classOf_0 : decode cX3_classOf 0 = .ok (.aload_n 0, 1) := by decide +kernel
theorem dX3_classOf_1 : decode cX3_classOf 1 = .ok (.invokevirtual 160, 3) := by decide +kernel
theorem dX3_classOf_4 : decode cX3_classOf 4 = .ok (.iload_n 1, 1) := by decide +kernel
theorem dX3_classOf_5 : decode cX3_classOf 5 = .ok (.aload_n 0, 1) := by decide +kernel
theorem dX3_classOf_6 : decode cX3_classOf 6 = .ok (.getfield 12, 3) := by decide +kernel
theorem dX3_classOf_9 : decode cX3_classOf 9 = .ok (.getfield 32, 3) := by decide +kernel
theorem dX3_classOf_12 : decode cX3_classOf 12 = .ok (.invokestatic 47, 3) := by decide +kernel
theorem dX3_classOf_15 : decode cX3_classOf 15 = .ok (.ifCond .ne 13, 3) := by decide +kernel
theorem dX3_classOf_18 : decode cX3_classOf 18 = .ok (.new 51, 3) := by decide +kernel
theorem dX3_classOf_21 : decode cX3_classOf 21 = .ok (.dup, 1) := by decide +kernel
theorem dX3_classOf_22 : decode cX3_classOf 22 = .ok (.ldc 53, 2) := by decide +kernel
theorem dX3_classOf_24 : decode cX3_classOf 24 = .ok (.invokespecial 55, 3) := by decide +kernel
theorem dX3_classOf_27 : decode cX3_classOf 27 = .ok (.athrow, 1) := by decide +kernel
theorem dX3_classOf_28 : decode cX3_classOf 28 = .ok (.aload_n 0, 1) := by decide +kernel
theorem dX3_classOf_29 : decode cX3_classOf 29 = .ok (.getfield 28, 3) := by decide +kernel
theorem dX3_classOf_32 : decode cX3_classOf 32 = .ok (.getfield 163, 3) := by decide +kernel
theorem dX3_classOf_35 : decode cX3_classOf 35 = .ok (.iload_n 1, 1) := by decide +kernel
theorem dX3_classOf_36 : decode cX3_classOf 36 = .ok (.iaload, 1) := by decide +kernel
theorem dX3_classOf_37 : decode cX3_classOf 37 = .ok (.ireturn, 1) := by decide +kernel
set_option maxRecDepth 20000 in
theorem ggX3_offset_X3_needClass : GoodIn wsX3_offset wsX3_needClass := goodIn_ca (goodIn_ca (goodIn_r _ [7, 8, 9, 1, 10, 11, 12, 13, 6, 14, 15, 16, 17, 18, 19, 20, 21, 22, 23, 24, 25, 26, 27, 28, 29, 30, 31, 32, 33] (by decide +kernel) (by decide +kernel)) (goodIn_sub (fun _ h => List.mem_cons_of_mem _ (List.mem_append_left _ (List.mem_append_right _ h))) (by decide +kernel))) (goodIn_sub (fun _ h => List.mem_cons_of_mem _ (List.mem_append_right _ h)) (by decide +kernel))
set_option maxRecDepth 20000 in
theorem gX3_offset_X3_needClass : GoodIn wsX3_offset (wsV RX3 166 RX3 yX3_needClass wsX3_needClass) := goodIn_app (goodIn_of _ (by decide +kernel)) ggX3_offset_X3_needClass
theorem dX3_offset_0 : decode cX3_offset 0 = .ok (.aload_n 0, 1) := by decide +kernel
theorem dX3_offset_1 : decode cX3_offset 1 = .ok (.iload_n 1, 1) := by decide +kernel
theorem dX3_offset_2 : decode cX3_offset 2 = .ok (.invokevirtual 166, 3) := by decide +kernel
theorem dX3_offset_5 : decode cX3_offset 5 = .ok (.aload_n 0, 1) := by decide +kernel
theorem dX3_offset_6 : decode cX3_offset 6 = .ok (.getfield 28, 3) := by decide +kernel
theorem dX3_offset_9 : decode cX3_offset 9 = .ok (.getfield 170, 3) := by decide +kernel
theorem dX3_offset_12 : decode cX3_offset 12 = .ok (.iload_n 1, 1) := by decide +kernel
theorem dX3_offset_13 : decode cX3_offset 13 = .ok (.iaload, 1) := by decide +kernel
theorem dX3_offset_14 : decode cX3_offset 14 = .ok (.ireturn, 1) := by decide +kernel
set_option maxRecDepth 20000 in
theorem ggX3_used_X3_needClass : GoodIn wsX3_used wsX3_needClass := goodIn_ca (goodIn_ca (goodIn_r _ [6, 7, 8, 1, 9, 10, 11, 12, 5, 13, 14, 15, 16, 17, 18, 19, 33, 34, 35, 36, 37, 38, 39, 40, 41, 42, 43, 44, 45] (by decide +kernel) (by decide +kernel)) (goodIn_sub (fun _ h => List.mem_cons_of_mem _ (List.mem_append_left _ (List.mem_append_right _ h))) (by decide +kernel))) (goodIn_sub (fun _ h => List.mem_cons_of_mem _ (List.mem_append_right _ h)) (by decide +kernel))
set_option maxRecDepth 20000 in
theorem gX3_used_X3_needClass : GoodIn wsX3_used (wsV RX3 166 RX3 yX3_needClass wsX3_needClass) := goodIn_app (goodIn_of _ (by decide +kernel)) ggX3_used_X3_needClass
set_option maxRecDepth 20000 in
theorem ggX3_used_X2_usedCells : GoodIn wsX3_used wsX2_usedCells := goodIn_r _ [24, 25, 26, 27, 28, 29, 30, 31, 32, 36, 37, 38, 39, 40, 41, 42, 43, 44, 45] (by decide +kernel) (by decide +kernel)
set_option maxRecDepth 20000 in
theorem gX3_used_X2_usedCells : GoodIn wsX3_used (wsV RX3 173 RX2 yX2_usedCells wsX2_usedCells) := goodIn_app (goodIn_of _ (by decide +kernel)) ggX3_used_X2_usedCells
theorem dX3_used_0 : decode cX3_used 0 = .ok (.aload_n 0, 1) := by decide +kernel
theorem dX3_used_1 : decode cX3_used 1 = .ok (.iload_n 1, 1) := by decide +kernel
theorem dX3_used_2 : decode cX3_used 2 = .ok (.invokevirtual 166, 3) := by decide +kernel
theorem dX3_used_5 : decode cX3_used 5 = .ok (.aload_n 0, 1) := by decide +kernel
theorem dX3_used_6 : decode cX3_used 6 = .ok (.getfield 28, 3) := by decide +kernel
theorem dX3_used_9 : decode cX3_used 9 = .ok (.iload_n 1, 1) := by decide +kernel
theorem dX3_used_10 : decode cX3_used 10 = .ok (.invokevirtual 173, 3) := by decide +kernel
theorem dX3_used_13 : decode cX3_used 13 = .ok (.ireturn, 1) := by decide +kernel
set_option maxRecDepth 20000 in
theorem ggX3_tableSize_X3_needTable : GoodIn wsX3_tableSize wsX3_needTable := goodIn_ca (goodIn_r _ [7, 8, 9, 1, 10, 11, 12, 13, 14, 15, 16, 17, 18, 19, 20, 21, 22, 23] (by decide +kernel) (by decide +kernel)) (goodIn_sub (fun _ h => List.mem_cons_of_mem _ (List.mem_append_right _ h)) (by decide +kernel))
set_option maxRecDepth 20000 in
theorem gX3_tableSize_X3_needTable : GoodIn wsX3_tableSize (wsV RX3 160 RX3 yX3_needTable wsX3_needTable) := goodIn_app (goodIn_of _ (by decide +kernel)) ggX3_tableSize_X3_needTable
theorem dX3_tableSize_0 : decode cX3_tableSize 0 = .ok (.aload_n 0, 1) := by decide +kernel
theorem dX3_tableSize_1 : decode cX3_tableSize 1 = .ok (.invokevirtual 160, 3) := by decide +kernel
theorem dX3_tableSize_4 : decode cX3_tableSize 4 = .ok (.aload_n 0, 1) := by decide +kernel
theorem dX3_tableSize_5 : decode cX3_tableSize 5 = .ok (.getfield 28, 3) := by decide +kernel
theorem dX3_tableSize_8 : decode cX3_tableSize 8 = .ok (.getfield 176, 3) := by decide +kernel
theorem dX3_tableSize_11 : decode cX3_tableSize 11 = .ok (.ireturn, 1) := by decide +kernel
set_option maxRecDepth 20000 in
theorem ggX3_owner_X3_needTable : GoodIn wsX3_owner wsX3_needTable := goodIn_ca (goodIn_r _ [10, 11, 12, 3, 13, 17, 18, 19, 20, 21, 22, 23, 24, 25, 26, 27, 28, 29] (by decide +kernel) (by decide +kernel)) (goodIn_sub (fun _ h => List.mem_cons_of_mem _ (List.mem_append_right _ h)) (by decide +kernel))
set_option maxRecDepth 20000 in
theorem gX3_owner_X3_needTable : GoodIn wsX3_owner (wsV RX3 160 RX3 yX3_needTable wsX3_needTable) := goodIn_app (goodIn_of _ (by decide +kernel)) ggX3_owner_X3_needTable
set_option maxRecDepth 20000 in
theorem ggX3_owner_X3_isBelow : GoodIn wsX3_owner wsX3_isBelow := goodIn_r _ [16] (by decide +kernel) (by decide +kernel)
set_option maxRecDepth 20000 in
theorem gX3_owner_X3_isBelow : GoodIn wsX3_owner (va_wsS RX3 47 yX3_isBelow wsX3_isBelow) := goodIn_app (goodIn_of _ (by decide +kernel)) ggX3_owner_X3_isBelow
theorem dX3_owner_0 : decode cX3_owner 0 = .ok (.aload_n 0, 1) := by decide +kernel
theorem dX3_owner_1 : decode cX3_owner 1 = .ok (.invokevirtual 160, 3) := by decide +kernel
theorem dX3_owner_4 : decode cX3_owner 4 = .ok (.iload_n 1, 1) := by decide +kernel
theorem dX3_owner_5 : decode cX3_owner 5 = .ok (.aload_n 0, 1) := by decide +kernel
theorem dX3_owner_6 : decode cX3_owner 6 = .ok (.getfield 28, 3) := by decide +kernel
theorem dX3_owner_9 : decode cX3_owner 9 = .ok (.getfield 176, 3) := by decide +kernel
theorem dX3_owner_12 : decode cX3_owner 12 = .ok (.invokestatic 47, 3) := by decide +kernel
theorem dX3_owner_15 : decode cX3_owner 15 = .ok (.ifCond .ne 13, 3) := by decide +kernel
theorem dX3_owner_18 : decode cX3_owner 18 = .ok (.new 51, 3) := by decide +kernel
theorem dX3_owner_21 : decode cX3_owner 21 = .ok (.dup, 1) := by decide +kernel
theorem dX3_owner_22 : decode cX3_owner 22 = .ok (.ldc 179, 2) := by decide +kernel
theorem dX3_owner_24 : decode cX3_owner 24 = .ok (.invokespecial 55, 3) := by decide +kernel
theorem dX3_owner_27 : decode cX3_owner 27 = .ok (.athrow, 1) := by decide +kernel
theorem dX3_owner_28 : decode cX3_owner 28 = .ok (.aload_n 0, 1) := by decide +kernel
theorem dX3_owner_29 : decode cX3_owner 29 = .ok (.getfield 28, 3) := by decide +kernel
theorem dX3_owner_32 : decode cX3_owner 32 = .ok (.getfield 181, 3) := by decide +kernel
theorem dX3_owner_35 : decode cX3_owner 35 = .ok (.iload_n 1, 1) := by decide +kernel
theorem dX3_owner_36 : decode cX3_owner 36 = .ok (.iaload, 1) := by decide +kernel
theorem dX3_owner_37 : decode cX3_owner 37 = .ok (.ireturn, 1) := by decide +kernel
set_option maxRecDepth 20000 in
theorem ggX3_density_X3_needTable : GoodIn wsX3_density wsX3_needTable := goodIn_ca (goodIn_r _ [8, 9, 10, 1, 11, 12, 13, 14, 15, 16, 17, 18, 19, 20, 21, 22, 23, 24] (by decide +kernel) (by decide +kernel)) (goodIn_sub (fun _ h => List.mem_cons_of_mem _ (List.mem_append_right _ h)) (by decide +kernel))
set_option maxRecDepth 20000 in
theorem gX3_density_X3_needTable : GoodIn wsX3_density (wsV RX3 160 RX3 yX3_needTable wsX3_needTable) := goodIn_app (goodIn_of _ (by decide +kernel)) ggX3_density_X3_needTable
theorem dX3_density_0 : decode cX3_density 0 = .ok (.aload_n 0, 1) := by decide +kernel
theorem dX3_density_1 : decode cX3_density 1 = .ok (.invokevirtual 160, 3) := by decide +kernel
theorem dX3_density_4 : decode cX3_density 4 = .ok (.aload_n 0, 1) := by decide +kernel
theorem dX3_density_5 : decode cX3_density 5 = .ok (.getfield 28, 3) := by decide +kernel
theorem dX3_density_8 : decode cX3_density 8 = .ok (.getfield 176, 3) := by decide +kernel
theorem dX3_density_11 : decode cX3_density 11 = .ok (.ifCond .gt 5, 3) := by decide +kernel
theorem dX3_density_14 : decode cX3_density 14 = .ok (.dconst 1, 1) := by decide +kernel
theorem dX3_density_15 : decode cX3_density 15 = .ok (.dreturn, 1) := by decide +kernel
theorem dX3_density_16 : decode cX3_density 16 = .ok (.aload_n 0, 1) := by decide +kernel
theorem dX3_density_17 : decode cX3_density 17 = .ok (.getfield 28, 3) := by decide +kernel
theorem dX3_density_20 : decode cX3_density 20 = .ok (.getfield 184, 3) := by decide +kernel
theorem dX3_density_23 : decode cX3_density 23 = .ok (.i2d, 1) := by decide +kernel
theorem dX3_density_24 : decode cX3_density 24 = .ok (.aload_n 0, 1) := by decide +kernel
theorem dX3_density_25 : decode cX3_density 25 = .ok (.getfield 28, 3) := by decide +kernel
theorem dX3_density_28 : decode cX3_density 28 = .ok (.getfield 176, 3) := by decide +kernel
theorem dX3_density_31 : decode cX3_density 31 = .ok (.i2d, 1) := by decide +kernel
theorem dX3_density_32 : decode cX3_density 32 = .ok (.ddiv, 1) := by decide +kernel
theorem dX3_density_33 : decode cX3_density 33 = .ok (.dreturn, 1) := by decide +kernel
set_option maxRecDepth 20000 in
theorem ggX3_digest_X3_mix : GoodIn wsX3_digest wsX3_mix := goodIn_r _ [16, 17] (by decide +kernel) (by decide +kernel)
set_option maxRecDepth 20000 in
theorem gX3_digest_X3_mix : GoodIn wsX3_digest (va_wsS RX3 189 yX3_mix wsX3_mix) := goodIn_app (goodIn_of _ (by decide +kernel)) ggX3_digest_X3_mix
set_option maxRecDepth 20000 in
theorem ggX3_digest_X3_mixExecution : GoodIn wsX3_digest wsX3_mixExecution := goodIn_r _ [21, 9, 22, 23, 24, 25, 26, 13, 14, 15, 16, 17, 27, 28, 29, 30, 31, 32, 33, 34, 41, 42, 43, 57, 58, 59, 60, 61, 62, 63, 64, 65, 66] (by decide +kernel) (by decide +kernel)
set_option maxRecDepth 20000 in
theorem gX3_digest_X3_mixExecution : GoodIn wsX3_digest (wsV RX3 202 RX3 yX3_mixExecution wsX3_mixExecution) := goodIn_app (goodIn_of _ (by decide +kernel)) ggX3_digest_X3_mixExecution
set_option maxRecDepth 20000 in
theorem ggX3_digest_X3_mixTable : GoodIn wsX3_digest wsX3_mixTable := goodIn_r _ [38, 11, 39, 40, 13, 14, 15, 16, 17, 41, 42, 43, 67, 68, 69, 70, 71, 72, 73, 74, 75, 76] (by decide +kernel) (by decide +kernel)
set_option maxRecDepth 20000 in
theorem gX3_digest_X3_mixTable : GoodIn wsX3_digest (wsV RX3 206 RX3 yX3_mixTable wsX3_mixTable) := goodIn_app (goodIn_of _ (by decide +kernel)) ggX3_digest_X3_mixTable
theorem dX3_digest_0 : decode cX3_digest 0 = .ok (.ldc2_w 187, 3) := by decide +kernel
theorem dX3_digest_3 : decode cX3_digest 3 = .ok (.lstore_n 1, 1) := by decide +kernel
theorem dX3_digest_4 : decode cX3_digest 4 = .ok (.lload_n 1, 1) := by decide +kernel
theorem dX3_digest_5 : decode cX3_digest 5 = .ok (.aload_n 0, 1) := by decide +kernel
theorem dX3_digest_6 : decode cX3_digest 6 = .ok (.getfield 12, 3) := by decide +kernel
theorem dX3_digest_9 : decode cX3_digest 9 = .ok (.getfield 32, 3) := by decide +kernel
theorem dX3_digest_12 : decode cX3_digest 12 = .ok (.i2l, 1) := by decide +kernel
theorem dX3_digest_13 : decode cX3_digest 13 = .ok (.invokestatic 189, 3) := by decide +kernel
theorem dX3_digest_16 : decode cX3_digest 16 = .ok (.lstore_n 1, 1) := by decide +kernel
theorem dX3_digest_17 : decode cX3_digest 17 = .ok (.lload_n 1, 1) := by decide +kernel
theorem dX3_digest_18 : decode cX3_digest 18 = .ok (.aload_n 0, 1) := by decide +kernel
theorem dX3_digest_19 : decode cX3_digest 19 = .ok (.getfield 12, 3) := by decide +kernel
theorem dX3_digest_22 : decode cX3_digest 22 = .ok (.getfield 69, 3) := by decide +kernel
theorem dX3_digest_25 : decode cX3_digest 25 = .ok (.i2l, 1) := by decide +kernel
theorem dX3_digest_26 : decode cX3_digest 26 = .ok (.invokestatic 189, 3) := by decide +kernel
theorem dX3_digest_29 : decode cX3_digest 29 = .ok (.lstore_n 1, 1) := by decide +kernel
theorem dX3_digest_30 : decode cX3_digest 30 = .ok (.iconst 0, 1) := by decide +kernel
theorem dX3_digest_31 : decode cX3_digest 31 = .ok (.istore_n 3, 1) := by decide +kernel
theorem dX3_digest_32 : decode cX3_digest 32 = .ok (.iload_n 3, 1) := by decide +kernel
theorem dX3_digest_33 : decode cX3_digest 33 = .ok (.aload_n 0, 1) := by decide +kernel
theorem dX3_digest_34 : decode cX3_digest 34 = .ok (.getfield 12, 3) := by decide +kernel
theorem dX3_digest_37 : decode cX3_digest 37 = .ok (.getfield 69, 3) := by decide +kernel
theorem dX3_digest_40 : decode cX3_digest 40 = .ok (.if_icmp .ge 84, 3) := by decide +kernel
theorem dX3_digest_43 : decode cX3_digest 43 = .ok (.lload_n 1, 1) := by decide +kernel
theorem dX3_digest_44 : decode cX3_digest 44 = .ok (.aload_n 0, 1) := by decide +kernel
theorem dX3_digest_45 : decode cX3_digest 45 = .ok (.getfield 12, 3) := by decide +kernel
theorem dX3_digest_48 : decode cX3_digest 48 = .ok (.getfield 193, 3) := by decide +kernel
theorem dX3_digest_51 : decode cX3_digest 51 = .ok (.iload_n 3, 1) := by decide +kernel
theorem dX3_digest_52 : decode cX3_digest 52 = .ok (.iaload, 1) := by decide +kernel
theorem dX3_digest_53 : decode cX3_digest 53 = .ok (.i2l, 1) := by decide +kernel
theorem dX3_digest_54 : decode cX3_digest 54 = .ok (.invokestatic 189, 3) := by decide +kernel
theorem dX3_digest_57 : decode cX3_digest 57 = .ok (.lstore_n 1, 1) := by decide +kernel
theorem dX3_digest_58 : decode cX3_digest 58 = .ok (.lload_n 1, 1) := by decide +kernel
theorem dX3_digest_59 : decode cX3_digest 59 = .ok (.aload_n 0, 1) := by decide +kernel
theorem dX3_digest_60 : decode cX3_digest 60 = .ok (.getfield 12, 3) := by decide +kernel
theorem dX3_digest_63 : decode cX3_digest 63 = .ok (.getfield 196, 3) := by decide +kernel
theorem dX3_digest_66 : decode cX3_digest 66 = .ok (.iload_n 3, 1) := by decide +kernel
theorem dX3_digest_67 : decode cX3_digest 67 = .ok (.iaload, 1) := by decide +kernel
theorem dX3_digest_68 : decode cX3_digest 68 = .ok (.i2l, 1) := by decide +kernel
theorem dX3_digest_69 : decode cX3_digest 69 = .ok (.invokestatic 189, 3) := by decide +kernel
theorem dX3_digest_72 : decode cX3_digest 72 = .ok (.lstore_n 1, 1) := by decide +kernel
theorem dX3_digest_73 : decode cX3_digest 73 = .ok (.lload_n 1, 1) := by decide +kernel
theorem dX3_digest_74 : decode cX3_digest 74 = .ok (.aload_n 0, 1) := by decide +kernel
theorem dX3_digest_75 : decode cX3_digest 75 = .ok (.getfield 12, 3) := by decide +kernel
theorem dX3_digest_78 : decode cX3_digest 78 = .ok (.getfield 199, 3) := by decide +kernel
theorem dX3_digest_81 : decode cX3_digest 81 = .ok (.iload_n 3, 1) := by decide +kernel
theorem dX3_digest_82 : decode cX3_digest 82 = .ok (.iaload, 1) := by decide +kernel
theorem dX3_digest_83 : decode cX3_digest 83 = .ok (.i2l, 1) := by decide +kernel
theorem dX3_digest_84 : decode cX3_digest 84 = .ok (.invokestatic 189, 3) := by decide +kernel
theorem dX3_digest_87 : decode cX3_digest 87 = .ok (.lstore_n 1, 1) := by decide +kernel
theorem dX3_digest_88 : decode cX3_digest 88 = .ok (.lload_n 1, 1) := by decide +kernel
theorem dX3_digest_89 : decode cX3_digest 89 = .ok (.aload_n 0, 1) := by decide +kernel
theorem dX3_digest_90 : decode cX3_digest 90 = .ok (.getfield 12, 3) := by decide +kernel
theorem dX3_digest_93 : decode cX3_digest 93 = .ok (.getfield 94, 3) := by decide +kernel
theorem dX3_digest_96 : decode cX3_digest 96 = .ok (.iload_n 3, 1) := by decide +kernel
theorem dX3_digest_97 : decode cX3_digest 97 = .ok (.iaload, 1) := by decide +kernel
theorem dX3_digest_98 : decode cX3_digest 98 = .ok (.i2l, 1) := by decide +kernel
theorem dX3_digest_99 : decode cX3_digest 99 = .ok (.invokestatic 189, 3) := by decide +kernel
theorem dX3_digest_102 : decode cX3_digest 102 = .ok (.lstore_n 1, 1) := by decide +kernel
theorem dX3_digest_103 : decode cX3_digest 103 = .ok (.lload_n 1, 1) := by decide +kernel
theorem dX3_digest_104 : decode cX3_digest 104 = .ok (.aload_n 0, 1) := by decide +kernel
theorem dX3_digest_105 : decode cX3_digest 105 = .ok (.getfield 21, 3) := by decide +kernel
theorem dX3_digest_108 : decode cX3_digest 108 = .ok (.getfield 82, 3) := by decide +kernel
theorem dX3_digest_111 : decode cX3_digest 111 = .ok (.iload_n 3, 1) := by decide +kernel
theorem dX3_digest_112 : decode cX3_digest 112 = .ok (.iaload, 1) := by decide +kernel
theorem dX3_digest_113 : decode cX3_digest 113 = .ok (.i2l, 1) := by decide +kernel
theorem dX3_digest_114 : decode cX3_digest 114 = .ok (.invokestatic 189, 3) := by decide +kernel
theorem dX3_digest_117 : decode cX3_digest 117 = .ok (.lstore_n 1, 1) := by decide +kernel
theorem dX3_digest_118 : decode cX3_digest 118 = .ok (.iinc 3 1, 3) := by decide +kernel
theorem dX3_digest_121 : decode cX3_digest 121 = .ok (.goto (-89), 3) := by decide +kernel
theorem dX3_digest_124 : decode cX3_digest 124 = .ok (.aload_n 0, 1) := by decide +kernel
theorem dX3_digest_125 : decode cX3_digest 125 = .ok (.lload_n 1, 1) := by decide +kernel
theorem dX3_digest_126 : decode cX3_digest 126 = .ok (.invokevirtual 202, 3) := by decide +kernel
theorem dX3_digest_129 : decode cX3_digest 129 = .ok (.lstore_n 1, 1) := by decide +kernel
theorem dX3_digest_130 : decode cX3_digest 130 = .ok (.aload_n 0, 1) := by decide +kernel
theorem dX3_digest_131 : decode cX3_digest 131 = .ok (.getfield 28, 3) := by decide +kernel
theorem dX3_digest_134 : decode cX3_digest 134 = .ok (.getfield 43, 3) := by decide +kernel
theorem dX3_digest_137 : decode cX3_digest 137 = .ok (.ifCond .eq 11, 3) := by decide +kernel
theorem dX3_digest_140 : decode cX3_digest 140 = .ok (.aload_n 0, 1) := by decide +kernel
theorem dX3_digest_141 : decode cX3_digest 141 = .ok (.lload_n 1, 1) := by decide +kernel
theorem dX3_digest_142 : decode cX3_digest 142 = .ok (.invokevirtual 206, 3) := by decide +kernel
theorem dX3_digest_145 : decode cX3_digest 145 = .ok (.goto 4, 3) := by decide +kernel
theorem dX3_digest_148 : decode cX3_digest 148 = .ok (.lload_n 1, 1) := by decide +kernel
theorem dX3_digest_149 : decode cX3_digest 149 = .ok (.lreturn, 1) := by decide +kernel
set_option maxRecDepth 20000 in
theorem ggX3_mixExecution_X3_mix : GoodIn wsX3_mixExecution wsX3_mix := goodIn_r _ [10, 11] (by decide +kernel) (by decide +kernel)
set_option maxRecDepth 20000 in
theorem gX3_mixExecution_X3_mix : GoodIn wsX3_mixExecution (va_wsS RX3 189 yX3_mix wsX3_mix) := goodIn_app (goodIn_of _ (by decide +kernel)) ggX3_mixExecution_X3_mix
set_option maxRecDepth 20000 in
theorem ggX3_mixExecution_X0_ticksLeft : GoodIn wsX3_mixExecution wsX0_ticksLeft := goodIn_r _ [16, 17, 18, 19, 23, 24, 25, 26, 27, 28, 29, 30, 31, 32] (by decide +kernel) (by decide +kernel)
set_option maxRecDepth 20000 in
theorem gX3_mixExecution_X0_ticksLeft : GoodIn wsX3_mixExecution (wsV RX3 137 RX0 yX0_ticksLeft wsX0_ticksLeft) := goodIn_app (goodIn_of _ (by decide +kernel)) ggX3_mixExecution_X0_ticksLeft
theorem dX3_mixExecution_0 : decode cX3_mixExecution 0 = .ok (.lload_n 1, 1) := by decide +kernel
theorem dX3_mixExecution_1 : decode cX3_mixExecution 1 = .ok (.aload_n 0, 1) := by decide +kernel
theorem dX3_mixExecution_2 : decode cX3_mixExecution 2 = .ok (.getfield 21, 3) := by decide +kernel
theorem dX3_mixExecution_5 : decode cX3_mixExecution 5 = .ok (.getfield 129, 3) := by decide +kernel
theorem dX3_mixExecution_8 : decode cX3_mixExecution 8 = .ok (.i2l, 1) := by decide +kernel
theorem dX3_mixExecution_9 : decode cX3_mixExecution 9 = .ok (.invokestatic 189, 3) := by decide +kernel
theorem dX3_mixExecution_12 : decode cX3_mixExecution 12 = .ok (.lstore_n 3, 1) := by decide +kernel
theorem dX3_mixExecution_13 : decode cX3_mixExecution 13 = .ok (.lload_n 3, 1) := by decide +kernel
theorem dX3_mixExecution_14 : decode cX3_mixExecution 14 = .ok (.aload_n 0, 1) := by decide +kernel
theorem dX3_mixExecution_15 : decode cX3_mixExecution 15 = .ok (.getfield 21, 3) := by decide +kernel
theorem dX3_mixExecution_18 : decode cX3_mixExecution 18 = .ok (.getfield 113, 3) := by decide +kernel
theorem dX3_mixExecution_21 : decode cX3_mixExecution 21 = .ok (.invokestatic 189, 3) := by decide +kernel
theorem dX3_mixExecution_24 : decode cX3_mixExecution 24 = .ok (.lstore_n 3, 1) := by decide +kernel
theorem dX3_mixExecution_25 : decode cX3_mixExecution 25 = .ok (.iconst 0, 1) := by decide +kernel
theorem dX3_mixExecution_26 : decode cX3_mixExecution 26 = .ok (.istore 5, 2) := by decide +kernel
theorem dX3_mixExecution_28 : decode cX3_mixExecution 28 = .ok (.iload 5, 2) := by decide +kernel
theorem dX3_mixExecution_30 : decode cX3_mixExecution 30 = .ok (.iconst 3, 1) := by decide +kernel
theorem dX3_mixExecution_31 : decode cX3_mixExecution 31 = .ok (.if_icmp .ge 25, 3) := by decide +kernel
theorem dX3_mixExecution_34 : decode cX3_mixExecution 34 = .ok (.lload_n 3, 1) := by decide +kernel
theorem dX3_mixExecution_35 : decode cX3_mixExecution 35 = .ok (.aload_n 0, 1) := by decide +kernel
theorem dX3_mixExecution_36 : decode cX3_mixExecution 36 = .ok (.getfield 21, 3) := by decide +kernel
theorem dX3_mixExecution_39 : decode cX3_mixExecution 39 = .ok (.getfield 132, 3) := by decide +kernel
theorem dX3_mixExecution_42 : decode cX3_mixExecution 42 = .ok (.iload 5, 2) := by decide +kernel
theorem dX3_mixExecution_44 : decode cX3_mixExecution 44 = .ok (.iaload, 1) := by decide +kernel
theorem dX3_mixExecution_45 : decode cX3_mixExecution 45 = .ok (.i2l, 1) := by decide +kernel
theorem dX3_mixExecution_46 : decode cX3_mixExecution 46 = .ok (.invokestatic 189, 3) := by decide +kernel
theorem dX3_mixExecution_49 : decode cX3_mixExecution 49 = .ok (.lstore_n 3, 1) := by decide +kernel
theorem dX3_mixExecution_50 : decode cX3_mixExecution 50 = .ok (.iinc 5 1, 3) := by decide +kernel
theorem dX3_mixExecution_53 : decode cX3_mixExecution 53 = .ok (.goto (-25), 3) := by decide +kernel
theorem dX3_mixExecution_56 : decode cX3_mixExecution 56 = .ok (.iconst 0, 1) := by decide +kernel
theorem dX3_mixExecution_57 : decode cX3_mixExecution 57 = .ok (.istore 5, 2) := by decide +kernel
theorem dX3_mixExecution_59 : decode cX3_mixExecution 59 = .ok (.iload 5, 2) := by decide +kernel
theorem dX3_mixExecution_61 : decode cX3_mixExecution 61 = .ok (.iconst 4, 1) := by decide +kernel
theorem dX3_mixExecution_62 : decode cX3_mixExecution 62 = .ok (.if_icmp .ge 24, 3) := by decide +kernel
theorem dX3_mixExecution_65 : decode cX3_mixExecution 65 = .ok (.lload_n 3, 1) := by decide +kernel
theorem dX3_mixExecution_66 : decode cX3_mixExecution 66 = .ok (.aload_n 0, 1) := by decide +kernel
theorem dX3_mixExecution_67 : decode cX3_mixExecution 67 = .ok (.getfield 21, 3) := by decide +kernel
theorem dX3_mixExecution_70 : decode cX3_mixExecution 70 = .ok (.iload 5, 2) := by decide +kernel
theorem dX3_mixExecution_72 : decode cX3_mixExecution 72 = .ok (.invokevirtual 137, 3) := by decide +kernel
theorem dX3_mixExecution_75 : decode cX3_mixExecution 75 = .ok (.i2l, 1) := by decide +kernel
theorem dX3_mixExecution_76 : decode cX3_mixExecution 76 = .ok (.invokestatic 189, 3) := by decide +kernel
theorem dX3_mixExecution_79 : decode cX3_mixExecution 79 = .ok (.lstore_n 3, 1) := by decide +kernel
theorem dX3_mixExecution_80 : decode cX3_mixExecution 80 = .ok (.iinc 5 1, 3) := by decide +kernel
theorem dX3_mixExecution_83 : decode cX3_mixExecution 83 = .ok (.goto (-24), 3) := by decide +kernel
theorem dX3_mixExecution_86 : decode cX3_mixExecution 86 = .ok (.lload_n 3, 1) := by decide +kernel
theorem dX3_mixExecution_87 : decode cX3_mixExecution 87 = .ok (.aload_n 0, 1) := by decide +kernel
theorem dX3_mixExecution_88 : decode cX3_mixExecution 88 = .ok (.getfield 21, 3) := by decide +kernel
theorem dX3_mixExecution_91 : decode cX3_mixExecution 91 = .ok (.getfield 140, 3) := by decide +kernel
theorem dX3_mixExecution_94 : decode cX3_mixExecution 94 = .ok (.i2l, 1) := by decide +kernel
theorem dX3_mixExecution_95 : decode cX3_mixExecution 95 = .ok (.invokestatic 189, 3) := by decide +kernel
theorem dX3_mixExecution_98 : decode cX3_mixExecution 98 = .ok (.lstore_n 3, 1) := by decide +kernel
theorem dX3_mixExecution_99 : decode cX3_mixExecution 99 = .ok (.lload_n 3, 1) := by decide +kernel
theorem dX3_mixExecution_100 : decode cX3_mixExecution 100 = .ok (.aload_n 0, 1) := by decide +kernel
theorem dX3_mixExecution_101 : decode cX3_mixExecution 101 = .ok (.getfield 21, 3) := by decide +kernel
theorem dX3_mixExecution_104 : decode cX3_mixExecution 104 = .ok (.getfield 151, 3) := by decide +kernel
theorem dX3_mixExecution_107 : decode cX3_mixExecution 107 = .ok (.i2l, 1) := by decide +kernel
theorem dX3_mixExecution_108 : decode cX3_mixExecution 108 = .ok (.invokestatic 189, 3) := by decide +kernel
theorem dX3_mixExecution_111 : decode cX3_mixExecution 111 = .ok (.lreturn, 1) := by decide +kernel
set_option maxRecDepth 20000 in
theorem ggX3_mixTable_X3_mix : GoodIn wsX3_mixTable wsX3_mix := goodIn_r _ [7, 8] (by decide +kernel) (by decide +kernel)
set_option maxRecDepth 20000 in
theorem gX3_mixTable_X3_mix : GoodIn wsX3_mixTable (va_wsS RX3 189 yX3_mix wsX3_mix) := goodIn_app (goodIn_of _ (by decide +kernel)) ggX3_mixTable_X3_mix
theorem dX3_mixTable_0 : decode cX3_mixTable 0 = .ok (.lload_n 1, 1) := by decide +kernel
theorem dX3_mixTable_1 : decode cX3_mixTable 1 = .ok (.aload_n 0, 1) := by decide +kernel
theorem dX3_mixTable_2 : decode cX3_mixTable 2 = .ok (.getfield 28, 3) := by decide +kernel
theorem dX3_mixTable_5 : decode cX3_mixTable 5 = .ok (.getfield 157, 3) := by decide +kernel
theorem dX3_mixTable_8 : decode cX3_mixTable 8 = .ok (.i2l, 1) := by decide +kernel
theorem dX3_mixTable_9 : decode cX3_mixTable 9 = .ok (.invokestatic 189, 3) := by decide +kernel
theorem dX3_mixTable_12 : decode cX3_mixTable 12 = .ok (.lstore_n 3, 1) := by decide +kernel
theorem dX3_mixTable_13 : decode cX3_mixTable 13 = .ok (.iconst 0, 1) := by decide +kernel
theorem dX3_mixTable_14 : decode cX3_mixTable 14 = .ok (.istore 5, 2) := by decide +kernel
theorem dX3_mixTable_16 : decode cX3_mixTable 16 = .ok (.iload 5, 2) := by decide +kernel
theorem dX3_mixTable_18 : decode cX3_mixTable 18 = .ok (.aload_n 0, 1) := by decide +kernel
theorem dX3_mixTable_19 : decode cX3_mixTable 19 = .ok (.getfield 28, 3) := by decide +kernel
theorem dX3_mixTable_22 : decode cX3_mixTable 22 = .ok (.getfield 157, 3) := by decide +kernel
theorem dX3_mixTable_25 : decode cX3_mixTable 25 = .ok (.if_icmp .ge 25, 3) := by decide +kernel
theorem dX3_mixTable_28 : decode cX3_mixTable 28 = .ok (.lload_n 3, 1) := by decide +kernel
theorem dX3_mixTable_29 : decode cX3_mixTable 29 = .ok (.aload_n 0, 1) := by decide +kernel
theorem dX3_mixTable_30 : decode cX3_mixTable 30 = .ok (.getfield 28, 3) := by decide +kernel
theorem dX3_mixTable_33 : decode cX3_mixTable 33 = .ok (.getfield 170, 3) := by decide +kernel
theorem dX3_mixTable_36 : decode cX3_mixTable 36 = .ok (.iload 5, 2) := by decide +kernel
theorem dX3_mixTable_38 : decode cX3_mixTable 38 = .ok (.iaload, 1) := by decide +kernel
theorem dX3_mixTable_39 : decode cX3_mixTable 39 = .ok (.i2l, 1) := by decide +kernel
theorem dX3_mixTable_40 : decode cX3_mixTable 40 = .ok (.invokestatic 189, 3) := by decide +kernel
theorem dX3_mixTable_43 : decode cX3_mixTable 43 = .ok (.lstore_n 3, 1) := by decide +kernel
theorem dX3_mixTable_44 : decode cX3_mixTable 44 = .ok (.iinc 5 1, 3) := by decide +kernel
theorem dX3_mixTable_47 : decode cX3_mixTable 47 = .ok (.goto (-31), 3) := by decide +kernel
theorem dX3_mixTable_50 : decode cX3_mixTable 50 = .ok (.lload_n 3, 1) := by decide +kernel
theorem dX3_mixTable_51 : decode cX3_mixTable 51 = .ok (.lreturn, 1) := by decide +kernel
theorem dX3_mix_0 : decode cX3_mix 0 = .ok (.lload_n 0, 1) := by decide +kernel
theorem dX3_mix_1 : decode cX3_mix 1 = .ok (.ldc2_w 209, 3) := by decide +kernel
theorem dX3_mix_4 : decode cX3_mix 4 = .ok (.lmul, 1) := by decide +kernel
theorem dX3_mix_5 : decode cX3_mix 5 = .ok (.lload_n 2, 1) := by decide +kernel
theorem dX3_mix_6 : decode cX3_mix 6 = .ok (.ladd, 1) := by decide +kernel
theorem dX3_mix_7 : decode cX3_mix 7 = .ok (.lreturn, 1) := by decide +kernel
theorem dX3_needTable_0 : decode cX3_needTable 0 = .ok (.aload_n 0, 1) := by decide +kernel
theorem dX3_needTable_1 : decode cX3_needTable 1 = .ok (.getfield 28, 3) := by decide +kernel
theorem dX3_needTable_4 : decode cX3_needTable 4 = .ok (.getfield 43, 3) := by decide +kernel
theorem dX3_needTable_7 : decode cX3_needTable 7 = .ok (.ifCond .ne 13, 3) := by decide +kernel
theorem dX3_needTable_10 : decode cX3_needTable 10 = .ok (.new 36, 3) := by decide +kernel
theorem dX3_needTable_13 : decode cX3_needTable 13 = .ok (.dup, 1) := by decide +kernel
theorem dX3_needTable_14 : decode cX3_needTable 14 = .ok (.ldc 211, 2) := by decide +kernel
theorem dX3_needTable_16 : decode cX3_needTable 16 = .ok (.invokespecial 40, 3) := by decide +kernel
theorem dX3_needTable_19 : decode cX3_needTable 19 = .ok (.athrow, 1) := by decide +kernel
theorem dX3_needTable_20 : decode cX3_needTable 20 = .ok (.return_, 1) := by decide +kernel
set_option maxRecDepth 20000 in
theorem ggX3_needClass_X3_needTable : GoodIn wsX3_needClass wsX3_needTable := goodIn_ca (goodIn_r _ [9, 10, 11, 3, 12, 16, 17, 18, 19, 20, 21, 22, 23, 24, 25, 26, 27, 28] (by decide +kernel) (by decide +kernel)) (goodIn_sub (fun _ h => List.mem_cons_of_mem _ (List.mem_append_right _ h)) (by decide +kernel))
set_option maxRecDepth 20000 in
theorem gX3_needClass_X3_needTable : GoodIn wsX3_needClass (wsV RX3 160 RX3 yX3_needTable wsX3_needTable) := goodIn_app (goodIn_of _ (by decide +kernel)) ggX3_needClass_X3_needTable
set_option maxRecDepth 20000 in
theorem ggX3_needClass_X3_isBelow : GoodIn wsX3_needClass wsX3_isBelow := goodIn_r _ [15] (by decide +kernel) (by decide +kernel)
set_option maxRecDepth 20000 in
theorem gX3_needClass_X3_isBelow : GoodIn wsX3_needClass (va_wsS RX3 47 yX3_isBelow wsX3_isBelow) := goodIn_app (goodIn_of _ (by decide +kernel)) ggX3_needClass_X3_isBelow
theorem dX3_needClass_0 : decode cX3_needClass 0 = .ok (.aload_n 0, 1) := by decide +kernel
theorem dX3_needClass_1 : decode cX3_needClass 1 = .ok (.invokevirtual 160, 3) := by decide +kernel
theorem dX3_needClass_4 : decode cX3_needClass 4 = .ok (.iload_n 1, 1) := by decide +kernel
theorem dX3_needClass_5 : decode cX3_needClass 5 = .ok (.aload_n 0, 1) := by decide +kernel
theorem dX3_needClass_6 : decode cX3_needClass 6 = .ok (.getfield 28, 3) := by decide +kernel
theorem dX3_needClass_9 : decode cX3_needClass 9 = .ok (.getfield 157, 3) := by decide +kernel
theorem dX3_needClass_12 : decode cX3_needClass 12 = .ok (.invokestatic 47, 3) := by decide +kernel
theorem dX3_needClass_15 : decode cX3_needClass 15 = .ok (.ifCond .ne 13, 3) := by decide +kernel
theorem dX3_needClass_18 : decode cX3_needClass 18 = .ok (.new 51, 3) := by decide +kernel
theorem dX3_needClass_21 : decode cX3_needClass 21 = .ok (.dup, 1) := by decide +kernel
theorem dX3_needClass_22 : decode cX3_needClass 22 = .ok (.ldc 213, 2) := by decide +kernel
theorem dX3_needClass_24 : decode cX3_needClass 24 = .ok (.invokespecial 55, 3) := by decide +kernel
theorem dX3_needClass_27 : decode cX3_needClass 27 = .ok (.athrow, 1) := by decide +kernel
theorem dX3_needClass_28 : decode cX3_needClass 28 = .ok (.return_, 1) := by decide +kernel
theorem dX3_isBelow_0 : decode cX3_isBelow 0 = .ok (.iload_n 0, 1) := by decide +kernel
theorem dX3_isBelow_1 : decode cX3_isBelow 1 = .ok (.ifCond .lt 12, 3) := by decide +kernel
theorem dX3_isBelow_4 : decode cX3_isBelow 4 = .ok (.iload_n 0, 1) := by decide +kernel
theorem dX3_isBelow_5 : decode cX3_isBelow 5 = .ok (.iload_n 1, 1) := by decide +kernel
theorem dX3_isBelow_6 : decode cX3_isBelow 6 = .ok (.if_icmp .ge 7, 3) := by decide +kernel
theorem dX3_isBelow_9 : decode cX3_isBelow 9 = .ok (.iconst 1, 1) := by decide +kernel
theorem dX3_isBelow_10 : decode cX3_isBelow 10 = .ok (.goto 4, 3) := by decide +kernel
theorem dX3_isBelow_13 : decode cX3_isBelow 13 = .ok (.iconst 0, 1) := by decide +kernel
theorem dX3_isBelow_14 : decode cX3_isBelow 14 = .ok (.ireturn, 1) := by decide +kernel
theorem dX3_isNumber_0 : decode cX3_isNumber 0 = .ok (.iload_n 0, 1) := by decide +kernel
theorem dX3_isNumber_1 : decode cX3_isNumber 1 = .ok (.sipush (-1000), 3) := by decide +kernel
theorem dX3_isNumber_4 : decode cX3_isNumber 4 = .ok (.if_icmp .lt 14, 3) := by decide +kernel
theorem dX3_isNumber_7 : decode cX3_isNumber 7 = .ok (.iload_n 0, 1) := by decide +kernel
theorem dX3_isNumber_8 : decode cX3_isNumber 8 = .ok (.sipush 1000, 3) := by decide +kernel
theorem dX3_isNumber_11 : decode cX3_isNumber 11 = .ok (.if_icmp .gt 7, 3) := by decide +kernel
theorem dX3_isNumber_14 : decode cX3_isNumber 14 = .ok (.iconst 1, 1) := by decide +kernel
theorem dX3_isNumber_15 : decode cX3_isNumber 15 = .ok (.goto 4, 3) := by decide +kernel
theorem dX3_isNumber_18 : decode cX3_isNumber 18 = .ok (.iconst 0, 1) := by decide +kernel
theorem dX3_isNumber_19 : decode cX3_isNumber 19 = .ok (.ireturn, 1) := by decide +kernel
set_option maxRecDepth 20000 in
theorem ggX3_isAction_X3_isBelow : GoodIn wsX3_isAction wsX3_isBelow := goodIn_r _ [4] (by decide +kernel) (by decide +kernel)
set_option maxRecDepth 20000 in
theorem gX3_isAction_X3_isBelow : GoodIn wsX3_isAction (va_wsS RX3 47 yX3_isBelow wsX3_isBelow) := goodIn_app (goodIn_of _ (by decide +kernel)) ggX3_isAction_X3_isBelow
set_option maxRecDepth 20000 in
theorem ggX3_isAction_X3_isNumber : GoodIn wsX3_isAction wsX3_isNumber := goodIn_r _ [7] (by decide +kernel) (by decide +kernel)
set_option maxRecDepth 20000 in
theorem gX3_isAction_X3_isNumber : GoodIn wsX3_isAction (va_wsS RX3 60 yX3_isNumber wsX3_isNumber) := goodIn_app (goodIn_of _ (by decide +kernel)) ggX3_isAction_X3_isNumber
theorem dX3_isAction_0 : decode cX3_isAction 0 = .ok (.iload_n 0, 1) := by decide +kernel
theorem dX3_isAction_1 : decode cX3_isAction 1 = .ok (.tableswitch 104 0 4 #[35, 35, 56, 82, 88], 35) := by decide +kernel
theorem dX3_isAction_36 : decode cX3_isAction 36 = .ok (.iload_n 1, 1) := by decide +kernel
theorem dX3_isAction_37 : decode cX3_isAction 37 = .ok (.iconst 3, 1) := by decide +kernel
theorem dX3_isAction_38 : decode cX3_isAction 38 = .ok (.invokestatic 47, 3) := by decide +kernel
theorem dX3_isAction_41 : decode cX3_isAction 41 = .ok (.ifCond .eq 14, 3) := by decide +kernel
theorem dX3_isAction_44 : decode cX3_isAction 44 = .ok (.iload_n 2, 1) := by decide +kernel
theorem dX3_isAction_45 : decode cX3_isAction 45 = .ok (.invokestatic 60, 3) := by decide +kernel
theorem dX3_isAction_48 : decode cX3_isAction 48 = .ok (.ifCond .eq 7, 3) := by decide +kernel
theorem dX3_isAction_51 : decode cX3_isAction 51 = .ok (.iconst 1, 1) := by decide +kernel
theorem dX3_isAction_52 : decode cX3_isAction 52 = .ok (.goto 4, 3) := by decide +kernel
theorem dX3_isAction_55 : decode cX3_isAction 55 = .ok (.iconst 0, 1) := by decide +kernel
theorem dX3_isAction_56 : decode cX3_isAction 56 = .ok (.ireturn, 1) := by decide +kernel
theorem dX3_isAction_57 : decode cX3_isAction 57 = .ok (.iload_n 1, 1) := by decide +kernel
theorem dX3_isAction_58 : decode cX3_isAction 58 = .ok (.iconst 4, 1) := by decide +kernel
theorem dX3_isAction_59 : decode cX3_isAction 59 = .ok (.invokestatic 47, 3) := by decide +kernel
theorem dX3_isAction_62 : decode cX3_isAction 62 = .ok (.ifCond .eq 19, 3) := by decide +kernel
theorem dX3_isAction_65 : decode cX3_isAction 65 = .ok (.iload_n 2, 1) := by decide +kernel
theorem dX3_isAction_66 : decode cX3_isAction 66 = .ok (.iconst 1, 1) := by decide +kernel
theorem dX3_isAction_67 : decode cX3_isAction 67 = .ok (.if_icmp .lt 14, 3) := by decide +kernel
theorem dX3_isAction_70 : decode cX3_isAction 70 = .ok (.iload_n 2, 1) := by decide +kernel
theorem dX3_isAction_71 : decode cX3_isAction 71 = .ok (.sipush 1000, 3) := by decide +kernel
theorem dX3_isAction_74 : decode cX3_isAction 74 = .ok (.if_icmp .gt 7, 3) := by decide +kernel
theorem dX3_isAction_77 : decode cX3_isAction 77 = .ok (.iconst 1, 1) := by decide +kernel
theorem dX3_isAction_78 : decode cX3_isAction 78 = .ok (.goto 4, 3) := by decide +kernel
theorem dX3_isAction_81 : decode cX3_isAction 81 = .ok (.iconst 0, 1) := by decide +kernel
theorem dX3_isAction_82 : decode cX3_isAction 82 = .ok (.ireturn, 1) := by decide +kernel
theorem dX3_isAction_83 : decode cX3_isAction 83 = .ok (.iload_n 1, 1) := by decide +kernel
theorem dX3_isAction_84 : decode cX3_isAction 84 = .ok (.iconst 4, 1) := by decide +kernel
theorem dX3_isAction_85 : decode cX3_isAction 85 = .ok (.invokestatic 47, 3) := by decide +kernel
theorem dX3_isAction_88 : decode cX3_isAction 88 = .ok (.ireturn, 1) := by decide +kernel
theorem dX3_isAction_89 : decode cX3_isAction 89 = .ok (.iload_n 1, 1) := by decide +kernel
theorem dX3_isAction_90 : decode cX3_isAction 90 = .ok (.ifCond .lt 13, 3) := by decide +kernel
theorem dX3_isAction_93 : decode cX3_isAction 93 = .ok (.iload_n 1, 1) := by decide +kernel
theorem dX3_isAction_94 : decode cX3_isAction 94 = .ok (.bipush 99, 2) := by decide +kernel
theorem dX3_isAction_96 : decode cX3_isAction 96 = .ok (.if_icmp .gt 7, 3) := by decide +kernel
theorem dX3_isAction_99 : decode cX3_isAction 99 = .ok (.iconst 1, 1) := by decide +kernel
theorem dX3_isAction_100 : decode cX3_isAction 100 = .ok (.goto 4, 3) := by decide +kernel
theorem dX3_isAction_103 : decode cX3_isAction 103 = .ok (.iconst 0, 1) := by decide +kernel
theorem dX3_isAction_104 : decode cX3_isAction 104 = .ok (.ireturn, 1) := by decide +kernel
theorem dX3_isAction_105 : decode cX3_isAction 105 = .ok (.iconst 0, 1) := by decide +kernel
theorem dX3_isAction_106 : decode cX3_isAction 106 = .ok (.ireturn, 1) := by decide +kernel
theorem dX4_init_0 : decode cX4_init 0 = .ok (.aload_n 0, 1) := by decide +kernel
theorem dX4_init_1 : decode cX4_init 1 = .ok (.invokespecial 1, 3) := by decide +kernel
theorem dX4_init_4 : decode cX4_init 4 = .ok (.aload_n 0, 1) := by decide +kernel
theorem dX4_init_5 : decode cX4_init 5 = .ok (.iconst 1, 1) := by decide +kernel
theorem dX4_init_6 : decode cX4_init 6 = .ok (.putfield 7, 3) := by decide +kernel
theorem dX4_init_9 : decode cX4_init 9 = .ok (.aload_n 0, 1) := by decide +kernel
theorem dX4_init_10 : decode cX4_init 10 = .ok (.iconst 4, 1) := by decide +kernel
theorem dX4_init_11 : decode cX4_init 11 = .ok (.newarray .int, 2) := by decide +kernel
theorem dX4_init_13 : decode cX4_init 13 = .ok (.dup, 1) := by decide +kernel
theorem dX4_init_14 : decode cX4_init 14 = .ok (.iconst 0, 1) := by decide +kernel
theorem dX4_init_15 : decode cX4_init 15 = .ok (.iconst 0, 1) := by decide +kernel
theorem dX4_init_16 : decode cX4_init 16 = .ok (.iastore, 1) := by decide +kernel
theorem dX4_init_17 : decode cX4_init 17 = .ok (.dup, 1) := by decide +kernel
theorem dX4_init_18 : decode cX4_init 18 = .ok (.iconst 1, 1) := by decide +kernel
theorem dX4_init_19 : decode cX4_init 19 = .ok (.iconst 1, 1) := by decide +kernel
theorem dX4_init_20 : decode cX4_init 20 = .ok (.iastore, 1) := by decide +kernel
theorem dX4_init_21 : decode cX4_init 21 = .ok (.dup, 1) := by decide +kernel
theorem dX4_init_22 : decode cX4_init 22 = .ok (.iconst 2, 1) := by decide +kernel
theorem dX4_init_23 : decode cX4_init 23 = .ok (.iconst 2, 1) := by decide +kernel
theorem dX4_init_24 : decode cX4_init 24 = .ok (.iastore, 1) := by decide +kernel
theorem dX4_init_25 : decode cX4_init 25 = .ok (.dup, 1) := by decide +kernel
theorem dX4_init_26 : decode cX4_init 26 = .ok (.iconst 3, 1) := by decide +kernel
theorem dX4_init_27 : decode cX4_init 27 = .ok (.iconst 3, 1) := by decide +kernel
theorem dX4_init_28 : decode cX4_init 28 = .ok (.iastore, 1) := by decide +kernel
theorem dX4_init_29 : decode cX4_init 29 = .ok (.putfield 13, 3) := by decide +kernel
theorem dX4_init_32 : decode cX4_init 32 = .ok (.aload_n 0, 1) := by decide +kernel
theorem dX4_init_33 : decode cX4_init 33 = .ok (.bipush 40, 2) := by decide +kernel
theorem dX4_init_35 : decode cX4_init 35 = .ok (.newarray .int, 2) := by decide +kernel
theorem dX4_init_37 : decode cX4_init 37 = .ok (.putfield 17, 3) := by decide +kernel
theorem dX4_init_40 : decode cX4_init 40 = .ok (.aload_n 0, 1) := by decide +kernel
theorem dX4_init_41 : decode cX4_init 41 = .ok (.bipush 40, 2) := by decide +kernel
theorem dX4_init_43 : decode cX4_init 43 = .ok (.newarray .int, 2) := by decide +kernel
theorem dX4_init_45 : decode cX4_init 45 = .ok (.putfield 20, 3) := by decide +kernel
theorem dX4_init_48 : decode cX4_init 48 = .ok (.aload_n 0, 1) := by decide +kernel
theorem dX4_init_49 : decode cX4_init 49 = .ok (.bipush 40, 2) := by decide +kernel
theorem dX4_init_51 : decode cX4_init 51 = .ok (.newarray .int, 2) := by decide +kernel
theorem dX4_init_53 : decode cX4_init 53 = .ok (.putfield 23, 3) := by decide +kernel
theorem dX4_init_56 : decode cX4_init 56 = .ok (.aload_n 0, 1) := by decide +kernel
theorem dX4_init_57 : decode cX4_init 57 = .ok (.bipush 40, 2) := by decide +kernel
theorem dX4_init_59 : decode cX4_init 59 = .ok (.newarray .int, 2) := by decide +kernel
theorem dX4_init_61 : decode cX4_init 61 = .ok (.putfield 26, 3) := by decide +kernel
theorem dX4_init_64 : decode cX4_init 64 = .ok (.aload_n 0, 1) := by decide +kernel
theorem dX4_init_65 : decode cX4_init 65 = .ok (.bipush 40, 2) := by decide +kernel
theorem dX4_init_67 : decode cX4_init 67 = .ok (.newarray .int, 2) := by decide +kernel
theorem dX4_init_69 : decode cX4_init 69 = .ok (.putfield 29, 3) := by decide +kernel
theorem dX4_init_72 : decode cX4_init 72 = .ok (.aload_n 0, 1) := by decide +kernel
theorem dX4_init_73 : decode cX4_init 73 = .ok (.bipush 40, 2) := by decide +kernel
theorem dX4_init_75 : decode cX4_init 75 = .ok (.newarray .int, 2) := by decide +kernel
theorem dX4_init_77 : decode cX4_init 77 = .ok (.putfield 32, 3) := by decide +kernel
theorem dX4_init_80 : decode cX4_init 80 = .ok (.aload_n 0, 1) := by decide +kernel
theorem dX4_init_81 : decode cX4_init 81 = .ok (.bipush 40, 2) := by decide +kernel
theorem dX4_init_83 : decode cX4_init 83 = .ok (.newarray .int, 2) := by decide +kernel
theorem dX4_init_85 : decode cX4_init 85 = .ok (.putfield 35, 3) := by decide +kernel
theorem dX4_init_88 : decode cX4_init 88 = .ok (.aload_n 0, 1) := by decide +kernel
theorem dX4_init_89 : decode cX4_init 89 = .ok (.sipush 360, 3) := by decide +kernel
theorem dX4_init_92 : decode cX4_init 92 = .ok (.newarray .int, 2) := by decide +kernel
theorem dX4_init_94 : decode cX4_init 94 = .ok (.putfield 38, 3) := by decide +kernel
theorem dX4_init_97 : decode cX4_init 97 = .ok (.aload_n 0, 1) := by decide +kernel
theorem dX4_init_98 : decode cX4_init 98 = .ok (.bipush 40, 2) := by decide +kernel
theorem dX4_init_100 : decode cX4_init 100 = .ok (.newarray .int, 2) := by decide +kernel
theorem dX4_init_102 : decode cX4_init 102 = .ok (.putfield 41, 3) := by decide +kernel
theorem dX4_init_105 : decode cX4_init 105 = .ok (.aload_n 0, 1) := by decide +kernel
theorem dX4_init_106 : decode cX4_init 106 = .ok (.iconst 3, 1) := by decide +kernel
theorem dX4_init_107 : decode cX4_init 107 = .ok (.newarray .int, 2) := by decide +kernel
theorem dX4_init_109 : decode cX4_init 109 = .ok (.putfield 44, 3) := by decide +kernel
theorem dX4_init_112 : decode cX4_init 112 = .ok (.aload_n 0, 1) := by decide +kernel
theorem dX4_init_113 : decode cX4_init 113 = .ok (.iconst 4, 1) := by decide +kernel
theorem dX4_init_114 : decode cX4_init 114 = .ok (.newarray .boolean, 2) := by decide +kernel
theorem dX4_init_116 : decode cX4_init 116 = .ok (.putfield 47, 3) := by decide +kernel
theorem dX4_init_119 : decode cX4_init 119 = .ok (.aload_n 0, 1) := by decide +kernel
theorem dX4_init_120 : decode cX4_init 120 = .ok (.iconst 4, 1) := by decide +kernel
theorem dX4_init_121 : decode cX4_init 121 = .ok (.newarray .long, 2) := by decide +kernel
theorem dX4_init_123 : decode cX4_init 123 = .ok (.putfield 51, 3) := by decide +kernel
theorem dX4_init_126 : decode cX4_init 126 = .ok (.aload_n 0, 1) := by decide +kernel
theorem dX4_init_127 : decode cX4_init 127 = .ok (.bipush 60, 2) := by decide +kernel
theorem dX4_init_129 : decode cX4_init 129 = .ok (.newarray .int, 2) := by decide +kernel
theorem dX4_init_131 : decode cX4_init 131 = .ok (.putfield 55, 3) := by decide +kernel
theorem dX4_init_134 : decode cX4_init 134 = .ok (.aload_n 0, 1) := by decide +kernel
theorem dX4_init_135 : decode cX4_init 135 = .ok (.bipush 12, 2) := by decide +kernel
theorem dX4_init_137 : decode cX4_init 137 = .ok (.newarray .int, 2) := by decide +kernel
theorem dX4_init_139 : decode cX4_init 139 = .ok (.putfield 58, 3) := by decide +kernel
theorem dX4_init_142 : decode cX4_init 142 = .ok (.aload_n 0, 1) := by decide +kernel
theorem dX4_init_143 : decode cX4_init 143 = .ok (.bipush 12, 2) := by decide +kernel
theorem dX4_init_145 : decode cX4_init 145 = .ok (.newarray .int, 2) := by decide +kernel
theorem dX4_init_147 : decode cX4_init 147 = .ok (.putfield 61, 3) := by decide +kernel
theorem dX4_init_150 : decode cX4_init 150 = .ok (.aload_n 0, 1) := by decide +kernel
theorem dX4_init_151 : decode cX4_init 151 = .ok (.bipush 12, 2) := by decide +kernel
theorem dX4_init_153 : decode cX4_init 153 = .ok (.newarray .int, 2) := by decide +kernel
theorem dX4_init_155 : decode cX4_init 155 = .ok (.putfield 64, 3) := by decide +kernel
theorem dX4_init_158 : decode cX4_init 158 = .ok (.aload_n 0, 1) := by decide +kernel
theorem dX4_init_159 : decode cX4_init 159 = .ok (.bipush 120, 2) := by decide +kernel
theorem dX4_init_161 : decode cX4_init 161 = .ok (.newarray .int, 2) := by decide +kernel
theorem dX4_init_163 : decode cX4_init 163 = .ok (.putfield 67, 3) := by decide +kernel
theorem dX4_init_166 : decode cX4_init 166 = .ok (.aload_n 0, 1) := by decide +kernel
theorem dX4_init_167 : decode cX4_init 167 = .ok (.bipush 12, 2) := by decide +kernel
theorem dX4_init_169 : decode cX4_init 169 = .ok (.newarray .boolean, 2) := by decide +kernel
theorem dX4_init_171 : decode cX4_init 171 = .ok (.putfield 70, 3) := by decide +kernel
theorem dX4_init_174 : decode cX4_init 174 = .ok (.aload_n 0, 1) := by decide +kernel
theorem dX4_init_175 : decode cX4_init 175 = .ok (.sipush 144, 3) := by decide +kernel
theorem dX4_init_178 : decode cX4_init 178 = .ok (.newarray .boolean, 2) := by decide +kernel
theorem dX4_init_180 : decode cX4_init 180 = .ok (.putfield 73, 3) := by decide +kernel
theorem dX4_init_183 : decode cX4_init 183 = .ok (.return_, 1) := by decide +kernel
theorem dX4_thrown_0 : decode cX4_thrown 0 = .ok (.aload_n 0, 1) := by decide +kernel
theorem dX4_thrown_1 : decode cX4_thrown 1 = .ok (.getfield 76, 3) := by decide +kernel
theorem dX4_thrown_4 : decode cX4_thrown 4 = .ok (.ireturn, 1) := by decide +kernel
theorem dX4_fail_0 : decode cX4_fail 0 = .ok (.aload_n 0, 1) := by decide +kernel
theorem dX4_fail_1 : decode cX4_fail 1 = .ok (.iload_n 1, 1) := by decide +kernel
theorem dX4_fail_2 : decode cX4_fail 2 = .ok (.putfield 76, 3) := by decide +kernel
theorem dX4_fail_5 : decode cX4_fail 5 = .ok (.iconst 0, 1) := by decide +kernel
theorem dX4_fail_6 : decode cX4_fail 6 = .ok (.ireturn, 1) := by decide +kernel
theorem dX4_isIn_0 : decode cX4_isIn 0 = .ok (.iload_n 0, 1) := by decide +kernel
theorem dX4_isIn_1 : decode cX4_isIn 1 = .ok (.iload_n 1, 1) := by decide +kernel
theorem dX4_isIn_2 : decode cX4_isIn 2 = .ok (.if_icmp .lt 12, 3) := by decide +kernel
theorem dX4_isIn_5 : decode cX4_isIn 5 = .ok (.iload_n 0, 1) := by decide +kernel
theorem dX4_isIn_6 : decode cX4_isIn 6 = .ok (.iload_n 2, 1) := by decide +kernel
theorem dX4_isIn_7 : decode cX4_isIn 7 = .ok (.if_icmp .gt 7, 3) := by decide +kernel
theorem dX4_isIn_10 : decode cX4_isIn 10 = .ok (.iconst 1, 1) := by decide +kernel
theorem dX4_isIn_11 : decode cX4_isIn 11 = .ok (.goto 4, 3) := by decide +kernel
theorem dX4_isIn_14 : decode cX4_isIn 14 = .ok (.iconst 0, 1) := by decide +kernel
theorem dX4_isIn_15 : decode cX4_isIn 15 = .ok (.ireturn, 1) := by decide +kernel
set_option maxRecDepth 20000 in
theorem ggX4_isState_X4_isIn : GoodIn wsX4_isState wsX4_isIn := goodIn_r _ [5] (by decide +kernel) (by decide +kernel)
set_option maxRecDepth 20000 in
theorem gX4_isState_X4_isIn : GoodIn wsX4_isState (va_wsS RX4 79 yX4_isIn wsX4_isIn) := goodIn_app (goodIn_of _ (by decide +kernel)) ggX4_isState_X4_isIn
theorem dX4_isState_0 : decode cX4_isState 0 = .ok (.iload_n 1, 1) := by decide +kernel
theorem dX4_isState_1 : decode cX4_isState 1 = .ok (.iconst 0, 1) := by decide +kernel
theorem dX4_isState_2 : decode cX4_isState 2 = .ok (.aload_n 0, 1) := by decide +kernel
theorem dX4_isState_3 : decode cX4_isState 3 = .ok (.getfield 7, 3) := by decide +kernel
theorem dX4_isState_6 : decode cX4_isState 6 = .ok (.iconst 1, 1) := by decide +kernel
theorem dX4_isState_7 : decode cX4_isState 7 = .ok (.isub, 1) := by decide +kernel
theorem dX4_isState_8 : decode cX4_isState 8 = .ok (.invokestatic 79, 3) := by decide +kernel
theorem dX4_isState_11 : decode cX4_isState 11 = .ok (.ireturn, 1) := by decide +kernel
set_option maxRecDepth 20000 in
theorem ggX4_isTransition_X4_isIn : GoodIn wsX4_isTransition wsX4_isIn := goodIn_r _ [5] (by decide +kernel) (by decide +kernel)
set_option maxRecDepth 20000 in
theorem gX4_isTransition_X4_isIn : GoodIn wsX4_isTransition (va_wsS RX4 79 yX4_isIn wsX4_isIn) := goodIn_app (goodIn_of _ (by decide +kernel)) ggX4_isTransition_X4_isIn
theorem dX4_isTransition_0 : decode cX4_isTransition 0 = .ok (.iload_n 1, 1) := by decide +kernel
theorem dX4_isTransition_1 : decode cX4_isTransition 1 = .ok (.iconst 0, 1) := by decide +kernel
theorem dX4_isTransition_2 : decode cX4_isTransition 2 = .ok (.aload_n 0, 1) := by decide +kernel
theorem dX4_isTransition_3 : decode cX4_isTransition 3 = .ok (.getfield 83, 3) := by decide +kernel
theorem dX4_isTransition_6 : decode cX4_isTransition 6 = .ok (.iconst 1, 1) := by decide +kernel
theorem dX4_isTransition_7 : decode cX4_isTransition 7 = .ok (.isub, 1) := by decide +kernel
theorem dX4_isTransition_8 : decode cX4_isTransition 8 = .ok (.invokestatic 79, 3) := by decide +kernel
theorem dX4_isTransition_11 : decode cX4_isTransition 11 = .ok (.ireturn, 1) := by decide +kernel
set_option maxRecDepth 20000 in
theorem ggX4_isEvent_X4_isIn : GoodIn wsX4_isEvent wsX4_isIn := goodIn_r _ [4] (by decide +kernel) (by decide +kernel)
set_option maxRecDepth 20000 in
theorem gX4_isEvent_X4_isIn : GoodIn wsX4_isEvent (va_wsS RX4 79 yX4_isIn wsX4_isIn) := goodIn_app (goodIn_of _ (by decide +kernel)) ggX4_isEvent_X4_isIn
theorem dX4_isEvent_0 : decode cX4_isEvent 0 = .ok (.iload_n 0, 1) := by decide +kernel
theorem dX4_isEvent_1 : decode cX4_isEvent 1 = .ok (.iconst 0, 1) := by decide +kernel
theorem dX4_isEvent_2 : decode cX4_isEvent 2 = .ok (.bipush 7, 2) := by decide +kernel
theorem dX4_isEvent_4 : decode cX4_isEvent 4 = .ok (.invokestatic 79, 3) := by decide +kernel
theorem dX4_isEvent_7 : decode cX4_isEvent 7 = .ok (.ireturn, 1) := by decide +kernel
set_option maxRecDepth 20000 in
theorem ggX4_isNumber_X4_isIn : GoodIn wsX4_isNumber wsX4_isIn := goodIn_r _ [4] (by decide +kernel) (by decide +kernel)
set_option maxRecDepth 20000 in
theorem gX4_isNumber_X4_isIn : GoodIn wsX4_isNumber (va_wsS RX4 79 yX4_isIn wsX4_isIn) := goodIn_app (goodIn_of _ (by decide +kernel)) ggX4_isNumber_X4_isIn
theorem dX4_isNumber_0 : decode cX4_isNumber 0 = .ok (.iload_n 0, 1) := by decide +kernel
theorem dX4_isNumber_1 : decode cX4_isNumber 1 = .ok (.sipush (-1000), 3) := by decide +kernel
theorem dX4_isNumber_4 : decode cX4_isNumber 4 = .ok (.sipush 1000, 3) := by decide +kernel
theorem dX4_isNumber_7 : decode cX4_isNumber 7 = .ok (.invokestatic 79, 3) := by decide +kernel
theorem dX4_isNumber_10 : decode cX4_isNumber 10 = .ok (.ireturn, 1) := by decide +kernel
set_option maxRecDepth 20000 in
theorem ggX4_addState_X4_fail : GoodIn wsX4_addState wsX4_fail := goodIn_r _ [8, 1, 9, 10, 11, 12, 13, 14, 15, 16, 17, 18, 19, 20, 21, 22, 23, 24, 25, 26, 27, 28, 29, 30, 31, 32, 33, 34, 35, 36, 37, 38] (by decide +kernel) (by decide +kernel)
set_option maxRecDepth 20000 in
theorem gX4_addState_X4_fail : GoodIn wsX4_addState (wsV RX4 86 RX4 yX4_fail wsX4_fail) := goodIn_app (goodIn_of _ (by decide +kernel)) ggX4_addState_X4_fail
theorem dX4_addState_0 : decode cX4_addState 0 = .ok (.aload_n 0, 1) := by decide +kernel
theorem dX4_addState_1 : decode cX4_addState 1 = .ok (.iconst 0, 1) := by decide +kernel
theorem dX4_addState_2 : decode cX4_addState 2 = .ok (.putfield 76, 3) := by decide +kernel
theorem dX4_addState_5 : decode cX4_addState 5 = .ok (.aload_n 0, 1) := by decide +kernel
theorem dX4_addState_6 : decode cX4_addState 6 = .ok (.getfield 7, 3) := by decide +kernel
theorem dX4_addState_9 : decode cX4_addState 9 = .ok (.bipush 12, 2) := by decide +kernel
theorem dX4_addState_11 : decode cX4_addState 11 = .ok (.if_icmp .ne 9, 3) := by decide +kernel
theorem dX4_addState_14 : decode cX4_addState 14 = .ok (.aload_n 0, 1) := by decide +kernel
theorem dX4_addState_15 : decode cX4_addState 15 = .ok (.iconst 1, 1) := by decide +kernel
theorem dX4_addState_16 : decode cX4_addState 16 = .ok (.invokevirtual 86, 3) := by decide +kernel
theorem dX4_addState_19 : decode cX4_addState 19 = .ok (.ireturn, 1) := by decide +kernel
theorem dX4_addState_20 : decode cX4_addState 20 = .ok (.aload_n 0, 1) := by decide +kernel
theorem dX4_addState_21 : decode cX4_addState 21 = .ok (.dup, 1) := by decide +kernel
theorem dX4_addState_22 : decode cX4_addState 22 = .ok (.getfield 7, 3) := by decide +kernel
theorem dX4_addState_25 : decode cX4_addState 25 = .ok (.iconst 1, 1) := by decide +kernel
theorem dX4_addState_26 : decode cX4_addState 26 = .ok (.iadd, 1) := by decide +kernel
theorem dX4_addState_27 : decode cX4_addState 27 = .ok (.putfield 7, 3) := by decide +kernel
theorem dX4_addState_30 : decode cX4_addState 30 = .ok (.aload_n 0, 1) := by decide +kernel
theorem dX4_addState_31 : decode cX4_addState 31 = .ok (.iconst 0, 1) := by decide +kernel
theorem dX4_addState_32 : decode cX4_addState 32 = .ok (.putfield 90, 3) := by decide +kernel
theorem dX4_addState_35 : decode cX4_addState 35 = .ok (.aload_n 0, 1) := by decide +kernel
theorem dX4_addState_36 : decode cX4_addState 36 = .ok (.getfield 7, 3) := by decide +kernel
theorem dX4_addState_39 : decode cX4_addState 39 = .ok (.iconst 1, 1) := by decide +kernel
theorem dX4_addState_40 : decode cX4_addState 40 = .ok (.isub, 1) := by decide +kernel
theorem dX4_addState_41 : decode cX4_addState 41 = .ok (.ireturn, 1) := by decide +kernel
set_option maxRecDepth 20000 in
theorem ggX4_addTransition_X4_isState : GoodIn wsX4_addTransition wsX4_isState := goodIn_r _ [16, 17, 18, 19, 15, 20, 31, 32, 33, 34, 35, 36, 37, 38, 39, 40, 41, 42, 43, 44, 45, 46, 47, 48, 49, 50, 51, 52, 53, 54, 55, 56, 57, 58, 59, 60] (by decide +kernel) (by decide +kernel)
set_option maxRecDepth 20000 in
theorem gX4_addTransition_X4_isState : GoodIn wsX4_addTransition (wsV RX4 94 RX4 yX4_isState wsX4_isState) := goodIn_app (goodIn_of _ (by decide +kernel)) ggX4_addTransition_X4_isState
set_option maxRecDepth 20000 in
theorem ggX4_addTransition_X4_isEvent : GoodIn wsX4_addTransition wsX4_isEvent := goodIn_r _ [23, 18, 19, 15, 20] (by decide +kernel) (by decide +kernel)
set_option maxRecDepth 20000 in
theorem gX4_addTransition_X4_isEvent : GoodIn wsX4_addTransition (va_wsS RX4 98 yX4_isEvent wsX4_isEvent) := goodIn_app (goodIn_of _ (by decide +kernel)) ggX4_addTransition_X4_isEvent
set_option maxRecDepth 20000 in
theorem ggX4_addTransition_X4_isIn : GoodIn wsX4_addTransition wsX4_isIn := goodIn_r _ [20] (by decide +kernel) (by decide +kernel)
set_option maxRecDepth 20000 in
theorem gX4_addTransition_X4_isIn : GoodIn wsX4_addTransition (va_wsS RX4 79 yX4_isIn wsX4_isIn) := goodIn_app (goodIn_of _ (by decide +kernel)) ggX4_addTransition_X4_isIn
set_option maxRecDepth 20000 in
theorem ggX4_addTransition_X4_fail : GoodIn wsX4_addTransition wsX4_fail := goodIn_r _ [27, 1, 31, 32, 33, 34, 35, 36, 37, 38, 39, 40, 41, 42, 43, 44, 45, 46, 47, 48, 49, 50, 51, 52, 53, 54, 55, 56, 57, 58, 59, 60] (by decide +kernel) (by decide +kernel)
set_option maxRecDepth 20000 in
theorem gX4_addTransition_X4_fail : GoodIn wsX4_addTransition (wsV RX4 86 RX4 yX4_fail wsX4_fail) := goodIn_app (goodIn_of _ (by decide +kernel)) ggX4_addTransition_X4_fail
set_option maxRecDepth 20000 in
theorem ggX4_addTransition_X4_isNumber : GoodIn wsX4_addTransition wsX4_isNumber := goodIn_r _ [30, 18, 19, 15, 20] (by decide +kernel) (by decide +kernel)
set_option maxRecDepth 20000 in
theorem gX4_addTransition_X4_isNumber : GoodIn wsX4_addTransition (va_wsS RX4 101 yX4_isNumber wsX4_isNumber) := goodIn_app (goodIn_of _ (by decide +kernel)) ggX4_addTransition_X4_isNumber
theorem dX4_addTransition_0 : decode cX4_addTransition 0 = .ok (.aload_n 0, 1) := by decide +kernel
theorem dX4_addTransition_1 : decode cX4_addTransition 1 = .ok (.iconst 0, 1) := by decide +kernel
theorem dX4_addTransition_2 : decode cX4_addTransition 2 = .ok (.putfield 76, 3) := by decide +kernel
theorem dX4_addTransition_5 : decode cX4_addTransition 5 = .ok (.aload_n 0, 1) := by decide +kernel
theorem dX4_addTransition_6 : decode cX4_addTransition 6 = .ok (.iload_n 1, 1) := by decide +kernel
theorem dX4_addTransition_7 : decode cX4_addTransition 7 = .ok (.invokevirtual 94, 3) := by decide +kernel
theorem dX4_addTransition_10 : decode cX4_addTransition 10 = .ok (.ifCond .eq 28, 3) := by decide +kernel
theorem dX4_addTransition_13 : decode cX4_addTransition 13 = .ok (.iload_n 2, 1) := by decide +kernel
theorem dX4_addTransition_14 : decode cX4_addTransition 14 = .ok (.invokestatic 98, 3) := by decide +kernel
theorem dX4_addTransition_17 : decode cX4_addTransition 17 = .ok (.ifCond .eq 21, 3) := by decide +kernel
theorem dX4_addTransition_20 : decode cX4_addTransition 20 = .ok (.iload_n 3, 1) := by decide +kernel
theorem dX4_addTransition_21 : decode cX4_addTransition 21 = .ok (.iconst (-1), 1) := by decide +kernel
theorem dX4_addTransition_22 : decode cX4_addTransition 22 = .ok (.iconst 2, 1) := by decide +kernel
theorem dX4_addTransition_23 : decode cX4_addTransition 23 = .ok (.invokestatic 79, 3) := by decide +kernel
theorem dX4_addTransition_26 : decode cX4_addTransition 26 = .ok (.ifCond .eq 12, 3) := by decide +kernel
theorem dX4_addTransition_29 : decode cX4_addTransition 29 = .ok (.aload_n 0, 1) := by decide +kernel
theorem dX4_addTransition_30 : decode cX4_addTransition 30 = .ok (.iload 6, 2) := by decide +kernel
theorem dX4_addTransition_32 : decode cX4_addTransition 32 = .ok (.invokevirtual 94, 3) := by decide +kernel
theorem dX4_addTransition_35 : decode cX4_addTransition 35 = .ok (.ifCond .ne 9, 3) := by decide +kernel
theorem dX4_addTransition_38 : decode cX4_addTransition 38 = .ok (.aload_n 0, 1) := by decide +kernel
theorem dX4_addTransition_39 : decode cX4_addTransition 39 = .ok (.iconst 1, 1) := by decide +kernel
theorem dX4_addTransition_40 : decode cX4_addTransition 40 = .ok (.invokevirtual 86, 3) := by decide +kernel
theorem dX4_addTransition_43 : decode cX4_addTransition 43 = .ok (.ireturn, 1) := by decide +kernel
theorem dX4_addTransition_44 : decode cX4_addTransition 44 = .ok (.iload_n 3, 1) := by decide +kernel
theorem dX4_addTransition_45 : decode cX4_addTransition 45 = .ok (.iconst (-1), 1) := by decide +kernel
theorem dX4_addTransition_46 : decode cX4_addTransition 46 = .ok (.if_icmp .eq 27, 3) := by decide +kernel
theorem dX4_addTransition_49 : decode cX4_addTransition 49 = .ok (.iload 4, 2) := by decide +kernel
theorem dX4_addTransition_51 : decode cX4_addTransition 51 = .ok (.iconst 0, 1) := by decide +kernel
theorem dX4_addTransition_52 : decode cX4_addTransition 52 = .ok (.iconst 2, 1) := by decide +kernel
theorem dX4_addTransition_53 : decode cX4_addTransition 53 = .ok (.invokestatic 79, 3) := by decide +kernel
theorem dX4_addTransition_56 : decode cX4_addTransition 56 = .ok (.ifCond .eq 11, 3) := by decide +kernel
theorem dX4_addTransition_59 : decode cX4_addTransition 59 = .ok (.iload 5, 2) := by decide +kernel
theorem dX4_addTransition_61 : decode cX4_addTransition 61 = .ok (.invokestatic 101, 3) := by decide +kernel
theorem dX4_addTransition_64 : decode cX4_addTransition 64 = .ok (.ifCond .ne 9, 3) := by decide +kernel
theorem dX4_addTransition_67 : decode cX4_addTransition 67 = .ok (.aload_n 0, 1) := by decide +kernel
theorem dX4_addTransition_68 : decode cX4_addTransition 68 = .ok (.iconst 2, 1) := by decide +kernel
theorem dX4_addTransition_69 : decode cX4_addTransition 69 = .ok (.invokevirtual 86, 3) := by decide +kernel
theorem dX4_addTransition_72 : decode cX4_addTransition 72 = .ok (.ireturn, 1) := by decide +kernel
theorem dX4_addTransition_73 : decode cX4_addTransition 73 = .ok (.aload_n 0, 1) := by decide +kernel
theorem dX4_addTransition_74 : decode cX4_addTransition 74 = .ok (.getfield 83, 3) := by decide +kernel
theorem dX4_addTransition_77 : decode cX4_addTransition 77 = .ok (.bipush 40, 2) := by decide +kernel
theorem dX4_addTransition_79 : decode cX4_addTransition 79 = .ok (.if_icmp .ne 9, 3) := by decide +kernel
theorem dX4_addTransition_82 : decode cX4_addTransition 82 = .ok (.aload_n 0, 1) := by decide +kernel
theorem dX4_addTransition_83 : decode cX4_addTransition 83 = .ok (.iconst 3, 1) := by decide +kernel
theorem dX4_addTransition_84 : decode cX4_addTransition 84 = .ok (.invokevirtual 86, 3) := by decide +kernel
theorem dX4_addTransition_87 : decode cX4_addTransition 87 = .ok (.ireturn, 1) := by decide +kernel
theorem dX4_addTransition_88 : decode cX4_addTransition 88 = .ok (.aload_n 0, 1) := by decide +kernel
theorem dX4_addTransition_89 : decode cX4_addTransition 89 = .ok (.getfield 17, 3) := by decide +kernel
theorem dX4_addTransition_92 : decode cX4_addTransition 92 = .ok (.aload_n 0, 1) := by decide +kernel
theorem dX4_addTransition_93 : decode cX4_addTransition 93 = .ok (.getfield 83, 3) := by decide +kernel
theorem dX4_addTransition_96 : decode cX4_addTransition 96 = .ok (.iload_n 1, 1) := by decide +kernel
theorem dX4_addTransition_97 : decode cX4_addTransition 97 = .ok (.iastore, 1) := by decide +kernel
theorem dX4_addTransition_98 : decode cX4_addTransition 98 = .ok (.aload_n 0, 1) := by decide +kernel
theorem dX4_addTransition_99 : decode cX4_addTransition 99 = .ok (.getfield 20, 3) := by decide +kernel
theorem dX4_addTransition_102 : decode cX4_addTransition 102 = .ok (.aload_n 0, 1) := by decide +kernel
theorem dX4_addTransition_103 : decode cX4_addTransition 103 = .ok (.getfield 83, 3) := by decide +kernel
theorem dX4_addTransition_106 : decode cX4_addTransition 106 = .ok (.iload_n 2, 1) := by decide +kernel
theorem dX4_addTransition_107 : decode cX4_addTransition 107 = .ok (.iastore, 1) := by decide +kernel
theorem dX4_addTransition_108 : decode cX4_addTransition 108 = .ok (.aload_n 0, 1) := by decide +kernel
theorem dX4_addTransition_109 : decode cX4_addTransition 109 = .ok (.getfield 23, 3) := by decide +kernel
theorem dX4_addTransition_112 : decode cX4_addTransition 112 = .ok (.aload_n 0, 1) := by decide +kernel
theorem dX4_addTransition_113 : decode cX4_addTransition 113 = .ok (.getfield 83, 3) := by decide +kernel
theorem dX4_addTransition_116 : decode cX4_addTransition 116 = .ok (.iload_n 3, 1) := by decide +kernel
theorem dX4_addTransition_117 : decode cX4_addTransition 117 = .ok (.iastore, 1) := by decide +kernel
theorem dX4_addTransition_118 : decode cX4_addTransition 118 = .ok (.aload_n 0, 1) := by decide +kernel
theorem dX4_addTransition_119 : decode cX4_addTransition 119 = .ok (.getfield 26, 3) := by decide +kernel
theorem dX4_addTransition_122 : decode cX4_addTransition 122 = .ok (.aload_n 0, 1) := by decide +kernel
theorem dX4_addTransition_123 : decode cX4_addTransition 123 = .ok (.getfield 83, 3) := by decide +kernel
theorem dX4_addTransition_126 : decode cX4_addTransition 126 = .ok (.iload_n 3, 1) := by decide +kernel
theorem dX4_addTransition_127 : decode cX4_addTransition 127 = .ok (.iconst (-1), 1) := by decide +kernel
theorem dX4_addTransition_128 : decode cX4_addTransition 128 = .ok (.if_icmp .ne 7, 3) := by decide +kernel
theorem dX4_addTransition_131 : decode cX4_addTransition 131 = .ok (.iconst 0, 1) := by decide +kernel
theorem dX4_addTransition_132 : decode cX4_addTransition 132 = .ok (.goto 5, 3) := by decide +kernel
theorem dX4_addTransition_135 : decode cX4_addTransition 135 = .ok (.iload 4, 2) := by decide +kernel
theorem dX4_addTransition_137 : decode cX4_addTransition 137 = .ok (.iastore, 1) := by decide +kernel
theorem dX4_addTransition_138 : decode cX4_addTransition 138 = .ok (.aload_n 0, 1) := by decide +kernel
theorem dX4_addTransition_139 : decode cX4_addTransition 139 = .ok (.getfield 29, 3) := by decide +kernel
theorem dX4_addTransition_142 : decode cX4_addTransition 142 = .ok (.aload_n 0, 1) := by decide +kernel
theorem dX4_addTransition_143 : decode cX4_addTransition 143 = .ok (.getfield 83, 3) := by decide +kernel
theorem dX4_addTransition_146 : decode cX4_addTransition 146 = .ok (.iload_n 3, 1) := by decide +kernel
theorem dX4_addTransition_147 : decode cX4_addTransition 147 = .ok (.iconst (-1), 1) := by decide +kernel
theorem dX4_addTransition_148 : decode cX4_addTransition 148 = .ok (.if_icmp .ne 7, 3) := by decide +kernel
theorem dX4_addTransition_151 : decode cX4_addTransition 151 = .ok (.iconst 0, 1) := by decide +kernel
theorem dX4_addTransition_152 : decode cX4_addTransition 152 = .ok (.goto 5, 3) := by decide +kernel
theorem dX4_addTransition_155 : decode cX4_addTransition 155 = .ok (.iload 5, 2) := by decide +kernel
theorem dX4_addTransition_157 : decode cX4_addTransition 157 = .ok (.iastore, 1) := by decide +kernel
theorem dX4_addTransition_158 : decode cX4_addTransition 158 = .ok (.aload_n 0, 1) := by decide +kernel
theorem dX4_addTransition_159 : decode cX4_addTransition 159 = .ok (.getfield 32, 3) := by decide +kernel
theorem dX4_addTransition_162 : decode cX4_addTransition 162 = .ok (.aload_n 0, 1) := by decide +kernel
theorem dX4_addTransition_163 : decode cX4_addTransition 163 = .ok (.getfield 83, 3) := by decide +kernel
theorem dX4_addTransition_166 : decode cX4_addTransition 166 = .ok (.iload 6, 2) := by decide +kernel
theorem dX4_addTransition_168 : decode cX4_addTransition 168 = .ok (.iastore, 1) := by decide +kernel
theorem dX4_addTransition_169 : decode cX4_addTransition 169 = .ok (.aload_n 0, 1) := by decide +kernel
theorem dX4_addTransition_170 : decode cX4_addTransition 170 = .ok (.getfield 35, 3) := by decide +kernel
theorem dX4_addTransition_173 : decode cX4_addTransition 173 = .ok (.aload_n 0, 1) := by decide +kernel
theorem dX4_addTransition_174 : decode cX4_addTransition 174 = .ok (.getfield 83, 3) := by decide +kernel
theorem dX4_addTransition_177 : decode cX4_addTransition 177 = .ok (.iconst 0, 1) := by decide +kernel
theorem dX4_addTransition_178 : decode cX4_addTransition 178 = .ok (.iastore, 1) := by decide +kernel
theorem dX4_addTransition_179 : decode cX4_addTransition 179 = .ok (.aload_n 0, 1) := by decide +kernel
theorem dX4_addTransition_180 : decode cX4_addTransition 180 = .ok (.getfield 41, 3) := by decide +kernel
theorem dX4_addTransition_183 : decode cX4_addTransition 183 = .ok (.aload_n 0, 1) := by decide +kernel
theorem dX4_addTransition_184 : decode cX4_addTransition 184 = .ok (.getfield 83, 3) := by decide +kernel
theorem dX4_addTransition_187 : decode cX4_addTransition 187 = .ok (.iconst 0, 1) := by decide +kernel
theorem dX4_addTransition_188 : decode cX4_addTransition 188 = .ok (.iastore, 1) := by decide +kernel
theorem dX4_addTransition_189 : decode cX4_addTransition 189 = .ok (.aload_n 0, 1) := by decide +kernel
theorem dX4_addTransition_190 : decode cX4_addTransition 190 = .ok (.dup, 1) := by decide +kernel
theorem dX4_addTransition_191 : decode cX4_addTransition 191 = .ok (.getfield 83, 3) := by decide +kernel
theorem dX4_addTransition_194 : decode cX4_addTransition 194 = .ok (.iconst 1, 1) := by decide +kernel
theorem dX4_addTransition_195 : decode cX4_addTransition 195 = .ok (.iadd, 1) := by decide +kernel
theorem dX4_addTransition_196 : decode cX4_addTransition 196 = .ok (.putfield 83, 3) := by decide +kernel
theorem dX4_addTransition_199 : decode cX4_addTransition 199 = .ok (.aload_n 0, 1) := by decide +kernel
theorem dX4_addTransition_200 : decode cX4_addTransition 200 = .ok (.iconst 0, 1) := by decide +kernel
theorem dX4_addTransition_201 : decode cX4_addTransition 201 = .ok (.putfield 90, 3) := by decide +kernel
theorem dX4_addTransition_204 : decode cX4_addTransition 204 = .ok (.aload_n 0, 1) := by decide +kernel
theorem dX4_addTransition_205 : decode cX4_addTransition 205 = .ok (.getfield 83, 3) := by decide +kernel
theorem dX4_addTransition_208 : decode cX4_addTransition 208 = .ok (.iconst 1, 1) := by decide +kernel
theorem dX4_addTransition_209 : decode cX4_addTransition 209 = .ok (.isub, 1) := by decide +kernel
theorem dX4_addTransition_210 : decode cX4_addTransition 210 = .ok (.ireturn, 1) := by decide +kernel
set_option maxRecDepth 20000 in
theorem ggX4_addAction_X4_isTransition : GoodIn wsX4_addAction wsX4_isTransition := goodIn_r _ [9, 10, 11, 12, 8, 13, 21, 22, 23, 24, 25, 26, 27, 28, 29, 30, 31, 32, 33, 34, 35, 36, 37, 38, 39, 40, 41, 42, 43, 44, 45, 46, 47, 48, 49, 50] (by decide +kernel) (by decide +kernel)
set_option maxRecDepth 20000 in
theorem gX4_addAction_X4_isTransition : GoodIn wsX4_addAction (wsV RX4 104 RX4 yX4_isTransition wsX4_isTransition) := goodIn_app (goodIn_of _ (by decide +kernel)) ggX4_addAction_X4_isTransition
set_option maxRecDepth 20000 in
theorem ggX4_addAction_X4_fail : GoodIn wsX4_addAction wsX4_fail := goodIn_r _ [17, 1, 21, 22, 23, 24, 25, 26, 27, 28, 29, 30, 31, 32, 33, 34, 35, 36, 37, 38, 39, 40, 41, 42, 43, 44, 45, 46, 47, 48, 49, 50] (by decide +kernel) (by decide +kernel)
set_option maxRecDepth 20000 in
theorem gX4_addAction_X4_fail : GoodIn wsX4_addAction (wsV RX4 86 RX4 yX4_fail wsX4_fail) := goodIn_app (goodIn_of _ (by decide +kernel)) ggX4_addAction_X4_fail
set_option maxRecDepth 20000 in
theorem ggX4_addAction_X4_isIn : GoodIn wsX4_addAction wsX4_isIn := goodIn_r _ [13] (by decide +kernel) (by decide +kernel)
set_option maxRecDepth 20000 in
theorem gX4_addAction_X4_isIn : GoodIn wsX4_addAction (va_wsS RX4 79 yX4_isIn wsX4_isIn) := goodIn_app (goodIn_of _ (by decide +kernel)) ggX4_addAction_X4_isIn
set_option maxRecDepth 20000 in
theorem ggX4_addAction_X4_isNumber : GoodIn wsX4_addAction wsX4_isNumber := goodIn_r _ [20, 11, 12, 8, 13] (by decide +kernel) (by decide +kernel)
set_option maxRecDepth 20000 in
theorem gX4_addAction_X4_isNumber : GoodIn wsX4_addAction (va_wsS RX4 101 yX4_isNumber wsX4_isNumber) := goodIn_app (goodIn_of _ (by decide +kernel)) ggX4_addAction_X4_isNumber
theorem dX4_addAction_0 : decode cX4_addAction 0 = .ok (.aload_n 0, 1) := by decide +kernel
theorem dX4_addAction_1 : decode cX4_addAction 1 = .ok (.iconst 0, 1) := by decide +kernel
theorem dX4_addAction_2 : decode cX4_addAction 2 = .ok (.putfield 76, 3) := by decide +kernel
theorem dX4_addAction_5 : decode cX4_addAction 5 = .ok (.aload_n 0, 1) := by decide +kernel
theorem dX4_addAction_6 : decode cX4_addAction 6 = .ok (.iload_n 1, 1) := by decide +kernel
theorem dX4_addAction_7 : decode cX4_addAction 7 = .ok (.invokevirtual 104, 3) := by decide +kernel
theorem dX4_addAction_10 : decode cX4_addAction 10 = .ok (.ifCond .ne 9, 3) := by decide +kernel
theorem dX4_addAction_13 : decode cX4_addAction 13 = .ok (.aload_n 0, 1) := by decide +kernel
theorem dX4_addAction_14 : decode cX4_addAction 14 = .ok (.iconst 1, 1) := by decide +kernel
theorem dX4_addAction_15 : decode cX4_addAction 15 = .ok (.invokevirtual 86, 3) := by decide +kernel
theorem dX4_addAction_18 : decode cX4_addAction 18 = .ok (.ireturn, 1) := by decide +kernel
theorem dX4_addAction_19 : decode cX4_addAction 19 = .ok (.iload_n 2, 1) := by decide +kernel
theorem dX4_addAction_20 : decode cX4_addAction 20 = .ok (.ifCond .eq 8, 3) := by decide +kernel
theorem dX4_addAction_23 : decode cX4_addAction 23 = .ok (.iload_n 2, 1) := by decide +kernel
theorem dX4_addAction_24 : decode cX4_addAction 24 = .ok (.iconst 1, 1) := by decide +kernel
theorem dX4_addAction_25 : decode cX4_addAction 25 = .ok (.if_icmp .ne 28, 3) := by decide +kernel
theorem dX4_addAction_28 : decode cX4_addAction 28 = .ok (.iload_n 3, 1) := by decide +kernel
theorem dX4_addAction_29 : decode cX4_addAction 29 = .ok (.iconst 0, 1) := by decide +kernel
theorem dX4_addAction_30 : decode cX4_addAction 30 = .ok (.iconst 2, 1) := by decide +kernel
theorem dX4_addAction_31 : decode cX4_addAction 31 = .ok (.invokestatic 79, 3) := by decide +kernel
theorem dX4_addAction_34 : decode cX4_addAction 34 = .ok (.ifCond .eq 15, 3) := by decide +kernel
theorem dX4_addAction_37 : decode cX4_addAction 37 = .ok (.iload 4, 2) := by decide +kernel
theorem dX4_addAction_39 : decode cX4_addAction 39 = .ok (.invokestatic 101, 3) := by decide +kernel
theorem dX4_addAction_42 : decode cX4_addAction 42 = .ok (.ifCond .eq 7, 3) := by decide +kernel
theorem dX4_addAction_45 : decode cX4_addAction 45 = .ok (.iconst 1, 1) := by decide +kernel
theorem dX4_addAction_46 : decode cX4_addAction 46 = .ok (.goto 75, 3) := by decide +kernel
theorem dX4_addAction_49 : decode cX4_addAction 49 = .ok (.iconst 0, 1) := by decide +kernel
theorem dX4_addAction_50 : decode cX4_addAction 50 = .ok (.goto 71, 3) := by decide +kernel
theorem dX4_addAction_53 : decode cX4_addAction 53 = .ok (.iload_n 2, 1) := by decide +kernel
theorem dX4_addAction_54 : decode cX4_addAction 54 = .ok (.iconst 2, 1) := by decide +kernel
theorem dX4_addAction_55 : decode cX4_addAction 55 = .ok (.if_icmp .ne 32, 3) := by decide +kernel
theorem dX4_addAction_58 : decode cX4_addAction 58 = .ok (.iload_n 3, 1) := by decide +kernel
theorem dX4_addAction_59 : decode cX4_addAction 59 = .ok (.iconst 0, 1) := by decide +kernel
theorem dX4_addAction_60 : decode cX4_addAction 60 = .ok (.iconst 3, 1) := by decide +kernel
theorem dX4_addAction_61 : decode cX4_addAction 61 = .ok (.invokestatic 79, 3) := by decide +kernel
theorem dX4_addAction_64 : decode cX4_addAction 64 = .ok (.ifCond .eq 19, 3) := by decide +kernel
theorem dX4_addAction_67 : decode cX4_addAction 67 = .ok (.iload 4, 2) := by decide +kernel
theorem dX4_addAction_69 : decode cX4_addAction 69 = .ok (.iconst 1, 1) := by decide +kernel
theorem dX4_addAction_70 : decode cX4_addAction 70 = .ok (.sipush 1000, 3) := by decide +kernel
theorem dX4_addAction_73 : decode cX4_addAction 73 = .ok (.invokestatic 79, 3) := by decide +kernel
theorem dX4_addAction_76 : decode cX4_addAction 76 = .ok (.ifCond .eq 7, 3) := by decide +kernel
theorem dX4_addAction_79 : decode cX4_addAction 79 = .ok (.iconst 1, 1) := by decide +kernel
theorem dX4_addAction_80 : decode cX4_addAction 80 = .ok (.goto 41, 3) := by decide +kernel
theorem dX4_addAction_83 : decode cX4_addAction 83 = .ok (.iconst 0, 1) := by decide +kernel
theorem dX4_addAction_84 : decode cX4_addAction 84 = .ok (.goto 37, 3) := by decide +kernel
theorem dX4_addAction_87 : decode cX4_addAction 87 = .ok (.iload_n 2, 1) := by decide +kernel
theorem dX4_addAction_88 : decode cX4_addAction 88 = .ok (.iconst 3, 1) := by decide +kernel
theorem dX4_addAction_89 : decode cX4_addAction 89 = .ok (.if_icmp .ne 12, 3) := by decide +kernel
theorem dX4_addAction_92 : decode cX4_addAction 92 = .ok (.iload_n 3, 1) := by decide +kernel
theorem dX4_addAction_93 : decode cX4_addAction 93 = .ok (.iconst 0, 1) := by decide +kernel
theorem dX4_addAction_94 : decode cX4_addAction 94 = .ok (.iconst 3, 1) := by decide +kernel
theorem dX4_addAction_95 : decode cX4_addAction 95 = .ok (.invokestatic 79, 3) := by decide +kernel
theorem dX4_addAction_98 : decode cX4_addAction 98 = .ok (.goto 23, 3) := by decide +kernel
theorem dX4_addAction_101 : decode cX4_addAction 101 = .ok (.iload_n 2, 1) := by decide +kernel
theorem dX4_addAction_102 : decode cX4_addAction 102 = .ok (.iconst 4, 1) := by decide +kernel
theorem dX4_addAction_103 : decode cX4_addAction 103 = .ok (.if_icmp .ne 17, 3) := by decide +kernel
theorem dX4_addAction_106 : decode cX4_addAction 106 = .ok (.iload_n 3, 1) := by decide +kernel
theorem dX4_addAction_107 : decode cX4_addAction 107 = .ok (.iconst 0, 1) := by decide +kernel
theorem dX4_addAction_108 : decode cX4_addAction 108 = .ok (.bipush 99, 2) := by decide +kernel
theorem dX4_addAction_110 : decode cX4_addAction 110 = .ok (.invokestatic 79, 3) := by decide +kernel
theorem dX4_addAction_113 : decode cX4_addAction 113 = .ok (.ifCond .eq 7, 3) := by decide +kernel
theorem dX4_addAction_116 : decode cX4_addAction 116 = .ok (.iconst 1, 1) := by decide +kernel
theorem dX4_addAction_117 : decode cX4_addAction 117 = .ok (.goto 4, 3) := by decide +kernel
theorem dX4_addAction_120 : decode cX4_addAction 120 = .ok (.iconst 0, 1) := by decide +kernel
theorem dX4_addAction_121 : decode cX4_addAction 121 = .ok (.istore 5, 2) := by decide +kernel
theorem dX4_addAction_123 : decode cX4_addAction 123 = .ok (.iload 5, 2) := by decide +kernel
theorem dX4_addAction_125 : decode cX4_addAction 125 = .ok (.ifCond .ne 9, 3) := by decide +kernel
theorem dX4_addAction_128 : decode cX4_addAction 128 = .ok (.aload_n 0, 1) := by decide +kernel
theorem dX4_addAction_129 : decode cX4_addAction 129 = .ok (.iconst 2, 1) := by decide +kernel
theorem dX4_addAction_130 : decode cX4_addAction 130 = .ok (.invokevirtual 86, 3) := by decide +kernel
theorem dX4_addAction_133 : decode cX4_addAction 133 = .ok (.ireturn, 1) := by decide +kernel
theorem dX4_addAction_134 : decode cX4_addAction 134 = .ok (.aload_n 0, 1) := by decide +kernel
theorem dX4_addAction_135 : decode cX4_addAction 135 = .ok (.getfield 35, 3) := by decide +kernel
theorem dX4_addAction_138 : decode cX4_addAction 138 = .ok (.iload_n 1, 1) := by decide +kernel
theorem dX4_addAction_139 : decode cX4_addAction 139 = .ok (.iaload, 1) := by decide +kernel
theorem dX4_addAction_140 : decode cX4_addAction 140 = .ok (.iconst 3, 1) := by decide +kernel
theorem dX4_addAction_141 : decode cX4_addAction 141 = .ok (.if_icmp .ne 9, 3) := by decide +kernel
theorem dX4_addAction_144 : decode cX4_addAction 144 = .ok (.aload_n 0, 1) := by decide +kernel
theorem dX4_addAction_145 : decode cX4_addAction 145 = .ok (.iconst 3, 1) := by decide +kernel
theorem dX4_addAction_146 : decode cX4_addAction 146 = .ok (.invokevirtual 86, 3) := by decide +kernel
theorem dX4_addAction_149 : decode cX4_addAction 149 = .ok (.ireturn, 1) := by decide +kernel
theorem dX4_addAction_150 : decode cX4_addAction 150 = .ok (.iconst 3, 1) := by decide +kernel
theorem dX4_addAction_151 : decode cX4_addAction 151 = .ok (.iconst 3, 1) := by decide +kernel
theorem dX4_addAction_152 : decode cX4_addAction 152 = .ok (.iload_n 1, 1) := by decide +kernel
theorem dX4_addAction_153 : decode cX4_addAction 153 = .ok (.imul, 1) := by decide +kernel
theorem dX4_addAction_154 : decode cX4_addAction 154 = .ok (.aload_n 0, 1) := by decide +kernel
theorem dX4_addAction_155 : decode cX4_addAction 155 = .ok (.getfield 35, 3) := by decide +kernel
theorem dX4_addAction_158 : decode cX4_addAction 158 = .ok (.iload_n 1, 1) := by decide +kernel
theorem dX4_addAction_159 : decode cX4_addAction 159 = .ok (.iaload, 1) := by decide +kernel
theorem dX4_addAction_160 : decode cX4_addAction 160 = .ok (.iadd, 1) := by decide +kernel
theorem dX4_addAction_161 : decode cX4_addAction 161 = .ok (.imul, 1) := by decide +kernel
theorem dX4_addAction_162 : decode cX4_addAction 162 = .ok (.istore 6, 2) := by decide +kernel
theorem dX4_addAction_164 : decode cX4_addAction 164 = .ok (.aload_n 0, 1) := by decide +kernel
theorem dX4_addAction_165 : decode cX4_addAction 165 = .ok (.getfield 38, 3) := by decide +kernel
theorem dX4_addAction_168 : decode cX4_addAction 168 = .ok (.iload 6, 2) := by decide +kernel
theorem dX4_addAction_170 : decode cX4_addAction 170 = .ok (.iload_n 2, 1) := by decide +kernel
theorem dX4_addAction_171 : decode cX4_addAction 171 = .ok (.iastore, 1) := by decide +kernel
theorem dX4_addAction_172 : decode cX4_addAction 172 = .ok (.aload_n 0, 1) := by decide +kernel
theorem dX4_addAction_173 : decode cX4_addAction 173 = .ok (.getfield 38, 3) := by decide +kernel
theorem dX4_addAction_176 : decode cX4_addAction 176 = .ok (.iload 6, 2) := by decide +kernel
theorem dX4_addAction_178 : decode cX4_addAction 178 = .ok (.iconst 1, 1) := by decide +kernel
theorem dX4_addAction_179 : decode cX4_addAction 179 = .ok (.iadd, 1) := by decide +kernel
theorem dX4_addAction_180 : decode cX4_addAction 180 = .ok (.iload_n 3, 1) := by decide +kernel
theorem dX4_addAction_181 : decode cX4_addAction 181 = .ok (.iastore, 1) := by decide +kernel
theorem dX4_addAction_182 : decode cX4_addAction 182 = .ok (.aload_n 0, 1) := by decide +kernel
theorem dX4_addAction_183 : decode cX4_addAction 183 = .ok (.getfield 38, 3) := by decide +kernel
theorem dX4_addAction_186 : decode cX4_addAction 186 = .ok (.iload 6, 2) := by decide +kernel
theorem dX4_addAction_188 : decode cX4_addAction 188 = .ok (.iconst 2, 1) := by decide +kernel
theorem dX4_addAction_189 : decode cX4_addAction 189 = .ok (.iadd, 1) := by decide +kernel
theorem dX4_addAction_190 : decode cX4_addAction 190 = .ok (.iload_n 2, 1) := by decide +kernel
theorem dX4_addAction_191 : decode cX4_addAction 191 = .ok (.iconst 2, 1) := by decide +kernel
theorem dX4_addAction_192 : decode cX4_addAction 192 = .ok (.if_icmp .gt 8, 3) := by decide +kernel
theorem dX4_addAction_195 : decode cX4_addAction 195 = .ok (.iload 4, 2) := by decide +kernel
theorem dX4_addAction_197 : decode cX4_addAction 197 = .ok (.goto 4, 3) := by decide +kernel
theorem dX4_addAction_200 : decode cX4_addAction 200 = .ok (.iconst 0, 1) := by decide +kernel
theorem dX4_addAction_201 : decode cX4_addAction 201 = .ok (.iastore, 1) := by decide +kernel
theorem dX4_addAction_202 : decode cX4_addAction 202 = .ok (.aload_n 0, 1) := by decide +kernel
theorem dX4_addAction_203 : decode cX4_addAction 203 = .ok (.getfield 35, 3) := by decide +kernel
theorem dX4_addAction_206 : decode cX4_addAction 206 = .ok (.iload_n 1, 1) := by decide +kernel
theorem dX4_addAction_207 : decode cX4_addAction 207 = .ok (.dup2, 1) := by decide +kernel
theorem dX4_addAction_208 : decode cX4_addAction 208 = .ok (.iaload, 1) := by decide +kernel
theorem dX4_addAction_209 : decode cX4_addAction 209 = .ok (.iconst 1, 1) := by decide +kernel
theorem dX4_addAction_210 : decode cX4_addAction 210 = .ok (.iadd, 1) := by decide +kernel
theorem dX4_addAction_211 : decode cX4_addAction 211 = .ok (.iastore, 1) := by decide +kernel
theorem dX4_addAction_212 : decode cX4_addAction 212 = .ok (.aload_n 0, 1) := by decide +kernel
theorem dX4_addAction_213 : decode cX4_addAction 213 = .ok (.iconst 0, 1) := by decide +kernel
theorem dX4_addAction_214 : decode cX4_addAction 214 = .ok (.putfield 90, 3) := by decide +kernel
theorem dX4_addAction_217 : decode cX4_addAction 217 = .ok (.aload_n 0, 1) := by decide +kernel
theorem dX4_addAction_218 : decode cX4_addAction 218 = .ok (.getfield 35, 3) := by decide +kernel
theorem dX4_addAction_221 : decode cX4_addAction 221 = .ok (.iload_n 1, 1) := by decide +kernel
theorem dX4_addAction_222 : decode cX4_addAction 222 = .ok (.iaload, 1) := by decide +kernel
theorem dX4_addAction_223 : decode cX4_addAction 223 = .ok (.ireturn, 1) := by decide +kernel
set_option maxRecDepth 20000 in
theorem ggX4_drop_X4_fail : GoodIn wsX4_drop wsX4_fail := goodIn_r _ [8, 1, 9, 10, 11, 12, 13, 14, 15, 16, 17, 18, 19, 20, 21, 22, 23, 24, 25, 26, 27, 28, 29, 30, 31, 32, 33, 34, 35, 36, 37, 38] (by decide +kernel) (by decide +kernel)
set_option maxRecDepth 20000 in
theorem gX4_drop_X4_fail : GoodIn wsX4_drop (wsV RX4 86 RX4 yX4_fail wsX4_fail) := goodIn_app (goodIn_of _ (by decide +kernel)) ggX4_drop_X4_fail
theorem dX4_drop_0 : decode cX4_drop 0 = .ok (.aload_n 0, 1) := by decide +kernel
theorem dX4_drop_1 : decode cX4_drop 1 = .ok (.iconst 0, 1) := by decide +kernel
theorem dX4_drop_2 : decode cX4_drop 2 = .ok (.putfield 76, 3) := by decide +kernel
theorem dX4_drop_5 : decode cX4_drop 5 = .ok (.aload_n 0, 1) := by decide +kernel
theorem dX4_drop_6 : decode cX4_drop 6 = .ok (.getfield 83, 3) := by decide +kernel
theorem dX4_drop_9 : decode cX4_drop 9 = .ok (.ifCond .ne 9, 3) := by decide +kernel
theorem dX4_drop_12 : decode cX4_drop 12 = .ok (.aload_n 0, 1) := by decide +kernel
theorem dX4_drop_13 : decode cX4_drop 13 = .ok (.iconst 1, 1) := by decide +kernel
theorem dX4_drop_14 : decode cX4_drop 14 = .ok (.invokevirtual 86, 3) := by decide +kernel
theorem dX4_drop_17 : decode cX4_drop 17 = .ok (.ireturn, 1) := by decide +kernel
theorem dX4_drop_18 : decode cX4_drop 18 = .ok (.aload_n 0, 1) := by decide +kernel
theorem dX4_drop_19 : decode cX4_drop 19 = .ok (.dup, 1) := by decide +kernel
theorem dX4_drop_20 : decode cX4_drop 20 = .ok (.getfield 83, 3) := by decide +kernel
theorem dX4_drop_23 : decode cX4_drop 23 = .ok (.iconst 1, 1) := by decide +kernel
theorem dX4_drop_24 : decode cX4_drop 24 = .ok (.isub, 1) := by decide +kernel
theorem dX4_drop_25 : decode cX4_drop 25 = .ok (.putfield 83, 3) := by decide +kernel
theorem dX4_drop_28 : decode cX4_drop 28 = .ok (.aload_n 0, 1) := by decide +kernel
theorem dX4_drop_29 : decode cX4_drop 29 = .ok (.iconst 0, 1) := by decide +kernel
theorem dX4_drop_30 : decode cX4_drop 30 = .ok (.putfield 90, 3) := by decide +kernel
theorem dX4_drop_33 : decode cX4_drop 33 = .ok (.aload_n 0, 1) := by decide +kernel
theorem dX4_drop_34 : decode cX4_drop 34 = .ok (.getfield 83, 3) := by decide +kernel
theorem dX4_drop_37 : decode cX4_drop 37 = .ok (.ireturn, 1) := by decide +kernel
set_option maxRecDepth 20000 in
theorem ggX4_setTimerEvent_X4_isIn : GoodIn wsX4_setTimerEvent wsX4_isIn := goodIn_r _ [7] (by decide +kernel) (by decide +kernel)
set_option maxRecDepth 20000 in
theorem gX4_setTimerEvent_X4_isIn : GoodIn wsX4_setTimerEvent (va_wsS RX4 79 yX4_isIn wsX4_isIn) := goodIn_app (goodIn_of _ (by decide +kernel)) ggX4_setTimerEvent_X4_isIn
set_option maxRecDepth 20000 in
theorem ggX4_setTimerEvent_X4_isEvent : GoodIn wsX4_setTimerEvent wsX4_isEvent := goodIn_r _ [10, 4, 5, 6, 7] (by decide +kernel) (by decide +kernel)
set_option maxRecDepth 20000 in
theorem gX4_setTimerEvent_X4_isEvent : GoodIn wsX4_setTimerEvent (va_wsS RX4 98 yX4_isEvent wsX4_isEvent) := goodIn_app (goodIn_of _ (by decide +kernel)) ggX4_setTimerEvent_X4_isEvent
set_option maxRecDepth 20000 in
theorem ggX4_setTimerEvent_X4_fail : GoodIn wsX4_setTimerEvent wsX4_fail := goodIn_r _ [14, 1, 15, 16, 17, 18, 19, 20, 21, 22, 23, 24, 25, 26, 27, 28, 29, 30, 31, 32, 33, 34, 35, 36, 37, 38, 39, 40, 41, 42, 43, 44] (by decide +kernel) (by decide +kernel)
set_option maxRecDepth 20000 in
theorem gX4_setTimerEvent_X4_fail : GoodIn wsX4_setTimerEvent (wsV RX4 86 RX4 yX4_fail wsX4_fail) := goodIn_app (goodIn_of _ (by decide +kernel)) ggX4_setTimerEvent_X4_fail
theorem dX4_setTimerEvent_0 : decode cX4_setTimerEvent 0 = .ok (.aload_n 0, 1) := by decide +kernel
theorem dX4_setTimerEvent_1 : decode cX4_setTimerEvent 1 = .ok (.iconst 0, 1) := by decide +kernel
theorem dX4_setTimerEvent_2 : decode cX4_setTimerEvent 2 = .ok (.putfield 76, 3) := by decide +kernel
theorem dX4_setTimerEvent_5 : decode cX4_setTimerEvent 5 = .ok (.iload_n 1, 1) := by decide +kernel
theorem dX4_setTimerEvent_6 : decode cX4_setTimerEvent 6 = .ok (.iconst 0, 1) := by decide +kernel
theorem dX4_setTimerEvent_7 : decode cX4_setTimerEvent 7 = .ok (.iconst 3, 1) := by decide +kernel
theorem dX4_setTimerEvent_8 : decode cX4_setTimerEvent 8 = .ok (.invokestatic 79, 3) := by decide +kernel
theorem dX4_setTimerEvent_11 : decode cX4_setTimerEvent 11 = .ok (.ifCond .eq 10, 3) := by decide +kernel
theorem dX4_setTimerEvent_14 : decode cX4_setTimerEvent 14 = .ok (.iload_n 2, 1) := by decide +kernel
theorem dX4_setTimerEvent_15 : decode cX4_setTimerEvent 15 = .ok (.invokestatic 98, 3) := by decide +kernel
theorem dX4_setTimerEvent_18 : decode cX4_setTimerEvent 18 = .ok (.ifCond .ne 9, 3) := by decide +kernel
theorem dX4_setTimerEvent_21 : decode cX4_setTimerEvent 21 = .ok (.aload_n 0, 1) := by decide +kernel
theorem dX4_setTimerEvent_22 : decode cX4_setTimerEvent 22 = .ok (.iconst 1, 1) := by decide +kernel
theorem dX4_setTimerEvent_23 : decode cX4_setTimerEvent 23 = .ok (.invokevirtual 86, 3) := by decide +kernel
theorem dX4_setTimerEvent_26 : decode cX4_setTimerEvent 26 = .ok (.ireturn, 1) := by decide +kernel
theorem dX4_setTimerEvent_27 : decode cX4_setTimerEvent 27 = .ok (.aload_n 0, 1) := by decide +kernel
theorem dX4_setTimerEvent_28 : decode cX4_setTimerEvent 28 = .ok (.getfield 13, 3) := by decide +kernel
theorem dX4_setTimerEvent_31 : decode cX4_setTimerEvent 31 = .ok (.iload_n 1, 1) := by decide +kernel
theorem dX4_setTimerEvent_32 : decode cX4_setTimerEvent 32 = .ok (.iaload, 1) := by decide +kernel
theorem dX4_setTimerEvent_33 : decode cX4_setTimerEvent 33 = .ok (.istore_n 3, 1) := by decide +kernel
theorem dX4_setTimerEvent_34 : decode cX4_setTimerEvent 34 = .ok (.aload_n 0, 1) := by decide +kernel
theorem dX4_setTimerEvent_35 : decode cX4_setTimerEvent 35 = .ok (.getfield 13, 3) := by decide +kernel
theorem dX4_setTimerEvent_38 : decode cX4_setTimerEvent 38 = .ok (.iload_n 1, 1) := by decide +kernel
theorem dX4_setTimerEvent_39 : decode cX4_setTimerEvent 39 = .ok (.iload_n 2, 1) := by decide +kernel
theorem dX4_setTimerEvent_40 : decode cX4_setTimerEvent 40 = .ok (.iastore, 1) := by decide +kernel
theorem dX4_setTimerEvent_41 : decode cX4_setTimerEvent 41 = .ok (.aload_n 0, 1) := by decide +kernel
theorem dX4_setTimerEvent_42 : decode cX4_setTimerEvent 42 = .ok (.iconst 0, 1) := by decide +kernel
theorem dX4_setTimerEvent_43 : decode cX4_setTimerEvent 43 = .ok (.putfield 90, 3) := by decide +kernel
theorem dX4_setTimerEvent_46 : decode cX4_setTimerEvent 46 = .ok (.iload_n 3, 1) := by decide +kernel
theorem dX4_setTimerEvent_47 : decode cX4_setTimerEvent 47 = .ok (.ireturn, 1) := by decide +kernel
theorem dX4_stateCount_0 : decode cX4_stateCount 0 = .ok (.aload_n 0, 1) := by decide +kernel
theorem dX4_stateCount_1 : decode cX4_stateCount 1 = .ok (.iconst 0, 1) := by decide +kernel
theorem dX4_stateCount_2 : decode cX4_stateCount 2 = .ok (.putfield 76, 3) := by decide +kernel
theorem dX4_stateCount_5 : decode cX4_stateCount 5 = .ok (.aload_n 0, 1) := by decide +kernel
theorem dX4_stateCount_6 : decode cX4_stateCount 6 = .ok (.getfield 7, 3) := by decide +kernel
theorem dX4_stateCount_9 : decode cX4_stateCount 9 = .ok (.ireturn, 1) := by decide +kernel
theorem dX4_transitionCount_0 : decode cX4_transitionCount 0 = .ok (.aload_n 0, 1) := by decide +kernel
theorem dX4_transitionCount_1 : decode cX4_transitionCount 1 = .ok (.iconst 0, 1) := by decide +kernel
theorem dX4_transitionCount_2 : decode cX4_transitionCount 2 = .ok (.putfield 76, 3) := by decide +kernel
theorem dX4_transitionCount_5 : decode cX4_transitionCount 5 = .ok (.aload_n 0, 1) := by decide +kernel
theorem dX4_transitionCount_6 : decode cX4_transitionCount 6 = .ok (.getfield 83, 3) := by decide +kernel
theorem dX4_transitionCount_9 : decode cX4_transitionCount 9 = .ok (.ireturn, 1) := by decide +kernel
theorem dX4_isTrue_0 : decode cX4_isTrue 0 = .ok (.aload_n 0, 1) := by decide +kernel
theorem dX4_isTrue_1 : decode cX4_isTrue 1 = .ok (.getfield 23, 3) := by decide +kernel
theorem dX4_isTrue_4 : decode cX4_isTrue 4 = .ok (.iload_n 1, 1) := by decide +kernel
theorem dX4_isTrue_5 : decode cX4_isTrue 5 = .ok (.iaload, 1) := by decide +kernel
theorem dX4_isTrue_6 : decode cX4_isTrue 6 = .ok (.iconst (-1), 1) := by decide +kernel
theorem dX4_isTrue_7 : decode cX4_isTrue 7 = .ok (.if_icmp .eq 58, 3) := by decide +kernel
theorem dX4_isTrue_10 : decode cX4_isTrue 10 = .ok (.aload_n 0, 1) := by decide +kernel
theorem dX4_isTrue_11 : decode cX4_isTrue 11 = .ok (.getfield 26, 3) := by decide +kernel
theorem dX4_isTrue_14 : decode cX4_isTrue 14 = .ok (.iload_n 1, 1) := by decide +kernel
theorem dX4_isTrue_15 : decode cX4_isTrue 15 = .ok (.iaload, 1) := by decide +kernel
theorem dX4_isTrue_16 : decode cX4_isTrue 16 = .ok (.ifCond .ne 16, 3) := by decide +kernel
theorem dX4_isTrue_19 : decode cX4_isTrue 19 = .ok (.iload_n 2, 1) := by decide +kernel
theorem dX4_isTrue_20 : decode cX4_isTrue 20 = .ok (.aload_n 0, 1) := by decide +kernel
theorem dX4_isTrue_21 : decode cX4_isTrue 21 = .ok (.getfield 29, 3) := by decide +kernel
theorem dX4_isTrue_24 : decode cX4_isTrue 24 = .ok (.iload_n 1, 1) := by decide +kernel
theorem dX4_isTrue_25 : decode cX4_isTrue 25 = .ok (.iaload, 1) := by decide +kernel
theorem dX4_isTrue_26 : decode cX4_isTrue 26 = .ok (.if_icmp .ge 43, 3) := by decide +kernel
theorem dX4_isTrue_29 : decode cX4_isTrue 29 = .ok (.goto 36, 3) := by decide +kernel
theorem dX4_isTrue_32 : decode cX4_isTrue 32 = .ok (.aload_n 0, 1) := by decide +kernel
theorem dX4_isTrue_33 : decode cX4_isTrue 33 = .ok (.getfield 26, 3) := by decide +kernel
theorem dX4_isTrue_36 : decode cX4_isTrue 36 = .ok (.iload_n 1, 1) := by decide +kernel
theorem dX4_isTrue_37 : decode cX4_isTrue 37 = .ok (.iaload, 1) := by decide +kernel
theorem dX4_isTrue_38 : decode cX4_isTrue 38 = .ok (.iconst 1, 1) := by decide +kernel
theorem dX4_isTrue_39 : decode cX4_isTrue 39 = .ok (.if_icmp .ne 16, 3) := by decide +kernel
theorem dX4_isTrue_42 : decode cX4_isTrue 42 = .ok (.iload_n 2, 1) := by decide +kernel
theorem dX4_isTrue_43 : decode cX4_isTrue 43 = .ok (.aload_n 0, 1) := by decide +kernel
theorem dX4_isTrue_44 : decode cX4_isTrue 44 = .ok (.getfield 29, 3) := by decide +kernel
theorem dX4_isTrue_47 : decode cX4_isTrue 47 = .ok (.iload_n 1, 1) := by decide +kernel
theorem dX4_isTrue_48 : decode cX4_isTrue 48 = .ok (.iaload, 1) := by decide +kernel
theorem dX4_isTrue_49 : decode cX4_isTrue 49 = .ok (.if_icmp .ne 20, 3) := by decide +kernel
theorem dX4_isTrue_52 : decode cX4_isTrue 52 = .ok (.goto 13, 3) := by decide +kernel
theorem dX4_isTrue_55 : decode cX4_isTrue 55 = .ok (.iload_n 2, 1) := by decide +kernel
theorem dX4_isTrue_56 : decode cX4_isTrue 56 = .ok (.aload_n 0, 1) := by decide +kernel
theorem dX4_isTrue_57 : decode cX4_isTrue 57 = .ok (.getfield 29, 3) := by decide +kernel
theorem dX4_isTrue_60 : decode cX4_isTrue 60 = .ok (.iload_n 1, 1) := by decide +kernel
theorem dX4_isTrue_61 : decode cX4_isTrue 61 = .ok (.iaload, 1) := by decide +kernel
theorem dX4_isTrue_62 : decode cX4_isTrue 62 = .ok (.if_icmp .le 7, 3) := by decide +kernel
theorem dX4_isTrue_65 : decode cX4_isTrue 65 = .ok (.iconst 1, 1) := by decide +kernel
theorem dX4_isTrue_66 : decode cX4_isTrue 66 = .ok (.goto 4, 3) := by decide +kernel
theorem dX4_isTrue_69 : decode cX4_isTrue 69 = .ok (.iconst 0, 1) := by decide +kernel
theorem dX4_isTrue_70 : decode cX4_isTrue 70 = .ok (.ireturn, 1) := by decide +kernel
set_option maxRecDepth 20000 in
theorem ggX4_hides_X4_isTrue : GoodIn wsX4_hides wsX4_isTrue := goodIn_r _ [8, 3, 9, 10, 11, 12, 13, 14, 15, 16, 17, 18, 19, 20, 21, 22, 23, 24, 25, 26, 27, 28, 29, 30, 31, 32, 33, 34, 35, 36, 37, 38, 39, 40] (by decide +kernel) (by decide +kernel)
set_option maxRecDepth 20000 in
theorem gX4_hides_X4_isTrue : GoodIn wsX4_hides (wsV RX4 107 RX4 yX4_isTrue wsX4_isTrue) := goodIn_app (goodIn_of _ (by decide +kernel)) ggX4_hides_X4_isTrue
theorem dX4_hides_0 : decode cX4_hides 0 = .ok (.aload_n 0, 1) := by decide +kernel
theorem dX4_hides_1 : decode cX4_hides 1 = .ok (.getfield 17, 3) := by decide +kernel
theorem dX4_hides_4 : decode cX4_hides 4 = .ok (.iload_n 1, 1) := by decide +kernel
theorem dX4_hides_5 : decode cX4_hides 5 = .ok (.iaload, 1) := by decide +kernel
theorem dX4_hides_6 : decode cX4_hides 6 = .ok (.aload_n 0, 1) := by decide +kernel
theorem dX4_hides_7 : decode cX4_hides 7 = .ok (.getfield 17, 3) := by decide +kernel
theorem dX4_hides_10 : decode cX4_hides 10 = .ok (.iload_n 2, 1) := by decide +kernel
theorem dX4_hides_11 : decode cX4_hides 11 = .ok (.iaload, 1) := by decide +kernel
theorem dX4_hides_12 : decode cX4_hides 12 = .ok (.if_icmp .ne 18, 3) := by decide +kernel
theorem dX4_hides_15 : decode cX4_hides 15 = .ok (.aload_n 0, 1) := by decide +kernel
theorem dX4_hides_16 : decode cX4_hides 16 = .ok (.getfield 20, 3) := by decide +kernel
theorem dX4_hides_19 : decode cX4_hides 19 = .ok (.iload_n 1, 1) := by decide +kernel
theorem dX4_hides_20 : decode cX4_hides 20 = .ok (.iaload, 1) := by decide +kernel
theorem dX4_hides_21 : decode cX4_hides 21 = .ok (.aload_n 0, 1) := by decide +kernel
theorem dX4_hides_22 : decode cX4_hides 22 = .ok (.getfield 20, 3) := by decide +kernel
theorem dX4_hides_25 : decode cX4_hides 25 = .ok (.iload_n 2, 1) := by decide +kernel
theorem dX4_hides_26 : decode cX4_hides 26 = .ok (.iaload, 1) := by decide +kernel
theorem dX4_hides_27 : decode cX4_hides 27 = .ok (.if_icmp .eq 5, 3) := by decide +kernel
theorem dX4_hides_30 : decode cX4_hides 30 = .ok (.iconst 0, 1) := by decide +kernel
theorem dX4_hides_31 : decode cX4_hides 31 = .ok (.ireturn, 1) := by decide +kernel
theorem dX4_hides_32 : decode cX4_hides 32 = .ok (.aload_n 0, 1) := by decide +kernel
theorem dX4_hides_33 : decode cX4_hides 33 = .ok (.getfield 23, 3) := by decide +kernel
theorem dX4_hides_36 : decode cX4_hides 36 = .ok (.iload_n 1, 1) := by decide +kernel
theorem dX4_hides_37 : decode cX4_hides 37 = .ok (.iaload, 1) := by decide +kernel
theorem dX4_hides_38 : decode cX4_hides 38 = .ok (.iconst (-1), 1) := by decide +kernel
theorem dX4_hides_39 : decode cX4_hides 39 = .ok (.if_icmp .ne 5, 3) := by decide +kernel
theorem dX4_hides_42 : decode cX4_hides 42 = .ok (.iconst 1, 1) := by decide +kernel
theorem dX4_hides_43 : decode cX4_hides 43 = .ok (.ireturn, 1) := by decide +kernel
theorem dX4_hides_44 : decode cX4_hides 44 = .ok (.aload_n 0, 1) := by decide +kernel
theorem dX4_hides_45 : decode cX4_hides 45 = .ok (.getfield 23, 3) := by decide +kernel
theorem dX4_hides_48 : decode cX4_hides 48 = .ok (.iload_n 1, 1) := by decide +kernel
theorem dX4_hides_49 : decode cX4_hides 49 = .ok (.iaload, 1) := by decide +kernel
theorem dX4_hides_50 : decode cX4_hides 50 = .ok (.aload_n 0, 1) := by decide +kernel
theorem dX4_hides_51 : decode cX4_hides 51 = .ok (.getfield 23, 3) := by decide +kernel
theorem dX4_hides_54 : decode cX4_hides 54 = .ok (.iload_n 2, 1) := by decide +kernel
theorem dX4_hides_55 : decode cX4_hides 55 = .ok (.iaload, 1) := by decide +kernel
theorem dX4_hides_56 : decode cX4_hides 56 = .ok (.if_icmp .eq 5, 3) := by decide +kernel
theorem dX4_hides_59 : decode cX4_hides 59 = .ok (.iconst 0, 1) := by decide +kernel
theorem dX4_hides_60 : decode cX4_hides 60 = .ok (.ireturn, 1) := by decide +kernel
theorem dX4_hides_61 : decode cX4_hides 61 = .ok (.iconst 1, 1) := by decide +kernel
theorem dX4_hides_62 : decode cX4_hides 62 = .ok (.istore_n 3, 1) := by decide +kernel
theorem dX4_hides_63 : decode cX4_hides 63 = .ok (.sipush (-1000), 3) := by decide +kernel
theorem dX4_hides_66 : decode cX4_hides 66 = .ok (.istore 4, 2) := by decide +kernel
theorem dX4_hides_68 : decode cX4_hides 68 = .ok (.iload 4, 2) := by decide +kernel
theorem dX4_hides_70 : decode cX4_hides 70 = .ok (.sipush 1000, 3) := by decide +kernel
theorem dX4_hides_73 : decode cX4_hides 73 = .ok (.if_icmp .gt 39, 3) := by decide +kernel
theorem dX4_hides_76 : decode cX4_hides 76 = .ok (.iload_n 3, 1) := by decide +kernel
theorem dX4_hides_77 : decode cX4_hides 77 = .ok (.ifCond .eq 27, 3) := by decide +kernel
theorem dX4_hides_80 : decode cX4_hides 80 = .ok (.aload_n 0, 1) := by decide +kernel
theorem dX4_hides_81 : decode cX4_hides 81 = .ok (.iload_n 2, 1) := by decide +kernel
theorem dX4_hides_82 : decode cX4_hides 82 = .ok (.iload 4, 2) := by decide +kernel
theorem dX4_hides_84 : decode cX4_hides 84 = .ok (.invokevirtual 107, 3) := by decide +kernel
theorem dX4_hides_87 : decode cX4_hides 87 = .ok (.ifCond .eq 13, 3) := by decide +kernel
theorem dX4_hides_90 : decode cX4_hides 90 = .ok (.aload_n 0, 1) := by decide +kernel
theorem dX4_hides_91 : decode cX4_hides 91 = .ok (.iload_n 1, 1) := by decide +kernel
theorem dX4_hides_92 : decode cX4_hides 92 = .ok (.iload 4, 2) := by decide +kernel
theorem dX4_hides_94 : decode cX4_hides 94 = .ok (.invokevirtual 107, 3) := by decide +kernel
theorem dX4_hides_97 : decode cX4_hides 97 = .ok (.ifCond .eq 7, 3) := by decide +kernel
theorem dX4_hides_100 : decode cX4_hides 100 = .ok (.iconst 1, 1) := by decide +kernel
theorem dX4_hides_101 : decode cX4_hides 101 = .ok (.goto 4, 3) := by decide +kernel
theorem dX4_hides_104 : decode cX4_hides 104 = .ok (.iconst 0, 1) := by decide +kernel
theorem dX4_hides_105 : decode cX4_hides 105 = .ok (.istore_n 3, 1) := by decide +kernel
theorem dX4_hides_106 : decode cX4_hides 106 = .ok (.iinc 4 1, 3) := by decide +kernel
theorem dX4_hides_109 : decode cX4_hides 109 = .ok (.goto (-41), 3) := by decide +kernel
theorem dX4_hides_112 : decode cX4_hides 112 = .ok (.iload_n 3, 1) := by decide +kernel
theorem dX4_hides_113 : decode cX4_hides 113 = .ok (.ireturn, 1) := by decide +kernel
set_option maxRecDepth 20000 in
theorem ggX4_isHidden_X4_isTransition : GoodIn wsX4_isHidden wsX4_isTransition := goodIn_r _ [6, 7, 8, 9, 5, 10, 24, 25, 26, 27, 28, 29, 30, 31, 32, 33, 34, 35, 36, 37, 38, 39, 40, 41, 42, 43, 44, 45, 46, 47, 48, 49, 50, 51, 52, 53] (by decide +kernel) (by decide +kernel)
set_option maxRecDepth 20000 in
theorem gX4_isHidden_X4_isTransition : GoodIn wsX4_isHidden (wsV RX4 104 RX4 yX4_isTransition wsX4_isTransition) := goodIn_app (goodIn_of _ (by decide +kernel)) ggX4_isHidden_X4_isTransition
set_option maxRecDepth 20000 in
theorem ggX4_isHidden_X4_hides : GoodIn wsX4_isHidden wsX4_hides := goodIn_r _ [14, 15, 16, 17, 18, 19, 20, 5, 21, 22, 23, 24, 25, 26, 27, 28, 29, 30, 31, 32, 33, 34, 35, 36, 37, 38, 39, 40, 41, 42, 43, 44, 45, 46, 47, 48, 49, 50, 51, 52, 53] (by decide +kernel) (by decide +kernel)
set_option maxRecDepth 20000 in
theorem gX4_isHidden_X4_hides : GoodIn wsX4_isHidden (wsV RX4 111 RX4 yX4_hides wsX4_hides) := goodIn_app (goodIn_of _ (by decide +kernel)) ggX4_isHidden_X4_hides
theorem dX4_isHidden_0 : decode cX4_isHidden 0 = .ok (.aload_n 0, 1) := by decide +kernel
theorem dX4_isHidden_1 : decode cX4_isHidden 1 = .ok (.aload_n 0, 1) := by decide +kernel
theorem dX4_isHidden_2 : decode cX4_isHidden 2 = .ok (.iload_n 1, 1) := by decide +kernel
theorem dX4_isHidden_3 : decode cX4_isHidden 3 = .ok (.invokevirtual 104, 3) := by decide +kernel
theorem dX4_isHidden_6 : decode cX4_isHidden 6 = .ok (.ifCond .eq 7, 3) := by decide +kernel
theorem dX4_isHidden_9 : decode cX4_isHidden 9 = .ok (.iconst 0, 1) := by decide +kernel
theorem dX4_isHidden_10 : decode cX4_isHidden 10 = .ok (.goto 4, 3) := by decide +kernel
theorem dX4_isHidden_13 : decode cX4_isHidden 13 = .ok (.iconst 1, 1) := by decide +kernel
theorem dX4_isHidden_14 : decode cX4_isHidden 14 = .ok (.putfield 76, 3) := by decide +kernel
theorem dX4_isHidden_17 : decode cX4_isHidden 17 = .ok (.iconst 0, 1) := by decide +kernel
theorem dX4_isHidden_18 : decode cX4_isHidden 18 = .ok (.istore_n 2, 1) := by decide +kernel
theorem dX4_isHidden_19 : decode cX4_isHidden 19 = .ok (.iconst 0, 1) := by decide +kernel
theorem dX4_isHidden_20 : decode cX4_isHidden 20 = .ok (.istore_n 3, 1) := by decide +kernel
theorem dX4_isHidden_21 : decode cX4_isHidden 21 = .ok (.iload_n 3, 1) := by decide +kernel
theorem dX4_isHidden_22 : decode cX4_isHidden 22 = .ok (.iload_n 1, 1) := by decide +kernel
theorem dX4_isHidden_23 : decode cX4_isHidden 23 = .ok (.if_icmp .ge 35, 3) := by decide +kernel
theorem dX4_isHidden_26 : decode cX4_isHidden 26 = .ok (.aload_n 0, 1) := by decide +kernel
theorem dX4_isHidden_27 : decode cX4_isHidden 27 = .ok (.getfield 76, 3) := by decide +kernel
theorem dX4_isHidden_30 : decode cX4_isHidden 30 = .ok (.ifCond .ne 28, 3) := by decide +kernel
theorem dX4_isHidden_33 : decode cX4_isHidden 33 = .ok (.iload_n 2, 1) := by decide +kernel
theorem dX4_isHidden_34 : decode cX4_isHidden 34 = .ok (.ifCond .ne 12, 3) := by decide +kernel
theorem dX4_isHidden_37 : decode cX4_isHidden 37 = .ok (.aload_n 0, 1) := by decide +kernel
theorem dX4_isHidden_38 : decode cX4_isHidden 38 = .ok (.iload_n 3, 1) := by decide +kernel
theorem dX4_isHidden_39 : decode cX4_isHidden 39 = .ok (.iload_n 1, 1) := by decide +kernel
theorem dX4_isHidden_40 : decode cX4_isHidden 40 = .ok (.invokevirtual 111, 3) := by decide +kernel
theorem dX4_isHidden_43 : decode cX4_isHidden 43 = .ok (.ifCond .eq 7, 3) := by decide +kernel
theorem dX4_isHidden_46 : decode cX4_isHidden 46 = .ok (.iconst 1, 1) := by decide +kernel
theorem dX4_isHidden_47 : decode cX4_isHidden 47 = .ok (.goto 4, 3) := by decide +kernel
theorem dX4_isHidden_50 : decode cX4_isHidden 50 = .ok (.iconst 0, 1) := by decide +kernel
theorem dX4_isHidden_51 : decode cX4_isHidden 51 = .ok (.istore_n 2, 1) := by decide +kernel
theorem dX4_isHidden_52 : decode cX4_isHidden 52 = .ok (.iinc 3 1, 3) := by decide +kernel
theorem dX4_isHidden_55 : decode cX4_isHidden 55 = .ok (.goto (-34), 3) := by decide +kernel
theorem dX4_isHidden_58 : decode cX4_isHidden 58 = .ok (.iload_n 2, 1) := by decide +kernel
theorem dX4_isHidden_59 : decode cX4_isHidden 59 = .ok (.ireturn, 1) := by decide +kernel
theorem dX4_restart_0 : decode cX4_restart 0 = .ok (.aload_n 0, 1) := by decide +kernel
theorem dX4_restart_1 : decode cX4_restart 1 = .ok (.iconst 0, 1) := by decide +kernel
theorem dX4_restart_2 : decode cX4_restart 2 = .ok (.putfield 76, 3) := by decide +kernel
theorem dX4_restart_5 : decode cX4_restart 5 = .ok (.aload_n 0, 1) := by decide +kernel
theorem dX4_restart_6 : decode cX4_restart 6 = .ok (.getfield 114, 3) := by decide +kernel
theorem dX4_restart_9 : decode cX4_restart 9 = .ok (.lstore_n 1, 1) := by decide +kernel
theorem dX4_restart_10 : decode cX4_restart 10 = .ok (.aload_n 0, 1) := by decide +kernel
theorem dX4_restart_11 : decode cX4_restart 11 = .ok (.lconst 0, 1) := by decide +kernel
theorem dX4_restart_12 : decode cX4_restart 12 = .ok (.putfield 114, 3) := by decide +kernel
theorem dX4_restart_15 : decode cX4_restart 15 = .ok (.aload_n 0, 1) := by decide +kernel
theorem dX4_restart_16 : decode cX4_restart 16 = .ok (.iconst 0, 1) := by decide +kernel
theorem dX4_restart_17 : decode cX4_restart 17 = .ok (.putfield 118, 3) := by decide +kernel
theorem dX4_restart_20 : decode cX4_restart 20 = .ok (.iconst 0, 1) := by decide +kernel
theorem dX4_restart_21 : decode cX4_restart 21 = .ok (.istore_n 3, 1) := by decide +kernel
theorem dX4_restart_22 : decode cX4_restart 22 = .ok (.iload_n 3, 1) := by decide +kernel
theorem dX4_restart_23 : decode cX4_restart 23 = .ok (.iconst 3, 1) := by decide +kernel
theorem dX4_restart_24 : decode cX4_restart 24 = .ok (.if_icmp .ge 16, 3) := by decide +kernel
theorem dX4_restart_27 : decode cX4_restart 27 = .ok (.aload_n 0, 1) := by decide +kernel
theorem dX4_restart_28 : decode cX4_restart 28 = .ok (.getfield 44, 3) := by decide +kernel
theorem dX4_restart_31 : decode cX4_restart 31 = .ok (.iload_n 3, 1) := by decide +kernel
theorem dX4_restart_32 : decode cX4_restart 32 = .ok (.iconst 0, 1) := by decide +kernel
theorem dX4_restart_33 : decode cX4_restart 33 = .ok (.iastore, 1) := by decide +kernel
theorem dX4_restart_34 : decode cX4_restart 34 = .ok (.iinc 3 1, 3) := by decide +kernel
theorem dX4_restart_37 : decode cX4_restart 37 = .ok (.goto (-15), 3) := by decide +kernel
theorem dX4_restart_40 : decode cX4_restart 40 = .ok (.iconst 0, 1) := by decide +kernel
theorem dX4_restart_41 : decode cX4_restart 41 = .ok (.istore_n 3, 1) := by decide +kernel
theorem dX4_restart_42 : decode cX4_restart 42 = .ok (.iload_n 3, 1) := by decide +kernel
theorem dX4_restart_43 : decode cX4_restart 43 = .ok (.iconst 4, 1) := by decide +kernel
theorem dX4_restart_44 : decode cX4_restart 44 = .ok (.if_icmp .ge 16, 3) := by decide +kernel
theorem dX4_restart_47 : decode cX4_restart 47 = .ok (.aload_n 0, 1) := by decide +kernel
theorem dX4_restart_48 : decode cX4_restart 48 = .ok (.getfield 47, 3) := by decide +kernel
theorem dX4_restart_51 : decode cX4_restart 51 = .ok (.iload_n 3, 1) := by decide +kernel
theorem dX4_restart_52 : decode cX4_restart 52 = .ok (.iconst 0, 1) := by decide +kernel
theorem dX4_restart_53 : decode cX4_restart 53 = .ok (.bastore, 1) := by decide +kernel
theorem dX4_restart_54 : decode cX4_restart 54 = .ok (.iinc 3 1, 3) := by decide +kernel
theorem dX4_restart_57 : decode cX4_restart 57 = .ok (.goto (-15), 3) := by decide +kernel
theorem dX4_restart_60 : decode cX4_restart 60 = .ok (.iconst 0, 1) := by decide +kernel
theorem dX4_restart_61 : decode cX4_restart 61 = .ok (.istore_n 3, 1) := by decide +kernel
theorem dX4_restart_62 : decode cX4_restart 62 = .ok (.iload_n 3, 1) := by decide +kernel
theorem dX4_restart_63 : decode cX4_restart 63 = .ok (.bipush 40, 2) := by decide +kernel
theorem dX4_restart_65 : decode cX4_restart 65 = .ok (.if_icmp .ge 16, 3) := by decide +kernel
theorem dX4_restart_68 : decode cX4_restart 68 = .ok (.aload_n 0, 1) := by decide +kernel
