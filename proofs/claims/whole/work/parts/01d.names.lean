set_option maxRecDepth 20000 in
theorem wsL_q16 : ∀ w ∈ wsL_law0_r16, w ∈ lw_tbl := by decide +kernel
set_option maxRecDepth 20000 in
theorem wsL_q17 : ∀ w ∈ wsL_law0_r17, w ∈ lw_tbl := by decide +kernel
set_option maxRecDepth 20000 in
theorem wsL_q18 : ∀ w ∈ wsL_law0_r18, w ∈ lw_tbl := by decide +kernel
set_option maxRecDepth 20000 in
theorem wsL_q19 : ∀ w ∈ wsL_law0_r19, w ∈ lw_tbl := by decide +kernel
set_option maxRecDepth 20000 in
theorem wsL_q20 : ∀ w ∈ wsL_law0_r20, w ∈ lw_tbl := by decide +kernel
set_option maxRecDepth 20000 in
theorem wsL_q21 : ∀ w ∈ wsL_law0_r21, w ∈ lw_tbl := by decide +kernel
set_option maxRecDepth 20000 in
theorem wsL_q22 : ∀ w ∈ wsL_law0_r22, w ∈ lw_tbl := by decide +kernel
set_option maxRecDepth 20000 in
theorem wsL_q23 : ∀ w ∈ wsL_law0_r23, w ∈ lw_tbl := by decide +kernel
set_option maxRecDepth 20000 in
theorem wsL_q24 : ∀ w ∈ wsL_law0_r24, w ∈ lw_tbl := by decide +kernel
set_option maxRecDepth 20000 in
theorem wsL_q25 : ∀ w ∈ wsL_law0_r25, w ∈ lw_tbl := by decide +kernel
set_option maxRecDepth 20000 in
theorem wsL_q26 : ∀ w ∈ wsL_law0_r26, w ∈ lw_tbl := by decide +kernel
set_option maxRecDepth 20000 in
theorem wsL_q27 : ∀ w ∈ wsL_law0_r27, w ∈ lw_tbl := by decide +kernel
set_option maxRecDepth 20000 in
theorem wsL_q28 : ∀ w ∈ wsL_law0_r28, w ∈ lw_tbl := by decide +kernel
set_option maxRecDepth 20000 in
theorem wsL_q29 : ∀ w ∈ wsL_law0_r29, w ∈ lw_tbl := by decide +kernel
set_option maxRecDepth 20000 in
theorem wsL_q30 : ∀ w ∈ wsL_law0_r30, w ∈ lw_tbl := by decide +kernel
set_option maxRecDepth 20000 in
theorem wsL_qX3 : ∀ w ∈ wsX30, w ∈ lw_tbl := by decide +kernel
set_option maxRecDepth 20000 in
theorem wsL_qX4 : ∀ w ∈ wsX40, w ∈ lw_tbl := by decide +kernel
set_option maxRecDepth 20000 in
theorem wsL_qX1 : ∀ w ∈ wsX10, w ∈ lw_tbl := by decide +kernel
set_option maxRecDepth 20000 in
theorem wsL_qX0 : ∀ w ∈ wsX00, w ∈ lw_tbl := by decide +kernel
set_option maxRecDepth 20000 in
theorem wsL_qX2 : ∀ w ∈ wsX20, w ∈ lw_tbl := by decide +kernel
theorem wsL_law_in0 : ∀ w ∈ wsL_law0, w ∈ lw_tbl := (wsL_ap (wsL_ap (wsL_ap (wsL_ap (wsL_ap (wsL_ap (wsL_ap wsL_q1 (wsL_ap wsL_q2 (wsL_ap wsL_q3 (wsL_ap wsL_q4 (wsL_ap wsL_q5 (wsL_ap wsL_q6 (wsL_ap wsL_q7 (wsL_ap wsL_q8 (wsL_ap wsL_q9 (wsL_ap wsL_q10 (wsL_ap wsL_q11 (wsL_ap wsL_q12 (wsL_ap wsL_q13 (wsL_ap wsL_q14 (wsL_ap wsL_q15 (wsL_ap wsL_q16 (wsL_ap wsL_q17 (wsL_ap wsL_q18 (wsL_ap wsL_q19 (wsL_ap wsL_q20 (wsL_ap wsL_q21 (wsL_ap wsL_q22 (wsL_ap wsL_q23 (wsL_ap wsL_q24 (wsL_ap wsL_q25 (wsL_ap wsL_q26 (wsL_ap wsL_q27 (wsL_ap wsL_q28 (wsL_ap wsL_q29 wsL_q30))))))))))))))))))))))))))))) wsL_qX3) wsL_qX4) wsL_qX1) wsL_qX0) wsL_qX2) (fun _ h => absurd h List.not_mem_nil))
theorem wsL_law_x0 : ∀ w ∈ (vx_atS RX3 40 "java/lang/IllegalStateException" ["java/lang/RuntimeException", "java/lang/Exception"]).filter goodWord, w ∈ lw_tbl := by decide +kernel
theorem wsL_law_x1 : ∀ w ∈ (vx_atS RX3 55 "java/lang/IndexOutOfBoundsException" ["java/lang/RuntimeException", "java/lang/Exception"]).filter goodWord, w ∈ lw_tbl := by decide +kernel
theorem wsL_law_x2 : ∀ w ∈ (vx_atS RX3 68 "java/lang/IllegalArgumentException" ["java/lang/RuntimeException", "java/lang/Exception"]).filter goodWord, w ∈ lw_tbl := by decide +kernel
theorem wsL_law_in : ∀ w ∈ wsL_law, w ∈ lw_tbl := fun w h => (List.mem_append.mp h).elim (fun h => (List.mem_append.mp h).elim (fun h => (List.mem_append.mp h).elim (fun h => wsL_law_in0 w h) (fun h => wsL_law_x0 w h)) (fun h => wsL_law_x1 w h)) (fun h => wsL_law_x2 w h)
theorem inlX0 : ∀ w ∈ wsX00, w ∈ wsL_law := fun _ h => List.mem_append_left _ (List.mem_append_left _ (List.mem_append_left _ (List.mem_append_left _ (List.mem_append_left _ (List.mem_append_right _ h)))))
theorem inX0 : ∀ w ∈ wsX00, w ∈ lw_tbl := fun w h => wsL_law_in w (inlX0 w h)
theorem inlX1 : ∀ w ∈ wsX10, w ∈ wsL_law := fun _ h => List.mem_append_left _ (List.mem_append_left _ (List.mem_append_left _ (List.mem_append_left _ (List.mem_append_left _ (List.mem_append_left _ (List.mem_append_right _ h))))))
theorem inX1 : ∀ w ∈ wsX10, w ∈ lw_tbl := fun w h => wsL_law_in w (inlX1 w h)
theorem inlX2 : ∀ w ∈ wsX20, w ∈ wsL_law := fun _ h => List.mem_append_left _ (List.mem_append_left _ (List.mem_append_left _ (List.mem_append_left _ (List.mem_append_right _ h))))
theorem inX2 : ∀ w ∈ wsX20, w ∈ lw_tbl := fun w h => wsL_law_in w (inlX2 w h)
theorem inlX3 : ∀ w ∈ wsX30, w ∈ wsL_law := fun _ h => List.mem_append_left _ (List.mem_append_left _ (List.mem_append_left _ (List.mem_append_left _ (List.mem_append_left _ (List.mem_append_left _ (List.mem_append_left _ (List.mem_append_left _ (List.mem_append_right _ h))))))))
theorem inX3 : ∀ w ∈ wsX30, w ∈ lw_tbl := fun w h => wsL_law_in w (inlX3 w h)
theorem inlX4 : ∀ w ∈ wsX40, w ∈ wsL_law := fun _ h => List.mem_append_left _ (List.mem_append_left _ (List.mem_append_left _ (List.mem_append_left _ (List.mem_append_left _ (List.mem_append_left _ (List.mem_append_left _ (List.mem_append_right _ h)))))))
theorem inX4 : ∀ w ∈ wsX40, w ∈ lw_tbl := fun w h => wsL_law_in w (inlX4 w h)
theorem inJx145de : ∀ w ∈ wsJx145de0, w ∈ lw_tbl := by decide +kernel
theorem inJ6 : ∀ w ∈ wsJ60, w ∈ lw_tbl := by decide +kernel
theorem inJ9 : ∀ w ∈ wsJ90, w ∈ lw_tbl := by decide +kernel
theorem inJ0 : ∀ w ∈ wsJ00, w ∈ lw_tbl := by decide +kernel
theorem inJ10 : ∀ w ∈ wsJ100, w ∈ lw_tbl := by decide +kernel
theorem inJ7 : ∀ w ∈ wsJ70, w ∈ lw_tbl := by decide +kernel
set_option maxRecDepth 20000 in
theorem ggX0_init_J7_fill_d0a16 : GoodIn wsX0_init wsJ7_fill_d0a16 := goodIn_r _ [20] (by decide +kernel) (by decide +kernel)
set_option maxRecDepth 20000 in
theorem gX0_init_J7_fill_d0a16 : GoodIn wsX0_init (va_wsS RX0 48 yJ7_fill_d0a16 wsJ7_fill_d0a16) := goodIn_app (goodIn_of _ (by decide +kernel)) ggX0_init_J7_fill_d0a16
theorem tbX0_init_0 : ∀ q ∈ ([(0, .aload_n 0, 1), (1, .invokespecial 3, 3), (4, .aload_n 0, 1), (5, .iconst 0, 1), (6, .putfield 9, 3), (9, .aload_n 0, 1), (10, .lconst 0, 1), (11, .putfield 15, 3), (14, .aload_n 0, 1), (15, .iconst 0, 1), (16, .putfield 19, 3), (19, .aload_n 0, 1), (20, .iconst 0, 1), (21, .putfield 22, 3), (24, .aload_n 0, 1), (25, .iconst 0, 1), (26, .putfield 25, 3), (29, .aload_n 0, 1), (30, .iconst 3, 1), (31, .newarray .int, 2), (33, .putfield 28, 3), (36, .aload_n 0, 1), (37, .iconst 4, 1), (38, .newarray .long, 2), (40, .putfield 32, 3), (43, .aload_n 0, 1), (44, .bipush 60, 2), (46, .newarray .int, 2), (48, .putfield 36, 3), (51, .aload_n 0, 1), (52, .bipush 40, 2), (54, .newarray .int, 2), (56, .putfield 39, 3), (59, .aload_n 0, 1), (60, .aload_n 1, 1), (61, .putfield 42, 3), (64, .aload_n 0, 1), (65, .getfield 32, 3), (68, .ldc2_w 46, 3), (71, .invokestatic 48, 3)] : List (Nat × Instr × Nat)), decode cX0_init q.1 = .ok (q.2.1, q.2.2) := by decide +kernel
theorem dX0_init_0 : decode cX0_init 0 = .ok (.aload_n 0, 1) := tbX0_init_0 (0, .aload_n 0, 1) (List.mem_of_getElem? (i := 0) rfl)
theorem dX0_init_1 : decode cX0_init 1 = .ok (.invokespecial 3, 3) := tbX0_init_0 (1, .invokespecial 3, 3) (List.mem_of_getElem? (i := 1) rfl)
theorem dX0_init_4 : decode cX0_init 4 = .ok (.aload_n 0, 1) := tbX0_init_0 (4, .aload_n 0, 1) (List.mem_of_getElem? (i := 2) rfl)
theorem dX0_init_5 : decode cX0_init 5 = .ok (.iconst 0, 1) := tbX0_init_0 (5, .iconst 0, 1) (List.mem_of_getElem? (i := 3) rfl)
theorem dX0_init_6 : decode cX0_init 6 = .ok (.putfield 9, 3) := tbX0_init_0 (6, .putfield 9, 3) (List.mem_of_getElem? (i := 4) rfl)
theorem dX0_init_9 : decode cX0_init 9 = .ok (.aload_n 0, 1) := tbX0_init_0 (9, .aload_n 0, 1) (List.mem_of_getElem? (i := 5) rfl)
theorem dX0_init_10 : decode cX0_init 10 = .ok (.lconst 0, 1) := tbX0_init_0 (10, .lconst 0, 1) (List.mem_of_getElem? (i := 6) rfl)
theorem dX0_init_11 : decode cX0_init 11 = .ok (.putfield 15, 3) := tbX0_init_0 (11, .putfield 15, 3) (List.mem_of_getElem? (i := 7) rfl)
theorem dX0_init_14 : decode cX0_init 14 = .ok (.aload_n 0, 1) := tbX0_init_0 (14, .aload_n 0, 1) (List.mem_of_getElem? (i := 8) rfl)
theorem dX0_init_15 : decode cX0_init 15 = .ok (.iconst 0, 1) := tbX0_init_0 (15, .iconst 0, 1) (List.mem_of_getElem? (i := 9) rfl)
theorem dX0_init_16 : decode cX0_init 16 = .ok (.putfield 19, 3) := tbX0_init_0 (16, .putfield 19, 3) (List.mem_of_getElem? (i := 10) rfl)
theorem dX0_init_19 : decode cX0_init 19 = .ok (.aload_n 0, 1) := tbX0_init_0 (19, .aload_n 0, 1) (List.mem_of_getElem? (i := 11) rfl)
theorem dX0_init_20 : decode cX0_init 20 = .ok (.iconst 0, 1) := tbX0_init_0 (20, .iconst 0, 1) (List.mem_of_getElem? (i := 12) rfl)
theorem dX0_init_21 : decode cX0_init 21 = .ok (.putfield 22, 3) := tbX0_init_0 (21, .putfield 22, 3) (List.mem_of_getElem? (i := 13) rfl)
theorem dX0_init_24 : decode cX0_init 24 = .ok (.aload_n 0, 1) := tbX0_init_0 (24, .aload_n 0, 1) (List.mem_of_getElem? (i := 14) rfl)
theorem dX0_init_25 : decode cX0_init 25 = .ok (.iconst 0, 1) := tbX0_init_0 (25, .iconst 0, 1) (List.mem_of_getElem? (i := 15) rfl)
theorem dX0_init_26 : decode cX0_init 26 = .ok (.putfield 25, 3) := tbX0_init_0 (26, .putfield 25, 3) (List.mem_of_getElem? (i := 16) rfl)
theorem dX0_init_29 : decode cX0_init 29 = .ok (.aload_n 0, 1) := tbX0_init_0 (29, .aload_n 0, 1) (List.mem_of_getElem? (i := 17) rfl)
theorem dX0_init_30 : decode cX0_init 30 = .ok (.iconst 3, 1) := tbX0_init_0 (30, .iconst 3, 1) (List.mem_of_getElem? (i := 18) rfl)
theorem dX0_init_31 : decode cX0_init 31 = .ok (.newarray .int, 2) := tbX0_init_0 (31, .newarray .int, 2) (List.mem_of_getElem? (i := 19) rfl)
theorem dX0_init_33 : decode cX0_init 33 = .ok (.putfield 28, 3) := tbX0_init_0 (33, .putfield 28, 3) (List.mem_of_getElem? (i := 20) rfl)
theorem dX0_init_36 : decode cX0_init 36 = .ok (.aload_n 0, 1) := tbX0_init_0 (36, .aload_n 0, 1) (List.mem_of_getElem? (i := 21) rfl)
theorem dX0_init_37 : decode cX0_init 37 = .ok (.iconst 4, 1) := tbX0_init_0 (37, .iconst 4, 1) (List.mem_of_getElem? (i := 22) rfl)
theorem dX0_init_38 : decode cX0_init 38 = .ok (.newarray .long, 2) := tbX0_init_0 (38, .newarray .long, 2) (List.mem_of_getElem? (i := 23) rfl)
theorem dX0_init_40 : decode cX0_init 40 = .ok (.putfield 32, 3) := tbX0_init_0 (40, .putfield 32, 3) (List.mem_of_getElem? (i := 24) rfl)
theorem dX0_init_43 : decode cX0_init 43 = .ok (.aload_n 0, 1) := tbX0_init_0 (43, .aload_n 0, 1) (List.mem_of_getElem? (i := 25) rfl)
theorem dX0_init_44 : decode cX0_init 44 = .ok (.bipush 60, 2) := tbX0_init_0 (44, .bipush 60, 2) (List.mem_of_getElem? (i := 26) rfl)
theorem dX0_init_46 : decode cX0_init 46 = .ok (.newarray .int, 2) := tbX0_init_0 (46, .newarray .int, 2) (List.mem_of_getElem? (i := 27) rfl)
theorem dX0_init_48 : decode cX0_init 48 = .ok (.putfield 36, 3) := tbX0_init_0 (48, .putfield 36, 3) (List.mem_of_getElem? (i := 28) rfl)
theorem dX0_init_51 : decode cX0_init 51 = .ok (.aload_n 0, 1) := tbX0_init_0 (51, .aload_n 0, 1) (List.mem_of_getElem? (i := 29) rfl)
theorem dX0_init_52 : decode cX0_init 52 = .ok (.bipush 40, 2) := tbX0_init_0 (52, .bipush 40, 2) (List.mem_of_getElem? (i := 30) rfl)
theorem dX0_init_54 : decode cX0_init 54 = .ok (.newarray .int, 2) := tbX0_init_0 (54, .newarray .int, 2) (List.mem_of_getElem? (i := 31) rfl)
theorem dX0_init_56 : decode cX0_init 56 = .ok (.putfield 39, 3) := tbX0_init_0 (56, .putfield 39, 3) (List.mem_of_getElem? (i := 32) rfl)
theorem dX0_init_59 : decode cX0_init 59 = .ok (.aload_n 0, 1) := tbX0_init_0 (59, .aload_n 0, 1) (List.mem_of_getElem? (i := 33) rfl)
theorem dX0_init_60 : decode cX0_init 60 = .ok (.aload_n 1, 1) := tbX0_init_0 (60, .aload_n 1, 1) (List.mem_of_getElem? (i := 34) rfl)
theorem dX0_init_61 : decode cX0_init 61 = .ok (.putfield 42, 3) := tbX0_init_0 (61, .putfield 42, 3) (List.mem_of_getElem? (i := 35) rfl)
theorem dX0_init_64 : decode cX0_init 64 = .ok (.aload_n 0, 1) := tbX0_init_0 (64, .aload_n 0, 1) (List.mem_of_getElem? (i := 36) rfl)
theorem dX0_init_65 : decode cX0_init 65 = .ok (.getfield 32, 3) := tbX0_init_0 (65, .getfield 32, 3) (List.mem_of_getElem? (i := 37) rfl)
theorem dX0_init_68 : decode cX0_init 68 = .ok (.ldc2_w 46, 3) := tbX0_init_0 (68, .ldc2_w 46, 3) (List.mem_of_getElem? (i := 38) rfl)
theorem dX0_init_71 : decode cX0_init 71 = .ok (.invokestatic 48, 3) := tbX0_init_0 (71, .invokestatic 48, 3) (List.mem_of_getElem? (i := 39) rfl)
theorem tbX0_init_74 : ∀ q ∈ ([(74, .return_, 1)] : List (Nat × Instr × Nat)), decode cX0_init q.1 = .ok (q.2.1, q.2.2) := by decide +kernel
theorem dX0_init_74 : decode cX0_init 74 = .ok (.return_, 1) := tbX0_init_74 (74, .return_, 1) (List.mem_of_getElem? (i := 0) rfl)
set_option maxRecDepth 20000 in
theorem ggX0_begin_J7_fill_53178 : GoodIn wsX0_begin wsJ7_fill_53178 := goodIn_r _ [13] (by decide +kernel) (by decide +kernel)
set_option maxRecDepth 20000 in
theorem gX0_begin_J7_fill_53178 : GoodIn wsX0_begin (va_wsS RX0 54 yJ7_fill_53178 wsJ7_fill_53178) := goodIn_app (goodIn_of _ (by decide +kernel)) ggX0_begin_J7_fill_53178
set_option maxRecDepth 20000 in
theorem ggX0_begin_J7_fill_d0a16 : GoodIn wsX0_begin wsJ7_fill_d0a16 := goodIn_r _ [16] (by decide +kernel) (by decide +kernel)
set_option maxRecDepth 20000 in
theorem gX0_begin_J7_fill_d0a16 : GoodIn wsX0_begin (va_wsS RX0 48 yJ7_fill_d0a16 wsJ7_fill_d0a16) := goodIn_app (goodIn_of _ (by decide +kernel)) ggX0_begin_J7_fill_d0a16
theorem tbX0_begin_0 : ∀ q ∈ ([(0, .aload_n 0, 1), (1, .iconst 0, 1), (2, .putfield 9, 3), (5, .aload_n 0, 1), (6, .lconst 0, 1), (7, .putfield 15, 3), (10, .aload_n 0, 1), (11, .iconst 0, 1), (12, .putfield 19, 3), (15, .aload_n 0, 1), (16, .iconst 0, 1), (17, .putfield 22, 3), (20, .aload_n 0, 1), (21, .iconst 0, 1), (22, .putfield 25, 3), (25, .aload_n 0, 1), (26, .getfield 28, 3), (29, .iconst 0, 1), (30, .invokestatic 54, 3), (33, .aload_n 0, 1), (34, .getfield 32, 3), (37, .ldc2_w 46, 3), (40, .invokestatic 48, 3), (43, .aload_n 0, 1), (44, .getfield 39, 3), (47, .iconst 0, 1), (48, .invokestatic 54, 3), (51, .return_, 1)] : List (Nat × Instr × Nat)), decode cX0_begin q.1 = .ok (q.2.1, q.2.2) := by decide +kernel
theorem dX0_begin_0 : decode cX0_begin 0 = .ok (.aload_n 0, 1) := tbX0_begin_0 (0, .aload_n 0, 1) (List.mem_of_getElem? (i := 0) rfl)
theorem dX0_begin_1 : decode cX0_begin 1 = .ok (.iconst 0, 1) := tbX0_begin_0 (1, .iconst 0, 1) (List.mem_of_getElem? (i := 1) rfl)
theorem dX0_begin_2 : decode cX0_begin 2 = .ok (.putfield 9, 3) := tbX0_begin_0 (2, .putfield 9, 3) (List.mem_of_getElem? (i := 2) rfl)
theorem dX0_begin_5 : decode cX0_begin 5 = .ok (.aload_n 0, 1) := tbX0_begin_0 (5, .aload_n 0, 1) (List.mem_of_getElem? (i := 3) rfl)
theorem dX0_begin_6 : decode cX0_begin 6 = .ok (.lconst 0, 1) := tbX0_begin_0 (6, .lconst 0, 1) (List.mem_of_getElem? (i := 4) rfl)
theorem dX0_begin_7 : decode cX0_begin 7 = .ok (.putfield 15, 3) := tbX0_begin_0 (7, .putfield 15, 3) (List.mem_of_getElem? (i := 5) rfl)
theorem dX0_begin_10 : decode cX0_begin 10 = .ok (.aload_n 0, 1) := tbX0_begin_0 (10, .aload_n 0, 1) (List.mem_of_getElem? (i := 6) rfl)
theorem dX0_begin_11 : decode cX0_begin 11 = .ok (.iconst 0, 1) := tbX0_begin_0 (11, .iconst 0, 1) (List.mem_of_getElem? (i := 7) rfl)
theorem dX0_begin_12 : decode cX0_begin 12 = .ok (.putfield 19, 3) := tbX0_begin_0 (12, .putfield 19, 3) (List.mem_of_getElem? (i := 8) rfl)
theorem dX0_begin_15 : decode cX0_begin 15 = .ok (.aload_n 0, 1) := tbX0_begin_0 (15, .aload_n 0, 1) (List.mem_of_getElem? (i := 9) rfl)
theorem dX0_begin_16 : decode cX0_begin 16 = .ok (.iconst 0, 1) := tbX0_begin_0 (16, .iconst 0, 1) (List.mem_of_getElem? (i := 10) rfl)
theorem dX0_begin_17 : decode cX0_begin 17 = .ok (.putfield 22, 3) := tbX0_begin_0 (17, .putfield 22, 3) (List.mem_of_getElem? (i := 11) rfl)
theorem dX0_begin_20 : decode cX0_begin 20 = .ok (.aload_n 0, 1) := tbX0_begin_0 (20, .aload_n 0, 1) (List.mem_of_getElem? (i := 12) rfl)
theorem dX0_begin_21 : decode cX0_begin 21 = .ok (.iconst 0, 1) := tbX0_begin_0 (21, .iconst 0, 1) (List.mem_of_getElem? (i := 13) rfl)
theorem dX0_begin_22 : decode cX0_begin 22 = .ok (.putfield 25, 3) := tbX0_begin_0 (22, .putfield 25, 3) (List.mem_of_getElem? (i := 14) rfl)
theorem dX0_begin_25 : decode cX0_begin 25 = .ok (.aload_n 0, 1) := tbX0_begin_0 (25, .aload_n 0, 1) (List.mem_of_getElem? (i := 15) rfl)
theorem dX0_begin_26 : decode cX0_begin 26 = .ok (.getfield 28, 3) := tbX0_begin_0 (26, .getfield 28, 3) (List.mem_of_getElem? (i := 16) rfl)
theorem dX0_begin_29 : decode cX0_begin 29 = .ok (.iconst 0, 1) := tbX0_begin_0 (29, .iconst 0, 1) (List.mem_of_getElem? (i := 17) rfl)
theorem dX0_begin_30 : decode cX0_begin 30 = .ok (.invokestatic 54, 3) := tbX0_begin_0 (30, .invokestatic 54, 3) (List.mem_of_getElem? (i := 18) rfl)
theorem dX0_begin_33 : decode cX0_begin 33 = .ok (.aload_n 0, 1) := tbX0_begin_0 (33, .aload_n 0, 1) (List.mem_of_getElem? (i := 19) rfl)
theorem dX0_begin_34 : decode cX0_begin 34 = .ok (.getfield 32, 3) := tbX0_begin_0 (34, .getfield 32, 3) (List.mem_of_getElem? (i := 20) rfl)
theorem dX0_begin_37 : decode cX0_begin 37 = .ok (.ldc2_w 46, 3) := tbX0_begin_0 (37, .ldc2_w 46, 3) (List.mem_of_getElem? (i := 21) rfl)
theorem dX0_begin_40 : decode cX0_begin 40 = .ok (.invokestatic 48, 3) := tbX0_begin_0 (40, .invokestatic 48, 3) (List.mem_of_getElem? (i := 22) rfl)
theorem dX0_begin_43 : decode cX0_begin 43 = .ok (.aload_n 0, 1) := tbX0_begin_0 (43, .aload_n 0, 1) (List.mem_of_getElem? (i := 23) rfl)
theorem dX0_begin_44 : decode cX0_begin 44 = .ok (.getfield 39, 3) := tbX0_begin_0 (44, .getfield 39, 3) (List.mem_of_getElem? (i := 24) rfl)
theorem dX0_begin_47 : decode cX0_begin 47 = .ok (.iconst 0, 1) := tbX0_begin_0 (47, .iconst 0, 1) (List.mem_of_getElem? (i := 25) rfl)
theorem dX0_begin_48 : decode cX0_begin 48 = .ok (.invokestatic 54, 3) := tbX0_begin_0 (48, .invokestatic 54, 3) (List.mem_of_getElem? (i := 26) rfl)
theorem dX0_begin_51 : decode cX0_begin 51 = .ok (.return_, 1) := tbX0_begin_0 (51, .return_, 1) (List.mem_of_getElem? (i := 27) rfl)
theorem tbX0_ticksLeft_0 : ∀ q ∈ ([(0, .aload_n 0, 1), (1, .getfield 32, 3), (4, .iload_n 1, 1), (5, .laload, 1), (6, .ldc2_w 46, 3), (9, .lcmp, 1), (10, .ifCond .ne 7, 3), (13, .iconst (-1), 1), (14, .goto 15, 3), (17, .aload_n 0, 1), (18, .getfield 32, 3), (21, .iload_n 1, 1), (22, .laload, 1), (23, .aload_n 0, 1), (24, .getfield 15, 3), (27, .lsub, 1), (28, .l2i, 1), (29, .ireturn, 1)] : List (Nat × Instr × Nat)), decode cX0_ticksLeft q.1 = .ok (q.2.1, q.2.2) := by decide +kernel
theorem dX0_ticksLeft_0 : decode cX0_ticksLeft 0 = .ok (.aload_n 0, 1) := tbX0_ticksLeft_0 (0, .aload_n 0, 1) (List.mem_of_getElem? (i := 0) rfl)
theorem dX0_ticksLeft_1 : decode cX0_ticksLeft 1 = .ok (.getfield 32, 3) := tbX0_ticksLeft_0 (1, .getfield 32, 3) (List.mem_of_getElem? (i := 1) rfl)
theorem dX0_ticksLeft_4 : decode cX0_ticksLeft 4 = .ok (.iload_n 1, 1) := tbX0_ticksLeft_0 (4, .iload_n 1, 1) (List.mem_of_getElem? (i := 2) rfl)
theorem dX0_ticksLeft_5 : decode cX0_ticksLeft 5 = .ok (.laload, 1) := tbX0_ticksLeft_0 (5, .laload, 1) (List.mem_of_getElem? (i := 3) rfl)
theorem dX0_ticksLeft_6 : decode cX0_ticksLeft 6 = .ok (.ldc2_w 46, 3) := tbX0_ticksLeft_0 (6, .ldc2_w 46, 3) (List.mem_of_getElem? (i := 4) rfl)
theorem dX0_ticksLeft_9 : decode cX0_ticksLeft 9 = .ok (.lcmp, 1) := tbX0_ticksLeft_0 (9, .lcmp, 1) (List.mem_of_getElem? (i := 5) rfl)
theorem dX0_ticksLeft_10 : decode cX0_ticksLeft 10 = .ok (.ifCond .ne 7, 3) := tbX0_ticksLeft_0 (10, .ifCond .ne 7, 3) (List.mem_of_getElem? (i := 6) rfl)
theorem dX0_ticksLeft_13 : decode cX0_ticksLeft 13 = .ok (.iconst (-1), 1) := tbX0_ticksLeft_0 (13, .iconst (-1), 1) (List.mem_of_getElem? (i := 7) rfl)
theorem dX0_ticksLeft_14 : decode cX0_ticksLeft 14 = .ok (.goto 15, 3) := tbX0_ticksLeft_0 (14, .goto 15, 3) (List.mem_of_getElem? (i := 8) rfl)
theorem dX0_ticksLeft_17 : decode cX0_ticksLeft 17 = .ok (.aload_n 0, 1) := tbX0_ticksLeft_0 (17, .aload_n 0, 1) (List.mem_of_getElem? (i := 9) rfl)
theorem dX0_ticksLeft_18 : decode cX0_ticksLeft 18 = .ok (.getfield 32, 3) := tbX0_ticksLeft_0 (18, .getfield 32, 3) (List.mem_of_getElem? (i := 10) rfl)
theorem dX0_ticksLeft_21 : decode cX0_ticksLeft 21 = .ok (.iload_n 1, 1) := tbX0_ticksLeft_0 (21, .iload_n 1, 1) (List.mem_of_getElem? (i := 11) rfl)
theorem dX0_ticksLeft_22 : decode cX0_ticksLeft 22 = .ok (.laload, 1) := tbX0_ticksLeft_0 (22, .laload, 1) (List.mem_of_getElem? (i := 12) rfl)
theorem dX0_ticksLeft_23 : decode cX0_ticksLeft 23 = .ok (.aload_n 0, 1) := tbX0_ticksLeft_0 (23, .aload_n 0, 1) (List.mem_of_getElem? (i := 13) rfl)
theorem dX0_ticksLeft_24 : decode cX0_ticksLeft 24 = .ok (.getfield 15, 3) := tbX0_ticksLeft_0 (24, .getfield 15, 3) (List.mem_of_getElem? (i := 14) rfl)
theorem dX0_ticksLeft_27 : decode cX0_ticksLeft 27 = .ok (.lsub, 1) := tbX0_ticksLeft_0 (27, .lsub, 1) (List.mem_of_getElem? (i := 15) rfl)
theorem dX0_ticksLeft_28 : decode cX0_ticksLeft 28 = .ok (.l2i, 1) := tbX0_ticksLeft_0 (28, .l2i, 1) (List.mem_of_getElem? (i := 16) rfl)
theorem dX0_ticksLeft_29 : decode cX0_ticksLeft 29 = .ok (.ireturn, 1) := tbX0_ticksLeft_0 (29, .ireturn, 1) (List.mem_of_getElem? (i := 17) rfl)
set_option maxRecDepth 20000 in
theorem ggX0_react_X0_firstTrue : GoodIn wsX0_react wsX0_firstTrue := goodIn_r _ [11, 3, 6, 12, 13, 14, 15, 16, 17, 18, 19, 20, 21, 22, 10, 23, 24, 25, 26, 27, 28, 29, 30, 31, 32, 33, 34, 35, 60, 61, 62, 63, 64, 65, 66, 67, 68, 69, 70, 71, 72, 73, 74, 75, 76, 77, 78, 79, 80, 81, 82] (by decide +kernel) (by decide +kernel)
set_option maxRecDepth 20000 in
theorem gX0_react_X0_firstTrue : GoodIn wsX0_react (wsV RX0 57 RX0 yX0_firstTrue wsX0_firstTrue) := goodIn_app (goodIn_of _ (by decide +kernel)) ggX0_react_X0_firstTrue
set_option maxRecDepth 20000 in
theorem ggX0_react_X0_act : GoodIn wsX0_react wsX0_act := goodIn_r _ [39, 3, 40, 41, 42, 25, 43, 44, 45, 46, 47, 48, 49, 50, 51, 52, 53, 54, 55, 10, 56, 57, 58, 59, 60, 61, 62, 63, 64, 65, 66, 67, 68, 69, 70, 71, 72, 73, 74, 75, 76, 77, 78, 79, 80, 81, 82] (by decide +kernel) (by decide +kernel)
set_option maxRecDepth 20000 in
theorem gX0_react_X0_act : GoodIn wsX0_react (wsV RX0 66 RX0 yX0_act wsX0_act) := goodIn_app (goodIn_of _ (by decide +kernel)) ggX0_react_X0_act
theorem tbX0_react_0 : ∀ q ∈ ([(0, .aload_n 0, 1), (1, .iload_n 1, 1), (2, .invokevirtual 57, 3), (5, .istore_n 2, 1), (6, .iload_n 2, 1), (7, .iconst (-1), 1), (8, .if_icmp .ne 15, 3), (11, .aload_n 0, 1), (12, .dup, 1), (13, .getfield 25, 3), (16, .iconst 1, 1), (17, .iadd, 1), (18, .putfield 25, 3), (21, .iconst (-1), 1), (22, .ireturn, 1), (23, .aload_n 0, 1), (24, .getfield 39, 3), (27, .iload_n 2, 1), (28, .dup2, 1), (29, .iaload, 1), (30, .iconst 1, 1), (31, .iadd, 1), (32, .iastore, 1), (33, .iconst 0, 1), (34, .istore_n 3, 1), (35, .iload_n 3, 1), (36, .aload_n 0, 1), (37, .getfield 42, 3), (40, .getfield 61, 3), (43, .iload_n 2, 1), (44, .iaload, 1), (45, .if_icmp .ge 18, 3), (48, .aload_n 0, 1), (49, .iconst 3, 1), (50, .iload_n 2, 1), (51, .imul, 1), (52, .iload_n 3, 1), (53, .iadd, 1), (54, .invokevirtual 66, 3), (57, .iinc 3 1, 3)] : List (Nat × Instr × Nat)), decode cX0_react q.1 = .ok (q.2.1, q.2.2) := by decide +kernel
theorem dX0_react_0 : decode cX0_react 0 = .ok (.aload_n 0, 1) := tbX0_react_0 (0, .aload_n 0, 1) (List.mem_of_getElem? (i := 0) rfl)
theorem dX0_react_1 : decode cX0_react 1 = .ok (.iload_n 1, 1) := tbX0_react_0 (1, .iload_n 1, 1) (List.mem_of_getElem? (i := 1) rfl)
theorem dX0_react_2 : decode cX0_react 2 = .ok (.invokevirtual 57, 3) := tbX0_react_0 (2, .invokevirtual 57, 3) (List.mem_of_getElem? (i := 2) rfl)
theorem dX0_react_5 : decode cX0_react 5 = .ok (.istore_n 2, 1) := tbX0_react_0 (5, .istore_n 2, 1) (List.mem_of_getElem? (i := 3) rfl)
theorem dX0_react_6 : decode cX0_react 6 = .ok (.iload_n 2, 1) := tbX0_react_0 (6, .iload_n 2, 1) (List.mem_of_getElem? (i := 4) rfl)
theorem dX0_react_7 : decode cX0_react 7 = .ok (.iconst (-1), 1) := tbX0_react_0 (7, .iconst (-1), 1) (List.mem_of_getElem? (i := 5) rfl)
theorem dX0_react_8 : decode cX0_react 8 = .ok (.if_icmp .ne 15, 3) := tbX0_react_0 (8, .if_icmp .ne 15, 3) (List.mem_of_getElem? (i := 6) rfl)
theorem dX0_react_11 : decode cX0_react 11 = .ok (.aload_n 0, 1) := tbX0_react_0 (11, .aload_n 0, 1) (List.mem_of_getElem? (i := 7) rfl)
theorem dX0_react_12 : decode cX0_react 12 = .ok (.dup, 1) := tbX0_react_0 (12, .dup, 1) (List.mem_of_getElem? (i := 8) rfl)
theorem dX0_react_13 : decode cX0_react 13 = .ok (.getfield 25, 3) := tbX0_react_0 (13, .getfield 25, 3) (List.mem_of_getElem? (i := 9) rfl)
theorem dX0_react_16 : decode cX0_react 16 = .ok (.iconst 1, 1) := tbX0_react_0 (16, .iconst 1, 1) (List.mem_of_getElem? (i := 10) rfl)
theorem dX0_react_17 : decode cX0_react 17 = .ok (.iadd, 1) := tbX0_react_0 (17, .iadd, 1) (List.mem_of_getElem? (i := 11) rfl)
theorem dX0_react_18 : decode cX0_react 18 = .ok (.putfield 25, 3) := tbX0_react_0 (18, .putfield 25, 3) (List.mem_of_getElem? (i := 12) rfl)
theorem dX0_react_21 : decode cX0_react 21 = .ok (.iconst (-1), 1) := tbX0_react_0 (21, .iconst (-1), 1) (List.mem_of_getElem? (i := 13) rfl)
theorem dX0_react_22 : decode cX0_react 22 = .ok (.ireturn, 1) := tbX0_react_0 (22, .ireturn, 1) (List.mem_of_getElem? (i := 14) rfl)
theorem dX0_react_23 : decode cX0_react 23 = .ok (.aload_n 0, 1) := tbX0_react_0 (23, .aload_n 0, 1) (List.mem_of_getElem? (i := 15) rfl)
theorem dX0_react_24 : decode cX0_react 24 = .ok (.getfield 39, 3) := tbX0_react_0 (24, .getfield 39, 3) (List.mem_of_getElem? (i := 16) rfl)
theorem dX0_react_27 : decode cX0_react 27 = .ok (.iload_n 2, 1) := tbX0_react_0 (27, .iload_n 2, 1) (List.mem_of_getElem? (i := 17) rfl)
theorem dX0_react_28 : decode cX0_react 28 = .ok (.dup2, 1) := tbX0_react_0 (28, .dup2, 1) (List.mem_of_getElem? (i := 18) rfl)
theorem dX0_react_29 : decode cX0_react 29 = .ok (.iaload, 1) := tbX0_react_0 (29, .iaload, 1) (List.mem_of_getElem? (i := 19) rfl)
theorem dX0_react_30 : decode cX0_react 30 = .ok (.iconst 1, 1) := tbX0_react_0 (30, .iconst 1, 1) (List.mem_of_getElem? (i := 20) rfl)
theorem dX0_react_31 : decode cX0_react 31 = .ok (.iadd, 1) := tbX0_react_0 (31, .iadd, 1) (List.mem_of_getElem? (i := 21) rfl)
theorem dX0_react_32 : decode cX0_react 32 = .ok (.iastore, 1) := tbX0_react_0 (32, .iastore, 1) (List.mem_of_getElem? (i := 22) rfl)
theorem dX0_react_33 : decode cX0_react 33 = .ok (.iconst 0, 1) := tbX0_react_0 (33, .iconst 0, 1) (List.mem_of_getElem? (i := 23) rfl)
theorem dX0_react_34 : decode cX0_react 34 = .ok (.istore_n 3, 1) := tbX0_react_0 (34, .istore_n 3, 1) (List.mem_of_getElem? (i := 24) rfl)
theorem dX0_react_35 : decode cX0_react 35 = .ok (.iload_n 3, 1) := tbX0_react_0 (35, .iload_n 3, 1) (List.mem_of_getElem? (i := 25) rfl)
theorem dX0_react_36 : decode cX0_react 36 = .ok (.aload_n 0, 1) := tbX0_react_0 (36, .aload_n 0, 1) (List.mem_of_getElem? (i := 26) rfl)
theorem dX0_react_37 : decode cX0_react 37 = .ok (.getfield 42, 3) := tbX0_react_0 (37, .getfield 42, 3) (List.mem_of_getElem? (i := 27) rfl)
theorem dX0_react_40 : decode cX0_react 40 = .ok (.getfield 61, 3) := tbX0_react_0 (40, .getfield 61, 3) (List.mem_of_getElem? (i := 28) rfl)
theorem dX0_react_43 : decode cX0_react 43 = .ok (.iload_n 2, 1) := tbX0_react_0 (43, .iload_n 2, 1) (List.mem_of_getElem? (i := 29) rfl)
theorem dX0_react_44 : decode cX0_react 44 = .ok (.iaload, 1) := tbX0_react_0 (44, .iaload, 1) (List.mem_of_getElem? (i := 30) rfl)
theorem dX0_react_45 : decode cX0_react 45 = .ok (.if_icmp .ge 18, 3) := tbX0_react_0 (45, .if_icmp .ge 18, 3) (List.mem_of_getElem? (i := 31) rfl)
theorem dX0_react_48 : decode cX0_react 48 = .ok (.aload_n 0, 1) := tbX0_react_0 (48, .aload_n 0, 1) (List.mem_of_getElem? (i := 32) rfl)
theorem dX0_react_49 : decode cX0_react 49 = .ok (.iconst 3, 1) := tbX0_react_0 (49, .iconst 3, 1) (List.mem_of_getElem? (i := 33) rfl)
theorem dX0_react_50 : decode cX0_react 50 = .ok (.iload_n 2, 1) := tbX0_react_0 (50, .iload_n 2, 1) (List.mem_of_getElem? (i := 34) rfl)
theorem dX0_react_51 : decode cX0_react 51 = .ok (.imul, 1) := tbX0_react_0 (51, .imul, 1) (List.mem_of_getElem? (i := 35) rfl)
theorem dX0_react_52 : decode cX0_react 52 = .ok (.iload_n 3, 1) := tbX0_react_0 (52, .iload_n 3, 1) (List.mem_of_getElem? (i := 36) rfl)
theorem dX0_react_53 : decode cX0_react 53 = .ok (.iadd, 1) := tbX0_react_0 (53, .iadd, 1) (List.mem_of_getElem? (i := 37) rfl)
theorem dX0_react_54 : decode cX0_react 54 = .ok (.invokevirtual 66, 3) := tbX0_react_0 (54, .invokevirtual 66, 3) (List.mem_of_getElem? (i := 38) rfl)
theorem dX0_react_57 : decode cX0_react 57 = .ok (.iinc 3 1, 3) := tbX0_react_0 (57, .iinc 3 1, 3) (List.mem_of_getElem? (i := 39) rfl)
theorem tbX0_react_60 : ∀ q ∈ ([(60, .goto (-25), 3), (63, .aload_n 0, 1), (64, .aload_n 0, 1), (65, .getfield 42, 3), (68, .getfield 70, 3), (71, .iload_n 2, 1), (72, .iaload, 1), (73, .putfield 9, 3), (76, .iload_n 2, 1), (77, .ireturn, 1)] : List (Nat × Instr × Nat)), decode cX0_react q.1 = .ok (q.2.1, q.2.2) := by decide +kernel
theorem dX0_react_60 : decode cX0_react 60 = .ok (.goto (-25), 3) := tbX0_react_60 (60, .goto (-25), 3) (List.mem_of_getElem? (i := 0) rfl)
theorem dX0_react_63 : decode cX0_react 63 = .ok (.aload_n 0, 1) := tbX0_react_60 (63, .aload_n 0, 1) (List.mem_of_getElem? (i := 1) rfl)
theorem dX0_react_64 : decode cX0_react 64 = .ok (.aload_n 0, 1) := tbX0_react_60 (64, .aload_n 0, 1) (List.mem_of_getElem? (i := 2) rfl)
theorem dX0_react_65 : decode cX0_react 65 = .ok (.getfield 42, 3) := tbX0_react_60 (65, .getfield 42, 3) (List.mem_of_getElem? (i := 3) rfl)
theorem dX0_react_68 : decode cX0_react 68 = .ok (.getfield 70, 3) := tbX0_react_60 (68, .getfield 70, 3) (List.mem_of_getElem? (i := 4) rfl)
theorem dX0_react_71 : decode cX0_react 71 = .ok (.iload_n 2, 1) := tbX0_react_60 (71, .iload_n 2, 1) (List.mem_of_getElem? (i := 5) rfl)
theorem dX0_react_72 : decode cX0_react 72 = .ok (.iaload, 1) := tbX0_react_60 (72, .iaload, 1) (List.mem_of_getElem? (i := 6) rfl)
theorem dX0_react_73 : decode cX0_react 73 = .ok (.putfield 9, 3) := tbX0_react_60 (73, .putfield 9, 3) (List.mem_of_getElem? (i := 7) rfl)
theorem dX0_react_76 : decode cX0_react 76 = .ok (.iload_n 2, 1) := tbX0_react_60 (76, .iload_n 2, 1) (List.mem_of_getElem? (i := 8) rfl)
theorem dX0_react_77 : decode cX0_react 77 = .ok (.ireturn, 1) := tbX0_react_60 (77, .ireturn, 1) (List.mem_of_getElem? (i := 9) rfl)
set_option maxRecDepth 20000 in
theorem ggX0_firstTrue_X1_firstBehind : GoodIn wsX0_firstTrue wsX1_firstBehind := goodIn_r _ [7, 8, 9, 10, 38, 39, 40, 41, 42, 43, 44, 45, 46, 47, 48, 49, 50] (by decide +kernel) (by decide +kernel)
set_option maxRecDepth 20000 in
theorem gX0_firstTrue_X1_firstBehind : GoodIn wsX0_firstTrue (wsV RX0 73 RX1 yX1_firstBehind wsX1_firstBehind) := goodIn_app (goodIn_of _ (by decide +kernel)) ggX0_firstTrue_X1_firstBehind
set_option maxRecDepth 20000 in
theorem ggX0_firstTrue_X0_isTrue : GoodIn wsX0_firstTrue wsX0_isTrue := goodIn_r _ [15, 1, 16, 17, 18, 19, 20, 6, 21, 22, 23, 24, 25, 26, 27, 28, 29, 30, 31, 32, 33, 34, 35, 36, 37, 38, 39, 40, 41, 42, 43, 44, 45, 46, 47, 48, 49, 50] (by decide +kernel) (by decide +kernel)
set_option maxRecDepth 20000 in
theorem gX0_firstTrue_X0_isTrue : GoodIn wsX0_firstTrue (wsV RX0 77 RX0 yX0_isTrue wsX0_isTrue) := goodIn_app (goodIn_of _ (by decide +kernel)) ggX0_firstTrue_X0_isTrue
theorem tbX0_firstTrue_0 : ∀ q ∈ ([(0, .iconst (-1), 1), (1, .istore_n 2, 1), (2, .iconst 0, 1), (3, .istore_n 3, 1), (4, .iload_n 3, 1), (5, .bipush 40, 2), (7, .if_icmp .ge 38, 3), (10, .aload_n 0, 1), (11, .getfield 42, 3), (14, .iload_n 2, 1), (15, .aload_n 0, 1), (16, .getfield 9, 3), (19, .iload_n 1, 1), (20, .invokevirtual 73, 3), (23, .istore_n 2, 1), (24, .iload_n 2, 1), (25, .iconst (-1), 1), (26, .if_icmp .eq 11, 3), (29, .aload_n 0, 1), (30, .iload_n 2, 1), (31, .invokevirtual 77, 3), (34, .ifCond .eq 5, 3), (37, .iload_n 2, 1), (38, .ireturn, 1), (39, .iinc 3 1, 3), (42, .goto (-38), 3), (45, .iconst (-1), 1), (46, .ireturn, 1)] : List (Nat × Instr × Nat)), decode cX0_firstTrue q.1 = .ok (q.2.1, q.2.2) := by decide +kernel
theorem dX0_firstTrue_0 : decode cX0_firstTrue 0 = .ok (.iconst (-1), 1) := tbX0_firstTrue_0 (0, .iconst (-1), 1) (List.mem_of_getElem? (i := 0) rfl)
theorem dX0_firstTrue_1 : decode cX0_firstTrue 1 = .ok (.istore_n 2, 1) := tbX0_firstTrue_0 (1, .istore_n 2, 1) (List.mem_of_getElem? (i := 1) rfl)
theorem dX0_firstTrue_2 : decode cX0_firstTrue 2 = .ok (.iconst 0, 1) := tbX0_firstTrue_0 (2, .iconst 0, 1) (List.mem_of_getElem? (i := 2) rfl)
theorem dX0_firstTrue_3 : decode cX0_firstTrue 3 = .ok (.istore_n 3, 1) := tbX0_firstTrue_0 (3, .istore_n 3, 1) (List.mem_of_getElem? (i := 3) rfl)
theorem dX0_firstTrue_4 : decode cX0_firstTrue 4 = .ok (.iload_n 3, 1) := tbX0_firstTrue_0 (4, .iload_n 3, 1) (List.mem_of_getElem? (i := 4) rfl)
theorem dX0_firstTrue_5 : decode cX0_firstTrue 5 = .ok (.bipush 40, 2) := tbX0_firstTrue_0 (5, .bipush 40, 2) (List.mem_of_getElem? (i := 5) rfl)
theorem dX0_firstTrue_7 : decode cX0_firstTrue 7 = .ok (.if_icmp .ge 38, 3) := tbX0_firstTrue_0 (7, .if_icmp .ge 38, 3) (List.mem_of_getElem? (i := 6) rfl)
theorem dX0_firstTrue_10 : decode cX0_firstTrue 10 = .ok (.aload_n 0, 1) := tbX0_firstTrue_0 (10, .aload_n 0, 1) (List.mem_of_getElem? (i := 7) rfl)
theorem dX0_firstTrue_11 : decode cX0_firstTrue 11 = .ok (.getfield 42, 3) := tbX0_firstTrue_0 (11, .getfield 42, 3) (List.mem_of_getElem? (i := 8) rfl)
theorem dX0_firstTrue_14 : decode cX0_firstTrue 14 = .ok (.iload_n 2, 1) := tbX0_firstTrue_0 (14, .iload_n 2, 1) (List.mem_of_getElem? (i := 9) rfl)
theorem dX0_firstTrue_15 : decode cX0_firstTrue 15 = .ok (.aload_n 0, 1) := tbX0_firstTrue_0 (15, .aload_n 0, 1) (List.mem_of_getElem? (i := 10) rfl)
theorem dX0_firstTrue_16 : decode cX0_firstTrue 16 = .ok (.getfield 9, 3) := tbX0_firstTrue_0 (16, .getfield 9, 3) (List.mem_of_getElem? (i := 11) rfl)
theorem dX0_firstTrue_19 : decode cX0_firstTrue 19 = .ok (.iload_n 1, 1) := tbX0_firstTrue_0 (19, .iload_n 1, 1) (List.mem_of_getElem? (i := 12) rfl)
theorem dX0_firstTrue_20 : decode cX0_firstTrue 20 = .ok (.invokevirtual 73, 3) := tbX0_firstTrue_0 (20, .invokevirtual 73, 3) (List.mem_of_getElem? (i := 13) rfl)
theorem dX0_firstTrue_23 : decode cX0_firstTrue 23 = .ok (.istore_n 2, 1) := tbX0_firstTrue_0 (23, .istore_n 2, 1) (List.mem_of_getElem? (i := 14) rfl)
theorem dX0_firstTrue_24 : decode cX0_firstTrue 24 = .ok (.iload_n 2, 1) := tbX0_firstTrue_0 (24, .iload_n 2, 1) (List.mem_of_getElem? (i := 15) rfl)
theorem dX0_firstTrue_25 : decode cX0_firstTrue 25 = .ok (.iconst (-1), 1) := tbX0_firstTrue_0 (25, .iconst (-1), 1) (List.mem_of_getElem? (i := 16) rfl)
theorem dX0_firstTrue_26 : decode cX0_firstTrue 26 = .ok (.if_icmp .eq 11, 3) := tbX0_firstTrue_0 (26, .if_icmp .eq 11, 3) (List.mem_of_getElem? (i := 17) rfl)
theorem dX0_firstTrue_29 : decode cX0_firstTrue 29 = .ok (.aload_n 0, 1) := tbX0_firstTrue_0 (29, .aload_n 0, 1) (List.mem_of_getElem? (i := 18) rfl)
theorem dX0_firstTrue_30 : decode cX0_firstTrue 30 = .ok (.iload_n 2, 1) := tbX0_firstTrue_0 (30, .iload_n 2, 1) (List.mem_of_getElem? (i := 19) rfl)
theorem dX0_firstTrue_31 : decode cX0_firstTrue 31 = .ok (.invokevirtual 77, 3) := tbX0_firstTrue_0 (31, .invokevirtual 77, 3) (List.mem_of_getElem? (i := 20) rfl)
theorem dX0_firstTrue_34 : decode cX0_firstTrue 34 = .ok (.ifCond .eq 5, 3) := tbX0_firstTrue_0 (34, .ifCond .eq 5, 3) (List.mem_of_getElem? (i := 21) rfl)
theorem dX0_firstTrue_37 : decode cX0_firstTrue 37 = .ok (.iload_n 2, 1) := tbX0_firstTrue_0 (37, .iload_n 2, 1) (List.mem_of_getElem? (i := 22) rfl)
theorem dX0_firstTrue_38 : decode cX0_firstTrue 38 = .ok (.ireturn, 1) := tbX0_firstTrue_0 (38, .ireturn, 1) (List.mem_of_getElem? (i := 23) rfl)
theorem dX0_firstTrue_39 : decode cX0_firstTrue 39 = .ok (.iinc 3 1, 3) := tbX0_firstTrue_0 (39, .iinc 3 1, 3) (List.mem_of_getElem? (i := 24) rfl)
theorem dX0_firstTrue_42 : decode cX0_firstTrue 42 = .ok (.goto (-38), 3) := tbX0_firstTrue_0 (42, .goto (-38), 3) (List.mem_of_getElem? (i := 25) rfl)
theorem dX0_firstTrue_45 : decode cX0_firstTrue 45 = .ok (.iconst (-1), 1) := tbX0_firstTrue_0 (45, .iconst (-1), 1) (List.mem_of_getElem? (i := 26) rfl)
theorem dX0_firstTrue_46 : decode cX0_firstTrue 46 = .ok (.ireturn, 1) := tbX0_firstTrue_0 (46, .ireturn, 1) (List.mem_of_getElem? (i := 27) rfl)
set_option maxRecDepth 20000 in
theorem ggX0_isTrue_X1_lowest : GoodIn wsX0_isTrue wsX1_lowest := goodIn_r _ [8, 9, 10, 25, 26, 27, 28, 29, 30, 31, 32, 33, 34, 35, 36, 37] (by decide +kernel) (by decide +kernel)
set_option maxRecDepth 20000 in
theorem gX0_isTrue_X1_lowest : GoodIn wsX0_isTrue (wsV RX0 84 RX1 yX1_lowest wsX1_lowest) := goodIn_app (goodIn_of _ (by decide +kernel)) ggX0_isTrue_X1_lowest
set_option maxRecDepth 20000 in
theorem ggX0_isTrue_X1_highest : GoodIn wsX0_isTrue wsX1_highest := goodIn_r _ [14, 9, 10, 25, 26, 27, 28, 29, 30, 31, 32, 33, 34, 35, 36, 37] (by decide +kernel) (by decide +kernel)
set_option maxRecDepth 20000 in
theorem gX0_isTrue_X1_highest : GoodIn wsX0_isTrue (wsV RX0 87 RX1 yX1_highest wsX1_highest) := goodIn_app (goodIn_of _ (by decide +kernel)) ggX0_isTrue_X1_highest
theorem tbX0_isTrue_0 : ∀ q ∈ ([(0, .aload_n 0, 1), (1, .getfield 42, 3), (4, .getfield 81, 3), (7, .iload_n 1, 1), (8, .iaload, 1), (9, .istore_n 2, 1), (10, .iload_n 2, 1), (11, .iconst (-1), 1), (12, .if_icmp .ne 5, 3), (15, .iconst 1, 1), (16, .ireturn, 1), (17, .aload_n 0, 1), (18, .getfield 42, 3), (21, .iload_n 1, 1), (22, .invokevirtual 84, 3), (25, .aload_n 0, 1), (26, .getfield 28, 3), (29, .iload_n 2, 1), (30, .iaload, 1), (31, .if_icmp .gt 24, 3), (34, .aload_n 0, 1), (35, .getfield 28, 3), (38, .iload_n 2, 1), (39, .iaload, 1), (40, .aload_n 0, 1), (41, .getfield 42, 3), (44, .iload_n 1, 1), (45, .invokevirtual 87, 3), (48, .if_icmp .gt 7, 3), (51, .iconst 1, 1), (52, .goto 4, 3), (55, .iconst 0, 1), (56, .ireturn, 1)] : List (Nat × Instr × Nat)), decode cX0_isTrue q.1 = .ok (q.2.1, q.2.2) := by decide +kernel
theorem dX0_isTrue_0 : decode cX0_isTrue 0 = .ok (.aload_n 0, 1) := tbX0_isTrue_0 (0, .aload_n 0, 1) (List.mem_of_getElem? (i := 0) rfl)
theorem dX0_isTrue_1 : decode cX0_isTrue 1 = .ok (.getfield 42, 3) := tbX0_isTrue_0 (1, .getfield 42, 3) (List.mem_of_getElem? (i := 1) rfl)
theorem dX0_isTrue_4 : decode cX0_isTrue 4 = .ok (.getfield 81, 3) := tbX0_isTrue_0 (4, .getfield 81, 3) (List.mem_of_getElem? (i := 2) rfl)
theorem dX0_isTrue_7 : decode cX0_isTrue 7 = .ok (.iload_n 1, 1) := tbX0_isTrue_0 (7, .iload_n 1, 1) (List.mem_of_getElem? (i := 3) rfl)
theorem dX0_isTrue_8 : decode cX0_isTrue 8 = .ok (.iaload, 1) := tbX0_isTrue_0 (8, .iaload, 1) (List.mem_of_getElem? (i := 4) rfl)
theorem dX0_isTrue_9 : decode cX0_isTrue 9 = .ok (.istore_n 2, 1) := tbX0_isTrue_0 (9, .istore_n 2, 1) (List.mem_of_getElem? (i := 5) rfl)
theorem dX0_isTrue_10 : decode cX0_isTrue 10 = .ok (.iload_n 2, 1) := tbX0_isTrue_0 (10, .iload_n 2, 1) (List.mem_of_getElem? (i := 6) rfl)
theorem dX0_isTrue_11 : decode cX0_isTrue 11 = .ok (.iconst (-1), 1) := tbX0_isTrue_0 (11, .iconst (-1), 1) (List.mem_of_getElem? (i := 7) rfl)
theorem dX0_isTrue_12 : decode cX0_isTrue 12 = .ok (.if_icmp .ne 5, 3) := tbX0_isTrue_0 (12, .if_icmp .ne 5, 3) (List.mem_of_getElem? (i := 8) rfl)
theorem dX0_isTrue_15 : decode cX0_isTrue 15 = .ok (.iconst 1, 1) := tbX0_isTrue_0 (15, .iconst 1, 1) (List.mem_of_getElem? (i := 9) rfl)
theorem dX0_isTrue_16 : decode cX0_isTrue 16 = .ok (.ireturn, 1) := tbX0_isTrue_0 (16, .ireturn, 1) (List.mem_of_getElem? (i := 10) rfl)
theorem dX0_isTrue_17 : decode cX0_isTrue 17 = .ok (.aload_n 0, 1) := tbX0_isTrue_0 (17, .aload_n 0, 1) (List.mem_of_getElem? (i := 11) rfl)
theorem dX0_isTrue_18 : decode cX0_isTrue 18 = .ok (.getfield 42, 3) := tbX0_isTrue_0 (18, .getfield 42, 3) (List.mem_of_getElem? (i := 12) rfl)
theorem dX0_isTrue_21 : decode cX0_isTrue 21 = .ok (.iload_n 1, 1) := tbX0_isTrue_0 (21, .iload_n 1, 1) (List.mem_of_getElem? (i := 13) rfl)
theorem dX0_isTrue_22 : decode cX0_isTrue 22 = .ok (.invokevirtual 84, 3) := tbX0_isTrue_0 (22, .invokevirtual 84, 3) (List.mem_of_getElem? (i := 14) rfl)
theorem dX0_isTrue_25 : decode cX0_isTrue 25 = .ok (.aload_n 0, 1) := tbX0_isTrue_0 (25, .aload_n 0, 1) (List.mem_of_getElem? (i := 15) rfl)
theorem dX0_isTrue_26 : decode cX0_isTrue 26 = .ok (.getfield 28, 3) := tbX0_isTrue_0 (26, .getfield 28, 3) (List.mem_of_getElem? (i := 16) rfl)
theorem dX0_isTrue_29 : decode cX0_isTrue 29 = .ok (.iload_n 2, 1) := tbX0_isTrue_0 (29, .iload_n 2, 1) (List.mem_of_getElem? (i := 17) rfl)
theorem dX0_isTrue_30 : decode cX0_isTrue 30 = .ok (.iaload, 1) := tbX0_isTrue_0 (30, .iaload, 1) (List.mem_of_getElem? (i := 18) rfl)
theorem dX0_isTrue_31 : decode cX0_isTrue 31 = .ok (.if_icmp .gt 24, 3) := tbX0_isTrue_0 (31, .if_icmp .gt 24, 3) (List.mem_of_getElem? (i := 19) rfl)
theorem dX0_isTrue_34 : decode cX0_isTrue 34 = .ok (.aload_n 0, 1) := tbX0_isTrue_0 (34, .aload_n 0, 1) (List.mem_of_getElem? (i := 20) rfl)
theorem dX0_isTrue_35 : decode cX0_isTrue 35 = .ok (.getfield 28, 3) := tbX0_isTrue_0 (35, .getfield 28, 3) (List.mem_of_getElem? (i := 21) rfl)
theorem dX0_isTrue_38 : decode cX0_isTrue 38 = .ok (.iload_n 2, 1) := tbX0_isTrue_0 (38, .iload_n 2, 1) (List.mem_of_getElem? (i := 22) rfl)
theorem dX0_isTrue_39 : decode cX0_isTrue 39 = .ok (.iaload, 1) := tbX0_isTrue_0 (39, .iaload, 1) (List.mem_of_getElem? (i := 23) rfl)
theorem dX0_isTrue_40 : decode cX0_isTrue 40 = .ok (.aload_n 0, 1) := tbX0_isTrue_0 (40, .aload_n 0, 1) (List.mem_of_getElem? (i := 24) rfl)
theorem dX0_isTrue_41 : decode cX0_isTrue 41 = .ok (.getfield 42, 3) := tbX0_isTrue_0 (41, .getfield 42, 3) (List.mem_of_getElem? (i := 25) rfl)
theorem dX0_isTrue_44 : decode cX0_isTrue 44 = .ok (.iload_n 1, 1) := tbX0_isTrue_0 (44, .iload_n 1, 1) (List.mem_of_getElem? (i := 26) rfl)
theorem dX0_isTrue_45 : decode cX0_isTrue 45 = .ok (.invokevirtual 87, 3) := tbX0_isTrue_0 (45, .invokevirtual 87, 3) (List.mem_of_getElem? (i := 27) rfl)
theorem dX0_isTrue_48 : decode cX0_isTrue 48 = .ok (.if_icmp .gt 7, 3) := tbX0_isTrue_0 (48, .if_icmp .gt 7, 3) (List.mem_of_getElem? (i := 28) rfl)
theorem dX0_isTrue_51 : decode cX0_isTrue 51 = .ok (.iconst 1, 1) := tbX0_isTrue_0 (51, .iconst 1, 1) (List.mem_of_getElem? (i := 29) rfl)
theorem dX0_isTrue_52 : decode cX0_isTrue 52 = .ok (.goto 4, 3) := tbX0_isTrue_0 (52, .goto 4, 3) (List.mem_of_getElem? (i := 30) rfl)
theorem dX0_isTrue_55 : decode cX0_isTrue 55 = .ok (.iconst 0, 1) := tbX0_isTrue_0 (55, .iconst 0, 1) (List.mem_of_getElem? (i := 31) rfl)
theorem dX0_isTrue_56 : decode cX0_isTrue 56 = .ok (.ireturn, 1) := tbX0_isTrue_0 (56, .ireturn, 1) (List.mem_of_getElem? (i := 32) rfl)
set_option maxRecDepth 20000 in
theorem ggX0_act_X0_emit : GoodIn wsX0_act wsX0_emit := goodIn_r _ [20, 21, 22, 23, 24, 25, 26, 27, 28, 29, 30, 31, 32, 33] (by decide +kernel) (by decide +kernel)
set_option maxRecDepth 20000 in
theorem gX0_act_X0_emit : GoodIn wsX0_act (wsV RX0 108 RX0 yX0_emit wsX0_emit) := goodIn_app (goodIn_of _ (by decide +kernel)) ggX0_act_X0_emit
