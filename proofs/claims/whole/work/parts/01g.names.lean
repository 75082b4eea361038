theorem tbX3_addState_0 : ∀ q ∈ ([(0, .aload_n 0, 1), (1, .getfield 12, 3), (4, .getfield 32, 3), (7, .bipush 12, 2), (9, .if_icmp .lt 13, 3), (12, .new 36, 3), (15, .dup, 1), (16, .ldc 38, 2), (18, .invokespecial 40, 3), (21, .athrow, 1), (22, .aload_n 0, 1), (23, .getfield 28, 3), (26, .iconst 0, 1), (27, .putfield 43, 3), (30, .aload_n 0, 1), (31, .getfield 12, 3), (34, .dup, 1), (35, .getfield 32, 3), (38, .iconst 1, 1), (39, .iadd, 1), (40, .putfield 32, 3), (43, .aload_n 0, 1), (44, .getfield 12, 3), (47, .getfield 32, 3), (50, .iconst 1, 1), (51, .isub, 1), (52, .ireturn, 1)] : List (Nat × Instr × Nat)), decode cX3_addState q.1 = .ok (q.2.1, q.2.2) := by decide +kernel
theorem dX3_addState_0 : decode cX3_addState 0 = .ok (.aload_n 0, 1) := tbX3_addState_0 (0, .aload_n 0, 1) (List.mem_of_getElem? (i := 0) rfl)
theorem dX3_addState_1 : decode cX3_addState 1 = .ok (.getfield 12, 3) := tbX3_addState_0 (1, .getfield 12, 3) (List.mem_of_getElem? (i := 1) rfl)
theorem dX3_addState_4 : decode cX3_addState 4 = .ok (.getfield 32, 3) := tbX3_addState_0 (4, .getfield 32, 3) (List.mem_of_getElem? (i := 2) rfl)
theorem dX3_addState_7 : decode cX3_addState 7 = .ok (.bipush 12, 2) := tbX3_addState_0 (7, .bipush 12, 2) (List.mem_of_getElem? (i := 3) rfl)
theorem dX3_addState_9 : decode cX3_addState 9 = .ok (.if_icmp .lt 13, 3) := tbX3_addState_0 (9, .if_icmp .lt 13, 3) (List.mem_of_getElem? (i := 4) rfl)
theorem dX3_addState_12 : decode cX3_addState 12 = .ok (.new 36, 3) := tbX3_addState_0 (12, .new 36, 3) (List.mem_of_getElem? (i := 5) rfl)
theorem dX3_addState_15 : decode cX3_addState 15 = .ok (.dup, 1) := tbX3_addState_0 (15, .dup, 1) (List.mem_of_getElem? (i := 6) rfl)
theorem dX3_addState_16 : decode cX3_addState 16 = .ok (.ldc 38, 2) := tbX3_addState_0 (16, .ldc 38, 2) (List.mem_of_getElem? (i := 7) rfl)
theorem dX3_addState_18 : decode cX3_addState 18 = .ok (.invokespecial 40, 3) := tbX3_addState_0 (18, .invokespecial 40, 3) (List.mem_of_getElem? (i := 8) rfl)
theorem dX3_addState_21 : decode cX3_addState 21 = .ok (.athrow, 1) := tbX3_addState_0 (21, .athrow, 1) (List.mem_of_getElem? (i := 9) rfl)
theorem dX3_addState_22 : decode cX3_addState 22 = .ok (.aload_n 0, 1) := tbX3_addState_0 (22, .aload_n 0, 1) (List.mem_of_getElem? (i := 10) rfl)
theorem dX3_addState_23 : decode cX3_addState 23 = .ok (.getfield 28, 3) := tbX3_addState_0 (23, .getfield 28, 3) (List.mem_of_getElem? (i := 11) rfl)
theorem dX3_addState_26 : decode cX3_addState 26 = .ok (.iconst 0, 1) := tbX3_addState_0 (26, .iconst 0, 1) (List.mem_of_getElem? (i := 12) rfl)
theorem dX3_addState_27 : decode cX3_addState 27 = .ok (.putfield 43, 3) := tbX3_addState_0 (27, .putfield 43, 3) (List.mem_of_getElem? (i := 13) rfl)
theorem dX3_addState_30 : decode cX3_addState 30 = .ok (.aload_n 0, 1) := tbX3_addState_0 (30, .aload_n 0, 1) (List.mem_of_getElem? (i := 14) rfl)
theorem dX3_addState_31 : decode cX3_addState 31 = .ok (.getfield 12, 3) := tbX3_addState_0 (31, .getfield 12, 3) (List.mem_of_getElem? (i := 15) rfl)
theorem dX3_addState_34 : decode cX3_addState 34 = .ok (.dup, 1) := tbX3_addState_0 (34, .dup, 1) (List.mem_of_getElem? (i := 16) rfl)
theorem dX3_addState_35 : decode cX3_addState 35 = .ok (.getfield 32, 3) := tbX3_addState_0 (35, .getfield 32, 3) (List.mem_of_getElem? (i := 17) rfl)
theorem dX3_addState_38 : decode cX3_addState 38 = .ok (.iconst 1, 1) := tbX3_addState_0 (38, .iconst 1, 1) (List.mem_of_getElem? (i := 18) rfl)
theorem dX3_addState_39 : decode cX3_addState 39 = .ok (.iadd, 1) := tbX3_addState_0 (39, .iadd, 1) (List.mem_of_getElem? (i := 19) rfl)
theorem dX3_addState_40 : decode cX3_addState 40 = .ok (.putfield 32, 3) := tbX3_addState_0 (40, .putfield 32, 3) (List.mem_of_getElem? (i := 20) rfl)
theorem dX3_addState_43 : decode cX3_addState 43 = .ok (.aload_n 0, 1) := tbX3_addState_0 (43, .aload_n 0, 1) (List.mem_of_getElem? (i := 21) rfl)
theorem dX3_addState_44 : decode cX3_addState 44 = .ok (.getfield 12, 3) := tbX3_addState_0 (44, .getfield 12, 3) (List.mem_of_getElem? (i := 22) rfl)
theorem dX3_addState_47 : decode cX3_addState 47 = .ok (.getfield 32, 3) := tbX3_addState_0 (47, .getfield 32, 3) (List.mem_of_getElem? (i := 23) rfl)
theorem dX3_addState_50 : decode cX3_addState 50 = .ok (.iconst 1, 1) := tbX3_addState_0 (50, .iconst 1, 1) (List.mem_of_getElem? (i := 24) rfl)
theorem dX3_addState_51 : decode cX3_addState 51 = .ok (.isub, 1) := tbX3_addState_0 (51, .isub, 1) (List.mem_of_getElem? (i := 25) rfl)
theorem dX3_addState_52 : decode cX3_addState 52 = .ok (.ireturn, 1) := tbX3_addState_0 (52, .ireturn, 1) (List.mem_of_getElem? (i := 26) rfl)
set_option maxRecDepth 20000 in
theorem ggX3_addTransition_X3_isBelow : GoodIn wsX3_addTransition wsX3_isBelow := goodIn_r _ [17] (by decide +kernel) (by decide +kernel)
set_option maxRecDepth 20000 in
theorem gX3_addTransition_X3_isBelow : GoodIn wsX3_addTransition (va_wsS RX3 47 yX3_isBelow wsX3_isBelow) := goodIn_app (goodIn_of _ (by decide +kernel)) ggX3_addTransition_X3_isBelow
set_option maxRecDepth 20000 in
theorem ggX3_addTransition_X3_isNumber : GoodIn wsX3_addTransition wsX3_isNumber := goodIn_r _ [20] (by decide +kernel) (by decide +kernel)
set_option maxRecDepth 20000 in
theorem gX3_addTransition_X3_isNumber : GoodIn wsX3_addTransition (va_wsS RX3 60 yX3_isNumber wsX3_isNumber) := goodIn_app (goodIn_of _ (by decide +kernel)) ggX3_addTransition_X3_isNumber
set_option maxRecDepth 20000 in
theorem ggX3_addTransition_X1_append : GoodIn wsX3_addTransition wsX1_append := goodIn_r _ [25, 26, 27, 28, 29, 30, 31, 32, 33, 41, 42, 43, 44, 45, 46, 47, 48, 49, 50, 51, 52, 53] (by decide +kernel) (by decide +kernel)
set_option maxRecDepth 20000 in
theorem gX3_addTransition_X1_append : GoodIn wsX3_addTransition (wsV RX3 74 RX1 yX1_append wsX1_append) := goodIn_app (goodIn_of _ (by decide +kernel)) ggX3_addTransition_X1_append
set_option maxRecDepth 20000 in
theorem ggX3_addTransition_X1_guard : GoodIn wsX3_addTransition wsX1_guard := goodIn_r _ [37, 30, 31, 32, 41, 42, 43, 44, 45, 46, 47, 48, 49, 50, 51, 52, 53] (by decide +kernel) (by decide +kernel)
set_option maxRecDepth 20000 in
theorem gX3_addTransition_X1_guard : GoodIn wsX3_addTransition (wsV RX3 78 RX1 yX1_guard wsX1_guard) := goodIn_app (goodIn_of _ (by decide +kernel)) ggX3_addTransition_X1_guard
theorem tbX3_addTransition_0 : ∀ q ∈ ([(0, .iload_n 1, 1), (1, .aload_n 0, 1), (2, .getfield 12, 3), (5, .getfield 32, 3), (8, .invokestatic 47, 3), (11, .ifCond .eq 18, 3), (14, .iload 6, 2), (16, .aload_n 0, 1), (17, .getfield 12, 3), (20, .getfield 32, 3), (23, .invokestatic 47, 3), (26, .ifCond .ne 13, 3), (29, .new 51, 3), (32, .dup, 1), (33, .ldc 53, 2), (35, .invokespecial 55, 3), (38, .athrow, 1), (39, .iload_n 2, 1), (40, .bipush 8, 2), (42, .invokestatic 47, 3), (45, .ifCond .ne 13, 3), (48, .new 51, 3), (51, .dup, 1), (52, .ldc 56, 2), (54, .invokespecial 55, 3), (57, .athrow, 1), (58, .iload_n 3, 1), (59, .iconst (-1), 1), (60, .if_icmp .eq 21, 3), (63, .iload_n 3, 1), (64, .iconst 3, 1), (65, .invokestatic 47, 3), (68, .ifCond .ne 13, 3), (71, .new 51, 3), (74, .dup, 1), (75, .ldc 58, 2), (77, .invokespecial 55, 3), (80, .athrow, 1), (81, .iload_n 3, 1), (82, .iconst (-1), 1)] : List (Nat × Instr × Nat)), decode cX3_addTransition q.1 = .ok (q.2.1, q.2.2) := by decide +kernel
theorem dX3_addTransition_0 : decode cX3_addTransition 0 = .ok (.iload_n 1, 1) := tbX3_addTransition_0 (0, .iload_n 1, 1) (List.mem_of_getElem? (i := 0) rfl)
theorem dX3_addTransition_1 : decode cX3_addTransition 1 = .ok (.aload_n 0, 1) := tbX3_addTransition_0 (1, .aload_n 0, 1) (List.mem_of_getElem? (i := 1) rfl)
theorem dX3_addTransition_2 : decode cX3_addTransition 2 = .ok (.getfield 12, 3) := tbX3_addTransition_0 (2, .getfield 12, 3) (List.mem_of_getElem? (i := 2) rfl)
theorem dX3_addTransition_5 : decode cX3_addTransition 5 = .ok (.getfield 32, 3) := tbX3_addTransition_0 (5, .getfield 32, 3) (List.mem_of_getElem? (i := 3) rfl)
theorem dX3_addTransition_8 : decode cX3_addTransition 8 = .ok (.invokestatic 47, 3) := tbX3_addTransition_0 (8, .invokestatic 47, 3) (List.mem_of_getElem? (i := 4) rfl)
theorem dX3_addTransition_11 : decode cX3_addTransition 11 = .ok (.ifCond .eq 18, 3) := tbX3_addTransition_0 (11, .ifCond .eq 18, 3) (List.mem_of_getElem? (i := 5) rfl)
theorem dX3_addTransition_14 : decode cX3_addTransition 14 = .ok (.iload 6, 2) := tbX3_addTransition_0 (14, .iload 6, 2) (List.mem_of_getElem? (i := 6) rfl)
theorem dX3_addTransition_16 : decode cX3_addTransition 16 = .ok (.aload_n 0, 1) := tbX3_addTransition_0 (16, .aload_n 0, 1) (List.mem_of_getElem? (i := 7) rfl)
theorem dX3_addTransition_17 : decode cX3_addTransition 17 = .ok (.getfield 12, 3) := tbX3_addTransition_0 (17, .getfield 12, 3) (List.mem_of_getElem? (i := 8) rfl)
theorem dX3_addTransition_20 : decode cX3_addTransition 20 = .ok (.getfield 32, 3) := tbX3_addTransition_0 (20, .getfield 32, 3) (List.mem_of_getElem? (i := 9) rfl)
theorem dX3_addTransition_23 : decode cX3_addTransition 23 = .ok (.invokestatic 47, 3) := tbX3_addTransition_0 (23, .invokestatic 47, 3) (List.mem_of_getElem? (i := 10) rfl)
theorem dX3_addTransition_26 : decode cX3_addTransition 26 = .ok (.ifCond .ne 13, 3) := tbX3_addTransition_0 (26, .ifCond .ne 13, 3) (List.mem_of_getElem? (i := 11) rfl)
theorem dX3_addTransition_29 : decode cX3_addTransition 29 = .ok (.new 51, 3) := tbX3_addTransition_0 (29, .new 51, 3) (List.mem_of_getElem? (i := 12) rfl)
theorem dX3_addTransition_32 : decode cX3_addTransition 32 = .ok (.dup, 1) := tbX3_addTransition_0 (32, .dup, 1) (List.mem_of_getElem? (i := 13) rfl)
theorem dX3_addTransition_33 : decode cX3_addTransition 33 = .ok (.ldc 53, 2) := tbX3_addTransition_0 (33, .ldc 53, 2) (List.mem_of_getElem? (i := 14) rfl)
theorem dX3_addTransition_35 : decode cX3_addTransition 35 = .ok (.invokespecial 55, 3) := tbX3_addTransition_0 (35, .invokespecial 55, 3) (List.mem_of_getElem? (i := 15) rfl)
theorem dX3_addTransition_38 : decode cX3_addTransition 38 = .ok (.athrow, 1) := tbX3_addTransition_0 (38, .athrow, 1) (List.mem_of_getElem? (i := 16) rfl)
theorem dX3_addTransition_39 : decode cX3_addTransition 39 = .ok (.iload_n 2, 1) := tbX3_addTransition_0 (39, .iload_n 2, 1) (List.mem_of_getElem? (i := 17) rfl)
theorem dX3_addTransition_40 : decode cX3_addTransition 40 = .ok (.bipush 8, 2) := tbX3_addTransition_0 (40, .bipush 8, 2) (List.mem_of_getElem? (i := 18) rfl)
theorem dX3_addTransition_42 : decode cX3_addTransition 42 = .ok (.invokestatic 47, 3) := tbX3_addTransition_0 (42, .invokestatic 47, 3) (List.mem_of_getElem? (i := 19) rfl)
theorem dX3_addTransition_45 : decode cX3_addTransition 45 = .ok (.ifCond .ne 13, 3) := tbX3_addTransition_0 (45, .ifCond .ne 13, 3) (List.mem_of_getElem? (i := 20) rfl)
theorem dX3_addTransition_48 : decode cX3_addTransition 48 = .ok (.new 51, 3) := tbX3_addTransition_0 (48, .new 51, 3) (List.mem_of_getElem? (i := 21) rfl)
theorem dX3_addTransition_51 : decode cX3_addTransition 51 = .ok (.dup, 1) := tbX3_addTransition_0 (51, .dup, 1) (List.mem_of_getElem? (i := 22) rfl)
theorem dX3_addTransition_52 : decode cX3_addTransition 52 = .ok (.ldc 56, 2) := tbX3_addTransition_0 (52, .ldc 56, 2) (List.mem_of_getElem? (i := 23) rfl)
theorem dX3_addTransition_54 : decode cX3_addTransition 54 = .ok (.invokespecial 55, 3) := tbX3_addTransition_0 (54, .invokespecial 55, 3) (List.mem_of_getElem? (i := 24) rfl)
theorem dX3_addTransition_57 : decode cX3_addTransition 57 = .ok (.athrow, 1) := tbX3_addTransition_0 (57, .athrow, 1) (List.mem_of_getElem? (i := 25) rfl)
theorem dX3_addTransition_58 : decode cX3_addTransition 58 = .ok (.iload_n 3, 1) := tbX3_addTransition_0 (58, .iload_n 3, 1) (List.mem_of_getElem? (i := 26) rfl)
theorem dX3_addTransition_59 : decode cX3_addTransition 59 = .ok (.iconst (-1), 1) := tbX3_addTransition_0 (59, .iconst (-1), 1) (List.mem_of_getElem? (i := 27) rfl)
theorem dX3_addTransition_60 : decode cX3_addTransition 60 = .ok (.if_icmp .eq 21, 3) := tbX3_addTransition_0 (60, .if_icmp .eq 21, 3) (List.mem_of_getElem? (i := 28) rfl)
theorem dX3_addTransition_63 : decode cX3_addTransition 63 = .ok (.iload_n 3, 1) := tbX3_addTransition_0 (63, .iload_n 3, 1) (List.mem_of_getElem? (i := 29) rfl)
theorem dX3_addTransition_64 : decode cX3_addTransition 64 = .ok (.iconst 3, 1) := tbX3_addTransition_0 (64, .iconst 3, 1) (List.mem_of_getElem? (i := 30) rfl)
theorem dX3_addTransition_65 : decode cX3_addTransition 65 = .ok (.invokestatic 47, 3) := tbX3_addTransition_0 (65, .invokestatic 47, 3) (List.mem_of_getElem? (i := 31) rfl)
theorem dX3_addTransition_68 : decode cX3_addTransition 68 = .ok (.ifCond .ne 13, 3) := tbX3_addTransition_0 (68, .ifCond .ne 13, 3) (List.mem_of_getElem? (i := 32) rfl)
theorem dX3_addTransition_71 : decode cX3_addTransition 71 = .ok (.new 51, 3) := tbX3_addTransition_0 (71, .new 51, 3) (List.mem_of_getElem? (i := 33) rfl)
theorem dX3_addTransition_74 : decode cX3_addTransition 74 = .ok (.dup, 1) := tbX3_addTransition_0 (74, .dup, 1) (List.mem_of_getElem? (i := 34) rfl)
theorem dX3_addTransition_75 : decode cX3_addTransition 75 = .ok (.ldc 58, 2) := tbX3_addTransition_0 (75, .ldc 58, 2) (List.mem_of_getElem? (i := 35) rfl)
theorem dX3_addTransition_77 : decode cX3_addTransition 77 = .ok (.invokespecial 55, 3) := tbX3_addTransition_0 (77, .invokespecial 55, 3) (List.mem_of_getElem? (i := 36) rfl)
theorem dX3_addTransition_80 : decode cX3_addTransition 80 = .ok (.athrow, 1) := tbX3_addTransition_0 (80, .athrow, 1) (List.mem_of_getElem? (i := 37) rfl)
theorem dX3_addTransition_81 : decode cX3_addTransition 81 = .ok (.iload_n 3, 1) := tbX3_addTransition_0 (81, .iload_n 3, 1) (List.mem_of_getElem? (i := 38) rfl)
theorem dX3_addTransition_82 : decode cX3_addTransition 82 = .ok (.iconst (-1), 1) := tbX3_addTransition_0 (82, .iconst (-1), 1) (List.mem_of_getElem? (i := 39) rfl)
theorem tbX3_addTransition_83 : ∀ q ∈ ([(83, .if_icmp .eq 32, 3), (86, .iload 4, 2), (88, .ifCond .lt 17, 3), (91, .iload 4, 2), (93, .iconst 2, 1), (94, .if_icmp .gt 11, 3), (97, .iload 5, 2), (99, .invokestatic 60, 3), (102, .ifCond .ne 13, 3), (105, .new 64, 3), (108, .dup, 1), (109, .ldc 66, 2), (111, .invokespecial 68, 3), (114, .athrow, 1), (115, .aload_n 0, 1), (116, .getfield 12, 3), (119, .getfield 69, 3), (122, .bipush 40, 2), (124, .if_icmp .lt 13, 3), (127, .new 36, 3), (130, .dup, 1), (131, .ldc 72, 2), (133, .invokespecial 40, 3), (136, .athrow, 1), (137, .aload_n 0, 1), (138, .getfield 28, 3), (141, .iconst 0, 1), (142, .putfield 43, 3), (145, .aload_n 0, 1), (146, .getfield 12, 3), (149, .iload_n 1, 1), (150, .iload_n 2, 1), (151, .iload 6, 2), (153, .invokevirtual 74, 3), (156, .istore 7, 2), (158, .iload_n 3, 1), (159, .iconst (-1), 1), (160, .if_icmp .eq 17, 3), (163, .aload_n 0, 1), (164, .getfield 12, 3)] : List (Nat × Instr × Nat)), decode cX3_addTransition q.1 = .ok (q.2.1, q.2.2) := by decide +kernel
theorem dX3_addTransition_83 : decode cX3_addTransition 83 = .ok (.if_icmp .eq 32, 3) := tbX3_addTransition_83 (83, .if_icmp .eq 32, 3) (List.mem_of_getElem? (i := 0) rfl)
theorem dX3_addTransition_86 : decode cX3_addTransition 86 = .ok (.iload 4, 2) := tbX3_addTransition_83 (86, .iload 4, 2) (List.mem_of_getElem? (i := 1) rfl)
theorem dX3_addTransition_88 : decode cX3_addTransition 88 = .ok (.ifCond .lt 17, 3) := tbX3_addTransition_83 (88, .ifCond .lt 17, 3) (List.mem_of_getElem? (i := 2) rfl)
theorem dX3_addTransition_91 : decode cX3_addTransition 91 = .ok (.iload 4, 2) := tbX3_addTransition_83 (91, .iload 4, 2) (List.mem_of_getElem? (i := 3) rfl)
theorem dX3_addTransition_93 : decode cX3_addTransition 93 = .ok (.iconst 2, 1) := tbX3_addTransition_83 (93, .iconst 2, 1) (List.mem_of_getElem? (i := 4) rfl)
theorem dX3_addTransition_94 : decode cX3_addTransition 94 = .ok (.if_icmp .gt 11, 3) := tbX3_addTransition_83 (94, .if_icmp .gt 11, 3) (List.mem_of_getElem? (i := 5) rfl)
theorem dX3_addTransition_97 : decode cX3_addTransition 97 = .ok (.iload 5, 2) := tbX3_addTransition_83 (97, .iload 5, 2) (List.mem_of_getElem? (i := 6) rfl)
theorem dX3_addTransition_99 : decode cX3_addTransition 99 = .ok (.invokestatic 60, 3) := tbX3_addTransition_83 (99, .invokestatic 60, 3) (List.mem_of_getElem? (i := 7) rfl)
theorem dX3_addTransition_102 : decode cX3_addTransition 102 = .ok (.ifCond .ne 13, 3) := tbX3_addTransition_83 (102, .ifCond .ne 13, 3) (List.mem_of_getElem? (i := 8) rfl)
theorem dX3_addTransition_105 : decode cX3_addTransition 105 = .ok (.new 64, 3) := tbX3_addTransition_83 (105, .new 64, 3) (List.mem_of_getElem? (i := 9) rfl)
theorem dX3_addTransition_108 : decode cX3_addTransition 108 = .ok (.dup, 1) := tbX3_addTransition_83 (108, .dup, 1) (List.mem_of_getElem? (i := 10) rfl)
theorem dX3_addTransition_109 : decode cX3_addTransition 109 = .ok (.ldc 66, 2) := tbX3_addTransition_83 (109, .ldc 66, 2) (List.mem_of_getElem? (i := 11) rfl)
theorem dX3_addTransition_111 : decode cX3_addTransition 111 = .ok (.invokespecial 68, 3) := tbX3_addTransition_83 (111, .invokespecial 68, 3) (List.mem_of_getElem? (i := 12) rfl)
theorem dX3_addTransition_114 : decode cX3_addTransition 114 = .ok (.athrow, 1) := tbX3_addTransition_83 (114, .athrow, 1) (List.mem_of_getElem? (i := 13) rfl)
theorem dX3_addTransition_115 : decode cX3_addTransition 115 = .ok (.aload_n 0, 1) := tbX3_addTransition_83 (115, .aload_n 0, 1) (List.mem_of_getElem? (i := 14) rfl)
theorem dX3_addTransition_116 : decode cX3_addTransition 116 = .ok (.getfield 12, 3) := tbX3_addTransition_83 (116, .getfield 12, 3) (List.mem_of_getElem? (i := 15) rfl)
theorem dX3_addTransition_119 : decode cX3_addTransition 119 = .ok (.getfield 69, 3) := tbX3_addTransition_83 (119, .getfield 69, 3) (List.mem_of_getElem? (i := 16) rfl)
theorem dX3_addTransition_122 : decode cX3_addTransition 122 = .ok (.bipush 40, 2) := tbX3_addTransition_83 (122, .bipush 40, 2) (List.mem_of_getElem? (i := 17) rfl)
theorem dX3_addTransition_124 : decode cX3_addTransition 124 = .ok (.if_icmp .lt 13, 3) := tbX3_addTransition_83 (124, .if_icmp .lt 13, 3) (List.mem_of_getElem? (i := 18) rfl)
theorem dX3_addTransition_127 : decode cX3_addTransition 127 = .ok (.new 36, 3) := tbX3_addTransition_83 (127, .new 36, 3) (List.mem_of_getElem? (i := 19) rfl)
theorem dX3_addTransition_130 : decode cX3_addTransition 130 = .ok (.dup, 1) := tbX3_addTransition_83 (130, .dup, 1) (List.mem_of_getElem? (i := 20) rfl)
theorem dX3_addTransition_131 : decode cX3_addTransition 131 = .ok (.ldc 72, 2) := tbX3_addTransition_83 (131, .ldc 72, 2) (List.mem_of_getElem? (i := 21) rfl)
theorem dX3_addTransition_133 : decode cX3_addTransition 133 = .ok (.invokespecial 40, 3) := tbX3_addTransition_83 (133, .invokespecial 40, 3) (List.mem_of_getElem? (i := 22) rfl)
theorem dX3_addTransition_136 : decode cX3_addTransition 136 = .ok (.athrow, 1) := tbX3_addTransition_83 (136, .athrow, 1) (List.mem_of_getElem? (i := 23) rfl)
theorem dX3_addTransition_137 : decode cX3_addTransition 137 = .ok (.aload_n 0, 1) := tbX3_addTransition_83 (137, .aload_n 0, 1) (List.mem_of_getElem? (i := 24) rfl)
theorem dX3_addTransition_138 : decode cX3_addTransition 138 = .ok (.getfield 28, 3) := tbX3_addTransition_83 (138, .getfield 28, 3) (List.mem_of_getElem? (i := 25) rfl)
theorem dX3_addTransition_141 : decode cX3_addTransition 141 = .ok (.iconst 0, 1) := tbX3_addTransition_83 (141, .iconst 0, 1) (List.mem_of_getElem? (i := 26) rfl)
theorem dX3_addTransition_142 : decode cX3_addTransition 142 = .ok (.putfield 43, 3) := tbX3_addTransition_83 (142, .putfield 43, 3) (List.mem_of_getElem? (i := 27) rfl)
theorem dX3_addTransition_145 : decode cX3_addTransition 145 = .ok (.aload_n 0, 1) := tbX3_addTransition_83 (145, .aload_n 0, 1) (List.mem_of_getElem? (i := 28) rfl)
theorem dX3_addTransition_146 : decode cX3_addTransition 146 = .ok (.getfield 12, 3) := tbX3_addTransition_83 (146, .getfield 12, 3) (List.mem_of_getElem? (i := 29) rfl)
theorem dX3_addTransition_149 : decode cX3_addTransition 149 = .ok (.iload_n 1, 1) := tbX3_addTransition_83 (149, .iload_n 1, 1) (List.mem_of_getElem? (i := 30) rfl)
theorem dX3_addTransition_150 : decode cX3_addTransition 150 = .ok (.iload_n 2, 1) := tbX3_addTransition_83 (150, .iload_n 2, 1) (List.mem_of_getElem? (i := 31) rfl)
theorem dX3_addTransition_151 : decode cX3_addTransition 151 = .ok (.iload 6, 2) := tbX3_addTransition_83 (151, .iload 6, 2) (List.mem_of_getElem? (i := 32) rfl)
theorem dX3_addTransition_153 : decode cX3_addTransition 153 = .ok (.invokevirtual 74, 3) := tbX3_addTransition_83 (153, .invokevirtual 74, 3) (List.mem_of_getElem? (i := 33) rfl)
theorem dX3_addTransition_156 : decode cX3_addTransition 156 = .ok (.istore 7, 2) := tbX3_addTransition_83 (156, .istore 7, 2) (List.mem_of_getElem? (i := 34) rfl)
theorem dX3_addTransition_158 : decode cX3_addTransition 158 = .ok (.iload_n 3, 1) := tbX3_addTransition_83 (158, .iload_n 3, 1) (List.mem_of_getElem? (i := 35) rfl)
theorem dX3_addTransition_159 : decode cX3_addTransition 159 = .ok (.iconst (-1), 1) := tbX3_addTransition_83 (159, .iconst (-1), 1) (List.mem_of_getElem? (i := 36) rfl)
theorem dX3_addTransition_160 : decode cX3_addTransition 160 = .ok (.if_icmp .eq 17, 3) := tbX3_addTransition_83 (160, .if_icmp .eq 17, 3) (List.mem_of_getElem? (i := 37) rfl)
theorem dX3_addTransition_163 : decode cX3_addTransition 163 = .ok (.aload_n 0, 1) := tbX3_addTransition_83 (163, .aload_n 0, 1) (List.mem_of_getElem? (i := 38) rfl)
theorem dX3_addTransition_164 : decode cX3_addTransition 164 = .ok (.getfield 12, 3) := tbX3_addTransition_83 (164, .getfield 12, 3) (List.mem_of_getElem? (i := 39) rfl)
theorem tbX3_addTransition_167 : ∀ q ∈ ([(167, .iload 7, 2), (169, .iload_n 3, 1), (170, .iload 4, 2), (172, .iload 5, 2), (174, .invokevirtual 78, 3), (177, .aload_n 0, 1), (178, .getfield 21, 3), (181, .getfield 82, 3), (184, .iload 7, 2), (186, .iconst 0, 1), (187, .iastore, 1), (188, .iload 7, 2), (190, .ireturn, 1)] : List (Nat × Instr × Nat)), decode cX3_addTransition q.1 = .ok (q.2.1, q.2.2) := by decide +kernel
theorem dX3_addTransition_167 : decode cX3_addTransition 167 = .ok (.iload 7, 2) := tbX3_addTransition_167 (167, .iload 7, 2) (List.mem_of_getElem? (i := 0) rfl)
theorem dX3_addTransition_169 : decode cX3_addTransition 169 = .ok (.iload_n 3, 1) := tbX3_addTransition_167 (169, .iload_n 3, 1) (List.mem_of_getElem? (i := 1) rfl)
theorem dX3_addTransition_170 : decode cX3_addTransition 170 = .ok (.iload 4, 2) := tbX3_addTransition_167 (170, .iload 4, 2) (List.mem_of_getElem? (i := 2) rfl)
theorem dX3_addTransition_172 : decode cX3_addTransition 172 = .ok (.iload 5, 2) := tbX3_addTransition_167 (172, .iload 5, 2) (List.mem_of_getElem? (i := 3) rfl)
theorem dX3_addTransition_174 : decode cX3_addTransition 174 = .ok (.invokevirtual 78, 3) := tbX3_addTransition_167 (174, .invokevirtual 78, 3) (List.mem_of_getElem? (i := 4) rfl)
theorem dX3_addTransition_177 : decode cX3_addTransition 177 = .ok (.aload_n 0, 1) := tbX3_addTransition_167 (177, .aload_n 0, 1) (List.mem_of_getElem? (i := 5) rfl)
theorem dX3_addTransition_178 : decode cX3_addTransition 178 = .ok (.getfield 21, 3) := tbX3_addTransition_167 (178, .getfield 21, 3) (List.mem_of_getElem? (i := 6) rfl)
theorem dX3_addTransition_181 : decode cX3_addTransition 181 = .ok (.getfield 82, 3) := tbX3_addTransition_167 (181, .getfield 82, 3) (List.mem_of_getElem? (i := 7) rfl)
theorem dX3_addTransition_184 : decode cX3_addTransition 184 = .ok (.iload 7, 2) := tbX3_addTransition_167 (184, .iload 7, 2) (List.mem_of_getElem? (i := 8) rfl)
theorem dX3_addTransition_186 : decode cX3_addTransition 186 = .ok (.iconst 0, 1) := tbX3_addTransition_167 (186, .iconst 0, 1) (List.mem_of_getElem? (i := 9) rfl)
theorem dX3_addTransition_187 : decode cX3_addTransition 187 = .ok (.iastore, 1) := tbX3_addTransition_167 (187, .iastore, 1) (List.mem_of_getElem? (i := 10) rfl)
theorem dX3_addTransition_188 : decode cX3_addTransition 188 = .ok (.iload 7, 2) := tbX3_addTransition_167 (188, .iload 7, 2) (List.mem_of_getElem? (i := 11) rfl)
theorem dX3_addTransition_190 : decode cX3_addTransition 190 = .ok (.ireturn, 1) := tbX3_addTransition_167 (190, .ireturn, 1) (List.mem_of_getElem? (i := 12) rfl)
set_option maxRecDepth 20000 in
theorem ggX3_addAction_X3_isBelow : GoodIn wsX3_addAction wsX3_isBelow := goodIn_r _ [15] (by decide +kernel) (by decide +kernel)
set_option maxRecDepth 20000 in
theorem gX3_addAction_X3_isBelow : GoodIn wsX3_addAction (va_wsS RX3 47 yX3_isBelow wsX3_isBelow) := goodIn_app (goodIn_of _ (by decide +kernel)) ggX3_addAction_X3_isBelow
set_option maxRecDepth 20000 in
theorem ggX3_addAction_X3_isAction : GoodIn wsX3_addAction wsX3_isAction := goodIn_r _ [18, 12, 13, 14, 15, 19, 20, 21] (by decide +kernel) (by decide +kernel)
set_option maxRecDepth 20000 in
theorem gX3_addAction_X3_isAction : GoodIn wsX3_addAction (va_wsS RX3 88 yX3_isAction wsX3_isAction) := goodIn_app (goodIn_of _ (by decide +kernel)) ggX3_addAction_X3_isAction
set_option maxRecDepth 20000 in
theorem ggX3_addAction_X1_appendAction : GoodIn wsX3_addAction wsX1_appendAction := goodIn_r _ [26, 27, 28, 29, 30, 34, 35, 36, 37, 38, 39, 40, 41, 42, 43, 44, 45, 46] (by decide +kernel) (by decide +kernel)
set_option maxRecDepth 20000 in
theorem gX3_addAction_X1_appendAction : GoodIn wsX3_addAction (wsV RX3 99 RX1 yX1_appendAction wsX1_appendAction) := goodIn_app (goodIn_of _ (by decide +kernel)) ggX3_addAction_X1_appendAction
theorem tbX3_addAction_0 : ∀ q ∈ ([(0, .iload_n 1, 1), (1, .aload_n 0, 1), (2, .getfield 12, 3), (5, .getfield 69, 3), (8, .invokestatic 47, 3), (11, .ifCond .ne 13, 3), (14, .new 51, 3), (17, .dup, 1), (18, .ldc 86, 2), (20, .invokespecial 55, 3), (23, .athrow, 1), (24, .iload_n 2, 1), (25, .iload_n 3, 1), (26, .iload 4, 2), (28, .invokestatic 88, 3), (31, .ifCond .ne 13, 3), (34, .new 64, 3), (37, .dup, 1), (38, .ldc 92, 2), (40, .invokespecial 68, 3), (43, .athrow, 1), (44, .aload_n 0, 1), (45, .getfield 12, 3), (48, .getfield 94, 3), (51, .iload_n 1, 1), (52, .iaload, 1), (53, .iconst 3, 1), (54, .if_icmp .lt 13, 3), (57, .new 36, 3), (60, .dup, 1), (61, .ldc 97, 2), (63, .invokespecial 40, 3), (66, .athrow, 1), (67, .aload_n 0, 1), (68, .getfield 28, 3), (71, .iconst 0, 1), (72, .putfield 43, 3), (75, .aload_n 0, 1), (76, .getfield 12, 3), (79, .iload_n 1, 1)] : List (Nat × Instr × Nat)), decode cX3_addAction q.1 = .ok (q.2.1, q.2.2) := by decide +kernel
theorem dX3_addAction_0 : decode cX3_addAction 0 = .ok (.iload_n 1, 1) := tbX3_addAction_0 (0, .iload_n 1, 1) (List.mem_of_getElem? (i := 0) rfl)
theorem dX3_addAction_1 : decode cX3_addAction 1 = .ok (.aload_n 0, 1) := tbX3_addAction_0 (1, .aload_n 0, 1) (List.mem_of_getElem? (i := 1) rfl)
theorem dX3_addAction_2 : decode cX3_addAction 2 = .ok (.getfield 12, 3) := tbX3_addAction_0 (2, .getfield 12, 3) (List.mem_of_getElem? (i := 2) rfl)
theorem dX3_addAction_5 : decode cX3_addAction 5 = .ok (.getfield 69, 3) := tbX3_addAction_0 (5, .getfield 69, 3) (List.mem_of_getElem? (i := 3) rfl)
theorem dX3_addAction_8 : decode cX3_addAction 8 = .ok (.invokestatic 47, 3) := tbX3_addAction_0 (8, .invokestatic 47, 3) (List.mem_of_getElem? (i := 4) rfl)
theorem dX3_addAction_11 : decode cX3_addAction 11 = .ok (.ifCond .ne 13, 3) := tbX3_addAction_0 (11, .ifCond .ne 13, 3) (List.mem_of_getElem? (i := 5) rfl)
theorem dX3_addAction_14 : decode cX3_addAction 14 = .ok (.new 51, 3) := tbX3_addAction_0 (14, .new 51, 3) (List.mem_of_getElem? (i := 6) rfl)
theorem dX3_addAction_17 : decode cX3_addAction 17 = .ok (.dup, 1) := tbX3_addAction_0 (17, .dup, 1) (List.mem_of_getElem? (i := 7) rfl)
theorem dX3_addAction_18 : decode cX3_addAction 18 = .ok (.ldc 86, 2) := tbX3_addAction_0 (18, .ldc 86, 2) (List.mem_of_getElem? (i := 8) rfl)
theorem dX3_addAction_20 : decode cX3_addAction 20 = .ok (.invokespecial 55, 3) := tbX3_addAction_0 (20, .invokespecial 55, 3) (List.mem_of_getElem? (i := 9) rfl)
theorem dX3_addAction_23 : decode cX3_addAction 23 = .ok (.athrow, 1) := tbX3_addAction_0 (23, .athrow, 1) (List.mem_of_getElem? (i := 10) rfl)
theorem dX3_addAction_24 : decode cX3_addAction 24 = .ok (.iload_n 2, 1) := tbX3_addAction_0 (24, .iload_n 2, 1) (List.mem_of_getElem? (i := 11) rfl)
theorem dX3_addAction_25 : decode cX3_addAction 25 = .ok (.iload_n 3, 1) := tbX3_addAction_0 (25, .iload_n 3, 1) (List.mem_of_getElem? (i := 12) rfl)
theorem dX3_addAction_26 : decode cX3_addAction 26 = .ok (.iload 4, 2) := tbX3_addAction_0 (26, .iload 4, 2) (List.mem_of_getElem? (i := 13) rfl)
theorem dX3_addAction_28 : decode cX3_addAction 28 = .ok (.invokestatic 88, 3) := tbX3_addAction_0 (28, .invokestatic 88, 3) (List.mem_of_getElem? (i := 14) rfl)
theorem dX3_addAction_31 : decode cX3_addAction 31 = .ok (.ifCond .ne 13, 3) := tbX3_addAction_0 (31, .ifCond .ne 13, 3) (List.mem_of_getElem? (i := 15) rfl)
theorem dX3_addAction_34 : decode cX3_addAction 34 = .ok (.new 64, 3) := tbX3_addAction_0 (34, .new 64, 3) (List.mem_of_getElem? (i := 16) rfl)
theorem dX3_addAction_37 : decode cX3_addAction 37 = .ok (.dup, 1) := tbX3_addAction_0 (37, .dup, 1) (List.mem_of_getElem? (i := 17) rfl)
theorem dX3_addAction_38 : decode cX3_addAction 38 = .ok (.ldc 92, 2) := tbX3_addAction_0 (38, .ldc 92, 2) (List.mem_of_getElem? (i := 18) rfl)
theorem dX3_addAction_40 : decode cX3_addAction 40 = .ok (.invokespecial 68, 3) := tbX3_addAction_0 (40, .invokespecial 68, 3) (List.mem_of_getElem? (i := 19) rfl)
theorem dX3_addAction_43 : decode cX3_addAction 43 = .ok (.athrow, 1) := tbX3_addAction_0 (43, .athrow, 1) (List.mem_of_getElem? (i := 20) rfl)
theorem dX3_addAction_44 : decode cX3_addAction 44 = .ok (.aload_n 0, 1) := tbX3_addAction_0 (44, .aload_n 0, 1) (List.mem_of_getElem? (i := 21) rfl)
theorem dX3_addAction_45 : decode cX3_addAction 45 = .ok (.getfield 12, 3) := tbX3_addAction_0 (45, .getfield 12, 3) (List.mem_of_getElem? (i := 22) rfl)
theorem dX3_addAction_48 : decode cX3_addAction 48 = .ok (.getfield 94, 3) := tbX3_addAction_0 (48, .getfield 94, 3) (List.mem_of_getElem? (i := 23) rfl)
theorem dX3_addAction_51 : decode cX3_addAction 51 = .ok (.iload_n 1, 1) := tbX3_addAction_0 (51, .iload_n 1, 1) (List.mem_of_getElem? (i := 24) rfl)
theorem dX3_addAction_52 : decode cX3_addAction 52 = .ok (.iaload, 1) := tbX3_addAction_0 (52, .iaload, 1) (List.mem_of_getElem? (i := 25) rfl)
theorem dX3_addAction_53 : decode cX3_addAction 53 = .ok (.iconst 3, 1) := tbX3_addAction_0 (53, .iconst 3, 1) (List.mem_of_getElem? (i := 26) rfl)
theorem dX3_addAction_54 : decode cX3_addAction 54 = .ok (.if_icmp .lt 13, 3) := tbX3_addAction_0 (54, .if_icmp .lt 13, 3) (List.mem_of_getElem? (i := 27) rfl)
theorem dX3_addAction_57 : decode cX3_addAction 57 = .ok (.new 36, 3) := tbX3_addAction_0 (57, .new 36, 3) (List.mem_of_getElem? (i := 28) rfl)
theorem dX3_addAction_60 : decode cX3_addAction 60 = .ok (.dup, 1) := tbX3_addAction_0 (60, .dup, 1) (List.mem_of_getElem? (i := 29) rfl)
theorem dX3_addAction_61 : decode cX3_addAction 61 = .ok (.ldc 97, 2) := tbX3_addAction_0 (61, .ldc 97, 2) (List.mem_of_getElem? (i := 30) rfl)
theorem dX3_addAction_63 : decode cX3_addAction 63 = .ok (.invokespecial 40, 3) := tbX3_addAction_0 (63, .invokespecial 40, 3) (List.mem_of_getElem? (i := 31) rfl)
theorem dX3_addAction_66 : decode cX3_addAction 66 = .ok (.athrow, 1) := tbX3_addAction_0 (66, .athrow, 1) (List.mem_of_getElem? (i := 32) rfl)
theorem dX3_addAction_67 : decode cX3_addAction 67 = .ok (.aload_n 0, 1) := tbX3_addAction_0 (67, .aload_n 0, 1) (List.mem_of_getElem? (i := 33) rfl)
theorem dX3_addAction_68 : decode cX3_addAction 68 = .ok (.getfield 28, 3) := tbX3_addAction_0 (68, .getfield 28, 3) (List.mem_of_getElem? (i := 34) rfl)
theorem dX3_addAction_71 : decode cX3_addAction 71 = .ok (.iconst 0, 1) := tbX3_addAction_0 (71, .iconst 0, 1) (List.mem_of_getElem? (i := 35) rfl)
theorem dX3_addAction_72 : decode cX3_addAction 72 = .ok (.putfield 43, 3) := tbX3_addAction_0 (72, .putfield 43, 3) (List.mem_of_getElem? (i := 36) rfl)
theorem dX3_addAction_75 : decode cX3_addAction 75 = .ok (.aload_n 0, 1) := tbX3_addAction_0 (75, .aload_n 0, 1) (List.mem_of_getElem? (i := 37) rfl)
theorem dX3_addAction_76 : decode cX3_addAction 76 = .ok (.getfield 12, 3) := tbX3_addAction_0 (76, .getfield 12, 3) (List.mem_of_getElem? (i := 38) rfl)
theorem dX3_addAction_79 : decode cX3_addAction 79 = .ok (.iload_n 1, 1) := tbX3_addAction_0 (79, .iload_n 1, 1) (List.mem_of_getElem? (i := 39) rfl)
theorem tbX3_addAction_80 : ∀ q ∈ ([(80, .iload_n 2, 1), (81, .iload_n 3, 1), (82, .iload 4, 2), (84, .invokevirtual 99, 3), (87, .ireturn, 1)] : List (Nat × Instr × Nat)), decode cX3_addAction q.1 = .ok (q.2.1, q.2.2) := by decide +kernel
theorem dX3_addAction_80 : decode cX3_addAction 80 = .ok (.iload_n 2, 1) := tbX3_addAction_80 (80, .iload_n 2, 1) (List.mem_of_getElem? (i := 0) rfl)
theorem dX3_addAction_81 : decode cX3_addAction 81 = .ok (.iload_n 3, 1) := tbX3_addAction_80 (81, .iload_n 3, 1) (List.mem_of_getElem? (i := 1) rfl)
theorem dX3_addAction_82 : decode cX3_addAction 82 = .ok (.iload 4, 2) := tbX3_addAction_80 (82, .iload 4, 2) (List.mem_of_getElem? (i := 2) rfl)
theorem dX3_addAction_84 : decode cX3_addAction 84 = .ok (.invokevirtual 99, 3) := tbX3_addAction_80 (84, .invokevirtual 99, 3) (List.mem_of_getElem? (i := 3) rfl)
theorem dX3_addAction_87 : decode cX3_addAction 87 = .ok (.ireturn, 1) := tbX3_addAction_80 (87, .ireturn, 1) (List.mem_of_getElem? (i := 4) rfl)
theorem tbX3_drop_0 : ∀ q ∈ ([(0, .aload_n 0, 1), (1, .getfield 12, 3), (4, .getfield 69, 3), (7, .ifCond .gt 13, 3), (10, .new 36, 3), (13, .dup, 1), (14, .ldc 103, 2), (16, .invokespecial 40, 3), (19, .athrow, 1), (20, .aload_n 0, 1), (21, .getfield 28, 3), (24, .iconst 0, 1), (25, .putfield 43, 3), (28, .aload_n 0, 1), (29, .getfield 12, 3), (32, .dup, 1), (33, .getfield 69, 3), (36, .iconst 1, 1), (37, .isub, 1), (38, .putfield 69, 3), (41, .aload_n 0, 1), (42, .getfield 12, 3), (45, .getfield 69, 3), (48, .ireturn, 1)] : List (Nat × Instr × Nat)), decode cX3_drop q.1 = .ok (q.2.1, q.2.2) := by decide +kernel
theorem dX3_drop_0 : decode cX3_drop 0 = .ok (.aload_n 0, 1) := tbX3_drop_0 (0, .aload_n 0, 1) (List.mem_of_getElem? (i := 0) rfl)
theorem dX3_drop_1 : decode cX3_drop 1 = .ok (.getfield 12, 3) := tbX3_drop_0 (1, .getfield 12, 3) (List.mem_of_getElem? (i := 1) rfl)
theorem dX3_drop_4 : decode cX3_drop 4 = .ok (.getfield 69, 3) := tbX3_drop_0 (4, .getfield 69, 3) (List.mem_of_getElem? (i := 2) rfl)
theorem dX3_drop_7 : decode cX3_drop 7 = .ok (.ifCond .gt 13, 3) := tbX3_drop_0 (7, .ifCond .gt 13, 3) (List.mem_of_getElem? (i := 3) rfl)
theorem dX3_drop_10 : decode cX3_drop 10 = .ok (.new 36, 3) := tbX3_drop_0 (10, .new 36, 3) (List.mem_of_getElem? (i := 4) rfl)
theorem dX3_drop_13 : decode cX3_drop 13 = .ok (.dup, 1) := tbX3_drop_0 (13, .dup, 1) (List.mem_of_getElem? (i := 5) rfl)
theorem dX3_drop_14 : decode cX3_drop 14 = .ok (.ldc 103, 2) := tbX3_drop_0 (14, .ldc 103, 2) (List.mem_of_getElem? (i := 6) rfl)
theorem dX3_drop_16 : decode cX3_drop 16 = .ok (.invokespecial 40, 3) := tbX3_drop_0 (16, .invokespecial 40, 3) (List.mem_of_getElem? (i := 7) rfl)
theorem dX3_drop_19 : decode cX3_drop 19 = .ok (.athrow, 1) := tbX3_drop_0 (19, .athrow, 1) (List.mem_of_getElem? (i := 8) rfl)
theorem dX3_drop_20 : decode cX3_drop 20 = .ok (.aload_n 0, 1) := tbX3_drop_0 (20, .aload_n 0, 1) (List.mem_of_getElem? (i := 9) rfl)
theorem dX3_drop_21 : decode cX3_drop 21 = .ok (.getfield 28, 3) := tbX3_drop_0 (21, .getfield 28, 3) (List.mem_of_getElem? (i := 10) rfl)
theorem dX3_drop_24 : decode cX3_drop 24 = .ok (.iconst 0, 1) := tbX3_drop_0 (24, .iconst 0, 1) (List.mem_of_getElem? (i := 11) rfl)
theorem dX3_drop_25 : decode cX3_drop 25 = .ok (.putfield 43, 3) := tbX3_drop_0 (25, .putfield 43, 3) (List.mem_of_getElem? (i := 12) rfl)
theorem dX3_drop_28 : decode cX3_drop 28 = .ok (.aload_n 0, 1) := tbX3_drop_0 (28, .aload_n 0, 1) (List.mem_of_getElem? (i := 13) rfl)
theorem dX3_drop_29 : decode cX3_drop 29 = .ok (.getfield 12, 3) := tbX3_drop_0 (29, .getfield 12, 3) (List.mem_of_getElem? (i := 14) rfl)
theorem dX3_drop_32 : decode cX3_drop 32 = .ok (.dup, 1) := tbX3_drop_0 (32, .dup, 1) (List.mem_of_getElem? (i := 15) rfl)
theorem dX3_drop_33 : decode cX3_drop 33 = .ok (.getfield 69, 3) := tbX3_drop_0 (33, .getfield 69, 3) (List.mem_of_getElem? (i := 16) rfl)
theorem dX3_drop_36 : decode cX3_drop 36 = .ok (.iconst 1, 1) := tbX3_drop_0 (36, .iconst 1, 1) (List.mem_of_getElem? (i := 17) rfl)
theorem dX3_drop_37 : decode cX3_drop 37 = .ok (.isub, 1) := tbX3_drop_0 (37, .isub, 1) (List.mem_of_getElem? (i := 18) rfl)
theorem dX3_drop_38 : decode cX3_drop 38 = .ok (.putfield 69, 3) := tbX3_drop_0 (38, .putfield 69, 3) (List.mem_of_getElem? (i := 19) rfl)
theorem dX3_drop_41 : decode cX3_drop 41 = .ok (.aload_n 0, 1) := tbX3_drop_0 (41, .aload_n 0, 1) (List.mem_of_getElem? (i := 20) rfl)
theorem dX3_drop_42 : decode cX3_drop 42 = .ok (.getfield 12, 3) := tbX3_drop_0 (42, .getfield 12, 3) (List.mem_of_getElem? (i := 21) rfl)
theorem dX3_drop_45 : decode cX3_drop 45 = .ok (.getfield 69, 3) := tbX3_drop_0 (45, .getfield 69, 3) (List.mem_of_getElem? (i := 22) rfl)
theorem dX3_drop_48 : decode cX3_drop 48 = .ok (.ireturn, 1) := tbX3_drop_0 (48, .ireturn, 1) (List.mem_of_getElem? (i := 23) rfl)
set_option maxRecDepth 20000 in
theorem ggX3_setTimerEvent_X3_isBelow : GoodIn wsX3_setTimerEvent wsX3_isBelow := goodIn_r _ [10] (by decide +kernel) (by decide +kernel)
set_option maxRecDepth 20000 in
theorem gX3_setTimerEvent_X3_isBelow : GoodIn wsX3_setTimerEvent (va_wsS RX3 47 yX3_isBelow wsX3_isBelow) := goodIn_app (goodIn_of _ (by decide +kernel)) ggX3_setTimerEvent_X3_isBelow
theorem tbX3_setTimerEvent_0 : ∀ q ∈ ([(0, .iload_n 1, 1), (1, .iconst 4, 1), (2, .invokestatic 47, 3), (5, .ifCond .eq 12, 3), (8, .iload_n 2, 1), (9, .bipush 8, 2), (11, .invokestatic 47, 3), (14, .ifCond .ne 13, 3), (17, .new 51, 3), (20, .dup, 1), (21, .ldc 105, 2), (23, .invokespecial 55, 3), (26, .athrow, 1), (27, .aload_n 0, 1), (28, .getfield 28, 3), (31, .iconst 0, 1), (32, .putfield 43, 3), (35, .aload_n 0, 1), (36, .getfield 12, 3), (39, .getfield 107, 3), (42, .iload_n 1, 1), (43, .iaload, 1), (44, .istore_n 3, 1), (45, .aload_n 0, 1), (46, .getfield 12, 3), (49, .getfield 107, 3), (52, .iload_n 1, 1), (53, .iload_n 2, 1), (54, .iastore, 1), (55, .iload_n 3, 1), (56, .ireturn, 1)] : List (Nat × Instr × Nat)), decode cX3_setTimerEvent q.1 = .ok (q.2.1, q.2.2) := by decide +kernel
theorem dX3_setTimerEvent_0 : decode cX3_setTimerEvent 0 = .ok (.iload_n 1, 1) := tbX3_setTimerEvent_0 (0, .iload_n 1, 1) (List.mem_of_getElem? (i := 0) rfl)
theorem dX3_setTimerEvent_1 : decode cX3_setTimerEvent 1 = .ok (.iconst 4, 1) := tbX3_setTimerEvent_0 (1, .iconst 4, 1) (List.mem_of_getElem? (i := 1) rfl)
theorem dX3_setTimerEvent_2 : decode cX3_setTimerEvent 2 = .ok (.invokestatic 47, 3) := tbX3_setTimerEvent_0 (2, .invokestatic 47, 3) (List.mem_of_getElem? (i := 2) rfl)
theorem dX3_setTimerEvent_5 : decode cX3_setTimerEvent 5 = .ok (.ifCond .eq 12, 3) := tbX3_setTimerEvent_0 (5, .ifCond .eq 12, 3) (List.mem_of_getElem? (i := 3) rfl)
theorem dX3_setTimerEvent_8 : decode cX3_setTimerEvent 8 = .ok (.iload_n 2, 1) := tbX3_setTimerEvent_0 (8, .iload_n 2, 1) (List.mem_of_getElem? (i := 4) rfl)
theorem dX3_setTimerEvent_9 : decode cX3_setTimerEvent 9 = .ok (.bipush 8, 2) := tbX3_setTimerEvent_0 (9, .bipush 8, 2) (List.mem_of_getElem? (i := 5) rfl)
theorem dX3_setTimerEvent_11 : decode cX3_setTimerEvent 11 = .ok (.invokestatic 47, 3) := tbX3_setTimerEvent_0 (11, .invokestatic 47, 3) (List.mem_of_getElem? (i := 6) rfl)
theorem dX3_setTimerEvent_14 : decode cX3_setTimerEvent 14 = .ok (.ifCond .ne 13, 3) := tbX3_setTimerEvent_0 (14, .ifCond .ne 13, 3) (List.mem_of_getElem? (i := 7) rfl)
theorem dX3_setTimerEvent_17 : decode cX3_setTimerEvent 17 = .ok (.new 51, 3) := tbX3_setTimerEvent_0 (17, .new 51, 3) (List.mem_of_getElem? (i := 8) rfl)
theorem dX3_setTimerEvent_20 : decode cX3_setTimerEvent 20 = .ok (.dup, 1) := tbX3_setTimerEvent_0 (20, .dup, 1) (List.mem_of_getElem? (i := 9) rfl)
theorem dX3_setTimerEvent_21 : decode cX3_setTimerEvent 21 = .ok (.ldc 105, 2) := tbX3_setTimerEvent_0 (21, .ldc 105, 2) (List.mem_of_getElem? (i := 10) rfl)
theorem dX3_setTimerEvent_23 : decode cX3_setTimerEvent 23 = .ok (.invokespecial 55, 3) := tbX3_setTimerEvent_0 (23, .invokespecial 55, 3) (List.mem_of_getElem? (i := 11) rfl)
theorem dX3_setTimerEvent_26 : decode cX3_setTimerEvent 26 = .ok (.athrow, 1) := tbX3_setTimerEvent_0 (26, .athrow, 1) (List.mem_of_getElem? (i := 12) rfl)
theorem dX3_setTimerEvent_27 : decode cX3_setTimerEvent 27 = .ok (.aload_n 0, 1) := tbX3_setTimerEvent_0 (27, .aload_n 0, 1) (List.mem_of_getElem? (i := 13) rfl)
theorem dX3_setTimerEvent_28 : decode cX3_setTimerEvent 28 = .ok (.getfield 28, 3) := tbX3_setTimerEvent_0 (28, .getfield 28, 3) (List.mem_of_getElem? (i := 14) rfl)
theorem dX3_setTimerEvent_31 : decode cX3_setTimerEvent 31 = .ok (.iconst 0, 1) := tbX3_setTimerEvent_0 (31, .iconst 0, 1) (List.mem_of_getElem? (i := 15) rfl)
theorem dX3_setTimerEvent_32 : decode cX3_setTimerEvent 32 = .ok (.putfield 43, 3) := tbX3_setTimerEvent_0 (32, .putfield 43, 3) (List.mem_of_getElem? (i := 16) rfl)
theorem dX3_setTimerEvent_35 : decode cX3_setTimerEvent 35 = .ok (.aload_n 0, 1) := tbX3_setTimerEvent_0 (35, .aload_n 0, 1) (List.mem_of_getElem? (i := 17) rfl)
theorem dX3_setTimerEvent_36 : decode cX3_setTimerEvent 36 = .ok (.getfield 12, 3) := tbX3_setTimerEvent_0 (36, .getfield 12, 3) (List.mem_of_getElem? (i := 18) rfl)
theorem dX3_setTimerEvent_39 : decode cX3_setTimerEvent 39 = .ok (.getfield 107, 3) := tbX3_setTimerEvent_0 (39, .getfield 107, 3) (List.mem_of_getElem? (i := 19) rfl)
theorem dX3_setTimerEvent_42 : decode cX3_setTimerEvent 42 = .ok (.iload_n 1, 1) := tbX3_setTimerEvent_0 (42, .iload_n 1, 1) (List.mem_of_getElem? (i := 20) rfl)
theorem dX3_setTimerEvent_43 : decode cX3_setTimerEvent 43 = .ok (.iaload, 1) := tbX3_setTimerEvent_0 (43, .iaload, 1) (List.mem_of_getElem? (i := 21) rfl)
theorem dX3_setTimerEvent_44 : decode cX3_setTimerEvent 44 = .ok (.istore_n 3, 1) := tbX3_setTimerEvent_0 (44, .istore_n 3, 1) (List.mem_of_getElem? (i := 22) rfl)
theorem dX3_setTimerEvent_45 : decode cX3_setTimerEvent 45 = .ok (.aload_n 0, 1) := tbX3_setTimerEvent_0 (45, .aload_n 0, 1) (List.mem_of_getElem? (i := 23) rfl)
theorem dX3_setTimerEvent_46 : decode cX3_setTimerEvent 46 = .ok (.getfield 12, 3) := tbX3_setTimerEvent_0 (46, .getfield 12, 3) (List.mem_of_getElem? (i := 24) rfl)
theorem dX3_setTimerEvent_49 : decode cX3_setTimerEvent 49 = .ok (.getfield 107, 3) := tbX3_setTimerEvent_0 (49, .getfield 107, 3) (List.mem_of_getElem? (i := 25) rfl)
theorem dX3_setTimerEvent_52 : decode cX3_setTimerEvent 52 = .ok (.iload_n 1, 1) := tbX3_setTimerEvent_0 (52, .iload_n 1, 1) (List.mem_of_getElem? (i := 26) rfl)
theorem dX3_setTimerEvent_53 : decode cX3_setTimerEvent 53 = .ok (.iload_n 2, 1) := tbX3_setTimerEvent_0 (53, .iload_n 2, 1) (List.mem_of_getElem? (i := 27) rfl)
theorem dX3_setTimerEvent_54 : decode cX3_setTimerEvent 54 = .ok (.iastore, 1) := tbX3_setTimerEvent_0 (54, .iastore, 1) (List.mem_of_getElem? (i := 28) rfl)
theorem dX3_setTimerEvent_55 : decode cX3_setTimerEvent 55 = .ok (.iload_n 3, 1) := tbX3_setTimerEvent_0 (55, .iload_n 3, 1) (List.mem_of_getElem? (i := 29) rfl)
theorem dX3_setTimerEvent_56 : decode cX3_setTimerEvent 56 = .ok (.ireturn, 1) := tbX3_setTimerEvent_0 (56, .ireturn, 1) (List.mem_of_getElem? (i := 30) rfl)
theorem tbX3_stateCount_0 : ∀ q ∈ ([(0, .aload_n 0, 1), (1, .getfield 12, 3), (4, .getfield 32, 3), (7, .ireturn, 1)] : List (Nat × Instr × Nat)), decode cX3_stateCount q.1 = .ok (q.2.1, q.2.2) := by decide +kernel
theorem dX3_stateCount_0 : decode cX3_stateCount 0 = .ok (.aload_n 0, 1) := tbX3_stateCount_0 (0, .aload_n 0, 1) (List.mem_of_getElem? (i := 0) rfl)
theorem dX3_stateCount_1 : decode cX3_stateCount 1 = .ok (.getfield 12, 3) := tbX3_stateCount_0 (1, .getfield 12, 3) (List.mem_of_getElem? (i := 1) rfl)
theorem dX3_stateCount_4 : decode cX3_stateCount 4 = .ok (.getfield 32, 3) := tbX3_stateCount_0 (4, .getfield 32, 3) (List.mem_of_getElem? (i := 2) rfl)
theorem dX3_stateCount_7 : decode cX3_stateCount 7 = .ok (.ireturn, 1) := tbX3_stateCount_0 (7, .ireturn, 1) (List.mem_of_getElem? (i := 3) rfl)
theorem tbX3_transitionCount_0 : ∀ q ∈ ([(0, .aload_n 0, 1), (1, .getfield 12, 3), (4, .getfield 69, 3), (7, .ireturn, 1)] : List (Nat × Instr × Nat)), decode cX3_transitionCount q.1 = .ok (q.2.1, q.2.2) := by decide +kernel
theorem dX3_transitionCount_0 : decode cX3_transitionCount 0 = .ok (.aload_n 0, 1) := tbX3_transitionCount_0 (0, .aload_n 0, 1) (List.mem_of_getElem? (i := 0) rfl)
theorem dX3_transitionCount_1 : decode cX3_transitionCount 1 = .ok (.getfield 12, 3) := tbX3_transitionCount_0 (1, .getfield 12, 3) (List.mem_of_getElem? (i := 1) rfl)
theorem dX3_transitionCount_4 : decode cX3_transitionCount 4 = .ok (.getfield 69, 3) := tbX3_transitionCount_0 (4, .getfield 69, 3) (List.mem_of_getElem? (i := 2) rfl)
theorem dX3_transitionCount_7 : decode cX3_transitionCount 7 = .ok (.ireturn, 1) := tbX3_transitionCount_0 (7, .ireturn, 1) (List.mem_of_getElem? (i := 3) rfl)
set_option maxRecDepth 20000 in
theorem ggX3_isHidden_X3_isBelow : GoodIn wsX3_isHidden wsX3_isBelow := goodIn_r _ [8] (by decide +kernel) (by decide +kernel)
set_option maxRecDepth 20000 in
theorem gX3_isHidden_X3_isBelow : GoodIn wsX3_isHidden (va_wsS RX3 47 yX3_isBelow wsX3_isBelow) := goodIn_app (goodIn_of _ (by decide +kernel)) ggX3_isHidden_X3_isBelow
set_option maxRecDepth 20000 in
theorem ggX3_isHidden_X1_isBehindAnother : GoodIn wsX3_isHidden wsX1_isBehindAnother := goodIn_r _ [13, 14, 15, 16, 17, 18, 12, 19, 20, 21, 22, 23, 24, 25, 26, 27, 28, 29, 30, 34, 35, 36, 37, 38, 39, 40, 41, 42, 43, 44, 45, 46] (by decide +kernel) (by decide +kernel)
set_option maxRecDepth 20000 in
theorem gX3_isHidden_X1_isBehindAnother : GoodIn wsX3_isHidden (wsV RX3 110 RX1 yX1_isBehindAnother wsX1_isBehindAnother) := goodIn_app (goodIn_of _ (by decide +kernel)) ggX3_isHidden_X1_isBehindAnother
theorem tbX3_isHidden_0 : ∀ q ∈ ([(0, .iload_n 1, 1), (1, .aload_n 0, 1), (2, .getfield 12, 3), (5, .getfield 69, 3), (8, .invokestatic 47, 3), (11, .ifCond .ne 13, 3), (14, .new 51, 3), (17, .dup, 1), (18, .ldc 86, 2), (20, .invokespecial 55, 3), (23, .athrow, 1), (24, .aload_n 0, 1), (25, .getfield 12, 3), (28, .iload_n 1, 1), (29, .invokevirtual 110, 3), (32, .ireturn, 1)] : List (Nat × Instr × Nat)), decode cX3_isHidden q.1 = .ok (q.2.1, q.2.2) := by decide +kernel
theorem dX3_isHidden_0 : decode cX3_isHidden 0 = .ok (.iload_n 1, 1) := tbX3_isHidden_0 (0, .iload_n 1, 1) (List.mem_of_getElem? (i := 0) rfl)
theorem dX3_isHidden_1 : decode cX3_isHidden 1 = .ok (.aload_n 0, 1) := tbX3_isHidden_0 (1, .aload_n 0, 1) (List.mem_of_getElem? (i := 1) rfl)
theorem dX3_isHidden_2 : decode cX3_isHidden 2 = .ok (.getfield 12, 3) := tbX3_isHidden_0 (2, .getfield 12, 3) (List.mem_of_getElem? (i := 2) rfl)
theorem dX3_isHidden_5 : decode cX3_isHidden 5 = .ok (.getfield 69, 3) := tbX3_isHidden_0 (5, .getfield 69, 3) (List.mem_of_getElem? (i := 3) rfl)
theorem dX3_isHidden_8 : decode cX3_isHidden 8 = .ok (.invokestatic 47, 3) := tbX3_isHidden_0 (8, .invokestatic 47, 3) (List.mem_of_getElem? (i := 4) rfl)
theorem dX3_isHidden_11 : decode cX3_isHidden 11 = .ok (.ifCond .ne 13, 3) := tbX3_isHidden_0 (11, .ifCond .ne 13, 3) (List.mem_of_getElem? (i := 5) rfl)
theorem dX3_isHidden_14 : decode cX3_isHidden 14 = .ok (.new 51, 3) := tbX3_isHidden_0 (14, .new 51, 3) (List.mem_of_getElem? (i := 6) rfl)
theorem dX3_isHidden_17 : decode cX3_isHidden 17 = .ok (.dup, 1) := tbX3_isHidden_0 (17, .dup, 1) (List.mem_of_getElem? (i := 7) rfl)
theorem dX3_isHidden_18 : decode cX3_isHidden 18 = .ok (.ldc 86, 2) := tbX3_isHidden_0 (18, .ldc 86, 2) (List.mem_of_getElem? (i := 8) rfl)
theorem dX3_isHidden_20 : decode cX3_isHidden 20 = .ok (.invokespecial 55, 3) := tbX3_isHidden_0 (20, .invokespecial 55, 3) (List.mem_of_getElem? (i := 9) rfl)
theorem dX3_isHidden_23 : decode cX3_isHidden 23 = .ok (.athrow, 1) := tbX3_isHidden_0 (23, .athrow, 1) (List.mem_of_getElem? (i := 10) rfl)
theorem dX3_isHidden_24 : decode cX3_isHidden 24 = .ok (.aload_n 0, 1) := tbX3_isHidden_0 (24, .aload_n 0, 1) (List.mem_of_getElem? (i := 11) rfl)
theorem dX3_isHidden_25 : decode cX3_isHidden 25 = .ok (.getfield 12, 3) := tbX3_isHidden_0 (25, .getfield 12, 3) (List.mem_of_getElem? (i := 12) rfl)
theorem dX3_isHidden_28 : decode cX3_isHidden 28 = .ok (.iload_n 1, 1) := tbX3_isHidden_0 (28, .iload_n 1, 1) (List.mem_of_getElem? (i := 13) rfl)
theorem dX3_isHidden_29 : decode cX3_isHidden 29 = .ok (.invokevirtual 110, 3) := tbX3_isHidden_0 (29, .invokevirtual 110, 3) (List.mem_of_getElem? (i := 14) rfl)
theorem dX3_isHidden_32 : decode cX3_isHidden 32 = .ok (.ireturn, 1) := tbX3_isHidden_0 (32, .ireturn, 1) (List.mem_of_getElem? (i := 15) rfl)
set_option maxRecDepth 20000 in
theorem ggX3_restart_X0_begin : GoodIn wsX3_restart wsX0_begin := goodIn_r _ [7, 8, 9, 10, 11, 12, 13, 14, 15, 16, 17, 18, 19, 20, 21, 22, 23, 27, 28, 29, 30, 31, 32, 33, 34, 35, 36] (by decide +kernel) (by decide +kernel)
set_option maxRecDepth 20000 in
theorem gX3_restart_X0_begin : GoodIn wsX3_restart (wsV RX3 117 RX0 yX0_begin wsX0_begin) := goodIn_app (goodIn_of _ (by decide +kernel)) ggX3_restart_X0_begin
theorem tbX3_restart_0 : ∀ q ∈ ([(0, .aload_n 0, 1), (1, .getfield 21, 3), (4, .getfield 113, 3), (7, .lstore_n 1, 1), (8, .aload_n 0, 1), (9, .getfield 21, 3), (12, .invokevirtual 117, 3), (15, .lload_n 1, 1), (16, .lreturn, 1)] : List (Nat × Instr × Nat)), decode cX3_restart q.1 = .ok (q.2.1, q.2.2) := by decide +kernel
theorem dX3_restart_0 : decode cX3_restart 0 = .ok (.aload_n 0, 1) := tbX3_restart_0 (0, .aload_n 0, 1) (List.mem_of_getElem? (i := 0) rfl)
theorem dX3_restart_1 : decode cX3_restart 1 = .ok (.getfield 21, 3) := tbX3_restart_0 (1, .getfield 21, 3) (List.mem_of_getElem? (i := 1) rfl)
theorem dX3_restart_4 : decode cX3_restart 4 = .ok (.getfield 113, 3) := tbX3_restart_0 (4, .getfield 113, 3) (List.mem_of_getElem? (i := 2) rfl)
theorem dX3_restart_7 : decode cX3_restart 7 = .ok (.lstore_n 1, 1) := tbX3_restart_0 (7, .lstore_n 1, 1) (List.mem_of_getElem? (i := 3) rfl)
theorem dX3_restart_8 : decode cX3_restart 8 = .ok (.aload_n 0, 1) := tbX3_restart_0 (8, .aload_n 0, 1) (List.mem_of_getElem? (i := 4) rfl)
theorem dX3_restart_9 : decode cX3_restart 9 = .ok (.getfield 21, 3) := tbX3_restart_0 (9, .getfield 21, 3) (List.mem_of_getElem? (i := 5) rfl)
theorem dX3_restart_12 : decode cX3_restart 12 = .ok (.invokevirtual 117, 3) := tbX3_restart_0 (12, .invokevirtual 117, 3) (List.mem_of_getElem? (i := 6) rfl)
theorem dX3_restart_15 : decode cX3_restart 15 = .ok (.lload_n 1, 1) := tbX3_restart_0 (15, .lload_n 1, 1) (List.mem_of_getElem? (i := 7) rfl)
theorem dX3_restart_16 : decode cX3_restart 16 = .ok (.lreturn, 1) := tbX3_restart_0 (16, .lreturn, 1) (List.mem_of_getElem? (i := 8) rfl)
set_option maxRecDepth 20000 in
theorem ggX3_happen_X3_isBelow : GoodIn wsX3_happen wsX3_isBelow := goodIn_r _ [7] (by decide +kernel) (by decide +kernel)
set_option maxRecDepth 20000 in
theorem gX3_happen_X3_isBelow : GoodIn wsX3_happen (va_wsS RX3 47 yX3_isBelow wsX3_isBelow) := goodIn_app (goodIn_of _ (by decide +kernel)) ggX3_happen_X3_isBelow
set_option maxRecDepth 20000 in
theorem ggX3_happen_X0_react : GoodIn wsX3_happen wsX0_react := goodIn_r _ [12, 13, 14, 15, 16, 17, 18, 19, 20, 21, 11, 22, 23, 24, 25, 26, 27, 28, 29, 30, 31, 32, 33, 34, 35, 36, 37, 38, 39, 40, 41, 42, 43, 44, 45, 46, 47, 48, 49, 50, 51, 52, 53, 54, 55, 56, 57, 58, 59, 60, 61, 62, 63, 64, 65, 66, 67, 68, 69, 70, 74, 75, 76, 77, 78, 79, 80, 81, 82, 83, 84, 85, 86, 87, 88, 89, 90, 91, 92, 93, 94, 95, 96] (by decide +kernel) (by decide +kernel)
set_option maxRecDepth 20000 in
theorem gX3_happen_X0_react : GoodIn wsX3_happen (wsV RX3 120 RX0 yX0_react wsX0_react) := goodIn_app (goodIn_of _ (by decide +kernel)) ggX3_happen_X0_react
theorem tbX3_happen_0 : ∀ q ∈ ([(0, .iload_n 1, 1), (1, .bipush 8, 2), (3, .invokestatic 47, 3), (6, .ifCond .ne 13, 3), (9, .new 51, 3), (12, .dup, 1), (13, .ldc 56, 2), (15, .invokespecial 55, 3), (18, .athrow, 1), (19, .aload_n 0, 1), (20, .getfield 21, 3), (23, .iload_n 1, 1), (24, .invokevirtual 120, 3), (27, .ireturn, 1)] : List (Nat × Instr × Nat)), decode cX3_happen q.1 = .ok (q.2.1, q.2.2) := by decide +kernel
theorem dX3_happen_0 : decode cX3_happen 0 = .ok (.iload_n 1, 1) := tbX3_happen_0 (0, .iload_n 1, 1) (List.mem_of_getElem? (i := 0) rfl)
theorem dX3_happen_1 : decode cX3_happen 1 = .ok (.bipush 8, 2) := tbX3_happen_0 (1, .bipush 8, 2) (List.mem_of_getElem? (i := 1) rfl)
theorem dX3_happen_3 : decode cX3_happen 3 = .ok (.invokestatic 47, 3) := tbX3_happen_0 (3, .invokestatic 47, 3) (List.mem_of_getElem? (i := 2) rfl)
theorem dX3_happen_6 : decode cX3_happen 6 = .ok (.ifCond .ne 13, 3) := tbX3_happen_0 (6, .ifCond .ne 13, 3) (List.mem_of_getElem? (i := 3) rfl)
theorem dX3_happen_9 : decode cX3_happen 9 = .ok (.new 51, 3) := tbX3_happen_0 (9, .new 51, 3) (List.mem_of_getElem? (i := 4) rfl)
theorem dX3_happen_12 : decode cX3_happen 12 = .ok (.dup, 1) := tbX3_happen_0 (12, .dup, 1) (List.mem_of_getElem? (i := 5) rfl)
theorem dX3_happen_13 : decode cX3_happen 13 = .ok (.ldc 56, 2) := tbX3_happen_0 (13, .ldc 56, 2) (List.mem_of_getElem? (i := 6) rfl)
theorem dX3_happen_15 : decode cX3_happen 15 = .ok (.invokespecial 55, 3) := tbX3_happen_0 (15, .invokespecial 55, 3) (List.mem_of_getElem? (i := 7) rfl)
theorem dX3_happen_18 : decode cX3_happen 18 = .ok (.athrow, 1) := tbX3_happen_0 (18, .athrow, 1) (List.mem_of_getElem? (i := 8) rfl)
theorem dX3_happen_19 : decode cX3_happen 19 = .ok (.aload_n 0, 1) := tbX3_happen_0 (19, .aload_n 0, 1) (List.mem_of_getElem? (i := 9) rfl)
theorem dX3_happen_20 : decode cX3_happen 20 = .ok (.getfield 21, 3) := tbX3_happen_0 (20, .getfield 21, 3) (List.mem_of_getElem? (i := 10) rfl)
theorem dX3_happen_23 : decode cX3_happen 23 = .ok (.iload_n 1, 1) := tbX3_happen_0 (23, .iload_n 1, 1) (List.mem_of_getElem? (i := 11) rfl)
theorem dX3_happen_24 : decode cX3_happen 24 = .ok (.invokevirtual 120, 3) := tbX3_happen_0 (24, .invokevirtual 120, 3) (List.mem_of_getElem? (i := 12) rfl)
theorem dX3_happen_27 : decode cX3_happen 27 = .ok (.ireturn, 1) := tbX3_happen_0 (27, .ireturn, 1) (List.mem_of_getElem? (i := 13) rfl)
set_option maxRecDepth 20000 in
theorem ggX3_advance_X0_goOn : GoodIn wsX3_advance wsX0_goOn := goodIn_r _ [8, 9, 10, 11, 12, 13, 14, 15, 16, 7, 17, 18, 19, 20, 21, 22, 23, 24, 25, 26, 27, 28, 29, 30, 31, 32, 33, 34, 35, 36, 37, 38, 39, 40, 41, 42, 43, 44, 45, 46, 47, 48, 49, 50, 51, 52, 53, 54, 55, 56, 57, 58, 59, 60, 61, 62, 63, 64, 65, 66, 67, 68, 69, 70, 71, 72, 73, 74, 75, 79, 80, 81, 82, 83, 84, 85, 86, 87, 88, 89, 90, 91, 92, 93, 94, 95, 96, 97, 98, 99, 100, 101] (by decide +kernel) (by decide +kernel)
set_option maxRecDepth 20000 in
theorem gX3_advance_X0_goOn : GoodIn wsX3_advance (wsV RX3 126 RX0 yX0_goOn wsX0_goOn) := goodIn_app (goodIn_of _ (by decide +kernel)) ggX3_advance_X0_goOn
theorem tbX3_advance_0 : ∀ q ∈ ([(0, .iload_n 1, 1), (1, .ifCond .lt 10, 3), (4, .iload_n 1, 1), (5, .sipush 1000, 3), (8, .if_icmp .le 13, 3), (11, .new 64, 3), (14, .dup, 1), (15, .ldc 124, 2), (17, .invokespecial 68, 3), (20, .athrow, 1), (21, .aload_n 0, 1), (22, .getfield 21, 3), (25, .iload_n 1, 1), (26, .invokevirtual 126, 3), (29, .ireturn, 1)] : List (Nat × Instr × Nat)), decode cX3_advance q.1 = .ok (q.2.1, q.2.2) := by decide +kernel
theorem dX3_advance_0 : decode cX3_advance 0 = .ok (.iload_n 1, 1) := tbX3_advance_0 (0, .iload_n 1, 1) (List.mem_of_getElem? (i := 0) rfl)
theorem dX3_advance_1 : decode cX3_advance 1 = .ok (.ifCond .lt 10, 3) := tbX3_advance_0 (1, .ifCond .lt 10, 3) (List.mem_of_getElem? (i := 1) rfl)
theorem dX3_advance_4 : decode cX3_advance 4 = .ok (.iload_n 1, 1) := tbX3_advance_0 (4, .iload_n 1, 1) (List.mem_of_getElem? (i := 2) rfl)
theorem dX3_advance_5 : decode cX3_advance 5 = .ok (.sipush 1000, 3) := tbX3_advance_0 (5, .sipush 1000, 3) (List.mem_of_getElem? (i := 3) rfl)
theorem dX3_advance_8 : decode cX3_advance 8 = .ok (.if_icmp .le 13, 3) := tbX3_advance_0 (8, .if_icmp .le 13, 3) (List.mem_of_getElem? (i := 4) rfl)
theorem dX3_advance_11 : decode cX3_advance 11 = .ok (.new 64, 3) := tbX3_advance_0 (11, .new 64, 3) (List.mem_of_getElem? (i := 5) rfl)
theorem dX3_advance_14 : decode cX3_advance 14 = .ok (.dup, 1) := tbX3_advance_0 (14, .dup, 1) (List.mem_of_getElem? (i := 6) rfl)
theorem dX3_advance_15 : decode cX3_advance 15 = .ok (.ldc 124, 2) := tbX3_advance_0 (15, .ldc 124, 2) (List.mem_of_getElem? (i := 7) rfl)
theorem dX3_advance_17 : decode cX3_advance 17 = .ok (.invokespecial 68, 3) := tbX3_advance_0 (17, .invokespecial 68, 3) (List.mem_of_getElem? (i := 8) rfl)
theorem dX3_advance_20 : decode cX3_advance 20 = .ok (.athrow, 1) := tbX3_advance_0 (20, .athrow, 1) (List.mem_of_getElem? (i := 9) rfl)
theorem dX3_advance_21 : decode cX3_advance 21 = .ok (.aload_n 0, 1) := tbX3_advance_0 (21, .aload_n 0, 1) (List.mem_of_getElem? (i := 10) rfl)
theorem dX3_advance_22 : decode cX3_advance 22 = .ok (.getfield 21, 3) := tbX3_advance_0 (22, .getfield 21, 3) (List.mem_of_getElem? (i := 11) rfl)
theorem dX3_advance_25 : decode cX3_advance 25 = .ok (.iload_n 1, 1) := tbX3_advance_0 (25, .iload_n 1, 1) (List.mem_of_getElem? (i := 12) rfl)
theorem dX3_advance_26 : decode cX3_advance 26 = .ok (.invokevirtual 126, 3) := tbX3_advance_0 (26, .invokevirtual 126, 3) (List.mem_of_getElem? (i := 13) rfl)
theorem dX3_advance_29 : decode cX3_advance 29 = .ok (.ireturn, 1) := tbX3_advance_0 (29, .ireturn, 1) (List.mem_of_getElem? (i := 14) rfl)
theorem tbX3_state_0 : ∀ q ∈ ([(0, .aload_n 0, 1), (1, .getfield 21, 3), (4, .getfield 129, 3), (7, .ireturn, 1)] : List (Nat × Instr × Nat)), decode cX3_state q.1 = .ok (q.2.1, q.2.2) := by decide +kernel
theorem dX3_state_0 : decode cX3_state 0 = .ok (.aload_n 0, 1) := tbX3_state_0 (0, .aload_n 0, 1) (List.mem_of_getElem? (i := 0) rfl)
theorem dX3_state_1 : decode cX3_state 1 = .ok (.getfield 21, 3) := tbX3_state_0 (1, .getfield 21, 3) (List.mem_of_getElem? (i := 1) rfl)
theorem dX3_state_4 : decode cX3_state 4 = .ok (.getfield 129, 3) := tbX3_state_0 (4, .getfield 129, 3) (List.mem_of_getElem? (i := 2) rfl)
theorem dX3_state_7 : decode cX3_state 7 = .ok (.ireturn, 1) := tbX3_state_0 (7, .ireturn, 1) (List.mem_of_getElem? (i := 3) rfl)
theorem tbX3_time_0 : ∀ q ∈ ([(0, .aload_n 0, 1), (1, .getfield 21, 3), (4, .getfield 113, 3), (7, .lreturn, 1)] : List (Nat × Instr × Nat)), decode cX3_time q.1 = .ok (q.2.1, q.2.2) := by decide +kernel
theorem dX3_time_0 : decode cX3_time 0 = .ok (.aload_n 0, 1) := tbX3_time_0 (0, .aload_n 0, 1) (List.mem_of_getElem? (i := 0) rfl)
theorem dX3_time_1 : decode cX3_time 1 = .ok (.getfield 21, 3) := tbX3_time_0 (1, .getfield 21, 3) (List.mem_of_getElem? (i := 1) rfl)
theorem dX3_time_4 : decode cX3_time 4 = .ok (.getfield 113, 3) := tbX3_time_0 (4, .getfield 113, 3) (List.mem_of_getElem? (i := 2) rfl)
theorem dX3_time_7 : decode cX3_time 7 = .ok (.lreturn, 1) := tbX3_time_0 (7, .lreturn, 1) (List.mem_of_getElem? (i := 3) rfl)
set_option maxRecDepth 20000 in
theorem ggX3_value_X3_isBelow : GoodIn wsX3_value wsX3_isBelow := goodIn_r _ [8] (by decide +kernel) (by decide +kernel)
set_option maxRecDepth 20000 in
theorem gX3_value_X3_isBelow : GoodIn wsX3_value (va_wsS RX3 47 yX3_isBelow wsX3_isBelow) := goodIn_app (goodIn_of _ (by decide +kernel)) ggX3_value_X3_isBelow
theorem tbX3_value_0 : ∀ q ∈ ([(0, .iload_n 1, 1), (1, .iconst 3, 1), (2, .invokestatic 47, 3), (5, .ifCond .ne 13, 3), (8, .new 51, 3), (11, .dup, 1), (12, .ldc 58, 2), (14, .invokespecial 55, 3), (17, .athrow, 1), (18, .aload_n 0, 1), (19, .getfield 21, 3), (22, .getfield 132, 3), (25, .iload_n 1, 1), (26, .iaload, 1), (27, .ireturn, 1)] : List (Nat × Instr × Nat)), decode cX3_value q.1 = .ok (q.2.1, q.2.2) := by decide +kernel
theorem dX3_value_0 : decode cX3_value 0 = .ok (.iload_n 1, 1) := tbX3_value_0 (0, .iload_n 1, 1) (List.mem_of_getElem? (i := 0) rfl)
theorem dX3_value_1 : decode cX3_value 1 = .ok (.iconst 3, 1) := tbX3_value_0 (1, .iconst 3, 1) (List.mem_of_getElem? (i := 1) rfl)
theorem dX3_value_2 : decode cX3_value 2 = .ok (.invokestatic 47, 3) := tbX3_value_0 (2, .invokestatic 47, 3) (List.mem_of_getElem? (i := 2) rfl)
theorem dX3_value_5 : decode cX3_value 5 = .ok (.ifCond .ne 13, 3) := tbX3_value_0 (5, .ifCond .ne 13, 3) (List.mem_of_getElem? (i := 3) rfl)
theorem dX3_value_8 : decode cX3_value 8 = .ok (.new 51, 3) := tbX3_value_0 (8, .new 51, 3) (List.mem_of_getElem? (i := 4) rfl)
theorem dX3_value_11 : decode cX3_value 11 = .ok (.dup, 1) := tbX3_value_0 (11, .dup, 1) (List.mem_of_getElem? (i := 5) rfl)
theorem dX3_value_12 : decode cX3_value 12 = .ok (.ldc 58, 2) := tbX3_value_0 (12, .ldc 58, 2) (List.mem_of_getElem? (i := 6) rfl)
theorem dX3_value_14 : decode cX3_value 14 = .ok (.invokespecial 55, 3) := tbX3_value_0 (14, .invokespecial 55, 3) (List.mem_of_getElem? (i := 7) rfl)
theorem dX3_value_17 : decode cX3_value 17 = .ok (.athrow, 1) := tbX3_value_0 (17, .athrow, 1) (List.mem_of_getElem? (i := 8) rfl)
theorem dX3_value_18 : decode cX3_value 18 = .ok (.aload_n 0, 1) := tbX3_value_0 (18, .aload_n 0, 1) (List.mem_of_getElem? (i := 9) rfl)
theorem dX3_value_19 : decode cX3_value 19 = .ok (.getfield 21, 3) := tbX3_value_0 (19, .getfield 21, 3) (List.mem_of_getElem? (i := 10) rfl)
theorem dX3_value_22 : decode cX3_value 22 = .ok (.getfield 132, 3) := tbX3_value_0 (22, .getfield 132, 3) (List.mem_of_getElem? (i := 11) rfl)
theorem dX3_value_25 : decode cX3_value 25 = .ok (.iload_n 1, 1) := tbX3_value_0 (25, .iload_n 1, 1) (List.mem_of_getElem? (i := 12) rfl)
theorem dX3_value_26 : decode cX3_value 26 = .ok (.iaload, 1) := tbX3_value_0 (26, .iaload, 1) (List.mem_of_getElem? (i := 13) rfl)
theorem dX3_value_27 : decode cX3_value 27 = .ok (.ireturn, 1) := tbX3_value_0 (27, .ireturn, 1) (List.mem_of_getElem? (i := 14) rfl)
set_option maxRecDepth 20000 in
theorem ggX3_left_X3_isBelow : GoodIn wsX3_left wsX3_isBelow := goodIn_r _ [7] (by decide +kernel) (by decide +kernel)
set_option maxRecDepth 20000 in
theorem gX3_left_X3_isBelow : GoodIn wsX3_left (va_wsS RX3 47 yX3_isBelow wsX3_isBelow) := goodIn_app (goodIn_of _ (by decide +kernel)) ggX3_left_X3_isBelow
set_option maxRecDepth 20000 in
theorem ggX3_left_X0_ticksLeft : GoodIn wsX3_left wsX0_ticksLeft := goodIn_r _ [12, 13, 14, 15, 19, 20, 21, 22, 23, 24, 25, 26, 27, 28] (by decide +kernel) (by decide +kernel)
set_option maxRecDepth 20000 in
theorem gX3_left_X0_ticksLeft : GoodIn wsX3_left (wsV RX3 137 RX0 yX0_ticksLeft wsX0_ticksLeft) := goodIn_app (goodIn_of _ (by decide +kernel)) ggX3_left_X0_ticksLeft
theorem tbX3_left_0 : ∀ q ∈ ([(0, .iload_n 1, 1), (1, .iconst 4, 1), (2, .invokestatic 47, 3), (5, .ifCond .ne 13, 3), (8, .new 51, 3), (11, .dup, 1), (12, .ldc 135, 2), (14, .invokespecial 55, 3), (17, .athrow, 1), (18, .aload_n 0, 1), (19, .getfield 21, 3), (22, .iload_n 1, 1), (23, .invokevirtual 137, 3), (26, .ireturn, 1)] : List (Nat × Instr × Nat)), decode cX3_left q.1 = .ok (q.2.1, q.2.2) := by decide +kernel
theorem dX3_left_0 : decode cX3_left 0 = .ok (.iload_n 1, 1) := tbX3_left_0 (0, .iload_n 1, 1) (List.mem_of_getElem? (i := 0) rfl)
theorem dX3_left_1 : decode cX3_left 1 = .ok (.iconst 4, 1) := tbX3_left_0 (1, .iconst 4, 1) (List.mem_of_getElem? (i := 1) rfl)
theorem dX3_left_2 : decode cX3_left 2 = .ok (.invokestatic 47, 3) := tbX3_left_0 (2, .invokestatic 47, 3) (List.mem_of_getElem? (i := 2) rfl)
theorem dX3_left_5 : decode cX3_left 5 = .ok (.ifCond .ne 13, 3) := tbX3_left_0 (5, .ifCond .ne 13, 3) (List.mem_of_getElem? (i := 3) rfl)
theorem dX3_left_8 : decode cX3_left 8 = .ok (.new 51, 3) := tbX3_left_0 (8, .new 51, 3) (List.mem_of_getElem? (i := 4) rfl)
theorem dX3_left_11 : decode cX3_left 11 = .ok (.dup, 1) := tbX3_left_0 (11, .dup, 1) (List.mem_of_getElem? (i := 5) rfl)
theorem dX3_left_12 : decode cX3_left 12 = .ok (.ldc 135, 2) := tbX3_left_0 (12, .ldc 135, 2) (List.mem_of_getElem? (i := 6) rfl)
theorem dX3_left_14 : decode cX3_left 14 = .ok (.invokespecial 55, 3) := tbX3_left_0 (14, .invokespecial 55, 3) (List.mem_of_getElem? (i := 7) rfl)
theorem dX3_left_17 : decode cX3_left 17 = .ok (.athrow, 1) := tbX3_left_0 (17, .athrow, 1) (List.mem_of_getElem? (i := 8) rfl)
theorem dX3_left_18 : decode cX3_left 18 = .ok (.aload_n 0, 1) := tbX3_left_0 (18, .aload_n 0, 1) (List.mem_of_getElem? (i := 9) rfl)
theorem dX3_left_19 : decode cX3_left 19 = .ok (.getfield 21, 3) := tbX3_left_0 (19, .getfield 21, 3) (List.mem_of_getElem? (i := 10) rfl)
theorem dX3_left_22 : decode cX3_left 22 = .ok (.iload_n 1, 1) := tbX3_left_0 (22, .iload_n 1, 1) (List.mem_of_getElem? (i := 11) rfl)
theorem dX3_left_23 : decode cX3_left 23 = .ok (.invokevirtual 137, 3) := tbX3_left_0 (23, .invokevirtual 137, 3) (List.mem_of_getElem? (i := 12) rfl)
theorem dX3_left_26 : decode cX3_left 26 = .ok (.ireturn, 1) := tbX3_left_0 (26, .ireturn, 1) (List.mem_of_getElem? (i := 13) rfl)
theorem tbX3_emitted_0 : ∀ q ∈ ([(0, .aload_n 0, 1), (1, .getfield 21, 3), (4, .getfield 140, 3), (7, .ireturn, 1)] : List (Nat × Instr × Nat)), decode cX3_emitted q.1 = .ok (q.2.1, q.2.2) := by decide +kernel
theorem dX3_emitted_0 : decode cX3_emitted 0 = .ok (.aload_n 0, 1) := tbX3_emitted_0 (0, .aload_n 0, 1) (List.mem_of_getElem? (i := 0) rfl)
theorem dX3_emitted_1 : decode cX3_emitted 1 = .ok (.getfield 21, 3) := tbX3_emitted_0 (1, .getfield 21, 3) (List.mem_of_getElem? (i := 1) rfl)
theorem dX3_emitted_4 : decode cX3_emitted 4 = .ok (.getfield 140, 3) := tbX3_emitted_0 (4, .getfield 140, 3) (List.mem_of_getElem? (i := 2) rfl)
theorem dX3_emitted_7 : decode cX3_emitted 7 = .ok (.ireturn, 1) := tbX3_emitted_0 (7, .ireturn, 1) (List.mem_of_getElem? (i := 3) rfl)
set_option maxRecDepth 20000 in
theorem ggX3_output_X3_isBelow : GoodIn wsX3_output wsX3_isBelow := goodIn_r _ [9] (by decide +kernel) (by decide +kernel)
set_option maxRecDepth 20000 in
theorem gX3_output_X3_isBelow : GoodIn wsX3_output (va_wsS RX3 47 yX3_isBelow wsX3_isBelow) := goodIn_app (goodIn_of _ (by decide +kernel)) ggX3_output_X3_isBelow
theorem tbX3_output_0 : ∀ q ∈ ([(0, .iload_n 1, 1), (1, .aload_n 0, 1), (2, .getfield 21, 3), (5, .getfield 143, 3), (8, .invokestatic 47, 3), (11, .ifCond .ne 13, 3), (14, .new 51, 3), (17, .dup, 1), (18, .ldc 146, 2), (20, .invokespecial 55, 3), (23, .athrow, 1), (24, .aload_n 0, 1), (25, .getfield 21, 3), (28, .getfield 148, 3), (31, .iload_n 1, 1), (32, .iaload, 1), (33, .ireturn, 1)] : List (Nat × Instr × Nat)), decode cX3_output q.1 = .ok (q.2.1, q.2.2) := by decide +kernel
theorem dX3_output_0 : decode cX3_output 0 = .ok (.iload_n 1, 1) := tbX3_output_0 (0, .iload_n 1, 1) (List.mem_of_getElem? (i := 0) rfl)
theorem dX3_output_1 : decode cX3_output 1 = .ok (.aload_n 0, 1) := tbX3_output_0 (1, .aload_n 0, 1) (List.mem_of_getElem? (i := 1) rfl)
theorem dX3_output_2 : decode cX3_output 2 = .ok (.getfield 21, 3) := tbX3_output_0 (2, .getfield 21, 3) (List.mem_of_getElem? (i := 2) rfl)
theorem dX3_output_5 : decode cX3_output 5 = .ok (.getfield 143, 3) := tbX3_output_0 (5, .getfield 143, 3) (List.mem_of_getElem? (i := 3) rfl)
theorem dX3_output_8 : decode cX3_output 8 = .ok (.invokestatic 47, 3) := tbX3_output_0 (8, .invokestatic 47, 3) (List.mem_of_getElem? (i := 4) rfl)
theorem dX3_output_11 : decode cX3_output 11 = .ok (.ifCond .ne 13, 3) := tbX3_output_0 (11, .ifCond .ne 13, 3) (List.mem_of_getElem? (i := 5) rfl)
theorem dX3_output_14 : decode cX3_output 14 = .ok (.new 51, 3) := tbX3_output_0 (14, .new 51, 3) (List.mem_of_getElem? (i := 6) rfl)
theorem dX3_output_17 : decode cX3_output 17 = .ok (.dup, 1) := tbX3_output_0 (17, .dup, 1) (List.mem_of_getElem? (i := 7) rfl)
theorem dX3_output_18 : decode cX3_output 18 = .ok (.ldc 146, 2) := tbX3_output_0 (18, .ldc 146, 2) (List.mem_of_getElem? (i := 8) rfl)
theorem dX3_output_20 : decode cX3_output 20 = .ok (.invokespecial 55, 3) := tbX3_output_0 (20, .invokespecial 55, 3) (List.mem_of_getElem? (i := 9) rfl)
theorem dX3_output_23 : decode cX3_output 23 = .ok (.athrow, 1) := tbX3_output_0 (23, .athrow, 1) (List.mem_of_getElem? (i := 10) rfl)
theorem dX3_output_24 : decode cX3_output 24 = .ok (.aload_n 0, 1) := tbX3_output_0 (24, .aload_n 0, 1) (List.mem_of_getElem? (i := 11) rfl)
theorem dX3_output_25 : decode cX3_output 25 = .ok (.getfield 21, 3) := tbX3_output_0 (25, .getfield 21, 3) (List.mem_of_getElem? (i := 12) rfl)
theorem dX3_output_28 : decode cX3_output 28 = .ok (.getfield 148, 3) := tbX3_output_0 (28, .getfield 148, 3) (List.mem_of_getElem? (i := 13) rfl)
theorem dX3_output_31 : decode cX3_output 31 = .ok (.iload_n 1, 1) := tbX3_output_0 (31, .iload_n 1, 1) (List.mem_of_getElem? (i := 14) rfl)
theorem dX3_output_32 : decode cX3_output 32 = .ok (.iaload, 1) := tbX3_output_0 (32, .iaload, 1) (List.mem_of_getElem? (i := 15) rfl)
theorem dX3_output_33 : decode cX3_output 33 = .ok (.ireturn, 1) := tbX3_output_0 (33, .ireturn, 1) (List.mem_of_getElem? (i := 16) rfl)
set_option maxRecDepth 20000 in
theorem ggX3_fired_X3_isBelow : GoodIn wsX3_fired wsX3_isBelow := goodIn_r _ [10] (by decide +kernel) (by decide +kernel)
set_option maxRecDepth 20000 in
theorem gX3_fired_X3_isBelow : GoodIn wsX3_fired (va_wsS RX3 47 yX3_isBelow wsX3_isBelow) := goodIn_app (goodIn_of _ (by decide +kernel)) ggX3_fired_X3_isBelow
theorem tbX3_fired_0 : ∀ q ∈ ([(0, .iload_n 1, 1), (1, .aload_n 0, 1), (2, .getfield 12, 3), (5, .getfield 69, 3), (8, .invokestatic 47, 3), (11, .ifCond .ne 13, 3), (14, .new 51, 3), (17, .dup, 1), (18, .ldc 86, 2), (20, .invokespecial 55, 3), (23, .athrow, 1), (24, .aload_n 0, 1), (25, .getfield 21, 3), (28, .getfield 82, 3), (31, .iload_n 1, 1), (32, .iaload, 1), (33, .ireturn, 1)] : List (Nat × Instr × Nat)), decode cX3_fired q.1 = .ok (q.2.1, q.2.2) := by decide +kernel
theorem dX3_fired_0 : decode cX3_fired 0 = .ok (.iload_n 1, 1) := tbX3_fired_0 (0, .iload_n 1, 1) (List.mem_of_getElem? (i := 0) rfl)
theorem dX3_fired_1 : decode cX3_fired 1 = .ok (.aload_n 0, 1) := tbX3_fired_0 (1, .aload_n 0, 1) (List.mem_of_getElem? (i := 1) rfl)
theorem dX3_fired_2 : decode cX3_fired 2 = .ok (.getfield 12, 3) := tbX3_fired_0 (2, .getfield 12, 3) (List.mem_of_getElem? (i := 2) rfl)
theorem dX3_fired_5 : decode cX3_fired 5 = .ok (.getfield 69, 3) := tbX3_fired_0 (5, .getfield 69, 3) (List.mem_of_getElem? (i := 3) rfl)
theorem dX3_fired_8 : decode cX3_fired 8 = .ok (.invokestatic 47, 3) := tbX3_fired_0 (8, .invokestatic 47, 3) (List.mem_of_getElem? (i := 4) rfl)
theorem dX3_fired_11 : decode cX3_fired 11 = .ok (.ifCond .ne 13, 3) := tbX3_fired_0 (11, .ifCond .ne 13, 3) (List.mem_of_getElem? (i := 5) rfl)
theorem dX3_fired_14 : decode cX3_fired 14 = .ok (.new 51, 3) := tbX3_fired_0 (14, .new 51, 3) (List.mem_of_getElem? (i := 6) rfl)
theorem dX3_fired_17 : decode cX3_fired 17 = .ok (.dup, 1) := tbX3_fired_0 (17, .dup, 1) (List.mem_of_getElem? (i := 7) rfl)
theorem dX3_fired_18 : decode cX3_fired 18 = .ok (.ldc 86, 2) := tbX3_fired_0 (18, .ldc 86, 2) (List.mem_of_getElem? (i := 8) rfl)
theorem dX3_fired_20 : decode cX3_fired 20 = .ok (.invokespecial 55, 3) := tbX3_fired_0 (20, .invokespecial 55, 3) (List.mem_of_getElem? (i := 9) rfl)
theorem dX3_fired_23 : decode cX3_fired 23 = .ok (.athrow, 1) := tbX3_fired_0 (23, .athrow, 1) (List.mem_of_getElem? (i := 10) rfl)
theorem dX3_fired_24 : decode cX3_fired 24 = .ok (.aload_n 0, 1) := tbX3_fired_0 (24, .aload_n 0, 1) (List.mem_of_getElem? (i := 11) rfl)
theorem dX3_fired_25 : decode cX3_fired 25 = .ok (.getfield 21, 3) := tbX3_fired_0 (25, .getfield 21, 3) (List.mem_of_getElem? (i := 12) rfl)
theorem dX3_fired_28 : decode cX3_fired 28 = .ok (.getfield 82, 3) := tbX3_fired_0 (28, .getfield 82, 3) (List.mem_of_getElem? (i := 13) rfl)
theorem dX3_fired_31 : decode cX3_fired 31 = .ok (.iload_n 1, 1) := tbX3_fired_0 (31, .iload_n 1, 1) (List.mem_of_getElem? (i := 14) rfl)
theorem dX3_fired_32 : decode cX3_fired 32 = .ok (.iaload, 1) := tbX3_fired_0 (32, .iaload, 1) (List.mem_of_getElem? (i := 15) rfl)
theorem dX3_fired_33 : decode cX3_fired 33 = .ok (.ireturn, 1) := tbX3_fired_0 (33, .ireturn, 1) (List.mem_of_getElem? (i := 16) rfl)
theorem tbX3_ignored_0 : ∀ q ∈ ([(0, .aload_n 0, 1), (1, .getfield 21, 3), (4, .getfield 151, 3), (7, .ireturn, 1)] : List (Nat × Instr × Nat)), decode cX3_ignored q.1 = .ok (q.2.1, q.2.2) := by decide +kernel
theorem dX3_ignored_0 : decode cX3_ignored 0 = .ok (.aload_n 0, 1) := tbX3_ignored_0 (0, .aload_n 0, 1) (List.mem_of_getElem? (i := 0) rfl)
theorem dX3_ignored_1 : decode cX3_ignored 1 = .ok (.getfield 21, 3) := tbX3_ignored_0 (1, .getfield 21, 3) (List.mem_of_getElem? (i := 1) rfl)
theorem dX3_ignored_4 : decode cX3_ignored 4 = .ok (.getfield 151, 3) := tbX3_ignored_0 (4, .getfield 151, 3) (List.mem_of_getElem? (i := 2) rfl)
theorem dX3_ignored_7 : decode cX3_ignored 7 = .ok (.ireturn, 1) := tbX3_ignored_0 (7, .ireturn, 1) (List.mem_of_getElem? (i := 3) rfl)
set_option maxRecDepth 20000 in
theorem ggX3_compile_X2_make : GoodIn wsX3_compile wsX2_make := goodIn_r _ [8, 9, 10, 11, 12, 13, 7, 14, 15, 16, 17, 18, 19, 20, 21, 22, 23, 24, 25, 26, 27, 28, 29, 30, 31, 32, 33, 34, 35, 36, 37, 38, 39, 40, 41, 42, 43, 44, 45, 46, 47, 48, 49, 50, 51, 52, 53, 54, 55, 56, 57, 58, 59, 60, 61, 62, 63, 64, 65, 66, 67, 68, 69, 70, 71, 72, 73, 74, 75, 76, 77, 78, 79, 80, 81, 82, 83, 84, 85, 86, 87, 88, 89, 90, 91, 92, 93, 94, 95, 96, 97, 98, 99, 100, 101, 102, 103, 104, 105, 109, 110, 111, 112, 113, 114, 115, 116, 117, 118, 119, 120, 121, 122, 123, 124, 125, 126, 127, 128, 129, 130, 131] (by decide +kernel) (by decide +kernel)
set_option maxRecDepth 20000 in
theorem gX3_compile_X2_make : GoodIn wsX3_compile (wsV RX3 154 RX2 yX2_make wsX2_make) := goodIn_app (goodIn_of _ (by decide +kernel)) ggX3_compile_X2_make
theorem tbX3_compile_0 : ∀ q ∈ ([(0, .aload_n 0, 1), (1, .getfield 28, 3), (4, .getfield 43, 3), (7, .ifCond .ne 10, 3), (10, .aload_n 0, 1), (11, .getfield 28, 3), (14, .invokevirtual 154, 3), (17, .aload_n 0, 1), (18, .getfield 28, 3), (21, .getfield 157, 3), (24, .ireturn, 1)] : List (Nat × Instr × Nat)), decode cX3_compile q.1 = .ok (q.2.1, q.2.2) := by decide +kernel
theorem dX3_compile_0 : decode cX3_compile 0 = .ok (.aload_n 0, 1) := tbX3_compile_0 (0, .aload_n 0, 1) (List.mem_of_getElem? (i := 0) rfl)
theorem dX3_compile_1 : decode cX3_compile 1 = .ok (.getfield 28, 3) := tbX3_compile_0 (1, .getfield 28, 3) (List.mem_of_getElem? (i := 1) rfl)
theorem dX3_compile_4 : decode cX3_compile 4 = .ok (.getfield 43, 3) := tbX3_compile_0 (4, .getfield 43, 3) (List.mem_of_getElem? (i := 2) rfl)
theorem dX3_compile_7 : decode cX3_compile 7 = .ok (.ifCond .ne 10, 3) := tbX3_compile_0 (7, .ifCond .ne 10, 3) (List.mem_of_getElem? (i := 3) rfl)
theorem dX3_compile_10 : decode cX3_compile 10 = .ok (.aload_n 0, 1) := tbX3_compile_0 (10, .aload_n 0, 1) (List.mem_of_getElem? (i := 4) rfl)
theorem dX3_compile_11 : decode cX3_compile 11 = .ok (.getfield 28, 3) := tbX3_compile_0 (11, .getfield 28, 3) (List.mem_of_getElem? (i := 5) rfl)
theorem dX3_compile_14 : decode cX3_compile 14 = .ok (.invokevirtual 154, 3) := tbX3_compile_0 (14, .invokevirtual 154, 3) (List.mem_of_getElem? (i := 6) rfl)
theorem dX3_compile_17 : decode cX3_compile 17 = .ok (.aload_n 0, 1) := tbX3_compile_0 (17, .aload_n 0, 1) (List.mem_of_getElem? (i := 7) rfl)
theorem dX3_compile_18 : decode cX3_compile 18 = .ok (.getfield 28, 3) := tbX3_compile_0 (18, .getfield 28, 3) (List.mem_of_getElem? (i := 8) rfl)
theorem dX3_compile_21 : decode cX3_compile 21 = .ok (.getfield 157, 3) := tbX3_compile_0 (21, .getfield 157, 3) (List.mem_of_getElem? (i := 9) rfl)
theorem dX3_compile_24 : decode cX3_compile 24 = .ok (.ireturn, 1) := tbX3_compile_0 (24, .ireturn, 1) (List.mem_of_getElem? (i := 10) rfl)
theorem tbX3_isCompiled_0 : ∀ q ∈ ([(0, .aload_n 0, 1), (1, .getfield 28, 3), (4, .getfield 43, 3), (7, .ireturn, 1)] : List (Nat × Instr × Nat)), decode cX3_isCompiled q.1 = .ok (q.2.1, q.2.2) := by decide +kernel
theorem dX3_isCompiled_0 : decode cX3_isCompiled 0 = .ok (.aload_n 0, 1) := tbX3_isCompiled_0 (0, .aload_n 0, 1) (List.mem_of_getElem? (i := 0) rfl)
theorem dX3_isCompiled_1 : decode cX3_isCompiled 1 = .ok (.getfield 28, 3) := tbX3_isCompiled_0 (1, .getfield 28, 3) (List.mem_of_getElem? (i := 1) rfl)
theorem dX3_isCompiled_4 : decode cX3_isCompiled 4 = .ok (.getfield 43, 3) := tbX3_isCompiled_0 (4, .getfield 43, 3) (List.mem_of_getElem? (i := 2) rfl)
theorem dX3_isCompiled_7 : decode cX3_isCompiled 7 = .ok (.ireturn, 1) := tbX3_isCompiled_0 (7, .ireturn, 1) (List.mem_of_getElem? (i := 3) rfl)
set_option maxRecDepth 20000 in
theorem ggX3_classOf_X3_needTable : GoodIn wsX3_classOf wsX3_needTable := goodIn_ca (goodIn_r _ [11, 12, 13, 5, 14, 18, 19, 20, 34, 35, 36, 37, 38, 39, 40, 41, 42, 43] (by decide +kernel) (by decide +kernel)) (goodIn_sub (fun _ h => List.mem_cons_of_mem _ (List.mem_append_right _ h)) (by decide +kernel))
set_option maxRecDepth 20000 in
theorem gX3_classOf_X3_needTable : GoodIn wsX3_classOf (wsV RX3 160 RX3 yX3_needTable wsX3_needTable) := goodIn_app (goodIn_of _ (by decide +kernel)) ggX3_classOf_X3_needTable
set_option maxRecDepth 20000 in
theorem ggX3_classOf_X3_isBelow : GoodIn wsX3_classOf wsX3_isBelow := goodIn_r _ [17] (by decide +kernel) (by decide +kernel)
set_option maxRecDepth 20000 in
theorem gX3_classOf_X3_isBelow : GoodIn wsX3_classOf (va_wsS RX3 47 yX3_isBelow wsX3_isBelow) := goodIn_app (goodIn_of _ (by decide +kernel)) ggX3_classOf_X3_isBelow
theorem tbX3_classOf_0 : ∀ q ∈ ([(0, .aload_n 0, 1), (1, .invokevirtual 160, 3), (4, .iload_n 1, 1), (5, .aload_n 0, 1), (6, .getfield 12, 3), (9, .getfield 32, 3), (12, .invokestatic 47, 3), (15, .ifCond .ne 13, 3), (18, .new 51, 3), (21, .dup, 1), (22, .ldc 53, 2), (24, .invokespecial 55, 3), (27, .athrow, 1), (28, .aload_n 0, 1), (29, .getfield 28, 3), (32, .getfield 163, 3), (35, .iload_n 1, 1), (36, .iaload, 1), (37, .ireturn, 1)] : List (Nat × Instr × Nat)), decode cX3_classOf q.1 = .ok (q.2.1, q.2.2) := by decide +kernel
theorem dX3_classOf_0 : decode cX3_classOf 0 = .ok (.aload_n 0, 1) := tbX3_classOf_0 (0, .aload_n 0, 1) (List.mem_of_getElem? (i := 0) rfl)
theorem dX3_classOf_1 : decode cX3_classOf 1 = .ok (.invokevirtual 160, 3) := tbX3_classOf_0 (1, .invokevirtual 160, 3) (List.mem_of_getElem? (i := 1) rfl)
theorem dX3_classOf_4 : decode cX3_classOf 4 = .ok (.iload_n 1, 1) := tbX3_classOf_0 (4, .iload_n 1, 1) (List.mem_of_getElem? (i := 2) rfl)
theorem dX3_classOf_5 : decode cX3_classOf 5 = .ok (.aload_n 0, 1) := tbX3_classOf_0 (5, .aload_n 0, 1) (List.mem_of_getElem? (i := 3) rfl)
theorem dX3_classOf_6 : decode cX3_classOf 6 = .ok (.getfield 12, 3) := tbX3_classOf_0 (6, .getfield 12, 3) (List.mem_of_getElem? (i := 4) rfl)
theorem dX3_classOf_9 : decode cX3_classOf 9 = .ok (.getfield 32, 3) := tbX3_classOf_0 (9, .getfield 32, 3) (List.mem_of_getElem? (i := 5) rfl)
theorem dX3_classOf_12 : decode cX3_classOf 12 = .ok (.invokestatic 47, 3) := tbX3_classOf_0 (12, .invokestatic 47, 3) (List.mem_of_getElem? (i := 6) rfl)
theorem dX3_classOf_15 : decode cX3_classOf 15 = .ok (.ifCond .ne 13, 3) := tbX3_classOf_0 (15, .ifCond .ne 13, 3) (List.mem_of_getElem? (i := 7) rfl)
theorem dX3_classOf_18 : decode cX3_classOf 18 = .ok (.new 51, 3) := tbX3_classOf_0 (18, .new 51, 3) (List.mem_of_getElem? (i := 8) rfl)
theorem dX3_classOf_21 : decode cX3_classOf 21 = .ok (.dup, 1) := tbX3_classOf_0 (21, .dup, 1) (List.mem_of_getElem? (i := 9) rfl)
theorem dX3_classOf_22 : decode cX3_classOf 22 = .ok (.ldc 53, 2) := tbX3_classOf_0 (22, .ldc 53, 2) (List.mem_of_getElem? (i := 10) rfl)
theorem dX3_classOf_24 : decode cX3_classOf 24 = .ok (.invokespecial 55, 3) := tbX3_classOf_0 (24, .invokespecial 55, 3) (List.mem_of_getElem? (i := 11) rfl)
theorem dX3_classOf_27 : decode cX3_classOf 27 = .ok (.athrow, 1) := tbX3_classOf_0 (27, .athrow, 1) (List.mem_of_getElem? (i := 12) rfl)
theorem dX3_classOf_28 : decode cX3_classOf 28 = .ok (.aload_n 0, 1) := tbX3_classOf_0 (28, .aload_n 0, 1) (List.mem_of_getElem? (i := 13) rfl)
theorem dX3_classOf_29 : decode cX3_classOf 29 = .ok (.getfield 28, 3) := tbX3_classOf_0 (29, .getfield 28, 3) (List.mem_of_getElem? (i := 14) rfl)
theorem dX3_classOf_32 : decode cX3_classOf 32 = .ok (.getfield 163, 3) := tbX3_classOf_0 (32, .getfield 163, 3) (List.mem_of_getElem? (i := 15) rfl)
theorem dX3_classOf_35 : decode cX3_classOf 35 = .ok (.iload_n 1, 1) := tbX3_classOf_0 (35, .iload_n 1, 1) (List.mem_of_getElem? (i := 16) rfl)
theorem dX3_classOf_36 : decode cX3_classOf 36 = .ok (.iaload, 1) := tbX3_classOf_0 (36, .iaload, 1) (List.mem_of_getElem? (i := 17) rfl)
theorem dX3_classOf_37 : decode cX3_classOf 37 = .ok (.ireturn, 1) := tbX3_classOf_0 (37, .ireturn, 1) (List.mem_of_getElem? (i := 18) rfl)
set_option maxRecDepth 20000 in
theorem ggX3_offset_X3_needClass : GoodIn wsX3_offset wsX3_needClass := goodIn_ca (goodIn_ca (goodIn_r _ [7, 8, 9, 1, 10, 11, 12, 13, 6, 14, 15, 16, 17, 18, 19, 20, 21, 22, 23, 24, 25, 26, 27, 28, 29, 30, 31, 32, 33] (by decide +kernel) (by decide +kernel)) (goodIn_sub (fun _ h => List.mem_cons_of_mem _ (List.mem_append_left _ (List.mem_append_right _ h))) (by decide +kernel))) (goodIn_sub (fun _ h => List.mem_cons_of_mem _ (List.mem_append_right _ h)) (by decide +kernel))
set_option maxRecDepth 20000 in
theorem gX3_offset_X3_needClass : GoodIn wsX3_offset (wsV RX3 166 RX3 yX3_needClass wsX3_needClass) := goodIn_app (goodIn_of _ (by decide +kernel)) ggX3_offset_X3_needClass
theorem tbX3_offset_0 : ∀ q ∈ ([(0, .aload_n 0, 1), (1, .iload_n 1, 1), (2, .invokevirtual 166, 3), (5, .aload_n 0, 1), (6, .getfield 28, 3), (9, .getfield 170, 3), (12, .iload_n 1, 1), (13, .iaload, 1), (14, .ireturn, 1)] : List (Nat × Instr × Nat)), decode cX3_offset q.1 = .ok (q.2.1, q.2.2) := by decide +kernel
theorem dX3_offset_0 : decode cX3_offset 0 = .ok (.aload_n 0, 1) := tbX3_offset_0 (0, .aload_n 0, 1) (List.mem_of_getElem? (i := 0) rfl)
theorem dX3_offset_1 : decode cX3_offset 1 = .ok (.iload_n 1, 1) := tbX3_offset_0 (1, .iload_n 1, 1) (List.mem_of_getElem? (i := 1) rfl)
theorem dX3_offset_2 : decode cX3_offset 2 = .ok (.invokevirtual 166, 3) := tbX3_offset_0 (2, .invokevirtual 166, 3) (List.mem_of_getElem? (i := 2) rfl)
theorem dX3_offset_5 : decode cX3_offset 5 = .ok (.aload_n 0, 1) := tbX3_offset_0 (5, .aload_n 0, 1) (List.mem_of_getElem? (i := 3) rfl)
theorem dX3_offset_6 : decode cX3_offset 6 = .ok (.getfield 28, 3) := tbX3_offset_0 (6, .getfield 28, 3) (List.mem_of_getElem? (i := 4) rfl)
theorem dX3_offset_9 : decode cX3_offset 9 = .ok (.getfield 170, 3) := tbX3_offset_0 (9, .getfield 170, 3) (List.mem_of_getElem? (i := 5) rfl)
theorem dX3_offset_12 : decode cX3_offset 12 = .ok (.iload_n 1, 1) := tbX3_offset_0 (12, .iload_n 1, 1) (List.mem_of_getElem? (i := 6) rfl)
theorem dX3_offset_13 : decode cX3_offset 13 = .ok (.iaload, 1) := tbX3_offset_0 (13, .iaload, 1) (List.mem_of_getElem? (i := 7) rfl)
theorem dX3_offset_14 : decode cX3_offset 14 = .ok (.ireturn, 1) := tbX3_offset_0 (14, .ireturn, 1) (List.mem_of_getElem? (i := 8) rfl)
set_option maxRecDepth 20000 in
theorem ggX3_used_X3_needClass : GoodIn wsX3_used wsX3_needClass := goodIn_ca (goodIn_ca (goodIn_r _ [6, 7, 8, 1, 9, 10, 11, 12, 5, 13, 14, 15, 16, 17, 18, 19, 33, 34, 35, 36, 37, 38, 39, 40, 41, 42, 43, 44, 45] (by decide +kernel) (by decide +kernel)) (goodIn_sub (fun _ h => List.mem_cons_of_mem _ (List.mem_append_left _ (List.mem_append_right _ h))) (by decide +kernel))) (goodIn_sub (fun _ h => List.mem_cons_of_mem _ (List.mem_append_right _ h)) (by decide +kernel))
set_option maxRecDepth 20000 in
theorem gX3_used_X3_needClass : GoodIn wsX3_used (wsV RX3 166 RX3 yX3_needClass wsX3_needClass) := goodIn_app (goodIn_of _ (by decide +kernel)) ggX3_used_X3_needClass
set_option maxRecDepth 20000 in
theorem ggX3_used_X2_usedCells : GoodIn wsX3_used wsX2_usedCells := goodIn_r _ [24, 25, 26, 27, 28, 29, 30, 31, 32, 36, 37, 38, 39, 40, 41, 42, 43, 44, 45] (by decide +kernel) (by decide +kernel)
set_option maxRecDepth 20000 in
theorem gX3_used_X2_usedCells : GoodIn wsX3_used (wsV RX3 173 RX2 yX2_usedCells wsX2_usedCells) := goodIn_app (goodIn_of _ (by decide +kernel)) ggX3_used_X2_usedCells
theorem tbX3_used_0 : ∀ q ∈ ([(0, .aload_n 0, 1), (1, .iload_n 1, 1), (2, .invokevirtual 166, 3), (5, .aload_n 0, 1), (6, .getfield 28, 3), (9, .iload_n 1, 1), (10, .invokevirtual 173, 3), (13, .ireturn, 1)] : List (Nat × Instr × Nat)), decode cX3_used q.1 = .ok (q.2.1, q.2.2) := by decide +kernel
theorem dX3_used_0 : decode cX3_used 0 = .ok (.aload_n 0, 1) := tbX3_used_0 (0, .aload_n 0, 1) (List.mem_of_getElem? (i := 0) rfl)
theorem dX3_used_1 : decode cX3_used 1 = .ok (.iload_n 1, 1) := tbX3_used_0 (1, .iload_n 1, 1) (List.mem_of_getElem? (i := 1) rfl)
theorem dX3_used_2 : decode cX3_used 2 = .ok (.invokevirtual 166, 3) := tbX3_used_0 (2, .invokevirtual 166, 3) (List.mem_of_getElem? (i := 2) rfl)
theorem dX3_used_5 : decode cX3_used 5 = .ok (.aload_n 0, 1) := tbX3_used_0 (5, .aload_n 0, 1) (List.mem_of_getElem? (i := 3) rfl)
theorem dX3_used_6 : decode cX3_used 6 = .ok (.getfield 28, 3) := tbX3_used_0 (6, .getfield 28, 3) (List.mem_of_getElem? (i := 4) rfl)
theorem dX3_used_9 : decode cX3_used 9 = .ok (.iload_n 1, 1) := tbX3_used_0 (9, .iload_n 1, 1) (List.mem_of_getElem? (i := 5) rfl)
theorem dX3_used_10 : decode cX3_used 10 = .ok (.invokevirtual 173, 3) := tbX3_used_0 (10, .invokevirtual 173, 3) (List.mem_of_getElem? (i := 6) rfl)
theorem dX3_used_13 : decode cX3_used 13 = .ok (.ireturn, 1) := tbX3_used_0 (13, .ireturn, 1) (List.mem_of_getElem? (i := 7) rfl)
set_option maxRecDepth 20000 in
theorem ggX3_tableSize_X3_needTable : GoodIn wsX3_tableSize wsX3_needTable := goodIn_ca (goodIn_r _ [7, 8, 9, 1, 10, 11, 12, 13, 14, 15, 16, 17, 18, 19, 20, 21, 22, 23] (by decide +kernel) (by decide +kernel)) (goodIn_sub (fun _ h => List.mem_cons_of_mem _ (List.mem_append_right _ h)) (by decide +kernel))
set_option maxRecDepth 20000 in
theorem gX3_tableSize_X3_needTable : GoodIn wsX3_tableSize (wsV RX3 160 RX3 yX3_needTable wsX3_needTable) := goodIn_app (goodIn_of _ (by decide +kernel)) ggX3_tableSize_X3_needTable
theorem tbX3_tableSize_0 : ∀ q ∈ ([(0, .aload_n 0, 1), (1, .invokevirtual 160, 3), (4, .aload_n 0, 1), (5, .getfield 28, 3), (8, .getfield 176, 3), (11, .ireturn, 1)] : List (Nat × Instr × Nat)), decode cX3_tableSize q.1 = .ok (q.2.1, q.2.2) := by decide +kernel
theorem dX3_tableSize_0 : decode cX3_tableSize 0 = .ok (.aload_n 0, 1) := tbX3_tableSize_0 (0, .aload_n 0, 1) (List.mem_of_getElem? (i := 0) rfl)
theorem dX3_tableSize_1 : decode cX3_tableSize 1 = .ok (.invokevirtual 160, 3) := tbX3_tableSize_0 (1, .invokevirtual 160, 3) (List.mem_of_getElem? (i := 1) rfl)
theorem dX3_tableSize_4 : decode cX3_tableSize 4 = .ok (.aload_n 0, 1) := tbX3_tableSize_0 (4, .aload_n 0, 1) (List.mem_of_getElem? (i := 2) rfl)
theorem dX3_tableSize_5 : decode cX3_tableSize 5 = .ok (.getfield 28, 3) := tbX3_tableSize_0 (5, .getfield 28, 3) (List.mem_of_getElem? (i := 3) rfl)
theorem dX3_tableSize_8 : decode cX3_tableSize 8 = .ok (.getfield 176, 3) := tbX3_tableSize_0 (8, .getfield 176, 3) (List.mem_of_getElem? (i := 4) rfl)
theorem dX3_tableSize_11 : decode cX3_tableSize 11 = .ok (.ireturn, 1) := tbX3_tableSize_0 (11, .ireturn, 1) (List.mem_of_getElem? (i := 5) rfl)
set_option maxRecDepth 20000 in
theorem ggX3_owner_X3_needTable : GoodIn wsX3_owner wsX3_needTable := goodIn_ca (goodIn_r _ [10, 11, 12, 3, 13, 17, 18, 19, 20, 21, 22, 23, 24, 25, 26, 27, 28, 29] (by decide +kernel) (by decide +kernel)) (goodIn_sub (fun _ h => List.mem_cons_of_mem _ (List.mem_append_right _ h)) (by decide +kernel))
set_option maxRecDepth 20000 in
theorem gX3_owner_X3_needTable : GoodIn wsX3_owner (wsV RX3 160 RX3 yX3_needTable wsX3_needTable) := goodIn_app (goodIn_of _ (by decide +kernel)) ggX3_owner_X3_needTable
set_option maxRecDepth 20000 in
theorem ggX3_owner_X3_isBelow : GoodIn wsX3_owner wsX3_isBelow := goodIn_r _ [16] (by decide +kernel) (by decide +kernel)
set_option maxRecDepth 20000 in
theorem gX3_owner_X3_isBelow : GoodIn wsX3_owner (va_wsS RX3 47 yX3_isBelow wsX3_isBelow) := goodIn_app (goodIn_of _ (by decide +kernel)) ggX3_owner_X3_isBelow
theorem tbX3_owner_0 : ∀ q ∈ ([(0, .aload_n 0, 1), (1, .invokevirtual 160, 3), (4, .iload_n 1, 1), (5, .aload_n 0, 1), (6, .getfield 28, 3), (9, .getfield 176, 3), (12, .invokestatic 47, 3), (15, .ifCond .ne 13, 3), (18, .new 51, 3), (21, .dup, 1), (22, .ldc 179, 2), (24, .invokespecial 55, 3), (27, .athrow, 1), (28, .aload_n 0, 1), (29, .getfield 28, 3), (32, .getfield 181, 3), (35, .iload_n 1, 1), (36, .iaload, 1), (37, .ireturn, 1)] : List (Nat × Instr × Nat)), decode cX3_owner q.1 = .ok (q.2.1, q.2.2) := by decide +kernel
theorem dX3_owner_0 : decode cX3_owner 0 = .ok (.aload_n 0, 1) := tbX3_owner_0 (0, .aload_n 0, 1) (List.mem_of_getElem? (i := 0) rfl)
theorem dX3_owner_1 : decode cX3_owner 1 = .ok (.invokevirtual 160, 3) := tbX3_owner_0 (1, .invokevirtual 160, 3) (List.mem_of_getElem? (i := 1) rfl)
theorem dX3_owner_4 : decode cX3_owner 4 = .ok (.iload_n 1, 1) := tbX3_owner_0 (4, .iload_n 1, 1) (List.mem_of_getElem? (i := 2) rfl)
theorem dX3_owner_5 : decode cX3_owner 5 = .ok (.aload_n 0, 1) := tbX3_owner_0 (5, .aload_n 0, 1) (List.mem_of_getElem? (i := 3) rfl)
theorem dX3_owner_6 : decode cX3_owner 6 = .ok (.getfield 28, 3) := tbX3_owner_0 (6, .getfield 28, 3) (List.mem_of_getElem? (i := 4) rfl)
theorem dX3_owner_9 : decode cX3_owner 9 = .ok (.getfield 176, 3) := tbX3_owner_0 (9, .getfield 176, 3) (List.mem_of_getElem? (i := 5) rfl)
theorem dX3_owner_12 : decode cX3_owner 12 = .ok (.invokestatic 47, 3) := tbX3_owner_0 (12, .invokestatic 47, 3) (List.mem_of_getElem? (i := 6) rfl)
theorem dX3_owner_15 : decode cX3_owner 15 = .ok (.ifCond .ne 13, 3) := tbX3_owner_0 (15, .ifCond .ne 13, 3) (List.mem_of_getElem? (i := 7) rfl)
theorem dX3_owner_18 : decode cX3_owner 18 = .ok (.new 51, 3) := tbX3_owner_0 (18, .new 51, 3) (List.mem_of_getElem? (i := 8) rfl)
theorem dX3_owner_21 : decode cX3_owner 21 = .ok (.dup, 1) := tbX3_owner_0 (21, .dup, 1) (List.mem_of_getElem? (i := 9) rfl)
theorem dX3_owner_22 : decode cX3_owner 22 = .ok (.ldc 179, 2) := tbX3_owner_0 (22, .ldc 179, 2) (List.mem_of_getElem? (i := 10) rfl)
theorem dX3_owner_24 : decode cX3_owner 24 = .ok (.invokespecial 55, 3) := tbX3_owner_0 (24, .invokespecial 55, 3) (List.mem_of_getElem? (i := 11) rfl)
theorem dX3_owner_27 : decode cX3_owner 27 = .ok (.athrow, 1) := tbX3_owner_0 (27, .athrow, 1) (List.mem_of_getElem? (i := 12) rfl)
theorem dX3_owner_28 : decode cX3_owner 28 = .ok (.aload_n 0, 1) := tbX3_owner_0 (28, .aload_n 0, 1) (List.mem_of_getElem? (i := 13) rfl)
theorem dX3_owner_29 : decode cX3_owner 29 = .ok (.getfield 28, 3) := tbX3_owner_0 (29, .getfield 28, 3) (List.mem_of_getElem? (i := 14) rfl)
theorem dX3_owner_32 : decode cX3_owner 32 = .ok (.getfield 181, 3) := tbX3_owner_0 (32, .getfield 181, 3) (List.mem_of_getElem? (i := 15) rfl)
theorem dX3_owner_35 : decode cX3_owner 35 = .ok (.iload_n 1, 1) := tbX3_owner_0 (35, .iload_n 1, 1) (List.mem_of_getElem? (i := 16) rfl)
theorem dX3_owner_36 : decode cX3_owner 36 = .ok (.iaload, 1) := tbX3_owner_0 (36, .iaload, 1) (List.mem_of_getElem? (i := 17) rfl)
theorem dX3_owner_37 : decode cX3_owner 37 = .ok (.ireturn, 1) := tbX3_owner_0 (37, .ireturn, 1) (List.mem_of_getElem? (i := 18) rfl)
set_option maxRecDepth 20000 in
theorem ggX3_density_X3_needTable : GoodIn wsX3_density wsX3_needTable := goodIn_ca (goodIn_r _ [8, 9, 10, 1, 11, 12, 13, 14, 15, 16, 17, 18, 19, 20, 21, 22, 23, 24] (by decide +kernel) (by decide +kernel)) (goodIn_sub (fun _ h => List.mem_cons_of_mem _ (List.mem_append_right _ h)) (by decide +kernel))
set_option maxRecDepth 20000 in
theorem gX3_density_X3_needTable : GoodIn wsX3_density (wsV RX3 160 RX3 yX3_needTable wsX3_needTable) := goodIn_app (goodIn_of _ (by decide +kernel)) ggX3_density_X3_needTable
theorem tbX3_density_0 : ∀ q ∈ ([(0, .aload_n 0, 1), (1, .invokevirtual 160, 3), (4, .aload_n 0, 1), (5, .getfield 28, 3), (8, .getfield 176, 3), (11, .ifCond .gt 5, 3), (14, .dconst 1, 1), (15, .dreturn, 1), (16, .aload_n 0, 1), (17, .getfield 28, 3), (20, .getfield 184, 3), (23, .i2d, 1), (24, .aload_n 0, 1), (25, .getfield 28, 3), (28, .getfield 176, 3), (31, .i2d, 1), (32, .ddiv, 1), (33, .dreturn, 1)] : List (Nat × Instr × Nat)), decode cX3_density q.1 = .ok (q.2.1, q.2.2) := by decide +kernel
theorem dX3_density_0 : decode cX3_density 0 = .ok (.aload_n 0, 1) := tbX3_density_0 (0, .aload_n 0, 1) (List.mem_of_getElem? (i := 0) rfl)
theorem dX3_density_1 : decode cX3_density 1 = .ok (.invokevirtual 160, 3) := tbX3_density_0 (1, .invokevirtual 160, 3) (List.mem_of_getElem? (i := 1) rfl)
theorem dX3_density_4 : decode cX3_density 4 = .ok (.aload_n 0, 1) := tbX3_density_0 (4, .aload_n 0, 1) (List.mem_of_getElem? (i := 2) rfl)
theorem dX3_density_5 : decode cX3_density 5 = .ok (.getfield 28, 3) := tbX3_density_0 (5, .getfield 28, 3) (List.mem_of_getElem? (i := 3) rfl)
theorem dX3_density_8 : decode cX3_density 8 = .ok (.getfield 176, 3) := tbX3_density_0 (8, .getfield 176, 3) (List.mem_of_getElem? (i := 4) rfl)
theorem dX3_density_11 : decode cX3_density 11 = .ok (.ifCond .gt 5, 3) := tbX3_density_0 (11, .ifCond .gt 5, 3) (List.mem_of_getElem? (i := 5) rfl)
theorem dX3_density_14 : decode cX3_density 14 = .ok (.dconst 1, 1) := tbX3_density_0 (14, .dconst 1, 1) (List.mem_of_getElem? (i := 6) rfl)
theorem dX3_density_15 : decode cX3_density 15 = .ok (.dreturn, 1) := tbX3_density_0 (15, .dreturn, 1) (List.mem_of_getElem? (i := 7) rfl)
theorem dX3_density_16 : decode cX3_density 16 = .ok (.aload_n 0, 1) := tbX3_density_0 (16, .aload_n 0, 1) (List.mem_of_getElem? (i := 8) rfl)
theorem dX3_density_17 : decode cX3_density 17 = .ok (.getfield 28, 3) := tbX3_density_0 (17, .getfield 28, 3) (List.mem_of_getElem? (i := 9) rfl)
theorem dX3_density_20 : decode cX3_density 20 = .ok (.getfield 184, 3) := tbX3_density_0 (20, .getfield 184, 3) (List.mem_of_getElem? (i := 10) rfl)
theorem dX3_density_23 : decode cX3_density 23 = .ok (.i2d, 1) := tbX3_density_0 (23, .i2d, 1) (List.mem_of_getElem? (i := 11) rfl)
theorem dX3_density_24 : decode cX3_density 24 = .ok (.aload_n 0, 1) := tbX3_density_0 (24, .aload_n 0, 1) (List.mem_of_getElem? (i := 12) rfl)
theorem dX3_density_25 : decode cX3_density 25 = .ok (.getfield 28, 3) := tbX3_density_0 (25, .getfield 28, 3) (List.mem_of_getElem? (i := 13) rfl)
theorem dX3_density_28 : decode cX3_density 28 = .ok (.getfield 176, 3) := tbX3_density_0 (28, .getfield 176, 3) (List.mem_of_getElem? (i := 14) rfl)
theorem dX3_density_31 : decode cX3_density 31 = .ok (.i2d, 1) := tbX3_density_0 (31, .i2d, 1) (List.mem_of_getElem? (i := 15) rfl)
theorem dX3_density_32 : decode cX3_density 32 = .ok (.ddiv, 1) := tbX3_density_0 (32, .ddiv, 1) (List.mem_of_getElem? (i := 16) rfl)
theorem dX3_density_33 : decode cX3_density 33 = .ok (.dreturn, 1) := tbX3_density_0 (33, .dreturn, 1) (List.mem_of_getElem? (i := 17) rfl)
set_option maxRecDepth 20000 in
theorem ggX3_digest_X3_mix : GoodIn wsX3_digest wsX3_mix := goodIn_r _ [16, 17] (by decide +kernel) (by decide +kernel)
set_option maxRecDepth 20000 in
theorem gX3_digest_X3_mix : GoodIn wsX3_digest (va_wsS RX3 189 yX3_mix wsX3_mix) := goodIn_app (goodIn_of _ (by decide +kernel)) ggX3_digest_X3_mix
set_option maxRecDepth 20000 in
theorem ggX3_digest_X3_mixExecution : GoodIn wsX3_digest wsX3_mixExecution := goodIn_r _ [21, 9, 22, 23, 24, 25, 26, 13, 14, 15, 16, 17, 27, 28, 29, 30, 31, 32, 33, 34, 41, 42, 43, 57, 58, 59, 60, 61, 62, 63, 64, 65, 66] (by decide +kernel) (by decide +kernel)
set_option maxRecDepth 20000 in
theorem gX3_digest_X3_mixExecution : GoodIn wsX3_digest (wsV RX3 202 RX3 yX3_mixExecution wsX3_mixExecution) := goodIn_app (goodIn_of _ (by decide +kernel)) ggX3_digest_X3_mixExecution
set_option maxRecDepth 20000 in
theorem ggX3_digest_X3_mixTable : GoodIn wsX3_digest wsX3_mixTable := goodIn_r _ [38, 11, 39, 40, 13, 14, 15, 16, 17, 41, 42, 43, 67, 68, 69, 70, 71, 72, 73, 74, 75, 76] (by decide +kernel) (by decide +kernel)
set_option maxRecDepth 20000 in
theorem gX3_digest_X3_mixTable : GoodIn wsX3_digest (wsV RX3 206 RX3 yX3_mixTable wsX3_mixTable) := goodIn_app (goodIn_of _ (by decide +kernel)) ggX3_digest_X3_mixTable
