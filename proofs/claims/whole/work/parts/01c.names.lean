theorem dX1_init_34 : decode cX1_init 34 = .ok (.putfield 25, 3) := by decide +kernel
theorem dX1_init_37 : decode cX1_init 37 = .ok (.aload_n 0, 1) := by decide +kernel
theorem dX1_init_38 : decode cX1_init 38 = .ok (.bipush 40, 2) := by decide +kernel
theorem dX1_init_40 : decode cX1_init 40 = .ok (.newarray .int, 2) := by decide +kernel
theorem dX1_init_42 : decode cX1_init 42 = .ok (.putfield 28, 3) := by decide +kernel
theorem dX1_init_45 : decode cX1_init 45 = .ok (.aload_n 0, 1) := by decide +kernel
theorem dX1_init_46 : decode cX1_init 46 = .ok (.bipush 40, 2) := by decide +kernel
theorem dX1_init_48 : decode cX1_init 48 = .ok (.newarray .int, 2) := by decide +kernel
theorem dX1_init_50 : decode cX1_init 50 = .ok (.putfield 31, 3) := by decide +kernel
theorem dX1_init_53 : decode cX1_init 53 = .ok (.aload_n 0, 1) := by decide +kernel
theorem dX1_init_54 : decode cX1_init 54 = .ok (.bipush 40, 2) := by decide +kernel
theorem dX1_init_56 : decode cX1_init 56 = .ok (.newarray .int, 2) := by decide +kernel
theorem dX1_init_58 : decode cX1_init 58 = .ok (.putfield 34, 3) := by decide +kernel
theorem dX1_init_61 : decode cX1_init 61 = .ok (.aload_n 0, 1) := by decide +kernel
theorem dX1_init_62 : decode cX1_init 62 = .ok (.bipush 40, 2) := by decide +kernel
theorem dX1_init_64 : decode cX1_init 64 = .ok (.newarray .int, 2) := by decide +kernel
theorem dX1_init_66 : decode cX1_init 66 = .ok (.putfield 37, 3) := by decide +kernel
theorem dX1_init_69 : decode cX1_init 69 = .ok (.aload_n 0, 1) := by decide +kernel
theorem dX1_init_70 : decode cX1_init 70 = .ok (.bipush 40, 2) := by decide +kernel
theorem dX1_init_72 : decode cX1_init 72 = .ok (.newarray .int, 2) := by decide +kernel
theorem dX1_init_74 : decode cX1_init 74 = .ok (.putfield 40, 3) := by decide +kernel
theorem dX1_init_77 : decode cX1_init 77 = .ok (.aload_n 0, 1) := by decide +kernel
theorem dX1_init_78 : decode cX1_init 78 = .ok (.bipush 120, 2) := by decide +kernel
theorem dX1_init_80 : decode cX1_init 80 = .ok (.newarray .int, 2) := by decide +kernel
theorem dX1_init_82 : decode cX1_init 82 = .ok (.putfield 43, 3) := by decide +kernel
theorem dX1_init_85 : decode cX1_init 85 = .ok (.aload_n 0, 1) := by decide +kernel
theorem dX1_init_86 : decode cX1_init 86 = .ok (.bipush 120, 2) := by decide +kernel
theorem dX1_init_88 : decode cX1_init 88 = .ok (.newarray .int, 2) := by decide +kernel
theorem dX1_init_90 : decode cX1_init 90 = .ok (.putfield 46, 3) := by decide +kernel
theorem dX1_init_93 : decode cX1_init 93 = .ok (.aload_n 0, 1) := by decide +kernel
theorem dX1_init_94 : decode cX1_init 94 = .ok (.bipush 120, 2) := by decide +kernel
theorem dX1_init_96 : decode cX1_init 96 = .ok (.newarray .int, 2) := by decide +kernel
theorem dX1_init_98 : decode cX1_init 98 = .ok (.putfield 49, 3) := by decide +kernel
theorem dX1_init_101 : decode cX1_init 101 = .ok (.iconst 0, 1) := by decide +kernel
theorem dX1_init_102 : decode cX1_init 102 = .ok (.istore_n 1, 1) := by decide +kernel
theorem dX1_init_103 : decode cX1_init 103 = .ok (.iload_n 1, 1) := by decide +kernel
theorem dX1_init_104 : decode cX1_init 104 = .ok (.iconst 4, 1) := by decide +kernel
theorem dX1_init_105 : decode cX1_init 105 = .ok (.if_icmp .ge 16, 3) := by decide +kernel
theorem dX1_init_108 : decode cX1_init 108 = .ok (.aload_n 0, 1) := by decide +kernel
theorem dX1_init_109 : decode cX1_init 109 = .ok (.getfield 18, 3) := by decide +kernel
theorem dX1_init_112 : decode cX1_init 112 = .ok (.iload_n 1, 1) := by decide +kernel
theorem dX1_init_113 : decode cX1_init 113 = .ok (.iload_n 1, 1) := by decide +kernel
theorem dX1_init_114 : decode cX1_init 114 = .ok (.iastore, 1) := by decide +kernel
theorem dX1_init_115 : decode cX1_init 115 = .ok (.iinc 1 1, 3) := by decide +kernel
theorem dX1_init_118 : decode cX1_init 118 = .ok (.goto (-15), 3) := by decide +kernel
theorem dX1_init_121 : decode cX1_init 121 = .ok (.return_, 1) := by decide +kernel
theorem dX1_append_0 : decode cX1_append 0 = .ok (.aload_n 0, 1) := by decide +kernel
theorem dX1_append_1 : decode cX1_append 1 = .ok (.getfield 15, 3) := by decide +kernel
theorem dX1_append_4 : decode cX1_append 4 = .ok (.istore 4, 2) := by decide +kernel
theorem dX1_append_6 : decode cX1_append 6 = .ok (.aload_n 0, 1) := by decide +kernel
theorem dX1_append_7 : decode cX1_append 7 = .ok (.getfield 22, 3) := by decide +kernel
theorem dX1_append_10 : decode cX1_append 10 = .ok (.iload 4, 2) := by decide +kernel
theorem dX1_append_12 : decode cX1_append 12 = .ok (.iload_n 1, 1) := by decide +kernel
theorem dX1_append_13 : decode cX1_append 13 = .ok (.iastore, 1) := by decide +kernel
theorem dX1_append_14 : decode cX1_append 14 = .ok (.aload_n 0, 1) := by decide +kernel
theorem dX1_append_15 : decode cX1_append 15 = .ok (.getfield 25, 3) := by decide +kernel
theorem dX1_append_18 : decode cX1_append 18 = .ok (.iload 4, 2) := by decide +kernel
theorem dX1_append_20 : decode cX1_append 20 = .ok (.iload_n 2, 1) := by decide +kernel
theorem dX1_append_21 : decode cX1_append 21 = .ok (.iastore, 1) := by decide +kernel
theorem dX1_append_22 : decode cX1_append 22 = .ok (.aload_n 0, 1) := by decide +kernel
theorem dX1_append_23 : decode cX1_append 23 = .ok (.getfield 28, 3) := by decide +kernel
theorem dX1_append_26 : decode cX1_append 26 = .ok (.iload 4, 2) := by decide +kernel
theorem dX1_append_28 : decode cX1_append 28 = .ok (.iload_n 3, 1) := by decide +kernel
theorem dX1_append_29 : decode cX1_append 29 = .ok (.iastore, 1) := by decide +kernel
theorem dX1_append_30 : decode cX1_append 30 = .ok (.aload_n 0, 1) := by decide +kernel
theorem dX1_append_31 : decode cX1_append 31 = .ok (.getfield 31, 3) := by decide +kernel
theorem dX1_append_34 : decode cX1_append 34 = .ok (.iload 4, 2) := by decide +kernel
theorem dX1_append_36 : decode cX1_append 36 = .ok (.iconst (-1), 1) := by decide +kernel
theorem dX1_append_37 : decode cX1_append 37 = .ok (.iastore, 1) := by decide +kernel
theorem dX1_append_38 : decode cX1_append 38 = .ok (.aload_n 0, 1) := by decide +kernel
theorem dX1_append_39 : decode cX1_append 39 = .ok (.getfield 34, 3) := by decide +kernel
theorem dX1_append_42 : decode cX1_append 42 = .ok (.iload 4, 2) := by decide +kernel
theorem dX1_append_44 : decode cX1_append 44 = .ok (.iconst 0, 1) := by decide +kernel
theorem dX1_append_45 : decode cX1_append 45 = .ok (.iastore, 1) := by decide +kernel
theorem dX1_append_46 : decode cX1_append 46 = .ok (.aload_n 0, 1) := by decide +kernel
theorem dX1_append_47 : decode cX1_append 47 = .ok (.getfield 37, 3) := by decide +kernel
theorem dX1_append_50 : decode cX1_append 50 = .ok (.iload 4, 2) := by decide +kernel
theorem dX1_append_52 : decode cX1_append 52 = .ok (.iconst 0, 1) := by decide +kernel
theorem dX1_append_53 : decode cX1_append 53 = .ok (.iastore, 1) := by decide +kernel
theorem dX1_append_54 : decode cX1_append 54 = .ok (.aload_n 0, 1) := by decide +kernel
theorem dX1_append_55 : decode cX1_append 55 = .ok (.getfield 40, 3) := by decide +kernel
theorem dX1_append_58 : decode cX1_append 58 = .ok (.iload 4, 2) := by decide +kernel
theorem dX1_append_60 : decode cX1_append 60 = .ok (.iconst 0, 1) := by decide +kernel
theorem dX1_append_61 : decode cX1_append 61 = .ok (.iastore, 1) := by decide +kernel
theorem dX1_append_62 : decode cX1_append 62 = .ok (.aload_n 0, 1) := by decide +kernel
theorem dX1_append_63 : decode cX1_append 63 = .ok (.dup, 1) := by decide +kernel
theorem dX1_append_64 : decode cX1_append 64 = .ok (.getfield 15, 3) := by decide +kernel
theorem dX1_append_67 : decode cX1_append 67 = .ok (.iconst 1, 1) := by decide +kernel
theorem dX1_append_68 : decode cX1_append 68 = .ok (.iadd, 1) := by decide +kernel
theorem dX1_append_69 : decode cX1_append 69 = .ok (.putfield 15, 3) := by decide +kernel
theorem dX1_append_72 : decode cX1_append 72 = .ok (.iload 4, 2) := by decide +kernel
theorem dX1_append_74 : decode cX1_append 74 = .ok (.ireturn, 1) := by decide +kernel
theorem dX1_guard_0 : decode cX1_guard 0 = .ok (.aload_n 0, 1) := by decide +kernel
theorem dX1_guard_1 : decode cX1_guard 1 = .ok (.getfield 31, 3) := by decide +kernel
theorem dX1_guard_4 : decode cX1_guard 4 = .ok (.iload_n 1, 1) := by decide +kernel
theorem dX1_guard_5 : decode cX1_guard 5 = .ok (.iload_n 2, 1) := by decide +kernel
theorem dX1_guard_6 : decode cX1_guard 6 = .ok (.iastore, 1) := by decide +kernel
theorem dX1_guard_7 : decode cX1_guard 7 = .ok (.aload_n 0, 1) := by decide +kernel
theorem dX1_guard_8 : decode cX1_guard 8 = .ok (.getfield 34, 3) := by decide +kernel
theorem dX1_guard_11 : decode cX1_guard 11 = .ok (.iload_n 1, 1) := by decide +kernel
theorem dX1_guard_12 : decode cX1_guard 12 = .ok (.iload_n 3, 1) := by decide +kernel
theorem dX1_guard_13 : decode cX1_guard 13 = .ok (.iastore, 1) := by decide +kernel
theorem dX1_guard_14 : decode cX1_guard 14 = .ok (.aload_n 0, 1) := by decide +kernel
theorem dX1_guard_15 : decode cX1_guard 15 = .ok (.getfield 37, 3) := by decide +kernel
theorem dX1_guard_18 : decode cX1_guard 18 = .ok (.iload_n 1, 1) := by decide +kernel
theorem dX1_guard_19 : decode cX1_guard 19 = .ok (.iload 4, 2) := by decide +kernel
theorem dX1_guard_21 : decode cX1_guard 21 = .ok (.iastore, 1) := by decide +kernel
theorem dX1_guard_22 : decode cX1_guard 22 = .ok (.return_, 1) := by decide +kernel
theorem dX1_appendAction_0 : decode cX1_appendAction 0 = .ok (.iconst 3, 1) := by decide +kernel
theorem dX1_appendAction_1 : decode cX1_appendAction 1 = .ok (.iload_n 1, 1) := by decide +kernel
theorem dX1_appendAction_2 : decode cX1_appendAction 2 = .ok (.imul, 1) := by decide +kernel
theorem dX1_appendAction_3 : decode cX1_appendAction 3 = .ok (.aload_n 0, 1) := by decide +kernel
theorem dX1_appendAction_4 : decode cX1_appendAction 4 = .ok (.getfield 40, 3) := by decide +kernel
theorem dX1_appendAction_7 : decode cX1_appendAction 7 = .ok (.iload_n 1, 1) := by decide +kernel
theorem dX1_appendAction_8 : decode cX1_appendAction 8 = .ok (.iaload, 1) := by decide +kernel
theorem dX1_appendAction_9 : decode cX1_appendAction 9 = .ok (.iadd, 1) := by decide +kernel
theorem dX1_appendAction_10 : decode cX1_appendAction 10 = .ok (.istore 5, 2) := by decide +kernel
theorem dX1_appendAction_12 : decode cX1_appendAction 12 = .ok (.aload_n 0, 1) := by decide +kernel
theorem dX1_appendAction_13 : decode cX1_appendAction 13 = .ok (.getfield 43, 3) := by decide +kernel
theorem dX1_appendAction_16 : decode cX1_appendAction 16 = .ok (.iload 5, 2) := by decide +kernel
theorem dX1_appendAction_18 : decode cX1_appendAction 18 = .ok (.iload_n 2, 1) := by decide +kernel
theorem dX1_appendAction_19 : decode cX1_appendAction 19 = .ok (.iastore, 1) := by decide +kernel
theorem dX1_appendAction_20 : decode cX1_appendAction 20 = .ok (.aload_n 0, 1) := by decide +kernel
theorem dX1_appendAction_21 : decode cX1_appendAction 21 = .ok (.getfield 46, 3) := by decide +kernel
theorem dX1_appendAction_24 : decode cX1_appendAction 24 = .ok (.iload 5, 2) := by decide +kernel
theorem dX1_appendAction_26 : decode cX1_appendAction 26 = .ok (.iload_n 3, 1) := by decide +kernel
theorem dX1_appendAction_27 : decode cX1_appendAction 27 = .ok (.iastore, 1) := by decide +kernel
theorem dX1_appendAction_28 : decode cX1_appendAction 28 = .ok (.aload_n 0, 1) := by decide +kernel
theorem dX1_appendAction_29 : decode cX1_appendAction 29 = .ok (.getfield 49, 3) := by decide +kernel
theorem dX1_appendAction_32 : decode cX1_appendAction 32 = .ok (.iload 5, 2) := by decide +kernel
theorem dX1_appendAction_34 : decode cX1_appendAction 34 = .ok (.iload_n 2, 1) := by decide +kernel
theorem dX1_appendAction_35 : decode cX1_appendAction 35 = .ok (.iconst 3, 1) := by decide +kernel
theorem dX1_appendAction_36 : decode cX1_appendAction 36 = .ok (.if_icmp .eq 8, 3) := by decide +kernel
theorem dX1_appendAction_39 : decode cX1_appendAction 39 = .ok (.iload_n 2, 1) := by decide +kernel
theorem dX1_appendAction_40 : decode cX1_appendAction 40 = .ok (.iconst 4, 1) := by decide +kernel
theorem dX1_appendAction_41 : decode cX1_appendAction 41 = .ok (.if_icmp .ne 7, 3) := by decide +kernel
theorem dX1_appendAction_44 : decode cX1_appendAction 44 = .ok (.iconst 0, 1) := by decide +kernel
theorem dX1_appendAction_45 : decode cX1_appendAction 45 = .ok (.goto 5, 3) := by decide +kernel
theorem dX1_appendAction_48 : decode cX1_appendAction 48 = .ok (.iload 4, 2) := by decide +kernel
theorem dX1_appendAction_50 : decode cX1_appendAction 50 = .ok (.iastore, 1) := by decide +kernel
theorem dX1_appendAction_51 : decode cX1_appendAction 51 = .ok (.aload_n 0, 1) := by decide +kernel
theorem dX1_appendAction_52 : decode cX1_appendAction 52 = .ok (.getfield 40, 3) := by decide +kernel
theorem dX1_appendAction_55 : decode cX1_appendAction 55 = .ok (.iload_n 1, 1) := by decide +kernel
theorem dX1_appendAction_56 : decode cX1_appendAction 56 = .ok (.dup2, 1) := by decide +kernel
theorem dX1_appendAction_57 : decode cX1_appendAction 57 = .ok (.iaload, 1) := by decide +kernel
theorem dX1_appendAction_58 : decode cX1_appendAction 58 = .ok (.iconst 1, 1) := by decide +kernel
theorem dX1_appendAction_59 : decode cX1_appendAction 59 = .ok (.iadd, 1) := by decide +kernel
theorem dX1_appendAction_60 : decode cX1_appendAction 60 = .ok (.iastore, 1) := by decide +kernel
theorem dX1_appendAction_61 : decode cX1_appendAction 61 = .ok (.aload_n 0, 1) := by decide +kernel
theorem dX1_appendAction_62 : decode cX1_appendAction 62 = .ok (.getfield 40, 3) := by decide +kernel
theorem dX1_appendAction_65 : decode cX1_appendAction 65 = .ok (.iload_n 1, 1) := by decide +kernel
theorem dX1_appendAction_66 : decode cX1_appendAction 66 = .ok (.iaload, 1) := by decide +kernel
theorem dX1_appendAction_67 : decode cX1_appendAction 67 = .ok (.ireturn, 1) := by decide +kernel
theorem dX1_firstBehind_0 : decode cX1_firstBehind 0 = .ok (.iload_n 1, 1) := by decide +kernel
theorem dX1_firstBehind_1 : decode cX1_firstBehind 1 = .ok (.iconst 1, 1) := by decide +kernel
theorem dX1_firstBehind_2 : decode cX1_firstBehind 2 = .ok (.iadd, 1) := by decide +kernel
theorem dX1_firstBehind_3 : decode cX1_firstBehind 3 = .ok (.istore 4, 2) := by decide +kernel
theorem dX1_firstBehind_5 : decode cX1_firstBehind 5 = .ok (.iload 4, 2) := by decide +kernel
theorem dX1_firstBehind_7 : decode cX1_firstBehind 7 = .ok (.aload_n 0, 1) := by decide +kernel
theorem dX1_firstBehind_8 : decode cX1_firstBehind 8 = .ok (.getfield 15, 3) := by decide +kernel
theorem dX1_firstBehind_11 : decode cX1_firstBehind 11 = .ok (.if_icmp .ge 34, 3) := by decide +kernel
theorem dX1_firstBehind_14 : decode cX1_firstBehind 14 = .ok (.aload_n 0, 1) := by decide +kernel
theorem dX1_firstBehind_15 : decode cX1_firstBehind 15 = .ok (.getfield 22, 3) := by decide +kernel
theorem dX1_firstBehind_18 : decode cX1_firstBehind 18 = .ok (.iload 4, 2) := by decide +kernel
theorem dX1_firstBehind_20 : decode cX1_firstBehind 20 = .ok (.iaload, 1) := by decide +kernel
theorem dX1_firstBehind_21 : decode cX1_firstBehind 21 = .ok (.iload_n 2, 1) := by decide +kernel
theorem dX1_firstBehind_22 : decode cX1_firstBehind 22 = .ok (.if_icmp .ne 17, 3) := by decide +kernel
theorem dX1_firstBehind_25 : decode cX1_firstBehind 25 = .ok (.aload_n 0, 1) := by decide +kernel
theorem dX1_firstBehind_26 : decode cX1_firstBehind 26 = .ok (.getfield 25, 3) := by decide +kernel
theorem dX1_firstBehind_29 : decode cX1_firstBehind 29 = .ok (.iload 4, 2) := by decide +kernel
theorem dX1_firstBehind_31 : decode cX1_firstBehind 31 = .ok (.iaload, 1) := by decide +kernel
theorem dX1_firstBehind_32 : decode cX1_firstBehind 32 = .ok (.iload_n 3, 1) := by decide +kernel
theorem dX1_firstBehind_33 : decode cX1_firstBehind 33 = .ok (.if_icmp .ne 6, 3) := by decide +kernel
theorem dX1_firstBehind_36 : decode cX1_firstBehind 36 = .ok (.iload 4, 2) := by decide +kernel
theorem dX1_firstBehind_38 : decode cX1_firstBehind 38 = .ok (.ireturn, 1) := by decide +kernel
theorem dX1_firstBehind_39 : decode cX1_firstBehind 39 = .ok (.iinc 4 1, 3) := by decide +kernel
theorem dX1_firstBehind_42 : decode cX1_firstBehind 42 = .ok (.goto (-37), 3) := by decide +kernel
theorem dX1_firstBehind_45 : decode cX1_firstBehind 45 = .ok (.iconst (-1), 1) := by decide +kernel
theorem dX1_firstBehind_46 : decode cX1_firstBehind 46 = .ok (.ireturn, 1) := by decide +kernel
theorem dX1_lowest_0 : decode cX1_lowest 0 = .ok (.aload_n 0, 1) := by decide +kernel
theorem dX1_lowest_1 : decode cX1_lowest 1 = .ok (.getfield 34, 3) := by decide +kernel
theorem dX1_lowest_4 : decode cX1_lowest 4 = .ok (.iload_n 1, 1) := by decide +kernel
theorem dX1_lowest_5 : decode cX1_lowest 5 = .ok (.iaload, 1) := by decide +kernel
theorem dX1_lowest_6 : decode cX1_lowest 6 = .ok (.lookupswitch 37 #[(0, 26), (1, 30)], 26) := by decide +kernel
theorem dX1_lowest_32 : decode cX1_lowest 32 = .ok (.sipush (-1000), 3) := by decide +kernel
theorem dX1_lowest_35 : decode cX1_lowest 35 = .ok (.ireturn, 1) := by decide +kernel
theorem dX1_lowest_36 : decode cX1_lowest 36 = .ok (.aload_n 0, 1) := by decide +kernel
theorem dX1_lowest_37 : decode cX1_lowest 37 = .ok (.getfield 37, 3) := by decide +kernel
theorem dX1_lowest_40 : decode cX1_lowest 40 = .ok (.iload_n 1, 1) := by decide +kernel
theorem dX1_lowest_41 : decode cX1_lowest 41 = .ok (.iaload, 1) := by decide +kernel
theorem dX1_lowest_42 : decode cX1_lowest 42 = .ok (.ireturn, 1) := by decide +kernel
theorem dX1_lowest_43 : decode cX1_lowest 43 = .ok (.aload_n 0, 1) := by decide +kernel
theorem dX1_lowest_44 : decode cX1_lowest 44 = .ok (.getfield 37, 3) := by decide +kernel
theorem dX1_lowest_47 : decode cX1_lowest 47 = .ok (.iload_n 1, 1) := by decide +kernel
theorem dX1_lowest_48 : decode cX1_lowest 48 = .ok (.iaload, 1) := by decide +kernel
theorem dX1_lowest_49 : decode cX1_lowest 49 = .ok (.iconst 1, 1) := by decide +kernel
theorem dX1_lowest_50 : decode cX1_lowest 50 = .ok (.iadd, 1) := by decide +kernel
theorem dX1_lowest_51 : decode cX1_lowest 51 = .ok (.ireturn, 1) := by decide +kernel
theorem dX1_highest_0 : decode cX1_highest 0 = .ok (.aload_n 0, 1) := by decide +kernel
theorem dX1_highest_1 : decode cX1_highest 1 = .ok (.getfield 34, 3) := by decide +kernel
theorem dX1_highest_4 : decode cX1_highest 4 = .ok (.iload_n 1, 1) := by decide +kernel
theorem dX1_highest_5 : decode cX1_highest 5 = .ok (.iaload, 1) := by decide +kernel
theorem dX1_highest_6 : decode cX1_highest 6 = .ok (.lookupswitch 42 #[(0, 26), (1, 35)], 26) := by decide +kernel
theorem dX1_highest_32 : decode cX1_highest 32 = .ok (.aload_n 0, 1) := by decide +kernel
theorem dX1_highest_33 : decode cX1_highest 33 = .ok (.getfield 37, 3) := by decide +kernel
theorem dX1_highest_36 : decode cX1_highest 36 = .ok (.iload_n 1, 1) := by decide +kernel
theorem dX1_highest_37 : decode cX1_highest 37 = .ok (.iaload, 1) := by decide +kernel
theorem dX1_highest_38 : decode cX1_highest 38 = .ok (.iconst 1, 1) := by decide +kernel
theorem dX1_highest_39 : decode cX1_highest 39 = .ok (.isub, 1) := by decide +kernel
theorem dX1_highest_40 : decode cX1_highest 40 = .ok (.ireturn, 1) := by decide +kernel
theorem dX1_highest_41 : decode cX1_highest 41 = .ok (.aload_n 0, 1) := by decide +kernel
theorem dX1_highest_42 : decode cX1_highest 42 = .ok (.getfield 37, 3) := by decide +kernel
theorem dX1_highest_45 : decode cX1_highest 45 = .ok (.iload_n 1, 1) := by decide +kernel
theorem dX1_highest_46 : decode cX1_highest 46 = .ok (.iaload, 1) := by decide +kernel
theorem dX1_highest_47 : decode cX1_highest 47 = .ok (.ireturn, 1) := by decide +kernel
theorem dX1_highest_48 : decode cX1_highest 48 = .ok (.sipush 1000, 3) := by decide +kernel
theorem dX1_highest_51 : decode cX1_highest 51 = .ok (.ireturn, 1) := by decide +kernel
set_option maxRecDepth 20000 in
theorem ggX1_isBehindAnother_X1_covers : GoodIn wsX1_isBehindAnother wsX1_covers := goodIn_r _ [7, 8, 9, 10, 11, 6, 12, 13, 14, 15, 16, 17, 18, 19, 20, 21, 22, 23, 24, 25, 26, 27, 28, 29, 30, 31] (by decide +kernel) (by decide +kernel)
set_option maxRecDepth 20000 in
theorem gX1_isBehindAnother_X1_covers : GoodIn wsX1_isBehindAnother (wsV RX1 52 RX1 yX1_covers wsX1_covers) := goodIn_app (goodIn_of _ (by decide +kernel)) ggX1_isBehindAnother_X1_covers
theorem dX1_isBehindAnother_0 : decode cX1_isBehindAnother 0 = .ok (.iconst 0, 1) := by decide +kernel
theorem dX1_isBehindAnother_1 : decode cX1_isBehindAnother 1 = .ok (.istore_n 2, 1) := by decide +kernel
theorem dX1_isBehindAnother_2 : decode cX1_isBehindAnother 2 = .ok (.iload_n 2, 1) := by decide +kernel
theorem dX1_isBehindAnother_3 : decode cX1_isBehindAnother 3 = .ok (.iload_n 1, 1) := by decide +kernel
theorem dX1_isBehindAnother_4 : decode cX1_isBehindAnother 4 = .ok (.if_icmp .ge 50, 3) := by decide +kernel
theorem dX1_isBehindAnother_7 : decode cX1_isBehindAnother 7 = .ok (.aload_n 0, 1) := by decide +kernel
theorem dX1_isBehindAnother_8 : decode cX1_isBehindAnother 8 = .ok (.getfield 22, 3) := by decide +kernel
theorem dX1_isBehindAnother_11 : decode cX1_isBehindAnother 11 = .ok (.iload_n 2, 1) := by decide +kernel
theorem dX1_isBehindAnother_12 : decode cX1_isBehindAnother 12 = .ok (.iaload, 1) := by decide +kernel
theorem dX1_isBehindAnother_13 : decode cX1_isBehindAnother 13 = .ok (.aload_n 0, 1) := by decide +kernel
theorem dX1_isBehindAnother_14 : decode cX1_isBehindAnother 14 = .ok (.getfield 22, 3) := by decide +kernel
theorem dX1_isBehindAnother_17 : decode cX1_isBehindAnother 17 = .ok (.iload_n 1, 1) := by decide +kernel
theorem dX1_isBehindAnother_18 : decode cX1_isBehindAnother 18 = .ok (.iaload, 1) := by decide +kernel
theorem dX1_isBehindAnother_19 : decode cX1_isBehindAnother 19 = .ok (.if_icmp .ne 29, 3) := by decide +kernel
theorem dX1_isBehindAnother_22 : decode cX1_isBehindAnother 22 = .ok (.aload_n 0, 1) := by decide +kernel
theorem dX1_isBehindAnother_23 : decode cX1_isBehindAnother 23 = .ok (.getfield 25, 3) := by decide +kernel
theorem dX1_isBehindAnother_26 : decode cX1_isBehindAnother 26 = .ok (.iload_n 2, 1) := by decide +kernel
theorem dX1_isBehindAnother_27 : decode cX1_isBehindAnother 27 = .ok (.iaload, 1) := by decide +kernel
theorem dX1_isBehindAnother_28 : decode cX1_isBehindAnother 28 = .ok (.aload_n 0, 1) := by decide +kernel
theorem dX1_isBehindAnother_29 : decode cX1_isBehindAnother 29 = .ok (.getfield 25, 3) := by decide +kernel
theorem dX1_isBehindAnother_32 : decode cX1_isBehindAnother 32 = .ok (.iload_n 1, 1) := by decide +kernel
theorem dX1_isBehindAnother_33 : decode cX1_isBehindAnother 33 = .ok (.iaload, 1) := by decide +kernel
theorem dX1_isBehindAnother_34 : decode cX1_isBehindAnother 34 = .ok (.if_icmp .ne 14, 3) := by decide +kernel
theorem dX1_isBehindAnother_37 : decode cX1_isBehindAnother 37 = .ok (.aload_n 0, 1) := by decide +kernel
theorem dX1_isBehindAnother_38 : decode cX1_isBehindAnother 38 = .ok (.iload_n 2, 1) := by decide +kernel
theorem dX1_isBehindAnother_39 : decode cX1_isBehindAnother 39 = .ok (.iload_n 1, 1) := by decide +kernel
theorem dX1_isBehindAnother_40 : decode cX1_isBehindAnother 40 = .ok (.invokevirtual 52, 3) := by decide +kernel
theorem dX1_isBehindAnother_43 : decode cX1_isBehindAnother 43 = .ok (.ifCond .eq 5, 3) := by decide +kernel
theorem dX1_isBehindAnother_46 : decode cX1_isBehindAnother 46 = .ok (.iconst 1, 1) := by decide +kernel
theorem dX1_isBehindAnother_47 : decode cX1_isBehindAnother 47 = .ok (.ireturn, 1) := by decide +kernel
theorem dX1_isBehindAnother_48 : decode cX1_isBehindAnother 48 = .ok (.iinc 2 1, 3) := by decide +kernel
theorem dX1_isBehindAnother_51 : decode cX1_isBehindAnother 51 = .ok (.goto (-49), 3) := by decide +kernel
theorem dX1_isBehindAnother_54 : decode cX1_isBehindAnother 54 = .ok (.iconst 0, 1) := by decide +kernel
theorem dX1_isBehindAnother_55 : decode cX1_isBehindAnother 55 = .ok (.ireturn, 1) := by decide +kernel
set_option maxRecDepth 20000 in
theorem ggX1_covers_X1_lowest : GoodIn wsX1_covers wsX1_lowest := goodIn_r _ [6, 7, 8, 13, 14, 15, 16, 17, 18, 19, 20, 21, 22, 23, 24, 25] (by decide +kernel) (by decide +kernel)
set_option maxRecDepth 20000 in
theorem gX1_covers_X1_lowest : GoodIn wsX1_covers (wsV RX1 56 RX1 yX1_lowest wsX1_lowest) := goodIn_app (goodIn_of _ (by decide +kernel)) ggX1_covers_X1_lowest
set_option maxRecDepth 20000 in
theorem ggX1_covers_X1_highest : GoodIn wsX1_covers wsX1_highest := goodIn_r _ [12, 7, 8, 13, 14, 15, 16, 17, 18, 19, 20, 21, 22, 23, 24, 25] (by decide +kernel) (by decide +kernel)
set_option maxRecDepth 20000 in
theorem gX1_covers_X1_highest : GoodIn wsX1_covers (wsV RX1 60 RX1 yX1_highest wsX1_highest) := goodIn_app (goodIn_of _ (by decide +kernel)) ggX1_covers_X1_highest
theorem dX1_covers_0 : decode cX1_covers 0 = .ok (.aload_n 0, 1) := by decide +kernel
theorem dX1_covers_1 : decode cX1_covers 1 = .ok (.getfield 31, 3) := by decide +kernel
theorem dX1_covers_4 : decode cX1_covers 4 = .ok (.iload_n 1, 1) := by decide +kernel
theorem dX1_covers_5 : decode cX1_covers 5 = .ok (.iaload, 1) := by decide +kernel
theorem dX1_covers_6 : decode cX1_covers 6 = .ok (.iconst (-1), 1) := by decide +kernel
theorem dX1_covers_7 : decode cX1_covers 7 = .ok (.if_icmp .ne 5, 3) := by decide +kernel
theorem dX1_covers_10 : decode cX1_covers 10 = .ok (.iconst 1, 1) := by decide +kernel
theorem dX1_covers_11 : decode cX1_covers 11 = .ok (.ireturn, 1) := by decide +kernel
theorem dX1_covers_12 : decode cX1_covers 12 = .ok (.aload_n 0, 1) := by decide +kernel
theorem dX1_covers_13 : decode cX1_covers 13 = .ok (.getfield 31, 3) := by decide +kernel
theorem dX1_covers_16 : decode cX1_covers 16 = .ok (.iload_n 1, 1) := by decide +kernel
theorem dX1_covers_17 : decode cX1_covers 17 = .ok (.iaload, 1) := by decide +kernel
theorem dX1_covers_18 : decode cX1_covers 18 = .ok (.aload_n 0, 1) := by decide +kernel
theorem dX1_covers_19 : decode cX1_covers 19 = .ok (.getfield 31, 3) := by decide +kernel
theorem dX1_covers_22 : decode cX1_covers 22 = .ok (.iload_n 2, 1) := by decide +kernel
theorem dX1_covers_23 : decode cX1_covers 23 = .ok (.iaload, 1) := by decide +kernel
theorem dX1_covers_24 : decode cX1_covers 24 = .ok (.if_icmp .eq 5, 3) := by decide +kernel
theorem dX1_covers_27 : decode cX1_covers 27 = .ok (.iconst 0, 1) := by decide +kernel
theorem dX1_covers_28 : decode cX1_covers 28 = .ok (.ireturn, 1) := by decide +kernel
theorem dX1_covers_29 : decode cX1_covers 29 = .ok (.aload_n 0, 1) := by decide +kernel
theorem dX1_covers_30 : decode cX1_covers 30 = .ok (.iload_n 2, 1) := by decide +kernel
theorem dX1_covers_31 : decode cX1_covers 31 = .ok (.invokevirtual 56, 3) := by decide +kernel
theorem dX1_covers_34 : decode cX1_covers 34 = .ok (.istore_n 3, 1) := by decide +kernel
theorem dX1_covers_35 : decode cX1_covers 35 = .ok (.aload_n 0, 1) := by decide +kernel
theorem dX1_covers_36 : decode cX1_covers 36 = .ok (.iload_n 2, 1) := by decide +kernel
theorem dX1_covers_37 : decode cX1_covers 37 = .ok (.invokevirtual 60, 3) := by decide +kernel
theorem dX1_covers_40 : decode cX1_covers 40 = .ok (.istore 4, 2) := by decide +kernel
theorem dX1_covers_42 : decode cX1_covers 42 = .ok (.iload_n 3, 1) := by decide +kernel
theorem dX1_covers_43 : decode cX1_covers 43 = .ok (.iload 4, 2) := by decide +kernel
theorem dX1_covers_45 : decode cX1_covers 45 = .ok (.if_icmp .gt 22, 3) := by decide +kernel
theorem dX1_covers_48 : decode cX1_covers 48 = .ok (.aload_n 0, 1) := by decide +kernel
theorem dX1_covers_49 : decode cX1_covers 49 = .ok (.iload_n 1, 1) := by decide +kernel
theorem dX1_covers_50 : decode cX1_covers 50 = .ok (.invokevirtual 56, 3) := by decide +kernel
theorem dX1_covers_53 : decode cX1_covers 53 = .ok (.iload_n 3, 1) := by decide +kernel
theorem dX1_covers_54 : decode cX1_covers 54 = .ok (.if_icmp .gt 17, 3) := by decide +kernel
theorem dX1_covers_57 : decode cX1_covers 57 = .ok (.iload 4, 2) := by decide +kernel
theorem dX1_covers_59 : decode cX1_covers 59 = .ok (.aload_n 0, 1) := by decide +kernel
theorem dX1_covers_60 : decode cX1_covers 60 = .ok (.iload_n 1, 1) := by decide +kernel
theorem dX1_covers_61 : decode cX1_covers 61 = .ok (.invokevirtual 60, 3) := by decide +kernel
theorem dX1_covers_64 : decode cX1_covers 64 = .ok (.if_icmp .gt 7, 3) := by decide +kernel
theorem dX1_covers_67 : decode cX1_covers 67 = .ok (.iconst 1, 1) := by decide +kernel
theorem dX1_covers_68 : decode cX1_covers 68 = .ok (.goto 4, 3) := by decide +kernel
theorem dX1_covers_71 : decode cX1_covers 71 = .ok (.iconst 0, 1) := by decide +kernel
theorem dX1_covers_72 : decode cX1_covers 72 = .ok (.ireturn, 1) := by decide +kernel
theorem dX1_doTheSame_0 : decode cX1_doTheSame 0 = .ok (.aload_n 0, 1) := by decide +kernel
theorem dX1_doTheSame_1 : decode cX1_doTheSame 1 = .ok (.getfield 31, 3) := by decide +kernel
theorem dX1_doTheSame_4 : decode cX1_doTheSame 4 = .ok (.iload_n 1, 1) := by decide +kernel
theorem dX1_doTheSame_5 : decode cX1_doTheSame 5 = .ok (.iaload, 1) := by decide +kernel
theorem dX1_doTheSame_6 : decode cX1_doTheSame 6 = .ok (.aload_n 0, 1) := by decide +kernel
theorem dX1_doTheSame_7 : decode cX1_doTheSame 7 = .ok (.getfield 31, 3) := by decide +kernel
theorem dX1_doTheSame_10 : decode cX1_doTheSame 10 = .ok (.iload_n 2, 1) := by decide +kernel
theorem dX1_doTheSame_11 : decode cX1_doTheSame 11 = .ok (.iaload, 1) := by decide +kernel
theorem dX1_doTheSame_12 : decode cX1_doTheSame 12 = .ok (.if_icmp .ne 37, 3) := by decide +kernel
theorem dX1_doTheSame_15 : decode cX1_doTheSame 15 = .ok (.aload_n 0, 1) := by decide +kernel
theorem dX1_doTheSame_16 : decode cX1_doTheSame 16 = .ok (.getfield 34, 3) := by decide +kernel
theorem dX1_doTheSame_19 : decode cX1_doTheSame 19 = .ok (.iload_n 1, 1) := by decide +kernel
theorem dX1_doTheSame_20 : decode cX1_doTheSame 20 = .ok (.iaload, 1) := by decide +kernel
theorem dX1_doTheSame_21 : decode cX1_doTheSame 21 = .ok (.aload_n 0, 1) := by decide +kernel
theorem dX1_doTheSame_22 : decode cX1_doTheSame 22 = .ok (.getfield 34, 3) := by decide +kernel
theorem dX1_doTheSame_25 : decode cX1_doTheSame 25 = .ok (.iload_n 2, 1) := by decide +kernel
theorem dX1_doTheSame_26 : decode cX1_doTheSame 26 = .ok (.iaload, 1) := by decide +kernel
theorem dX1_doTheSame_27 : decode cX1_doTheSame 27 = .ok (.if_icmp .ne 22, 3) := by decide +kernel
theorem dX1_doTheSame_30 : decode cX1_doTheSame 30 = .ok (.aload_n 0, 1) := by decide +kernel
theorem dX1_doTheSame_31 : decode cX1_doTheSame 31 = .ok (.getfield 37, 3) := by decide +kernel
theorem dX1_doTheSame_34 : decode cX1_doTheSame 34 = .ok (.iload_n 1, 1) := by decide +kernel
theorem dX1_doTheSame_35 : decode cX1_doTheSame 35 = .ok (.iaload, 1) := by decide +kernel
theorem dX1_doTheSame_36 : decode cX1_doTheSame 36 = .ok (.aload_n 0, 1) := by decide +kernel
theorem dX1_doTheSame_37 : decode cX1_doTheSame 37 = .ok (.getfield 37, 3) := by decide +kernel
theorem dX1_doTheSame_40 : decode cX1_doTheSame 40 = .ok (.iload_n 2, 1) := by decide +kernel
theorem dX1_doTheSame_41 : decode cX1_doTheSame 41 = .ok (.iaload, 1) := by decide +kernel
theorem dX1_doTheSame_42 : decode cX1_doTheSame 42 = .ok (.if_icmp .ne 7, 3) := by decide +kernel
theorem dX1_doTheSame_45 : decode cX1_doTheSame 45 = .ok (.iconst 1, 1) := by decide +kernel
theorem dX1_doTheSame_46 : decode cX1_doTheSame 46 = .ok (.goto 4, 3) := by decide +kernel
theorem dX1_doTheSame_49 : decode cX1_doTheSame 49 = .ok (.iconst 0, 1) := by decide +kernel
theorem dX1_doTheSame_50 : decode cX1_doTheSame 50 = .ok (.istore_n 3, 1) := by decide +kernel
theorem dX1_doTheSame_51 : decode cX1_doTheSame 51 = .ok (.iload_n 3, 1) := by decide +kernel
theorem dX1_doTheSame_52 : decode cX1_doTheSame 52 = .ok (.ifCond .eq 18, 3) := by decide +kernel
theorem dX1_doTheSame_55 : decode cX1_doTheSame 55 = .ok (.aload_n 0, 1) := by decide +kernel
theorem dX1_doTheSame_56 : decode cX1_doTheSame 56 = .ok (.getfield 40, 3) := by decide +kernel
theorem dX1_doTheSame_59 : decode cX1_doTheSame 59 = .ok (.iload_n 1, 1) := by decide +kernel
theorem dX1_doTheSame_60 : decode cX1_doTheSame 60 = .ok (.iaload, 1) := by decide +kernel
theorem dX1_doTheSame_61 : decode cX1_doTheSame 61 = .ok (.aload_n 0, 1) := by decide +kernel
theorem dX1_doTheSame_62 : decode cX1_doTheSame 62 = .ok (.getfield 40, 3) := by decide +kernel
theorem dX1_doTheSame_65 : decode cX1_doTheSame 65 = .ok (.iload_n 2, 1) := by decide +kernel
theorem dX1_doTheSame_66 : decode cX1_doTheSame 66 = .ok (.iaload, 1) := by decide +kernel
theorem dX1_doTheSame_67 : decode cX1_doTheSame 67 = .ok (.if_icmp .eq 5, 3) := by decide +kernel
theorem dX1_doTheSame_70 : decode cX1_doTheSame 70 = .ok (.iconst 0, 1) := by decide +kernel
theorem dX1_doTheSame_71 : decode cX1_doTheSame 71 = .ok (.ireturn, 1) := by decide +kernel
theorem dX1_doTheSame_72 : decode cX1_doTheSame 72 = .ok (.iconst 0, 1) := by decide +kernel
theorem dX1_doTheSame_73 : decode cX1_doTheSame 73 = .ok (.istore 4, 2) := by decide +kernel
theorem dX1_doTheSame_75 : decode cX1_doTheSame 75 = .ok (.iload 4, 2) := by decide +kernel
theorem dX1_doTheSame_77 : decode cX1_doTheSame 77 = .ok (.aload_n 0, 1) := by decide +kernel
theorem dX1_doTheSame_78 : decode cX1_doTheSame 78 = .ok (.getfield 40, 3) := by decide +kernel
theorem dX1_doTheSame_81 : decode cX1_doTheSame 81 = .ok (.iload_n 1, 1) := by decide +kernel
theorem dX1_doTheSame_82 : decode cX1_doTheSame 82 = .ok (.iaload, 1) := by decide +kernel
theorem dX1_doTheSame_83 : decode cX1_doTheSame 83 = .ok (.if_icmp .ge 78, 3) := by decide +kernel
theorem dX1_doTheSame_86 : decode cX1_doTheSame 86 = .ok (.iconst 3, 1) := by decide +kernel
theorem dX1_doTheSame_87 : decode cX1_doTheSame 87 = .ok (.iload_n 1, 1) := by decide +kernel
theorem dX1_doTheSame_88 : decode cX1_doTheSame 88 = .ok (.imul, 1) := by decide +kernel
theorem dX1_doTheSame_89 : decode cX1_doTheSame 89 = .ok (.iload 4, 2) := by decide +kernel
theorem dX1_doTheSame_91 : decode cX1_doTheSame 91 = .ok (.iadd, 1) := by decide +kernel
theorem dX1_doTheSame_92 : decode cX1_doTheSame 92 = .ok (.istore 5, 2) := by decide +kernel
theorem dX1_doTheSame_94 : decode cX1_doTheSame 94 = .ok (.iconst 3, 1) := by decide +kernel
theorem dX1_doTheSame_95 : decode cX1_doTheSame 95 = .ok (.iload_n 2, 1) := by decide +kernel
theorem dX1_doTheSame_96 : decode cX1_doTheSame 96 = .ok (.imul, 1) := by decide +kernel
theorem dX1_doTheSame_97 : decode cX1_doTheSame 97 = .ok (.iload 4, 2) := by decide +kernel
theorem dX1_doTheSame_99 : decode cX1_doTheSame 99 = .ok (.iadd, 1) := by decide +kernel
theorem dX1_doTheSame_100 : decode cX1_doTheSame 100 = .ok (.istore 6, 2) := by decide +kernel
theorem dX1_doTheSame_102 : decode cX1_doTheSame 102 = .ok (.aload_n 0, 1) := by decide +kernel
theorem dX1_doTheSame_103 : decode cX1_doTheSame 103 = .ok (.getfield 43, 3) := by decide +kernel
theorem dX1_doTheSame_106 : decode cX1_doTheSame 106 = .ok (.iload 5, 2) := by decide +kernel
theorem dX1_doTheSame_108 : decode cX1_doTheSame 108 = .ok (.iaload, 1) := by decide +kernel
theorem dX1_doTheSame_109 : decode cX1_doTheSame 109 = .ok (.aload_n 0, 1) := by decide +kernel
theorem dX1_doTheSame_110 : decode cX1_doTheSame 110 = .ok (.getfield 43, 3) := by decide +kernel
theorem dX1_doTheSame_113 : decode cX1_doTheSame 113 = .ok (.iload 6, 2) := by decide +kernel
theorem dX1_doTheSame_115 : decode cX1_doTheSame 115 = .ok (.iaload, 1) := by decide +kernel
theorem dX1_doTheSame_116 : decode cX1_doTheSame 116 = .ok (.if_icmp .ne 37, 3) := by decide +kernel
theorem dX1_doTheSame_119 : decode cX1_doTheSame 119 = .ok (.aload_n 0, 1) := by decide +kernel
theorem dX1_doTheSame_120 : decode cX1_doTheSame 120 = .ok (.getfield 46, 3) := by decide +kernel
theorem dX1_doTheSame_123 : decode cX1_doTheSame 123 = .ok (.iload 5, 2) := by decide +kernel
theorem dX1_doTheSame_125 : decode cX1_doTheSame 125 = .ok (.iaload, 1) := by decide +kernel
theorem dX1_doTheSame_126 : decode cX1_doTheSame 126 = .ok (.aload_n 0, 1) := by decide +kernel
theorem dX1_doTheSame_127 : decode cX1_doTheSame 127 = .ok (.getfield 46, 3) := by decide +kernel
theorem dX1_doTheSame_130 : decode cX1_doTheSame 130 = .ok (.iload 6, 2) := by decide +kernel
theorem dX1_doTheSame_132 : decode cX1_doTheSame 132 = .ok (.iaload, 1) := by decide +kernel
theorem dX1_doTheSame_133 : decode cX1_doTheSame 133 = .ok (.if_icmp .ne 20, 3) := by decide +kernel
theorem dX1_doTheSame_136 : decode cX1_doTheSame 136 = .ok (.aload_n 0, 1) := by decide +kernel
theorem dX1_doTheSame_137 : decode cX1_doTheSame 137 = .ok (.getfield 49, 3) := by decide +kernel
theorem dX1_doTheSame_140 : decode cX1_doTheSame 140 = .ok (.iload 5, 2) := by decide +kernel
theorem dX1_doTheSame_142 : decode cX1_doTheSame 142 = .ok (.iaload, 1) := by decide +kernel
theorem dX1_doTheSame_143 : decode cX1_doTheSame 143 = .ok (.aload_n 0, 1) := by decide +kernel
theorem dX1_doTheSame_144 : decode cX1_doTheSame 144 = .ok (.getfield 49, 3) := by decide +kernel
theorem dX1_doTheSame_147 : decode cX1_doTheSame 147 = .ok (.iload 6, 2) := by decide +kernel
theorem dX1_doTheSame_149 : decode cX1_doTheSame 149 = .ok (.iaload, 1) := by decide +kernel
theorem dX1_doTheSame_150 : decode cX1_doTheSame 150 = .ok (.if_icmp .eq 5, 3) := by decide +kernel
theorem dX1_doTheSame_153 : decode cX1_doTheSame 153 = .ok (.iconst 0, 1) := by decide +kernel
theorem dX1_doTheSame_154 : decode cX1_doTheSame 154 = .ok (.ireturn, 1) := by decide +kernel
theorem dX1_doTheSame_155 : decode cX1_doTheSame 155 = .ok (.iinc 4 1, 3) := by decide +kernel
theorem dX1_doTheSame_158 : decode cX1_doTheSame 158 = .ok (.goto (-83), 3) := by decide +kernel
theorem dX1_doTheSame_161 : decode cX1_doTheSame 161 = .ok (.iconst 1, 1) := by decide +kernel
theorem dX1_doTheSame_162 : decode cX1_doTheSame 162 = .ok (.ireturn, 1) := by decide +kernel
theorem dX2_init_0 : decode cX2_init 0 = .ok (.aload_n 0, 1) := by decide +kernel
theorem dX2_init_1 : decode cX2_init 1 = .ok (.invokespecial 3, 3) := by decide +kernel
theorem dX2_init_4 : decode cX2_init 4 = .ok (.aload_n 0, 1) := by decide +kernel
theorem dX2_init_5 : decode cX2_init 5 = .ok (.iconst 0, 1) := by decide +kernel
theorem dX2_init_6 : decode cX2_init 6 = .ok (.putfield 9, 3) := by decide +kernel
theorem dX2_init_9 : decode cX2_init 9 = .ok (.aload_n 0, 1) := by decide +kernel
theorem dX2_init_10 : decode cX2_init 10 = .ok (.iconst 0, 1) := by decide +kernel
theorem dX2_init_11 : decode cX2_init 11 = .ok (.putfield 15, 3) := by decide +kernel
theorem dX2_init_14 : decode cX2_init 14 = .ok (.aload_n 0, 1) := by decide +kernel
theorem dX2_init_15 : decode cX2_init 15 = .ok (.iconst 0, 1) := by decide +kernel
theorem dX2_init_16 : decode cX2_init 16 = .ok (.putfield 19, 3) := by decide +kernel
theorem dX2_init_19 : decode cX2_init 19 = .ok (.aload_n 0, 1) := by decide +kernel
theorem dX2_init_20 : decode cX2_init 20 = .ok (.iconst 0, 1) := by decide +kernel
theorem dX2_init_21 : decode cX2_init 21 = .ok (.putfield 22, 3) := by decide +kernel
theorem dX2_init_24 : decode cX2_init 24 = .ok (.aload_n 0, 1) := by decide +kernel
theorem dX2_init_25 : decode cX2_init 25 = .ok (.bipush 12, 2) := by decide +kernel
theorem dX2_init_27 : decode cX2_init 27 = .ok (.newarray .int, 2) := by decide +kernel
theorem dX2_init_29 : decode cX2_init 29 = .ok (.putfield 25, 3) := by decide +kernel
theorem dX2_init_32 : decode cX2_init 32 = .ok (.aload_n 0, 1) := by decide +kernel
theorem dX2_init_33 : decode cX2_init 33 = .ok (.bipush 12, 2) := by decide +kernel
theorem dX2_init_35 : decode cX2_init 35 = .ok (.newarray .int, 2) := by decide +kernel
theorem dX2_init_37 : decode cX2_init 37 = .ok (.putfield 29, 3) := by decide +kernel
theorem dX2_init_40 : decode cX2_init 40 = .ok (.aload_n 0, 1) := by decide +kernel
theorem dX2_init_41 : decode cX2_init 41 = .ok (.bipush 12, 2) := by decide +kernel
theorem dX2_init_43 : decode cX2_init 43 = .ok (.newarray .int, 2) := by decide +kernel
theorem dX2_init_45 : decode cX2_init 45 = .ok (.putfield 32, 3) := by decide +kernel
theorem dX2_init_48 : decode cX2_init 48 = .ok (.aload_n 0, 1) := by decide +kernel
theorem dX2_init_49 : decode cX2_init 49 = .ok (.bipush 12, 2) := by decide +kernel
theorem dX2_init_51 : decode cX2_init 51 = .ok (.newarray .int, 2) := by decide +kernel
theorem dX2_init_53 : decode cX2_init 53 = .ok (.putfield 35, 3) := by decide +kernel
theorem dX2_init_56 : decode cX2_init 56 = .ok (.aload_n 0, 1) := by decide +kernel
theorem dX2_init_57 : decode cX2_init 57 = .ok (.bipush 96, 2) := by decide +kernel
theorem dX2_init_59 : decode cX2_init 59 = .ok (.newarray .int, 2) := by decide +kernel
theorem dX2_init_61 : decode cX2_init 61 = .ok (.putfield 38, 3) := by decide +kernel
theorem dX2_init_64 : decode cX2_init 64 = .ok (.aload_n 0, 1) := by decide +kernel
theorem dX2_init_65 : decode cX2_init 65 = .ok (.aload_n 1, 1) := by decide +kernel
theorem dX2_init_66 : decode cX2_init 66 = .ok (.putfield 41, 3) := by decide +kernel
theorem dX2_init_69 : decode cX2_init 69 = .ok (.return_, 1) := by decide +kernel
set_option maxRecDepth 20000 in
theorem ggX2_make_X2_putReachedIntoOneClass : GoodIn wsX2_make wsX2_putReachedIntoOneClass := goodIn_r _ [7, 8, 9, 10, 11, 12, 13, 14, 15, 16, 17, 99, 100, 101, 102, 103, 104, 105, 106, 107, 108, 109, 110, 111, 112, 113, 114, 115, 116, 117, 118, 119, 120, 121] (by decide +kernel) (by decide +kernel)
set_option maxRecDepth 20000 in
theorem gX2_make_X2_putReachedIntoOneClass : GoodIn wsX2_make (wsV RX2 45 RX2 yX2_putReachedIntoOneClass wsX2_putReachedIntoOneClass) := goodIn_app (goodIn_of _ (by decide +kernel)) ggX2_make_X2_putReachedIntoOneClass
set_option maxRecDepth 20000 in
theorem ggX2_make_X2_splitOnce : GoodIn wsX2_make wsX2_splitOnce := goodIn_r _ [21, 9, 10, 22, 8, 23, 24, 25, 26, 27, 28, 29, 6, 30, 31, 32, 33, 34, 35, 36, 37, 38, 13, 39, 40, 41, 42, 43, 44, 45, 46, 47, 48, 49, 50, 51, 52, 53, 54, 55, 56, 57, 99, 100, 101, 102, 103, 104, 105, 106, 107, 108, 109, 110, 111, 112, 113, 114, 115, 116, 117, 118, 119, 120, 121] (by decide +kernel) (by decide +kernel)
set_option maxRecDepth 20000 in
theorem gX2_make_X2_splitOnce : GoodIn wsX2_make (wsV RX2 48 RX2 yX2_splitOnce wsX2_splitOnce) := goodIn_app (goodIn_of _ (by decide +kernel)) ggX2_make_X2_splitOnce
set_option maxRecDepth 20000 in
theorem ggX2_make_X2_findUsedCells : GoodIn wsX2_make wsX2_findUsedCells := goodIn_r _ [61, 62, 9, 11, 8, 12, 63, 14, 15, 16, 17, 99, 100, 101, 102, 103, 104, 105, 106, 107, 108, 109, 110, 111, 112, 113, 114, 115, 116, 117, 118, 119, 120, 121] (by decide +kernel) (by decide +kernel)
set_option maxRecDepth 20000 in
theorem gX2_make_X2_findUsedCells : GoodIn wsX2_make (wsV RX2 52 RX2 yX2_findUsedCells wsX2_findUsedCells) := goodIn_app (goodIn_of _ (by decide +kernel)) ggX2_make_X2_findUsedCells
set_option maxRecDepth 20000 in
theorem ggX2_make_X2_layRows : GoodIn wsX2_make wsX2_layRows := goodIn_r _ [67, 68, 69, 70, 1, 14, 15, 16, 17, 71, 72, 73, 6, 74, 62, 75, 76, 77, 78, 79, 80, 81, 82, 83, 84, 85, 86, 87, 88, 89, 90, 91, 92, 93, 94, 95, 96, 97, 98, 99, 100, 101, 102, 103, 104, 105, 106, 107, 108] (by decide +kernel) (by decide +kernel)
set_option maxRecDepth 20000 in
theorem gX2_make_X2_layRows : GoodIn wsX2_make (wsV RX2 55 RX2 yX2_layRows wsX2_layRows) := goodIn_app (goodIn_of _ (by decide +kernel)) ggX2_make_X2_layRows
theorem dX2_make_0 : decode cX2_make 0 = .ok (.aload_n 0, 1) := by decide +kernel
theorem dX2_make_1 : decode cX2_make 1 = .ok (.invokevirtual 45, 3) := by decide +kernel
theorem dX2_make_4 : decode cX2_make 4 = .ok (.iconst 0, 1) := by decide +kernel
theorem dX2_make_5 : decode cX2_make 5 = .ok (.istore_n 1, 1) := by decide +kernel
theorem dX2_make_6 : decode cX2_make 6 = .ok (.aload_n 0, 1) := by decide +kernel
theorem dX2_make_7 : decode cX2_make 7 = .ok (.iconst 1, 1) := by decide +kernel
theorem dX2_make_8 : decode cX2_make 8 = .ok (.putfield 15, 3) := by decide +kernel
theorem dX2_make_11 : decode cX2_make 11 = .ok (.iconst 0, 1) := by decide +kernel
theorem dX2_make_12 : decode cX2_make 12 = .ok (.istore_n 2, 1) := by decide +kernel
theorem dX2_make_13 : decode cX2_make 13 = .ok (.iload_n 2, 1) := by decide +kernel
theorem dX2_make_14 : decode cX2_make 14 = .ok (.bipush 12, 2) := by decide +kernel
theorem dX2_make_16 : decode cX2_make 16 = .ok (.if_icmp .ge 30, 3) := by decide +kernel
theorem dX2_make_19 : decode cX2_make 19 = .ok (.aload_n 0, 1) := by decide +kernel
theorem dX2_make_20 : decode cX2_make 20 = .ok (.getfield 15, 3) := by decide +kernel
theorem dX2_make_23 : decode cX2_make 23 = .ok (.iload_n 1, 1) := by decide +kernel
theorem dX2_make_24 : decode cX2_make 24 = .ok (.if_icmp .eq 22, 3) := by decide +kernel
theorem dX2_make_27 : decode cX2_make 27 = .ok (.aload_n 0, 1) := by decide +kernel
theorem dX2_make_28 : decode cX2_make 28 = .ok (.getfield 15, 3) := by decide +kernel
theorem dX2_make_31 : decode cX2_make 31 = .ok (.istore_n 1, 1) := by decide +kernel
theorem dX2_make_32 : decode cX2_make 32 = .ok (.aload_n 0, 1) := by decide +kernel
theorem dX2_make_33 : decode cX2_make 33 = .ok (.aload_n 0, 1) := by decide +kernel
theorem dX2_make_34 : decode cX2_make 34 = .ok (.invokevirtual 48, 3) := by decide +kernel
theorem dX2_make_37 : decode cX2_make 37 = .ok (.putfield 15, 3) := by decide +kernel
theorem dX2_make_40 : decode cX2_make 40 = .ok (.iinc 2 1, 3) := by decide +kernel
theorem dX2_make_43 : decode cX2_make 43 = .ok (.goto (-30), 3) := by decide +kernel
theorem dX2_make_46 : decode cX2_make 46 = .ok (.aload_n 0, 1) := by decide +kernel
theorem dX2_make_47 : decode cX2_make 47 = .ok (.invokevirtual 52, 3) := by decide +kernel
theorem dX2_make_50 : decode cX2_make 50 = .ok (.aload_n 0, 1) := by decide +kernel
theorem dX2_make_51 : decode cX2_make 51 = .ok (.invokevirtual 55, 3) := by decide +kernel
theorem dX2_make_54 : decode cX2_make 54 = .ok (.aload_n 0, 1) := by decide +kernel
theorem dX2_make_55 : decode cX2_make 55 = .ok (.iconst 1, 1) := by decide +kernel
theorem dX2_make_56 : decode cX2_make 56 = .ok (.putfield 9, 3) := by decide +kernel
theorem dX2_make_59 : decode cX2_make 59 = .ok (.return_, 1) := by decide +kernel
set_option maxRecDepth 20000 in
theorem ggX2_putReachedIntoOneClass_J7_fill_53178 : GoodIn wsX2_putReachedIntoOneClass wsJ7_fill_53178 := goodIn_r _ [10] (by decide +kernel) (by decide +kernel)
set_option maxRecDepth 20000 in
theorem gX2_putReachedIntoOneClass_J7_fill_53178 : GoodIn wsX2_putReachedIntoOneClass (va_wsS RX2 58 yJ7_fill_53178 wsJ7_fill_53178) := goodIn_app (goodIn_of _ (by decide +kernel)) ggX2_putReachedIntoOneClass_J7_fill_53178
theorem dX2_putReachedIntoOneClass_0 : decode cX2_putReachedIntoOneClass 0 = .ok (.aload_n 0, 1) := by decide +kernel
theorem dX2_putReachedIntoOneClass_1 : decode cX2_putReachedIntoOneClass 1 = .ok (.getfield 25, 3) := by decide +kernel
theorem dX2_putReachedIntoOneClass_4 : decode cX2_putReachedIntoOneClass 4 = .ok (.iconst (-1), 1) := by decide +kernel
theorem dX2_putReachedIntoOneClass_5 : decode cX2_putReachedIntoOneClass 5 = .ok (.invokestatic 58, 3) := by decide +kernel
theorem dX2_putReachedIntoOneClass_8 : decode cX2_putReachedIntoOneClass 8 = .ok (.aload_n 0, 1) := by decide +kernel
theorem dX2_putReachedIntoOneClass_9 : decode cX2_putReachedIntoOneClass 9 = .ok (.getfield 25, 3) := by decide +kernel
theorem dX2_putReachedIntoOneClass_12 : decode cX2_putReachedIntoOneClass 12 = .ok (.iconst 0, 1) := by decide +kernel
theorem dX2_putReachedIntoOneClass_13 : decode cX2_putReachedIntoOneClass 13 = .ok (.iconst 0, 1) := by decide +kernel
theorem dX2_putReachedIntoOneClass_14 : decode cX2_putReachedIntoOneClass 14 = .ok (.iastore, 1) := by decide +kernel
theorem dX2_putReachedIntoOneClass_15 : decode cX2_putReachedIntoOneClass 15 = .ok (.iconst 0, 1) := by decide +kernel
theorem dX2_putReachedIntoOneClass_16 : decode cX2_putReachedIntoOneClass 16 = .ok (.istore_n 1, 1) := by decide +kernel
theorem dX2_putReachedIntoOneClass_17 : decode cX2_putReachedIntoOneClass 17 = .ok (.iload_n 1, 1) := by decide +kernel
theorem dX2_putReachedIntoOneClass_18 : decode cX2_putReachedIntoOneClass 18 = .ok (.aload_n 0, 1) := by decide +kernel
theorem dX2_putReachedIntoOneClass_19 : decode cX2_putReachedIntoOneClass 19 = .ok (.getfield 41, 3) := by decide +kernel
theorem dX2_putReachedIntoOneClass_22 : decode cX2_putReachedIntoOneClass 22 = .ok (.getfield 64, 3) := by decide +kernel
theorem dX2_putReachedIntoOneClass_25 : decode cX2_putReachedIntoOneClass 25 = .ok (.if_icmp .ge 61, 3) := by decide +kernel
theorem dX2_putReachedIntoOneClass_28 : decode cX2_putReachedIntoOneClass 28 = .ok (.iconst 0, 1) := by decide +kernel
theorem dX2_putReachedIntoOneClass_29 : decode cX2_putReachedIntoOneClass 29 = .ok (.istore_n 2, 1) := by decide +kernel
theorem dX2_putReachedIntoOneClass_30 : decode cX2_putReachedIntoOneClass 30 = .ok (.iload_n 2, 1) := by decide +kernel
theorem dX2_putReachedIntoOneClass_31 : decode cX2_putReachedIntoOneClass 31 = .ok (.aload_n 0, 1) := by decide +kernel
theorem dX2_putReachedIntoOneClass_32 : decode cX2_putReachedIntoOneClass 32 = .ok (.getfield 41, 3) := by decide +kernel
theorem dX2_putReachedIntoOneClass_35 : decode cX2_putReachedIntoOneClass 35 = .ok (.getfield 69, 3) := by decide +kernel
theorem dX2_putReachedIntoOneClass_38 : decode cX2_putReachedIntoOneClass 38 = .ok (.if_icmp .ge 42, 3) := by decide +kernel
theorem dX2_putReachedIntoOneClass_41 : decode cX2_putReachedIntoOneClass 41 = .ok (.aload_n 0, 1) := by decide +kernel
theorem dX2_putReachedIntoOneClass_42 : decode cX2_putReachedIntoOneClass 42 = .ok (.getfield 25, 3) := by decide +kernel
theorem dX2_putReachedIntoOneClass_45 : decode cX2_putReachedIntoOneClass 45 = .ok (.aload_n 0, 1) := by decide +kernel
theorem dX2_putReachedIntoOneClass_46 : decode cX2_putReachedIntoOneClass 46 = .ok (.getfield 41, 3) := by decide +kernel
theorem dX2_putReachedIntoOneClass_49 : decode cX2_putReachedIntoOneClass 49 = .ok (.getfield 72, 3) := by decide +kernel
theorem dX2_putReachedIntoOneClass_52 : decode cX2_putReachedIntoOneClass 52 = .ok (.iload_n 2, 1) := by decide +kernel
theorem dX2_putReachedIntoOneClass_53 : decode cX2_putReachedIntoOneClass 53 = .ok (.iaload, 1) := by decide +kernel
theorem dX2_putReachedIntoOneClass_54 : decode cX2_putReachedIntoOneClass 54 = .ok (.iaload, 1) := by decide +kernel
theorem dX2_putReachedIntoOneClass_55 : decode cX2_putReachedIntoOneClass 55 = .ok (.iconst (-1), 1) := by decide +kernel
theorem dX2_putReachedIntoOneClass_56 : decode cX2_putReachedIntoOneClass 56 = .ok (.if_icmp .eq 18, 3) := by decide +kernel
theorem dX2_putReachedIntoOneClass_59 : decode cX2_putReachedIntoOneClass 59 = .ok (.aload_n 0, 1) := by decide +kernel
theorem dX2_putReachedIntoOneClass_60 : decode cX2_putReachedIntoOneClass 60 = .ok (.getfield 25, 3) := by decide +kernel
theorem dX2_putReachedIntoOneClass_63 : decode cX2_putReachedIntoOneClass 63 = .ok (.aload_n 0, 1) := by decide +kernel
theorem dX2_putReachedIntoOneClass_64 : decode cX2_putReachedIntoOneClass 64 = .ok (.getfield 41, 3) := by decide +kernel
theorem dX2_putReachedIntoOneClass_67 : decode cX2_putReachedIntoOneClass 67 = .ok (.getfield 75, 3) := by decide +kernel
theorem dX2_putReachedIntoOneClass_70 : decode cX2_putReachedIntoOneClass 70 = .ok (.iload_n 2, 1) := by decide +kernel
theorem dX2_putReachedIntoOneClass_71 : decode cX2_putReachedIntoOneClass 71 = .ok (.iaload, 1) := by decide +kernel
theorem dX2_putReachedIntoOneClass_72 : decode cX2_putReachedIntoOneClass 72 = .ok (.iconst 0, 1) := by decide +kernel
theorem dX2_putReachedIntoOneClass_73 : decode cX2_putReachedIntoOneClass 73 = .ok (.iastore, 1) := by decide +kernel
theorem dX2_putReachedIntoOneClass_74 : decode cX2_putReachedIntoOneClass 74 = .ok (.iinc 2 1, 3) := by decide +kernel
theorem dX2_putReachedIntoOneClass_77 : decode cX2_putReachedIntoOneClass 77 = .ok (.goto (-47), 3) := by decide +kernel
theorem dX2_putReachedIntoOneClass_80 : decode cX2_putReachedIntoOneClass 80 = .ok (.iinc 1 1, 3) := by decide +kernel
theorem dX2_putReachedIntoOneClass_83 : decode cX2_putReachedIntoOneClass 83 = .ok (.goto (-66), 3) := by decide +kernel
theorem dX2_putReachedIntoOneClass_86 : decode cX2_putReachedIntoOneClass 86 = .ok (.return_, 1) := by decide +kernel
set_option maxRecDepth 20000 in
theorem ggX2_splitOnce_X2_earlierTwin : GoodIn wsX2_splitOnce wsX2_earlierTwin := goodIn_r _ [13, 4, 14, 15, 16, 12, 17, 18, 19, 20, 21, 1, 22, 23, 24, 25, 26, 27, 28, 29, 30, 31, 32, 33, 34, 35, 36, 37, 38, 39, 40, 41, 42, 43, 44, 45, 46, 47, 48, 49, 50, 51, 52, 53, 54, 55, 56, 57, 58, 59, 60, 61, 62, 63, 64] (by decide +kernel) (by decide +kernel)
set_option maxRecDepth 20000 in
theorem gX2_splitOnce_X2_earlierTwin : GoodIn wsX2_splitOnce (wsV RX2 78 RX2 yX2_earlierTwin wsX2_earlierTwin) := goodIn_app (goodIn_of _ (by decide +kernel)) ggX2_splitOnce_X2_earlierTwin
theorem dX2_splitOnce_0 : decode cX2_splitOnce 0 = .ok (.iconst 0, 1) := by decide +kernel
theorem dX2_splitOnce_1 : decode cX2_splitOnce 1 = .ok (.istore_n 1, 1) := by decide +kernel
theorem dX2_splitOnce_2 : decode cX2_splitOnce 2 = .ok (.iconst 0, 1) := by decide +kernel
theorem dX2_splitOnce_3 : decode cX2_splitOnce 3 = .ok (.istore_n 2, 1) := by decide +kernel
theorem dX2_splitOnce_4 : decode cX2_splitOnce 4 = .ok (.iload_n 2, 1) := by decide +kernel
theorem dX2_splitOnce_5 : decode cX2_splitOnce 5 = .ok (.aload_n 0, 1) := by decide +kernel
theorem dX2_splitOnce_6 : decode cX2_splitOnce 6 = .ok (.getfield 41, 3) := by decide +kernel
theorem dX2_splitOnce_9 : decode cX2_splitOnce 9 = .ok (.getfield 64, 3) := by decide +kernel
theorem dX2_splitOnce_12 : decode cX2_splitOnce 12 = .ok (.if_icmp .ge 66, 3) := by decide +kernel
theorem dX2_splitOnce_15 : decode cX2_splitOnce 15 = .ok (.aload_n 0, 1) := by decide +kernel
theorem dX2_splitOnce_16 : decode cX2_splitOnce 16 = .ok (.getfield 29, 3) := by decide +kernel
theorem dX2_splitOnce_19 : decode cX2_splitOnce 19 = .ok (.iload_n 2, 1) := by decide +kernel
theorem dX2_splitOnce_20 : decode cX2_splitOnce 20 = .ok (.iconst (-1), 1) := by decide +kernel
theorem dX2_splitOnce_21 : decode cX2_splitOnce 21 = .ok (.iastore, 1) := by decide +kernel
theorem dX2_splitOnce_22 : decode cX2_splitOnce 22 = .ok (.aload_n 0, 1) := by decide +kernel
theorem dX2_splitOnce_23 : decode cX2_splitOnce 23 = .ok (.getfield 25, 3) := by decide +kernel
theorem dX2_splitOnce_26 : decode cX2_splitOnce 26 = .ok (.iload_n 2, 1) := by decide +kernel
theorem dX2_splitOnce_27 : decode cX2_splitOnce 27 = .ok (.iaload, 1) := by decide +kernel
theorem dX2_splitOnce_28 : decode cX2_splitOnce 28 = .ok (.iconst (-1), 1) := by decide +kernel
theorem dX2_splitOnce_29 : decode cX2_splitOnce 29 = .ok (.if_icmp .eq 43, 3) := by decide +kernel
theorem dX2_splitOnce_32 : decode cX2_splitOnce 32 = .ok (.aload_n 0, 1) := by decide +kernel
theorem dX2_splitOnce_33 : decode cX2_splitOnce 33 = .ok (.iload_n 2, 1) := by decide +kernel
theorem dX2_splitOnce_34 : decode cX2_splitOnce 34 = .ok (.invokevirtual 78, 3) := by decide +kernel
theorem dX2_splitOnce_37 : decode cX2_splitOnce 37 = .ok (.istore_n 3, 1) := by decide +kernel
theorem dX2_splitOnce_38 : decode cX2_splitOnce 38 = .ok (.aload_n 0, 1) := by decide +kernel
theorem dX2_splitOnce_39 : decode cX2_splitOnce 39 = .ok (.getfield 29, 3) := by decide +kernel
theorem dX2_splitOnce_42 : decode cX2_splitOnce 42 = .ok (.iload_n 2, 1) := by decide +kernel
theorem dX2_splitOnce_43 : decode cX2_splitOnce 43 = .ok (.iload_n 3, 1) := by decide +kernel
theorem dX2_splitOnce_44 : decode cX2_splitOnce 44 = .ok (.iconst (-1), 1) := by decide +kernel
theorem dX2_splitOnce_45 : decode cX2_splitOnce 45 = .ok (.if_icmp .ne 7, 3) := by decide +kernel
theorem dX2_splitOnce_48 : decode cX2_splitOnce 48 = .ok (.iload_n 1, 1) := by decide +kernel
theorem dX2_splitOnce_49 : decode cX2_splitOnce 49 = .ok (.goto 9, 3) := by decide +kernel
theorem dX2_splitOnce_52 : decode cX2_splitOnce 52 = .ok (.aload_n 0, 1) := by decide +kernel
theorem dX2_splitOnce_53 : decode cX2_splitOnce 53 = .ok (.getfield 29, 3) := by decide +kernel
theorem dX2_splitOnce_56 : decode cX2_splitOnce 56 = .ok (.iload_n 3, 1) := by decide +kernel
theorem dX2_splitOnce_57 : decode cX2_splitOnce 57 = .ok (.iaload, 1) := by decide +kernel
theorem dX2_splitOnce_58 : decode cX2_splitOnce 58 = .ok (.iastore, 1) := by decide +kernel
theorem dX2_splitOnce_59 : decode cX2_splitOnce 59 = .ok (.iload_n 1, 1) := by decide +kernel
theorem dX2_splitOnce_60 : decode cX2_splitOnce 60 = .ok (.iload_n 3, 1) := by decide +kernel
theorem dX2_splitOnce_61 : decode cX2_splitOnce 61 = .ok (.iconst (-1), 1) := by decide +kernel
theorem dX2_splitOnce_62 : decode cX2_splitOnce 62 = .ok (.if_icmp .ne 7, 3) := by decide +kernel
theorem dX2_splitOnce_65 : decode cX2_splitOnce 65 = .ok (.iconst 1, 1) := by decide +kernel
theorem dX2_splitOnce_66 : decode cX2_splitOnce 66 = .ok (.goto 4, 3) := by decide +kernel
theorem dX2_splitOnce_69 : decode cX2_splitOnce 69 = .ok (.iconst 0, 1) := by decide +kernel
theorem dX2_splitOnce_70 : decode cX2_splitOnce 70 = .ok (.iadd, 1) := by decide +kernel
theorem dX2_splitOnce_71 : decode cX2_splitOnce 71 = .ok (.istore_n 1, 1) := by decide +kernel
theorem dX2_splitOnce_72 : decode cX2_splitOnce 72 = .ok (.iinc 2 1, 3) := by decide +kernel
theorem dX2_splitOnce_75 : decode cX2_splitOnce 75 = .ok (.goto (-71), 3) := by decide +kernel
theorem dX2_splitOnce_78 : decode cX2_splitOnce 78 = .ok (.aload_n 0, 1) := by decide +kernel
theorem dX2_splitOnce_79 : decode cX2_splitOnce 79 = .ok (.getfield 29, 3) := by decide +kernel
theorem dX2_splitOnce_82 : decode cX2_splitOnce 82 = .ok (.iconst 0, 1) := by decide +kernel
theorem dX2_splitOnce_83 : decode cX2_splitOnce 83 = .ok (.aload_n 0, 1) := by decide +kernel
theorem dX2_splitOnce_84 : decode cX2_splitOnce 84 = .ok (.getfield 25, 3) := by decide +kernel
theorem dX2_splitOnce_87 : decode cX2_splitOnce 87 = .ok (.iconst 0, 1) := by decide +kernel
theorem dX2_splitOnce_88 : decode cX2_splitOnce 88 = .ok (.aload_n 0, 1) := by decide +kernel
theorem dX2_splitOnce_89 : decode cX2_splitOnce 89 = .ok (.getfield 41, 3) := by decide +kernel
theorem dX2_splitOnce_92 : decode cX2_splitOnce 92 = .ok (.getfield 64, 3) := by decide +kernel
theorem dX2_splitOnce_95 : decode cX2_splitOnce 95 = .ok (.invokestatic 82, 3) := by decide +kernel
theorem dX2_splitOnce_98 : decode cX2_splitOnce 98 = .ok (.iload_n 1, 1) := by decide +kernel
theorem dX2_splitOnce_99 : decode cX2_splitOnce 99 = .ok (.ireturn, 1) := by decide +kernel
set_option maxRecDepth 20000 in
theorem ggX2_earlierTwin_X2_haveSameRows : GoodIn wsX2_earlierTwin wsX2_haveSameRows := goodIn_r _ [6, 7, 8, 9, 5, 10, 11, 1, 12, 13, 14, 15, 16, 17, 18, 19, 20, 21, 22, 23, 24, 25, 26, 27, 28, 29, 30, 31, 32, 33, 34, 35, 36, 37, 38, 39, 40, 41, 42, 43, 44, 45, 46, 47, 48, 49, 50, 51, 52, 53, 54] (by decide +kernel) (by decide +kernel)
set_option maxRecDepth 20000 in
theorem gX2_earlierTwin_X2_haveSameRows : GoodIn wsX2_earlierTwin (wsV RX2 88 RX2 yX2_haveSameRows wsX2_haveSameRows) := goodIn_app (goodIn_of _ (by decide +kernel)) ggX2_earlierTwin_X2_haveSameRows
theorem dX2_earlierTwin_0 : decode cX2_earlierTwin 0 = .ok (.iconst 0, 1) := by decide +kernel
theorem dX2_earlierTwin_1 : decode cX2_earlierTwin 1 = .ok (.istore_n 2, 1) := by decide +kernel
theorem dX2_earlierTwin_2 : decode cX2_earlierTwin 2 = .ok (.iload_n 2, 1) := by decide +kernel
theorem dX2_earlierTwin_3 : decode cX2_earlierTwin 3 = .ok (.iload_n 1, 1) := by decide +kernel
theorem dX2_earlierTwin_4 : decode cX2_earlierTwin 4 = .ok (.if_icmp .ge 35, 3) := by decide +kernel
theorem dX2_earlierTwin_7 : decode cX2_earlierTwin 7 = .ok (.aload_n 0, 1) := by decide +kernel
theorem dX2_earlierTwin_8 : decode cX2_earlierTwin 8 = .ok (.getfield 25, 3) := by decide +kernel
theorem dX2_earlierTwin_11 : decode cX2_earlierTwin 11 = .ok (.iload_n 2, 1) := by decide +kernel
theorem dX2_earlierTwin_12 : decode cX2_earlierTwin 12 = .ok (.iaload, 1) := by decide +kernel
theorem dX2_earlierTwin_13 : decode cX2_earlierTwin 13 = .ok (.aload_n 0, 1) := by decide +kernel
theorem dX2_earlierTwin_14 : decode cX2_earlierTwin 14 = .ok (.getfield 25, 3) := by decide +kernel
theorem dX2_earlierTwin_17 : decode cX2_earlierTwin 17 = .ok (.iload_n 1, 1) := by decide +kernel
theorem dX2_earlierTwin_18 : decode cX2_earlierTwin 18 = .ok (.iaload, 1) := by decide +kernel
theorem dX2_earlierTwin_19 : decode cX2_earlierTwin 19 = .ok (.if_icmp .ne 14, 3) := by decide +kernel
theorem dX2_earlierTwin_22 : decode cX2_earlierTwin 22 = .ok (.aload_n 0, 1) := by decide +kernel
theorem dX2_earlierTwin_23 : decode cX2_earlierTwin 23 = .ok (.iload_n 2, 1) := by decide +kernel
theorem dX2_earlierTwin_24 : decode cX2_earlierTwin 24 = .ok (.iload_n 1, 1) := by decide +kernel
theorem dX2_earlierTwin_25 : decode cX2_earlierTwin 25 = .ok (.invokevirtual 88, 3) := by decide +kernel
theorem dX2_earlierTwin_28 : decode cX2_earlierTwin 28 = .ok (.ifCond .eq 5, 3) := by decide +kernel
theorem dX2_earlierTwin_31 : decode cX2_earlierTwin 31 = .ok (.iload_n 2, 1) := by decide +kernel
theorem dX2_earlierTwin_32 : decode cX2_earlierTwin 32 = .ok (.ireturn, 1) := by decide +kernel
theorem dX2_earlierTwin_33 : decode cX2_earlierTwin 33 = .ok (.iinc 2 1, 3) := by decide +kernel
theorem dX2_earlierTwin_36 : decode cX2_earlierTwin 36 = .ok (.goto (-34), 3) := by decide +kernel
theorem dX2_earlierTwin_39 : decode cX2_earlierTwin 39 = .ok (.iconst (-1), 1) := by decide +kernel
theorem dX2_earlierTwin_40 : decode cX2_earlierTwin 40 = .ok (.ireturn, 1) := by decide +kernel
set_option maxRecDepth 20000 in
theorem ggX2_haveSameRows_X2_haveSameCells : GoodIn wsX2_haveSameRows wsX2_haveSameCells := goodIn_r _ [5, 6, 7, 8, 9, 10, 11, 12, 13, 14, 15, 16, 17, 18, 19, 20, 21, 22, 23, 24, 25, 26, 27, 28, 29, 30, 31, 32, 33, 34, 35, 36, 37, 38, 39, 40, 41, 42, 43, 44, 45, 46, 47, 48, 49, 50] (by decide +kernel) (by decide +kernel)
set_option maxRecDepth 20000 in
theorem gX2_haveSameRows_X2_haveSameCells : GoodIn wsX2_haveSameRows (wsV RX2 92 RX2 yX2_haveSameCells wsX2_haveSameCells) := goodIn_app (goodIn_of _ (by decide +kernel)) ggX2_haveSameRows_X2_haveSameCells
theorem dX2_haveSameRows_0 : decode cX2_haveSameRows 0 = .ok (.iconst 0, 1) := by decide +kernel
theorem dX2_haveSameRows_1 : decode cX2_haveSameRows 1 = .ok (.istore_n 3, 1) := by decide +kernel
theorem dX2_haveSameRows_2 : decode cX2_haveSameRows 2 = .ok (.iload_n 3, 1) := by decide +kernel
theorem dX2_haveSameRows_3 : decode cX2_haveSameRows 3 = .ok (.bipush 8, 2) := by decide +kernel
theorem dX2_haveSameRows_5 : decode cX2_haveSameRows 5 = .ok (.if_icmp .ge 21, 3) := by decide +kernel
theorem dX2_haveSameRows_8 : decode cX2_haveSameRows 8 = .ok (.aload_n 0, 1) := by decide +kernel
theorem dX2_haveSameRows_9 : decode cX2_haveSameRows 9 = .ok (.iload_n 1, 1) := by decide +kernel
theorem dX2_haveSameRows_10 : decode cX2_haveSameRows 10 = .ok (.iload_n 2, 1) := by decide +kernel
theorem dX2_haveSameRows_11 : decode cX2_haveSameRows 11 = .ok (.iload_n 3, 1) := by decide +kernel
theorem dX2_haveSameRows_12 : decode cX2_haveSameRows 12 = .ok (.invokevirtual 92, 3) := by decide +kernel
theorem dX2_haveSameRows_15 : decode cX2_haveSameRows 15 = .ok (.ifCond .ne 5, 3) := by decide +kernel
theorem dX2_haveSameRows_18 : decode cX2_haveSameRows 18 = .ok (.iconst 0, 1) := by decide +kernel
theorem dX2_haveSameRows_19 : decode cX2_haveSameRows 19 = .ok (.ireturn, 1) := by decide +kernel
theorem dX2_haveSameRows_20 : decode cX2_haveSameRows 20 = .ok (.iinc 3 1, 3) := by decide +kernel
theorem dX2_haveSameRows_23 : decode cX2_haveSameRows 23 = .ok (.goto (-21), 3) := by decide +kernel
theorem dX2_haveSameRows_26 : decode cX2_haveSameRows 26 = .ok (.iconst 1, 1) := by decide +kernel
theorem dX2_haveSameRows_27 : decode cX2_haveSameRows 27 = .ok (.ireturn, 1) := by decide +kernel
set_option maxRecDepth 20000 in
theorem ggX2_haveSameCells_X1_firstBehind : GoodIn wsX2_haveSameCells wsX1_firstBehind := goodIn_r _ [8, 9, 10, 11, 33, 34, 35, 36, 37, 38, 39, 40, 41, 42, 43, 44, 45] (by decide +kernel) (by decide +kernel)
set_option maxRecDepth 20000 in
theorem gX2_haveSameCells_X1_firstBehind : GoodIn wsX2_haveSameCells (wsV RX2 96 RX1 yX1_firstBehind wsX1_firstBehind) := goodIn_app (goodIn_of _ (by decide +kernel)) ggX2_haveSameCells_X1_firstBehind
set_option maxRecDepth 20000 in
theorem ggX2_haveSameCells_X1_doTheSame : GoodIn wsX2_haveSameCells wsX1_doTheSame := goodIn_r _ [15, 16, 17, 18, 19, 20, 21, 22, 33, 34, 35, 36, 37, 38, 39, 40, 41, 42, 43, 44, 45] (by decide +kernel) (by decide +kernel)
set_option maxRecDepth 20000 in
theorem gX2_haveSameCells_X1_doTheSame : GoodIn wsX2_haveSameCells (wsV RX2 100 RX1 yX1_doTheSame wsX1_doTheSame) := goodIn_app (goodIn_of _ (by decide +kernel)) ggX2_haveSameCells_X1_doTheSame
theorem dX2_haveSameCells_0 : decode cX2_haveSameCells 0 = .ok (.aload_n 0, 1) := by decide +kernel
theorem dX2_haveSameCells_1 : decode cX2_haveSameCells 1 = .ok (.getfield 41, 3) := by decide +kernel
theorem dX2_haveSameCells_4 : decode cX2_haveSameCells 4 = .ok (.iconst (-1), 1) := by decide +kernel
theorem dX2_haveSameCells_5 : decode cX2_haveSameCells 5 = .ok (.iload_n 1, 1) := by decide +kernel
theorem dX2_haveSameCells_6 : decode cX2_haveSameCells 6 = .ok (.iload_n 3, 1) := by decide +kernel
theorem dX2_haveSameCells_7 : decode cX2_haveSameCells 7 = .ok (.invokevirtual 96, 3) := by decide +kernel
theorem dX2_haveSameCells_10 : decode cX2_haveSameCells 10 = .ok (.istore 4, 2) := by decide +kernel
theorem dX2_haveSameCells_12 : decode cX2_haveSameCells 12 = .ok (.aload_n 0, 1) := by decide +kernel
theorem dX2_haveSameCells_13 : decode cX2_haveSameCells 13 = .ok (.getfield 41, 3) := by decide +kernel
theorem dX2_haveSameCells_16 : decode cX2_haveSameCells 16 = .ok (.iconst (-1), 1) := by decide +kernel
theorem dX2_haveSameCells_17 : decode cX2_haveSameCells 17 = .ok (.iload_n 2, 1) := by decide +kernel
theorem dX2_haveSameCells_18 : decode cX2_haveSameCells 18 = .ok (.iload_n 3, 1) := by decide +kernel
theorem dX2_haveSameCells_19 : decode cX2_haveSameCells 19 = .ok (.invokevirtual 96, 3) := by decide +kernel
theorem dX2_haveSameCells_22 : decode cX2_haveSameCells 22 = .ok (.istore 5, 2) := by decide +kernel
theorem dX2_haveSameCells_24 : decode cX2_haveSameCells 24 = .ok (.iconst 0, 1) := by decide +kernel
theorem dX2_haveSameCells_25 : decode cX2_haveSameCells 25 = .ok (.istore 6, 2) := by decide +kernel
theorem dX2_haveSameCells_27 : decode cX2_haveSameCells 27 = .ok (.iload 6, 2) := by decide +kernel
theorem dX2_haveSameCells_29 : decode cX2_haveSameCells 29 = .ok (.bipush 40, 2) := by decide +kernel
theorem dX2_haveSameCells_31 : decode cX2_haveSameCells 31 = .ok (.if_icmp .ge 108, 3) := by decide +kernel
theorem dX2_haveSameCells_34 : decode cX2_haveSameCells 34 = .ok (.iload 4, 2) := by decide +kernel
theorem dX2_haveSameCells_36 : decode cX2_haveSameCells 36 = .ok (.iconst (-1), 1) := by decide +kernel
theorem dX2_haveSameCells_37 : decode cX2_haveSameCells 37 = .ok (.if_icmp .eq 102, 3) := by decide +kernel
theorem dX2_haveSameCells_40 : decode cX2_haveSameCells 40 = .ok (.iload 5, 2) := by decide +kernel
theorem dX2_haveSameCells_42 : decode cX2_haveSameCells 42 = .ok (.iconst (-1), 1) := by decide +kernel
theorem dX2_haveSameCells_43 : decode cX2_haveSameCells 43 = .ok (.if_icmp .eq 96, 3) := by decide +kernel
theorem dX2_haveSameCells_46 : decode cX2_haveSameCells 46 = .ok (.aload_n 0, 1) := by decide +kernel
theorem dX2_haveSameCells_47 : decode cX2_haveSameCells 47 = .ok (.getfield 25, 3) := by decide +kernel
theorem dX2_haveSameCells_50 : decode cX2_haveSameCells 50 = .ok (.aload_n 0, 1) := by decide +kernel
theorem dX2_haveSameCells_51 : decode cX2_haveSameCells 51 = .ok (.getfield 41, 3) := by decide +kernel
theorem dX2_haveSameCells_54 : decode cX2_haveSameCells 54 = .ok (.getfield 75, 3) := by decide +kernel
theorem dX2_haveSameCells_57 : decode cX2_haveSameCells 57 = .ok (.iload 4, 2) := by decide +kernel
theorem dX2_haveSameCells_59 : decode cX2_haveSameCells 59 = .ok (.iaload, 1) := by decide +kernel
theorem dX2_haveSameCells_60 : decode cX2_haveSameCells 60 = .ok (.iaload, 1) := by decide +kernel
theorem dX2_haveSameCells_61 : decode cX2_haveSameCells 61 = .ok (.aload_n 0, 1) := by decide +kernel
theorem dX2_haveSameCells_62 : decode cX2_haveSameCells 62 = .ok (.getfield 25, 3) := by decide +kernel
theorem dX2_haveSameCells_65 : decode cX2_haveSameCells 65 = .ok (.aload_n 0, 1) := by decide +kernel
theorem dX2_haveSameCells_66 : decode cX2_haveSameCells 66 = .ok (.getfield 41, 3) := by decide +kernel
theorem dX2_haveSameCells_69 : decode cX2_haveSameCells 69 = .ok (.getfield 75, 3) := by decide +kernel
theorem dX2_haveSameCells_72 : decode cX2_haveSameCells 72 = .ok (.iload 5, 2) := by decide +kernel
theorem dX2_haveSameCells_74 : decode cX2_haveSameCells 74 = .ok (.iaload, 1) := by decide +kernel
theorem dX2_haveSameCells_75 : decode cX2_haveSameCells 75 = .ok (.iaload, 1) := by decide +kernel
theorem dX2_haveSameCells_76 : decode cX2_haveSameCells 76 = .ok (.if_icmp .ne 7, 3) := by decide +kernel
theorem dX2_haveSameCells_79 : decode cX2_haveSameCells 79 = .ok (.iconst 1, 1) := by decide +kernel
theorem dX2_haveSameCells_80 : decode cX2_haveSameCells 80 = .ok (.goto 4, 3) := by decide +kernel
theorem dX2_haveSameCells_83 : decode cX2_haveSameCells 83 = .ok (.iconst 0, 1) := by decide +kernel
theorem dX2_haveSameCells_84 : decode cX2_haveSameCells 84 = .ok (.istore 7, 2) := by decide +kernel
theorem dX2_haveSameCells_86 : decode cX2_haveSameCells 86 = .ok (.iload 7, 2) := by decide +kernel
theorem dX2_haveSameCells_88 : decode cX2_haveSameCells 88 = .ok (.ifCond .eq 17, 3) := by decide +kernel
theorem dX2_haveSameCells_91 : decode cX2_haveSameCells 91 = .ok (.aload_n 0, 1) := by decide +kernel
theorem dX2_haveSameCells_92 : decode cX2_haveSameCells 92 = .ok (.getfield 41, 3) := by decide +kernel
theorem dX2_haveSameCells_95 : decode cX2_haveSameCells 95 = .ok (.iload 4, 2) := by decide +kernel
theorem dX2_haveSameCells_97 : decode cX2_haveSameCells 97 = .ok (.iload 5, 2) := by decide +kernel
theorem dX2_haveSameCells_99 : decode cX2_haveSameCells 99 = .ok (.invokevirtual 100, 3) := by decide +kernel
theorem dX2_haveSameCells_102 : decode cX2_haveSameCells 102 = .ok (.ifCond .ne 5, 3) := by decide +kernel
theorem dX2_haveSameCells_105 : decode cX2_haveSameCells 105 = .ok (.iconst 0, 1) := by decide +kernel
theorem dX2_haveSameCells_106 : decode cX2_haveSameCells 106 = .ok (.ireturn, 1) := by decide +kernel
theorem dX2_haveSameCells_107 : decode cX2_haveSameCells 107 = .ok (.aload_n 0, 1) := by decide +kernel
theorem dX2_haveSameCells_108 : decode cX2_haveSameCells 108 = .ok (.getfield 41, 3) := by decide +kernel
theorem dX2_haveSameCells_111 : decode cX2_haveSameCells 111 = .ok (.iload 4, 2) := by decide +kernel
theorem dX2_haveSameCells_113 : decode cX2_haveSameCells 113 = .ok (.iload_n 1, 1) := by decide +kernel
theorem dX2_haveSameCells_114 : decode cX2_haveSameCells 114 = .ok (.iload_n 3, 1) := by decide +kernel
theorem dX2_haveSameCells_115 : decode cX2_haveSameCells 115 = .ok (.invokevirtual 96, 3) := by decide +kernel
theorem dX2_haveSameCells_118 : decode cX2_haveSameCells 118 = .ok (.istore 4, 2) := by decide +kernel
theorem dX2_haveSameCells_120 : decode cX2_haveSameCells 120 = .ok (.aload_n 0, 1) := by decide +kernel
theorem dX2_haveSameCells_121 : decode cX2_haveSameCells 121 = .ok (.getfield 41, 3) := by decide +kernel
theorem dX2_haveSameCells_124 : decode cX2_haveSameCells 124 = .ok (.iload 5, 2) := by decide +kernel
theorem dX2_haveSameCells_126 : decode cX2_haveSameCells 126 = .ok (.iload_n 2, 1) := by decide +kernel
theorem dX2_haveSameCells_127 : decode cX2_haveSameCells 127 = .ok (.iload_n 3, 1) := by decide +kernel
theorem dX2_haveSameCells_128 : decode cX2_haveSameCells 128 = .ok (.invokevirtual 96, 3) := by decide +kernel
theorem dX2_haveSameCells_131 : decode cX2_haveSameCells 131 = .ok (.istore 5, 2) := by decide +kernel
theorem dX2_haveSameCells_133 : decode cX2_haveSameCells 133 = .ok (.iinc 6 1, 3) := by decide +kernel
theorem dX2_haveSameCells_136 : decode cX2_haveSameCells 136 = .ok (.goto (-109), 3) := by decide +kernel
theorem dX2_haveSameCells_139 : decode cX2_haveSameCells 139 = .ok (.iload 4, 2) := by decide +kernel
theorem dX2_haveSameCells_141 : decode cX2_haveSameCells 141 = .ok (.iconst (-1), 1) := by decide +kernel
theorem dX2_haveSameCells_142 : decode cX2_haveSameCells 142 = .ok (.if_icmp .ne 13, 3) := by decide +kernel
theorem dX2_haveSameCells_145 : decode cX2_haveSameCells 145 = .ok (.iload 5, 2) := by decide +kernel
theorem dX2_haveSameCells_147 : decode cX2_haveSameCells 147 = .ok (.iconst (-1), 1) := by decide +kernel
theorem dX2_haveSameCells_148 : decode cX2_haveSameCells 148 = .ok (.if_icmp .ne 7, 3) := by decide +kernel
theorem dX2_haveSameCells_151 : decode cX2_haveSameCells 151 = .ok (.iconst 1, 1) := by decide +kernel
theorem dX2_haveSameCells_152 : decode cX2_haveSameCells 152 = .ok (.goto 4, 3) := by decide +kernel
theorem dX2_haveSameCells_155 : decode cX2_haveSameCells 155 = .ok (.iconst 0, 1) := by decide +kernel
theorem dX2_haveSameCells_156 : decode cX2_haveSameCells 156 = .ok (.ireturn, 1) := by decide +kernel
set_option maxRecDepth 20000 in
theorem ggX2_findUsedCells_J7_fill_53178 : GoodIn wsX2_findUsedCells wsJ7_fill_53178 := goodIn_r _ [10] (by decide +kernel) (by decide +kernel)
set_option maxRecDepth 20000 in
theorem gX2_findUsedCells_J7_fill_53178 : GoodIn wsX2_findUsedCells (va_wsS RX2 58 yJ7_fill_53178 wsJ7_fill_53178) := goodIn_app (goodIn_of _ (by decide +kernel)) ggX2_findUsedCells_J7_fill_53178
theorem dX2_findUsedCells_0 : decode cX2_findUsedCells 0 = .ok (.aload_n 0, 1) := by decide +kernel
theorem dX2_findUsedCells_1 : decode cX2_findUsedCells 1 = .ok (.getfield 32, 3) := by decide +kernel
theorem dX2_findUsedCells_4 : decode cX2_findUsedCells 4 = .ok (.iconst 0, 1) := by decide +kernel
theorem dX2_findUsedCells_5 : decode cX2_findUsedCells 5 = .ok (.invokestatic 58, 3) := by decide +kernel
theorem dX2_findUsedCells_8 : decode cX2_findUsedCells 8 = .ok (.iconst 0, 1) := by decide +kernel
theorem dX2_findUsedCells_9 : decode cX2_findUsedCells 9 = .ok (.istore_n 1, 1) := by decide +kernel
theorem dX2_findUsedCells_10 : decode cX2_findUsedCells 10 = .ok (.iload_n 1, 1) := by decide +kernel
theorem dX2_findUsedCells_11 : decode cX2_findUsedCells 11 = .ok (.aload_n 0, 1) := by decide +kernel
theorem dX2_findUsedCells_12 : decode cX2_findUsedCells 12 = .ok (.getfield 41, 3) := by decide +kernel
theorem dX2_findUsedCells_15 : decode cX2_findUsedCells 15 = .ok (.getfield 69, 3) := by decide +kernel
theorem dX2_findUsedCells_18 : decode cX2_findUsedCells 18 = .ok (.if_icmp .ge 49, 3) := by decide +kernel
theorem dX2_findUsedCells_21 : decode cX2_findUsedCells 21 = .ok (.aload_n 0, 1) := by decide +kernel
theorem dX2_findUsedCells_22 : decode cX2_findUsedCells 22 = .ok (.getfield 25, 3) := by decide +kernel
theorem dX2_findUsedCells_25 : decode cX2_findUsedCells 25 = .ok (.aload_n 0, 1) := by decide +kernel
theorem dX2_findUsedCells_26 : decode cX2_findUsedCells 26 = .ok (.getfield 41, 3) := by decide +kernel
theorem dX2_findUsedCells_29 : decode cX2_findUsedCells 29 = .ok (.getfield 72, 3) := by decide +kernel
theorem dX2_findUsedCells_32 : decode cX2_findUsedCells 32 = .ok (.iload_n 1, 1) := by decide +kernel
theorem dX2_findUsedCells_33 : decode cX2_findUsedCells 33 = .ok (.iaload, 1) := by decide +kernel
theorem dX2_findUsedCells_34 : decode cX2_findUsedCells 34 = .ok (.iaload, 1) := by decide +kernel
theorem dX2_findUsedCells_35 : decode cX2_findUsedCells 35 = .ok (.istore_n 2, 1) := by decide +kernel
theorem dX2_findUsedCells_36 : decode cX2_findUsedCells 36 = .ok (.iload_n 2, 1) := by decide +kernel
theorem dX2_findUsedCells_37 : decode cX2_findUsedCells 37 = .ok (.iconst (-1), 1) := by decide +kernel
theorem dX2_findUsedCells_38 : decode cX2_findUsedCells 38 = .ok (.if_icmp .eq 23, 3) := by decide +kernel
theorem dX2_findUsedCells_41 : decode cX2_findUsedCells 41 = .ok (.aload_n 0, 1) := by decide +kernel
theorem dX2_findUsedCells_42 : decode cX2_findUsedCells 42 = .ok (.getfield 32, 3) := by decide +kernel
theorem dX2_findUsedCells_45 : decode cX2_findUsedCells 45 = .ok (.iload_n 2, 1) := by decide +kernel
theorem dX2_findUsedCells_46 : decode cX2_findUsedCells 46 = .ok (.dup2, 1) := by decide +kernel
theorem dX2_findUsedCells_47 : decode cX2_findUsedCells 47 = .ok (.iaload, 1) := by decide +kernel
theorem dX2_findUsedCells_48 : decode cX2_findUsedCells 48 = .ok (.iconst 1, 1) := by decide +kernel
theorem dX2_findUsedCells_49 : decode cX2_findUsedCells 49 = .ok (.aload_n 0, 1) := by decide +kernel
theorem dX2_findUsedCells_50 : decode cX2_findUsedCells 50 = .ok (.getfield 41, 3) := by decide +kernel
theorem dX2_findUsedCells_53 : decode cX2_findUsedCells 53 = .ok (.getfield 103, 3) := by decide +kernel
theorem dX2_findUsedCells_56 : decode cX2_findUsedCells 56 = .ok (.iload_n 1, 1) := by decide +kernel
theorem dX2_findUsedCells_57 : decode cX2_findUsedCells 57 = .ok (.iaload, 1) := by decide +kernel
theorem dX2_findUsedCells_58 : decode cX2_findUsedCells 58 = .ok (.ishl, 1) := by decide +kernel
theorem dX2_findUsedCells_59 : decode cX2_findUsedCells 59 = .ok (.ior, 1) := by decide +kernel
theorem dX2_findUsedCells_60 : decode cX2_findUsedCells 60 = .ok (.iastore, 1) := by decide +kernel
theorem dX2_findUsedCells_61 : decode cX2_findUsedCells 61 = .ok (.iinc 1 1, 3) := by decide +kernel
theorem dX2_findUsedCells_64 : decode cX2_findUsedCells 64 = .ok (.goto (-54), 3) := by decide +kernel
theorem dX2_findUsedCells_67 : decode cX2_findUsedCells 67 = .ok (.return_, 1) := by decide +kernel
set_option maxRecDepth 20000 in
theorem ggX2_usedCells_J6_bitCount_0f7a4 : GoodIn wsX2_usedCells wsJ6_bitCount_0f7a4 := goodIn_r _ [5, 6, 7, 8] (by decide +kernel) (by decide +kernel)
set_option maxRecDepth 20000 in
theorem gX2_usedCells_J6_bitCount_0f7a4 : GoodIn wsX2_usedCells (va_wsS RX2 106 yJ6_bitCount_0f7a4 wsJ6_bitCount_0f7a4) := goodIn_app (goodIn_of _ (by decide +kernel)) ggX2_usedCells_J6_bitCount_0f7a4
theorem dX2_usedCells_0 : decode cX2_usedCells 0 = .ok (.aload_n 0, 1) := by decide +kernel
theorem dX2_usedCells_1 : decode cX2_usedCells 1 = .ok (.getfield 32, 3) := by decide +kernel
theorem dX2_usedCells_4 : decode cX2_usedCells 4 = .ok (.iload_n 1, 1) := by decide +kernel
theorem dX2_usedCells_5 : decode cX2_usedCells 5 = .ok (.iaload, 1) := by decide +kernel
theorem dX2_usedCells_6 : decode cX2_usedCells 6 = .ok (.invokestatic 106, 3) := by decide +kernel
theorem dX2_usedCells_9 : decode cX2_usedCells 9 = .ok (.ireturn, 1) := by decide +kernel
set_option maxRecDepth 20000 in
theorem ggX2_layRows_J7_fill_53178 : GoodIn wsX2_layRows wsJ7_fill_53178 := goodIn_r _ [8] (by decide +kernel) (by decide +kernel)
set_option maxRecDepth 20000 in
theorem gX2_layRows_J7_fill_53178 : GoodIn wsX2_layRows (va_wsS RX2 58 yJ7_fill_53178 wsJ7_fill_53178) := goodIn_app (goodIn_of _ (by decide +kernel)) ggX2_layRows_J7_fill_53178
set_option maxRecDepth 20000 in
theorem ggX2_layRows_X2_usedCells : GoodIn wsX2_layRows wsX2_usedCells := goodIn_r _ [13, 14, 15, 16, 17, 18, 19, 20, 21, 39, 40, 41, 42, 43, 44, 45, 46, 47, 48] (by decide +kernel) (by decide +kernel)
set_option maxRecDepth 20000 in
theorem gX2_layRows_X2_usedCells : GoodIn wsX2_layRows (wsV RX2 111 RX2 yX2_usedCells wsX2_usedCells) := goodIn_app (goodIn_of _ (by decide +kernel)) ggX2_layRows_X2_usedCells
set_option maxRecDepth 20000 in
theorem ggX2_layRows_X2_layRow : GoodIn wsX2_layRows wsX2_layRow := goodIn_r _ [25, 26, 1, 2, 27, 28, 29, 30, 3, 31, 32, 33, 12, 34, 35, 36, 37, 38, 14, 39, 40, 41, 42, 43, 44, 45, 46, 47, 48] (by decide +kernel) (by decide +kernel)
set_option maxRecDepth 20000 in
theorem gX2_layRows_X2_layRow : GoodIn wsX2_layRows (wsV RX2 114 RX2 yX2_layRow wsX2_layRow) := goodIn_app (goodIn_of _ (by decide +kernel)) ggX2_layRows_X2_layRow
theorem dX2_layRows_0 : decode cX2_layRows 0 = .ok (.aload_n 0, 1) := by decide +kernel
theorem dX2_layRows_1 : decode cX2_layRows 1 = .ok (.getfield 38, 3) := by decide +kernel
theorem dX2_layRows_4 : decode cX2_layRows 4 = .ok (.iconst (-1), 1) := by decide +kernel
theorem dX2_layRows_5 : decode cX2_layRows 5 = .ok (.invokestatic 58, 3) := by decide +kernel
theorem dX2_layRows_8 : decode cX2_layRows 8 = .ok (.aload_n 0, 1) := by decide +kernel
theorem dX2_layRows_9 : decode cX2_layRows 9 = .ok (.iconst 0, 1) := by decide +kernel
theorem dX2_layRows_10 : decode cX2_layRows 10 = .ok (.putfield 19, 3) := by decide +kernel
theorem dX2_layRows_13 : decode cX2_layRows 13 = .ok (.aload_n 0, 1) := by decide +kernel
theorem dX2_layRows_14 : decode cX2_layRows 14 = .ok (.iconst 0, 1) := by decide +kernel
theorem dX2_layRows_15 : decode cX2_layRows 15 = .ok (.putfield 22, 3) := by decide +kernel
theorem dX2_layRows_18 : decode cX2_layRows 18 = .ok (.bipush 8, 2) := by decide +kernel
theorem dX2_layRows_20 : decode cX2_layRows 20 = .ok (.istore_n 1, 1) := by decide +kernel
theorem dX2_layRows_21 : decode cX2_layRows 21 = .ok (.iload_n 1, 1) := by decide +kernel
theorem dX2_layRows_22 : decode cX2_layRows 22 = .ok (.ifCond .lt 39, 3) := by decide +kernel
theorem dX2_layRows_25 : decode cX2_layRows 25 = .ok (.iconst 0, 1) := by decide +kernel
theorem dX2_layRows_26 : decode cX2_layRows 26 = .ok (.istore_n 2, 1) := by decide +kernel
theorem dX2_layRows_27 : decode cX2_layRows 27 = .ok (.iload_n 2, 1) := by decide +kernel
theorem dX2_layRows_28 : decode cX2_layRows 28 = .ok (.aload_n 0, 1) := by decide +kernel
theorem dX2_layRows_29 : decode cX2_layRows 29 = .ok (.getfield 15, 3) := by decide +kernel
theorem dX2_layRows_32 : decode cX2_layRows 32 = .ok (.if_icmp .ge 23, 3) := by decide +kernel
theorem dX2_layRows_35 : decode cX2_layRows 35 = .ok (.aload_n 0, 1) := by decide +kernel
theorem dX2_layRows_36 : decode cX2_layRows 36 = .ok (.iload_n 2, 1) := by decide +kernel
theorem dX2_layRows_37 : decode cX2_layRows 37 = .ok (.invokevirtual 111, 3) := by decide +kernel
theorem dX2_layRows_40 : decode cX2_layRows 40 = .ok (.iload_n 1, 1) := by decide +kernel
theorem dX2_layRows_41 : decode cX2_layRows 41 = .ok (.if_icmp .ne 8, 3) := by decide +kernel
theorem dX2_layRows_44 : decode cX2_layRows 44 = .ok (.aload_n 0, 1) := by decide +kernel
theorem dX2_layRows_45 : decode cX2_layRows 45 = .ok (.iload_n 2, 1) := by decide +kernel
theorem dX2_layRows_46 : decode cX2_layRows 46 = .ok (.invokevirtual 114, 3) := by decide +kernel
theorem dX2_layRows_49 : decode cX2_layRows 49 = .ok (.iinc 2 1, 3) := by decide +kernel
theorem dX2_layRows_52 : decode cX2_layRows 52 = .ok (.goto (-25), 3) := by decide +kernel
theorem dX2_layRows_55 : decode cX2_layRows 55 = .ok (.iinc 1 (-1), 3) := by decide +kernel
theorem dX2_layRows_58 : decode cX2_layRows 58 = .ok (.goto (-37), 3) := by decide +kernel
theorem dX2_layRows_61 : decode cX2_layRows 61 = .ok (.return_, 1) := by decide +kernel
set_option maxRecDepth 20000 in
theorem ggX2_layRow_X2_isFree : GoodIn wsX2_layRow wsX2_isFree := goodIn_r _ [13, 2, 14, 15, 16, 12, 17, 18, 19, 20, 21, 22, 23, 24, 25, 26, 27, 28] (by decide +kernel) (by decide +kernel)
set_option maxRecDepth 20000 in
theorem gX2_layRow_X2_isFree : GoodIn wsX2_layRow (wsV RX2 118 RX2 yX2_isFree wsX2_isFree) := goodIn_app (goodIn_of _ (by decide +kernel)) ggX2_layRow_X2_isFree
set_option maxRecDepth 20000 in
theorem ggX2_layRow_X2_isUsed : GoodIn wsX2_layRow wsX2_isUsed := goodIn_r _ [17, 18, 19, 20, 21, 22, 23, 24, 25, 26, 27, 28] (by decide +kernel) (by decide +kernel)
set_option maxRecDepth 20000 in
theorem gX2_layRow_X2_isUsed : GoodIn wsX2_layRow (wsV RX2 121 RX2 yX2_isUsed wsX2_isUsed) := goodIn_app (goodIn_of _ (by decide +kernel)) ggX2_layRow_X2_isUsed
theorem dX2_layRow_0 : decode cX2_layRow 0 = .ok (.iconst 0, 1) := by decide +kernel
theorem dX2_layRow_1 : decode cX2_layRow 1 = .ok (.istore_n 2, 1) := by decide +kernel
theorem dX2_layRow_2 : decode cX2_layRow 2 = .ok (.iload_n 2, 1) := by decide +kernel
theorem dX2_layRow_3 : decode cX2_layRow 3 = .ok (.bipush 88, 2) := by decide +kernel
theorem dX2_layRow_5 : decode cX2_layRow 5 = .ok (.if_icmp .ge 18, 3) := by decide +kernel
theorem dX2_layRow_8 : decode cX2_layRow 8 = .ok (.aload_n 0, 1) := by decide +kernel
theorem dX2_layRow_9 : decode cX2_layRow 9 = .ok (.iload_n 1, 1) := by decide +kernel
theorem dX2_layRow_10 : decode cX2_layRow 10 = .ok (.iload_n 2, 1) := by decide +kernel
theorem dX2_layRow_11 : decode cX2_layRow 11 = .ok (.invokevirtual 118, 3) := by decide +kernel
theorem dX2_layRow_14 : decode cX2_layRow 14 = .ok (.ifCond .ne 9, 3) := by decide +kernel
theorem dX2_layRow_17 : decode cX2_layRow 17 = .ok (.iinc 2 1, 3) := by decide +kernel
theorem dX2_layRow_20 : decode cX2_layRow 20 = .ok (.goto (-18), 3) := by decide +kernel
theorem dX2_layRow_23 : decode cX2_layRow 23 = .ok (.aload_n 0, 1) := by decide +kernel
theorem dX2_layRow_24 : decode cX2_layRow 24 = .ok (.getfield 35, 3) := by decide +kernel
theorem dX2_layRow_27 : decode cX2_layRow 27 = .ok (.iload_n 1, 1) := by decide +kernel
theorem dX2_layRow_28 : decode cX2_layRow 28 = .ok (.iload_n 2, 1) := by decide +kernel
theorem dX2_layRow_29 : decode cX2_layRow 29 = .ok (.iastore, 1) := by decide +kernel
theorem dX2_layRow_30 : decode cX2_layRow 30 = .ok (.iconst 0, 1) := by decide +kernel
theorem dX2_layRow_31 : decode cX2_layRow 31 = .ok (.istore_n 3, 1) := by decide +kernel
theorem dX2_layRow_32 : decode cX2_layRow 32 = .ok (.iload_n 3, 1) := by decide +kernel
theorem dX2_layRow_33 : decode cX2_layRow 33 = .ok (.bipush 8, 2) := by decide +kernel
theorem dX2_layRow_35 : decode cX2_layRow 35 = .ok (.if_icmp .ge 53, 3) := by decide +kernel
theorem dX2_layRow_38 : decode cX2_layRow 38 = .ok (.aload_n 0, 1) := by decide +kernel
theorem dX2_layRow_39 : decode cX2_layRow 39 = .ok (.iload_n 1, 1) := by decide +kernel
theorem dX2_layRow_40 : decode cX2_layRow 40 = .ok (.iload_n 3, 1) := by decide +kernel
theorem dX2_layRow_41 : decode cX2_layRow 41 = .ok (.invokevirtual 121, 3) := by decide +kernel
theorem dX2_layRow_44 : decode cX2_layRow 44 = .ok (.ifCond .eq 38, 3) := by decide +kernel
theorem dX2_layRow_47 : decode cX2_layRow 47 = .ok (.aload_n 0, 1) := by decide +kernel
theorem dX2_layRow_48 : decode cX2_layRow 48 = .ok (.getfield 38, 3) := by decide +kernel
theorem dX2_layRow_51 : decode cX2_layRow 51 = .ok (.iload_n 2, 1) := by decide +kernel
theorem dX2_layRow_52 : decode cX2_layRow 52 = .ok (.iload_n 3, 1) := by decide +kernel
theorem dX2_layRow_53 : decode cX2_layRow 53 = .ok (.iadd, 1) := by decide +kernel
theorem dX2_layRow_54 : decode cX2_layRow 54 = .ok (.iload_n 1, 1) := by decide +kernel
theorem dX2_layRow_55 : decode cX2_layRow 55 = .ok (.iastore, 1) := by decide +kernel
theorem dX2_layRow_56 : decode cX2_layRow 56 = .ok (.aload_n 0, 1) := by decide +kernel
theorem dX2_layRow_57 : decode cX2_layRow 57 = .ok (.aload_n 0, 1) := by decide +kernel
theorem dX2_layRow_58 : decode cX2_layRow 58 = .ok (.getfield 19, 3) := by decide +kernel
theorem dX2_layRow_61 : decode cX2_layRow 61 = .ok (.iload_n 2, 1) := by decide +kernel
theorem dX2_layRow_62 : decode cX2_layRow 62 = .ok (.iload_n 3, 1) := by decide +kernel
theorem dX2_layRow_63 : decode cX2_layRow 63 = .ok (.iadd, 1) := by decide +kernel
theorem dX2_layRow_64 : decode cX2_layRow 64 = .ok (.iconst 1, 1) := by decide +kernel
theorem dX2_layRow_65 : decode cX2_layRow 65 = .ok (.iadd, 1) := by decide +kernel
theorem dX2_layRow_66 : decode cX2_layRow 66 = .ok (.invokestatic 124, 3) := by decide +kernel
theorem dX2_layRow_69 : decode cX2_layRow 69 = .ok (.putfield 19, 3) := by decide +kernel
theorem dX2_layRow_72 : decode cX2_layRow 72 = .ok (.aload_n 0, 1) := by decide +kernel
theorem dX2_layRow_73 : decode cX2_layRow 73 = .ok (.dup, 1) := by decide +kernel
theorem dX2_layRow_74 : decode cX2_layRow 74 = .ok (.getfield 22, 3) := by decide +kernel
theorem dX2_layRow_77 : decode cX2_layRow 77 = .ok (.iconst 1, 1) := by decide +kernel
theorem dX2_layRow_78 : decode cX2_layRow 78 = .ok (.iadd, 1) := by decide +kernel
theorem dX2_layRow_79 : decode cX2_layRow 79 = .ok (.putfield 22, 3) := by decide +kernel
theorem dX2_layRow_82 : decode cX2_layRow 82 = .ok (.iinc 3 1, 3) := by decide +kernel
theorem dX2_layRow_85 : decode cX2_layRow 85 = .ok (.goto (-53), 3) := by decide +kernel
theorem dX2_layRow_88 : decode cX2_layRow 88 = .ok (.return_, 1) := by decide +kernel
set_option maxRecDepth 20000 in
theorem ggX2_isFree_X2_isUsed : GoodIn wsX2_isFree wsX2_isUsed := goodIn_r _ [6, 7, 8, 9, 10, 11, 12, 13, 14, 15, 16, 17] (by decide +kernel) (by decide +kernel)
set_option maxRecDepth 20000 in
theorem gX2_isFree_X2_isUsed : GoodIn wsX2_isFree (wsV RX2 121 RX2 yX2_isUsed wsX2_isUsed) := goodIn_app (goodIn_of _ (by decide +kernel)) ggX2_isFree_X2_isUsed
theorem dX2_isFree_0 : decode cX2_isFree 0 = .ok (.iconst 0, 1) := by decide +kernel
theorem dX2_isFree_1 : decode cX2_isFree 1 = .ok (.istore_n 3, 1) := by decide +kernel
theorem dX2_isFree_2 : decode cX2_isFree 2 = .ok (.iload_n 3, 1) := by decide +kernel
theorem dX2_isFree_3 : decode cX2_isFree 3 = .ok (.bipush 8, 2) := by decide +kernel
theorem dX2_isFree_5 : decode cX2_isFree 5 = .ok (.if_icmp .ge 32, 3) := by decide +kernel
theorem dX2_isFree_8 : decode cX2_isFree 8 = .ok (.aload_n 0, 1) := by decide +kernel
theorem dX2_isFree_9 : decode cX2_isFree 9 = .ok (.iload_n 1, 1) := by decide +kernel
theorem dX2_isFree_10 : decode cX2_isFree 10 = .ok (.iload_n 3, 1) := by decide +kernel
theorem dX2_isFree_11 : decode cX2_isFree 11 = .ok (.invokevirtual 121, 3) := by decide +kernel
theorem dX2_isFree_14 : decode cX2_isFree 14 = .ok (.ifCond .eq 17, 3) := by decide +kernel
theorem dX2_isFree_17 : decode cX2_isFree 17 = .ok (.aload_n 0, 1) := by decide +kernel
theorem dX2_isFree_18 : decode cX2_isFree 18 = .ok (.getfield 38, 3) := by decide +kernel
theorem dX2_isFree_21 : decode cX2_isFree 21 = .ok (.iload_n 2, 1) := by decide +kernel
theorem dX2_isFree_22 : decode cX2_isFree 22 = .ok (.iload_n 3, 1) := by decide +kernel
theorem dX2_isFree_23 : decode cX2_isFree 23 = .ok (.iadd, 1) := by decide +kernel
theorem dX2_isFree_24 : decode cX2_isFree 24 = .ok (.iaload, 1) := by decide +kernel
theorem dX2_isFree_25 : decode cX2_isFree 25 = .ok (.iconst (-1), 1) := by decide +kernel
theorem dX2_isFree_26 : decode cX2_isFree 26 = .ok (.if_icmp .eq 5, 3) := by decide +kernel
theorem dX2_isFree_29 : decode cX2_isFree 29 = .ok (.iconst 0, 1) := by decide +kernel
theorem dX2_isFree_30 : decode cX2_isFree 30 = .ok (.ireturn, 1) := by decide +kernel
theorem dX2_isFree_31 : decode cX2_isFree 31 = .ok (.iinc 3 1, 3) := by decide +kernel
theorem dX2_isFree_34 : decode cX2_isFree 34 = .ok (.goto (-32), 3) := by decide +kernel
theorem dX2_isFree_37 : decode cX2_isFree 37 = .ok (.iconst 1, 1) := by decide +kernel
theorem dX2_isFree_38 : decode cX2_isFree 38 = .ok (.ireturn, 1) := by decide +kernel
theorem dX2_isUsed_0 : decode cX2_isUsed 0 = .ok (.aload_n 0, 1) := by decide +kernel
theorem dX2_isUsed_1 : decode cX2_isUsed 1 = .ok (.getfield 32, 3) := by decide +kernel
theorem dX2_isUsed_4 : decode cX2_isUsed 4 = .ok (.iload_n 1, 1) := by decide +kernel
theorem dX2_isUsed_5 : decode cX2_isUsed 5 = .ok (.iaload, 1) := by decide +kernel
theorem dX2_isUsed_6 : decode cX2_isUsed 6 = .ok (.iload_n 2, 1) := by decide +kernel
theorem dX2_isUsed_7 : decode cX2_isUsed 7 = .ok (.ishr, 1) := by decide +kernel
theorem dX2_isUsed_8 : decode cX2_isUsed 8 = .ok (.iconst 1, 1) := by decide +kernel
theorem dX2_isUsed_9 : decode cX2_isUsed 9 = .ok (.iand, 1) := by decide +kernel
theorem dX2_isUsed_10 : decode cX2_isUsed 10 = .ok (.ifCond .eq 7, 3) := by decide +kernel
theorem dX2_isUsed_13 : decode cX2_isUsed 13 = .ok (.iconst 1, 1) := by decide +kernel
theorem dX2_isUsed_14 : decode cX2_isUsed 14 = .ok (.goto 4, 3) := by decide +kernel
theorem dX2_isUsed_17 : decode cX2_isUsed 17 = .ok (.iconst 0, 1) := by decide +kernel
theorem dX2_isUsed_18 : decode cX2_isUsed 18 = .ok (.ireturn, 1) := by decide +kernel
set_option maxRecDepth 20000 in
theorem ggX3_init_X1_init : GoodIn wsX3_init wsX1_init := goodIn_r _ [18, 19, 2, 3, 20, 21, 22, 23, 24, 25, 26, 27, 28, 29, 30, 31, 32, 33, 68, 69, 70, 71, 72, 73, 74, 75, 76, 77, 78, 79, 80] (by decide +kernel) (by decide +kernel)
set_option maxRecDepth 20000 in
theorem gX3_init_X1_init : GoodIn wsX3_init (wsX1_init) := ggX3_init_X1_init
set_option maxRecDepth 20000 in
theorem ggX3_init_X0_init : GoodIn wsX3_init wsX0_init := goodIn_r _ [36, 37, 2, 3, 38, 39, 40, 41, 42, 22, 43, 44, 45, 46, 47, 48, 49, 50, 51, 52, 53, 84, 85, 86, 87, 88, 89, 90, 91, 92, 93] (by decide +kernel) (by decide +kernel)
set_option maxRecDepth 20000 in
theorem gX3_init_X0_init : GoodIn wsX3_init (wsX0_init) := ggX3_init_X0_init
set_option maxRecDepth 20000 in
theorem ggX3_init_X2_init : GoodIn wsX3_init wsX2_init := goodIn_r _ [56, 57, 2, 3, 58, 59, 60, 61, 22, 62, 63, 64, 65, 66, 67, 94, 95, 96, 97, 98, 99, 100, 101, 102, 103] (by decide +kernel) (by decide +kernel)
set_option maxRecDepth 20000 in
theorem gX3_init_X2_init : GoodIn wsX3_init (wsX2_init) := ggX3_init_X2_init
theorem dX3_init_0 : decode cX3_init 0 = .ok (.aload_n 0, 1) := by decide +kernel
theorem dX3_init_1 : decode cX3_init 1 = .ok (.invokespecial 3, 3) := by decide +kernel
theorem dX3_init_4 : decode cX3_init 4 = .ok (.aload_n 0, 1) := by decide +kernel
theorem dX3_init_5 : decode cX3_init 5 = .ok (.new 9, 3) := by decide +kernel
theorem dX3_init_8 : decode cX3_init 8 = .ok (.dup, 1) := by decide +kernel
theorem dX3_init_9 : decode cX3_init 9 = .ok (.invokespecial 11, 3) := by decide +kernel
theorem dX3_init_12 : decode cX3_init 12 = .ok (.putfield 12, 3) := by decide +kernel
theorem dX3_init_15 : decode cX3_init 15 = .ok (.aload_n 0, 1) := by decide +kernel
theorem dX3_init_16 : decode cX3_init 16 = .ok (.new 16, 3) := by decide +kernel
theorem dX3_init_19 : decode cX3_init 19 = .ok (.dup, 1) := by decide +kernel
theorem dX3_init_20 : decode cX3_init 20 = .ok (.aload_n 0, 1) := by decide +kernel
theorem dX3_init_21 : decode cX3_init 21 = .ok (.getfield 12, 3) := by decide +kernel
theorem dX3_init_24 : decode cX3_init 24 = .ok (.invokespecial 18, 3) := by decide +kernel
theorem dX3_init_27 : decode cX3_init 27 = .ok (.putfield 21, 3) := by decide +kernel
theorem dX3_init_30 : decode cX3_init 30 = .ok (.aload_n 0, 1) := by decide +kernel
theorem dX3_init_31 : decode cX3_init 31 = .ok (.new 25, 3) := by decide +kernel
theorem dX3_init_34 : decode cX3_init 34 = .ok (.dup, 1) := by decide +kernel
theorem dX3_init_35 : decode cX3_init 35 = .ok (.aload_n 0, 1) := by decide +kernel
theorem dX3_init_36 : decode cX3_init 36 = .ok (.getfield 12, 3) := by decide +kernel
theorem dX3_init_39 : decode cX3_init 39 = .ok (.invokespecial 27, 3) := by decide +kernel
theorem dX3_init_42 : decode cX3_init 42 = .ok (.putfield 28, 3) := by decide +kernel
theorem dX3_init_45 : decode cX3_init 45 = .ok (.return_, 1) := by decide +kernel
theorem dX3_addState_0 : decode cX3_addState 0 = .ok (.aload_n 0, 1) := by decide +kernel
theorem dX3_addState_1 : decode cX3_addState 1 = .ok (.getfield 12, 3) := by decide +kernel
theorem dX3_addState_4 : decode cX3_addState 4 = .ok (.getfield 32, 3) := by decide +kernel
theorem dX3_addState_7 : decode cX3_addState 7 = .ok (.bipush 12, 2) := by decide +kernel
theorem dX3_addState_9 : decode cX3_addState 9 = .ok (.if_icmp .lt 13, 3) := by decide +kernel
theorem dX3_addState_12 : decode cX3_addState 12 = .ok (.new 36, 3) := by decide +kernel
theorem dX3_addState_15 : decode cX3_addState 15 = .ok (.dup, 1) := by decide +kernel
theorem dX3_addState_16 : decode cX3_addState 16 = .ok (.ldc 38, 2) := by decide +kernel
theorem dX3_addState_18 : decode cX3_addState 18 = .ok (.invokespecial 40, 3) := by decide +kernel
theorem dX3_addState_21 : decode cX3_addState 21 = .ok (.athrow, 1) := by decide +kernel
theorem dX3_addState_22 : decode cX3_addState 22 = .ok (.aload_n 0, 1) := by decide +kernel
theorem dX3_addState_23 : decode cX3_addState 23 = .ok (.getfield 28, 3) := by decide +kernel
theorem dX3_addState_26 : decode cX3_addState 26 = .ok (.iconst 0, 1) := by decide +kernel
theorem dX3_addState_27 : decode cX3_addState 27 = .ok (.putfield 43, 3) := by decide +kernel
theorem dX3_addState_30 : decode cX3_addState 30 = .ok (.aload_n 0, 1) := by decide +kernel
theorem dX3_addState_31 : decode cX3_addState 31 = .ok (.getfield 12, 3) := by decide +kernel
theorem dX3_addState_34 : decode cX3_addState 34 = .ok (.dup, 1) := by decide +kernel
theorem dX3_addState_35 : decode cX3_addState 35 = .ok (.getfield 32, 3) := by decide +kernel
theorem dX3_addState_38 : decode cX3_addState 38 = .ok (.iconst 1, 1) := by decide +kernel
theorem dX3_addState_39 : decode cX3_addState 39 = .ok (.iadd, 1) := by decide +kernel
theorem dX3_addState_40 : decode cX3_addState 40 = .ok (.putfield 32, 3) := by decide +kernel
theorem dX3_addState_43 : decode cX3_addState 43 = .ok (.aload_n 0, 1) := by decide +kernel
theorem dX3_addState_44 : decode cX3_addState 44 = .ok (.getfield 12, 3) := by decide +kernel
theorem dX3_addState_47 : decode cX3_addState 47 = .ok (.getfield 32, 3) := by decide +kernel
theorem dX3_addState_50 : decode cX3_addState 50 = .ok (.iconst 1, 1) := by decide +kernel
theorem dX3_addState_51 : decode cX3_addState 51 = .ok (.isub, 1) := by decide +kernel
theorem dX3_addState_52 : decode cX3_addState 52 = .ok (.ireturn, 1) := by decide +kernel
set_option maxRecDepth 20000 in
theorem ggX3_addTransition_X3_isBelow : GoodIn wsX3_addTransition wsX3_isBelow := goodIn_r _ [17] (by decide +kernel) (by decide +kernel)
set_option maxRecDepth 20000 in
theorem gX3_addTransition_X3_isBelow : GoodIn wsX3_addTransition (va_wsS RX3 47 yX3_isBelow wsX3_isBelow) := goodIn_app (goodIn_of _ (by decide +kernel)) ggX3_addTransition_X3_isBelow
set_option maxRecDepth 20000 in
theorem ggX3_addTransition_X3_isNumber : GoodIn wsX3_addTransition wsX3_isNumber := goodIn_r _ [20] (by decide +kernel) (by decide +kernel)
set_option maxRecDepth 20000 in
theorem gX3_addTransition_X3_isNumber : GoodIn wsX3_addTransition (va_wsS RX3 60 yX3_isNumber wsX3_isNumber) := goodIn_app (goodIn_of _ (by decide +kernel)) ggX3_addTransition_X3_isNumber
set_option maxRecDepth 20000 in
theorem ggX3_addTransition_X1_append : GoodIn wsX3_addTransition wsX1_append := goodIn_r _ [25, 26, 27, 28, 29, 30, 31, 32, 33, 41, 42, 43, 44, 45, 46, 47, 48, 49, 50, 51, 52, 53] (by decide +kernel) (by decide +kernel)
set_option maxRecDepth 20000 in
theorem gX3_addTransition_X1_append : GoodIn wsX3_addTransition (wsV RX3 74 RX1 yX1_append wsX1_append) := goodIn_app (goodIn_of _ (by decide +kernel)) ggX3_addTransition_X1_append
set_option maxRecDepth 20000 in
theorem ggX3_addTransition_X1_guard : GoodIn wsX3_addTransition wsX1_guard := goodIn_r _ [37, 30, 31, 32, 41, 42, 43, 44, 45, 46, 47, 48, 49, 50, 51, 52, 53] (by decide +kernel) (by decide +kernel)
set_option maxRecDepth 20000 in
theorem gX3_addTransition_X1_guard : GoodIn wsX3_addTransition (wsV RX3 78 RX1 yX1_guard wsX1_guard) := goodIn_app (goodIn_of _ (by decide +kernel)) ggX3_addTransition_X1_guard
theorem dX3_addTransition_0 : decode cX3_addTransition 0 = .ok (.iload_n 1, 1) := by decide +kernel
theorem dX3_addTransition_1 : decode cX3_addTransition 1 = .ok (.aload_n 0, 1) := by decide +kernel
theorem dX3_addTransition_2 : decode cX3_addTransition 2 = .ok (.getfield 12, 3) := by decide +kernel
theorem dX3_addTransition_5 : decode cX3_addTransition 5 = .ok (.getfield 32, 3) := by decide +kernel
theorem dX3_addTransition_8 : decode cX3_addTransition 8 = .ok (.invokestatic 47, 3) := by decide +kernel
theorem dX3_addTransition_11 : decode cX3_addTransition 11 = .ok (.ifCond .eq 18, 3) := by decide +kernel
theorem dX3_addTransition_14 : decode cX3_addTransition 14 = .ok (.iload 6, 2) := by decide +kernel
theorem dX3_addTransition_16 : decode cX3_addTransition 16 = .ok (.aload_n 0, 1) := by decide +kernel
theorem dX3_addTransition_17 : decode cX3_addTransition 17 = .ok (.getfield 12, 3) := by decide +kernel
theorem dX3_addTransition_20 : decode cX3_addTransition 20 = .ok (.getfield 32, 3) := by decide +kernel
theorem dX3_addTransition_23 : decode cX3_addTransition 23 = .ok (.invokestatic 47, 3) := by decide +kernel
theorem dX3_addTransition_26 : decode cX3_addTransition 26 = .ok (.ifCond .ne 13, 3) := by decide +kernel
theorem dX3_addTransition_29 : decode cX3_addTransition 29 = .ok (.new 51, 3) := by decide +kernel
theorem dX3_addTransition_32 : decode cX3_addTransition 32 = .ok (.dup, 1) := by decide +kernel
theorem dX3_addTransition_33 : decode cX3_addTransition 33 = .ok (.ldc 53, 2) := by decide +kernel
theorem dX3_addTransition_35 : decode cX3_addTransition 35 = .ok (.invokespecial 55, 3) := by decide +kernel
theorem dX3_addTransition_38 : decode cX3_addTransition 38 = .ok (.athrow, 1) := by decide +kernel
theorem dX3_addTransition_39 : decode cX3_addTransition 39 = .ok (.iload_n 2, 1) := by decide +kernel
theorem dX3_addTransition_40 : decode cX3_addTransition 40 = .ok (.bipush 8, 2) := by decide +kernel
theorem dX3_addTransition_42 : decode cX3_addTransition 42 = .ok (.invokestatic 47, 3) := by decide +kernel
theorem dX3_addTransition_45 : decode cX3_addTransition 45 = .ok (.ifCond .ne 13, 3) := by decide +kernel
theorem dX3_addTransition_48 : decode cX3_addTransition 48 = .ok (.new 51, 3) := by decide +kernel
theorem dX3_addTransition_51 : decode cX3_addTransition 51 = .ok (.dup, 1) := by decide +kernel
theorem dX3_addTransition_52 : decode cX3_addTransition 52 = .ok (.ldc 56, 2) := by decide +kernel
theorem dX3_addTransition_54 : decode cX3_addTransition 54 = .ok (.invokespecial 55, 3) := by decide +kernel
theorem dX3_addTransition_57 : decode cX3_addTransition 57 = .ok (.athrow, 1) := by decide +kernel
theorem dX3_addTransition_58 : decode cX3_addTransition 58 = .ok (.iload_n 3, 1) := by decide +kernel
theorem dX3_addTransition_59 : decode cX3_addTransition 59 = .ok (.iconst (-1), 1) := by decide +kernel
theorem dX3_addTransition_60 : decode cX3_addTransition 60 = .ok (.if_icmp .eq 21, 3) := by decide +kernel
theorem dX3_addTransition_63 : decode cX3_addTransition 63 = .ok (.iload_n 3, 1) := by decide +kernel
theorem dX3_addTransition_64 : decode cX3_addTransition 64 = .ok (.iconst 3, 1) := by decide +kernel
theorem dX3_addTransition_65 : decode cX3_addTransition 65 = .ok (.invokestatic 47, 3) := by decide +kernel
theorem dX3_addTransition_68 : decode cX3_addTransition 68 = .ok (.ifCond .ne 13, 3) := by decide +kernel
theorem dX3_addTransition_71 : decode cX3_addTransition 71 = .ok (.new 51, 3) := by decide +kernel
theorem dX3_addTransition_74 : decode cX3_addTransition 74 = .ok (.dup, 1) := by decide +kernel
theorem dX3_addTransition_75 : decode cX3_addTransition 75 = .ok (.ldc 58, 2) := by decide +kernel
theorem dX3_addTransition_77 : decode cX3_addTransition 77 = .ok (.invokespecial 55, 3) := by decide +kernel
theorem dX3_addTransition_80 : decode cX3_addTransition 80 = .ok (.athrow, 1) := by decide +kernel
theorem dX3_addTransition_81 : decode cX3_addTransition 81 = .ok (.iload_n 3, 1) := by decide +kernel
theorem dX3_addTransition_82 : decode cX3_addTransition 82 = .ok (.iconst (-1), 1) := by decide +kernel
theorem dX3_addTransition_83 : decode cX3_addTransition 83 = .ok (.if_icmp .eq 32, 3) := by decide +kernel
theorem dX3_addTransition_86 : decode cX3_addTransition 86 = .ok (.iload 4, 2) := by decide +kernel
theorem dX3_addTransition_88 : decode cX3_addTransition 88 = .ok (.ifCond .lt 17, 3) := by decide +kernel
theorem dX3_addTransition_91 : decode cX3_addTransition 91 = .ok (.iload 4, 2) := by decide +kernel
theorem dX3_addTransition_93 : decode cX3_addTransition 93 = .ok (.iconst 2, 1) := by decide +kernel
theorem dX3_addTransition_94 : decode cX3_addTransition 94 = .ok (.if_icmp .gt 11, 3) := by decide +kernel
theorem dX3_addTransition_97 : decode cX3_addTransition 97 = .ok (.iload 5, 2) := by decide +kernel
theorem dX3_addTransition_99 : decode cX3_addTransition 99 = .ok (.invokestatic 60, 3) := by decide +kernel
theorem dX3_addTransition_102 : decode cX3_addTransition 102 = .ok (.ifCond .ne 13, 3) := by decide +kernel
theorem dX3_addTransition_105 : decode cX3_addTransition 105 = .ok (.new 64, 3) := by decide +kernel
theorem dX3_addTransition_108 : decode cX3_addTransition 108 = .ok (.dup, 1) := by decide +kernel
theorem dX3_addTransition_109 : decode cX3_addTransition 109 = .ok (.ldc 66, 2) := by decide +kernel
theorem dX3_addTransition_111 : decode cX3_addTransition 111 = .ok (.invokespecial 68, 3) := by decide +kernel
theorem dX3_addTransition_114 : decode cX3_addTransition 114 = .ok (.athrow, 1) := by decide +kernel
theorem dX3_addTransition_115 : decode cX3_addTransition 115 = .ok (.aload_n 0, 1) := by decide +kernel
theorem dX3_addTransition_116 : decode cX3_addTransition 116 = .ok (.getfield 12, 3) := by decide +kernel
theorem dX3_addTransition_119 : decode cX3_addTransition 119 = .ok (.getfield 69, 3) := by decide +kernel
theorem dX3_addTransition_122 : decode cX3_addTransition 122 = .ok (.bipush 40, 2) := by decide +kernel
theorem dX3_addTransition_124 : decode cX3_addTransition 124 = .ok (.if_icmp .lt 13, 3) := by decide +kernel
theorem dX3_addTransition_127 : decode cX3_addTransition 127 = .ok (.new 36, 3) := by decide +kernel
theorem dX3_addTransition_130 : decode cX3_addTransition 130 = .ok (.dup, 1) := by decide +kernel
theorem dX3_addTransition_131 : decode cX3_addTransition 131 = .ok (.ldc 72, 2) := by decide +kernel
theorem dX3_addTransition_133 : decode cX3_addTransition 133 = .ok (.invokespecial 40, 3) := by decide +kernel
theorem dX3_addTransition_136 : decode cX3_addTransition 136 = .ok (.athrow, 1) := by decide +kernel
theorem dX3_addTransition_137 : decode cX3_addTransition 137 = .ok (.aload_n 0, 1) := by decide +kernel
theorem dX3_addTransition_138 : decode cX3_addTransition 138 = .ok (.getfield 28, 3) := by decide +kernel
theorem dX3_addTransition_141 : decode cX3_addTransition 141 = .ok (.iconst 0, 1) := by decide +kernel
theorem dX3_addTransition_142 : decode cX3_addTransition 142 = .ok (.putfield 43, 3) := by decide +kernel
theorem dX3_addTransition_145 : decode cX3_addTransition 145 = .ok (.aload_n 0, 1) := by decide +kernel
theorem dX3_addTransition_146 : decode cX3_addTransition 146 = .ok (.getfield 12, 3) := by decide +kernel
theorem dX3_addTransition_149 : decode cX3_addTransition 149 = .ok (.iload_n 1, 1) := by decide +kernel
theorem dX3_addTransition_150 : decode cX3_addTransition 150 = .ok (.iload_n 2, 1) := by decide +kernel
theorem dX3_addTransition_151 : decode cX3_addTransition 151 = .ok (.iload 6, 2) := by decide +kernel
theorem dX3_addTransition_153 : decode cX3_addTransition 153 = .ok (.invokevirtual 74, 3) := by decide +kernel
theorem dX3_addTransition_156 : decode cX3_addTransition 156 = .ok (.istore 7, 2) := by decide +kernel
theorem dX3_addTransition_158 : decode cX3_addTransition 158 = .ok (.iload_n 3, 1) := by decide +kernel
theorem dX3_addTransition_159 : decode cX3_addTransition 159 = .ok (.iconst (-1), 1) := by decide +kernel
theorem dX3_addTransition_160 : decode cX3_addTransition 160 = .ok (.if_icmp .eq 17, 3) := by decide +kernel
theorem dX3_addTransition_163 : decode cX3_addTransition 163 = .ok (.aload_n 0, 1) := by decide +kernel
theorem dX3_addTransition_164 : decode cX3_addTransition 164 = .ok (.getfield 12, 3) := by decide +kernel
theorem dX3_addTransition_167 : decode cX3_addTransition 167 = .ok (.iload 7, 2) := by decide +kernel
theorem dX3_addTransition_169 : decode cX3_addTransition 169 = .ok (.iload_n 3, 1) := by decide +kernel
theorem dX3_addTransition_170 : decode cX3_addTransition 170 = .ok (.iload 4, 2) := by decide +kernel
theorem dX3_addTransition_172 : decode cX3_addTransition 172 = .ok (.iload 5, 2) := by decide +kernel
theorem dX3_addTransition_174 : decode cX3_addTransition 174 = .ok (.invokevirtual 78, 3) := by decide +kernel
theorem dX3_addTransition_177 : decode cX3_addTransition 177 = .ok (.aload_n 0, 1) := by decide +kernel
theorem dX3_addTransition_178 : decode cX3_addTransition 178 = .ok (.getfield 21, 3) := by decide +kernel
theorem dX3_addTransition_181 : decode cX3_addTransition 181 = .ok (.getfield 82, 3) := by decide +kernel
theorem dX3_addTransition_184 : decode cX3_addTransition 184 = .ok (.iload 7, 2) := by decide +kernel
theorem dX3_addTransition_186 : decode cX3_addTransition 186 = .ok (.iconst 0, 1) := by decide +kernel
theorem dX3_addTransition_187 : decode cX3_addTransition 187 = .ok (.iastore, 1) := by decide +kernel
theorem dX3_addTransition_188 : decode cX3_addTransition 188 = .ok (.iload 7, 2) := by decide +kernel
theorem dX3_addTransition_190 : decode cX3_addTransition 190 = .ok (.ireturn, 1) := by decide +kernel
set_option maxRecDepth 20000 in
theorem ggX3_addAction_X3_isBelow : GoodIn wsX3_addAction wsX3_isBelow := goodIn_r _ [15] (by decide +kernel) (by decide +kernel)
set_option maxRecDepth 20000 in
theorem gX3_addAction_X3_isBelow : GoodIn wsX3_addAction (va_wsS RX3 47 yX3_isBelow wsX3_isBelow) := goodIn_app (goodIn_of _ (by decide +kernel)) ggX3_addAction_X3_isBelow
set_option maxRecDepth 20000 in
theorem ggX3_addAction_X3_isAction : GoodIn wsX3_addAction wsX3_isAction := goodIn_r _ [18, 12, 13, 14, 15, 19, 20, 21] (by decide +kernel) (by decide +kernel)
set_option maxRecDepth 20000 in
theorem gX3_addAction_X3_isAction : GoodIn wsX3_addAction (va_wsS RX3 88 yX3_isAction wsX3_isAction) := goodIn_app (goodIn_of _ (by decide +kernel)) ggX3_addAction_X3_isAction
set_option maxRecDepth 20000 in
theorem ggX3_addAction_X1_appendAction : GoodIn wsX3_addAction wsX1_appendAction := goodIn_r _ [26, 27, 28, 29, 30, 34, 35, 36, 37, 38, 39, 40, 41, 42, 43, 44, 45, 46] (by decide +kernel) (by decide +kernel)
set_option maxRecDepth 20000 in
theorem gX3_addAction_X1_appendAction : GoodIn wsX3_addAction (wsV RX3 99 RX1 yX1_appendAction wsX1_appendAction) := goodIn_app (goodIn_of _ (by decide +kernel)) ggX3_addAction_X1_appendAction
theorem dX3_addAction_0 : decode cX3_addAction 0 = .ok (.iload_n 1, 1) := by decide +kernel
theorem dX3_addAction_1 : decode cX3_addAction 1 = .ok (.aload_n 0, 1) := by decide +kernel
theorem dX3_addAction_2 : decode cX3_addAction 2 = .ok (.getfield 12, 3) := by decide +kernel
theorem dX3_addAction_5 : decode cX3_addAction 5 = .ok (.getfield 69, 3) := by decide +kernel
theorem dX3_addAction_8 : decode cX3_addAction 8 = .ok (.invokestatic 47, 3) := by decide +kernel
theorem dX3_addAction_11 : decode cX3_addAction 11 = .ok (.ifCond .ne 13, 3) := by decide +kernel
theorem dX3_addAction_14 : decode cX3_addAction 14 = .ok (.new 51, 3) := by decide +kernel
theorem dX3_addAction_17 : decode cX3_addAction 17 = .ok (.dup, 1) := by decide +kernel
theorem dX3_addAction_18 : decode cX3_addAction 18 = .ok (.ldc 86, 2) := by decide +kernel
theorem dX3_addAction_20 : decode cX3_addAction 20 = .ok (.invokespecial 55, 3) := by decide +kernel
theorem dX3_addAction_23 : decode cX3_addAction 23 = .ok (.athrow, 1) := by decide +kernel
theorem dX3_addAction_24 : decode cX3_addAction 24 = .ok (.iload_n 2, 1) := by decide +kernel
theorem dX3_addAction_25 : decode cX3_addAction 25 = .ok (.iload_n 3, 1) := by decide +kernel
theorem dX3_addAction_26 : decode cX3_addAction 26 = .ok (.iload 4, 2) := by decide +kernel
theorem dX3_addAction_28 : decode cX3_addAction 28 = .ok (.invokestatic 88, 3) := by decide +kernel
theorem dX3_addAction_31 : decode cX3_addAction 31 = .ok (.ifCond .ne 13, 3) := by decide +kernel
theorem dX3_addAction_34 : decode cX3_addAction 34 = .ok (.new 64, 3) := by decide +kernel
theorem dX3_addAction_37 : decode cX3_addAction 37 = .ok (.dup, 1) := by decide +kernel
theorem dX3_addAction_38 : decode cX3_addAction 38 = .ok (.ldc 92, 2) := by decide +kernel
theorem dX3_addAction_40 : decode cX3_addAction 40 = .ok (.invokespecial 68, 3) := by decide +kernel
theorem dX3_addAction_43 : decode cX3_addAction 43 = .ok (.athrow, 1) := by decide +kernel
theorem dX3_addAction_44 : decode cX3_addAction 44 = .ok (.aload_n 0, 1) := by decide +kernel
theorem dX3_addAction_45 : decode cX3_addAction 45 = .ok (.getfield 12, 3) := by decide +kernel
theorem dX3_addAction_48 : decode cX3_addAction 48 = .ok (.getfield 94, 3) := by decide +kernel
theorem dX3_addAction_51 : decode cX3_addAction 51 = .ok (.iload_n 1, 1) := by decide +kernel
theorem dX3_addAction_52 : decode cX3_addAction 52 = .ok (.iaload, 1) := by decide +kernel
theorem dX3_addAction_53 : decode cX3_addAction 53 = .ok (.iconst 3, 1) := by decide +kernel
theorem dX3_addAction_54 : decode cX3_addAction 54 = .ok (.if_icmp .lt 13, 3) := by decide +kernel
theorem dX3_addAction_57 : decode cX3_addAction 57 = .ok (.new 36, 3) := by decide +kernel
theorem dX3_addAction_60 : decode cX3_addAction 60 = .ok (.dup, 1) := by decide +kernel
theorem dX3_addAction_61 : decode cX3_addAction 61 = .ok (.ldc 97, 2) := by decide +kernel
theorem dX3_addAction_63 : decode cX3_addAction 63 = .ok (.invokespecial 40, 3) := by decide +kernel
theorem dX3_addAction_66 : decode cX3_addAction 66 = .ok (.athrow, 1) := by decide +kernel
theorem dX3_addAction_67 : decode cX3_addAction 67 = .ok (.aload_n 0, 1) := by decide +kernel
theorem dX3_addAction_68 : decode cX3_addAction 68 = .ok (.getfield 28, 3) := by decide +kernel
theorem dX3_addAction_71 : decode cX3_addAction 71 = .ok (.iconst 0, 1) := by decide +kernel
theorem dX3_addAction_72 : decode cX3_addAction 72 = .ok (.putfield 43, 3) := by decide +kernel
theorem dX3_addAction_75 : decode cX3_addAction 75 = .ok (.aload_n 0, 1) := by decide +kernel
theorem dX3_addAction_76 : decode cX3_addAction 76 = .ok (.getfield 12, 3) := by decide +kernel
theorem dX3_addAction_79 : decode cX3_addAction 79 = .ok (.iload_n 1, 1) := by decide +kernel
theorem dX3_addAction_80 : decode cX3_addAction 80 = .ok (.iload_n 2, 1) := by decide +kernel
theorem dX3_addAction_81 : decode cX3_addAction 81 = .ok (.iload_n 3, 1) := by decide +kernel
theorem dX3_addAction_82 : decode cX3_addAction 82 = .ok (.iload 4, 2) := by decide +kernel
theorem dX3_addAction_84 : decode cX3_addAction 84 = .ok (.invokevirtual 99, 3) := by decide +kernel
theorem dX3_addAction_87 : decode cX3_addAction 87 = .ok (.ireturn, 1) := by decide +kernel
theorem dX3_drop_0 : decode cX3_drop 0 = .ok (.aload_n 0, 1) := by decide +kernel
theorem dX3_drop_1 : decode cX3_drop 1 = .ok (.getfield 12, 3) := by decide +kernel
theorem dX3_drop_4 : decode cX3_drop 4 = .ok (.getfield 69, 3) := by decide +kernel
theorem dX3_drop_7 : decode cX3_drop 7 = .ok (.ifCond .gt 13, 3) := by decide +kernel
theorem dX3_drop_10 : decode cX3_drop 10 = .ok (.new 36, 3) := by decide +kernel
theorem dX3_drop_13 : decode cX3_drop 13 = .ok (.dup, 1) := by decide +kernel
theorem dX3_drop_14 : decode cX3_drop 14 = .ok (.ldc 103, 2) := by decide +kernel
theorem dX3_drop_16 : decode cX3_drop 16 = .ok (.invokespecial 40, 3) := by decide +kernel
theorem dX3_drop_19 : decode cX3_drop 19 = .ok (.athrow, 1) := by decide +kernel
theorem dX3_drop_20 : decode cX3_drop 20 = .ok (.aload_n 0, 1) := by decide +kernel
theorem dX3_drop_21 : decode cX3_drop 21 = .ok (.getfield 28, 3) := by decide +kernel
theorem dX3_drop_24 : decode cX3_drop 24 = .ok (.iconst 0, 1) := by decide +kernel
theorem dX3_drop_25 : decode cX3_drop 25 = .ok (.putfield 43, 3) := by decide +kernel
theorem dX3_drop_28 : decode cX3_drop 28 = .ok (.aload_n 0, 1) := by decide +kernel
theorem dX3_drop_29 : decode cX3_drop 29 = .ok (.getfield 12, 3) := by decide +kernel
theorem dX3_drop_32 : decode cX3_drop 32 = .ok (.dup, 1) := by decide +kernel
theorem dX3_drop_33 : decode cX3_drop 33 = .ok (.getfield 69, 3) := by decide +kernel
theorem dX3_drop_36 : decode cX3_drop 36 = .ok (.iconst 1, 1) := by decide +kernel
theorem dX3_drop_37 : decode cX3_drop 37 = .ok (.isub, 1) := by decide +kernel
theorem dX3_drop_38 : decode cX3_drop 38 = .ok (.putfield 69, 3) := by decide +kernel
theorem dX3_drop_41 : decode cX3_drop 41 = .ok (.aload_n 0, 1) := by decide +kernel
theorem dX3_drop_42 : decode cX3_drop 42 = .ok (.getfield 12, 3) := by decide +kernel
theorem dX3_drop_45 : decode cX3_drop 45 = .ok (.getfield 69, 3) := by decide +kernel
theorem dX3_drop_48 : decode cX3_drop 48 = .ok (.ireturn, 1) := by decide +kernel
set_option maxRecDepth 20000 in
theorem ggX3_setTimerEvent_X3_isBelow : GoodIn wsX3_setTimerEvent wsX3_isBelow := goodIn_r _ [10] (by decide +kernel) (by decide +kernel)
set_option maxRecDepth 20000 in
theorem gX3_setTimerEvent_X3_isBelow : GoodIn wsX3_setTimerEvent (va_wsS RX3 47 yX3_isBelow wsX3_isBelow) := goodIn_app (goodIn_of _ (by decide +kernel)) ggX3_setTimerEvent_X3_isBelow
theorem dX3_setTimerEvent_0 : decode cX3_setTimerEvent 0 = .ok (.iload_n 1, 1) := by decide +kernel
theorem dX3_setTimerEvent_1 : decode cX3_setTimerEvent 1 = .ok (.iconst 4, 1) := by decide +kernel
theorem dX3_setTimerEvent_2 : decode cX3_setTimerEvent 2 = .ok (.invokestatic 47, 3) := by decide +kernel
theorem dX3_setTimerEvent_5 : decode cX3_setTimerEvent 5 = .ok (.ifCond .eq 12, 3) := by decide +kernel
theorem dX3_setTimerEvent_8 : decode cX3_setTimerEvent 8 = .ok (.iload_n 2, 1) := by decide +kernel
theorem dX3_setTimerEvent_9 : decode cX3_setTimerEvent 9 = .ok (.bipush 8, 2) := by decide +kernel
theorem dX3_setTimerEvent_11 : decode cX3_setTimerEvent 11 = .ok (.invokestatic 47, 3) := by decide +kernel
theorem dX3_setTimerEvent_14 : decode cX3_setTimerEvent 14 = .ok (.ifCond .ne 13, 3) := by decide +kernel
theorem dX3_setTimerEvent_17 : decode cX3_setTimerEvent 17 = .ok (.new 51, 3) := by decide +kernel
theorem dX3_setTimerEvent_20 : decode cX3_setTimerEvent 20 = .ok (.dup, 1) := by decide +kernel
theorem dX3_setTimerEvent_21 : decode cX3_setTimerEvent 21 = .ok (.ldc 105, 2) := by decide +kernel
theorem dX3_setTimerEvent_23 : decode cX3_setTimerEvent 23 = .ok (.invokespecial 55, 3) := by decide +kernel
theorem dX3_setTimerEvent_26 : decode cX3_setTimerEvent 26 = .ok (.athrow, 1) := by decide +kernel
theorem dX3_setTimerEvent_27 : decode cX3_setTimerEvent 27 = .ok (.aload_n 0, 1) := by decide +kernel
theorem dX3_setTimerEvent_28 : decode cX3_setTimerEvent 28 = .ok (.getfield 28, 3) := by decide +kernel
theorem dX3_setTimerEvent_31 : decode cX3_setTimerEvent 31 = .ok (.iconst 0, 1) := by decide +kernel
theorem dX3_setTimerEvent_32 : decode cX3_setTimerEvent 32 = .ok (.putfield 43, 3) := by decide +kernel
theorem dX3_setTimerEvent_35 : decode cX3_setTimerEvent 35 = .ok (.aload_n 0, 1) := by decide +kernel
theorem dX3_setTimerEvent_36 : decode cX3_setTimerEvent 36 = .ok (.getfield 12, 3) := by decide +kernel
theorem dX3_setTimerEvent_39 : decode cX3_setTimerEvent 39 = .ok (.getfield 107, 3) := by decide +kernel
theorem dX3_setTimerEvent_42 : decode cX3_setTimerEvent 42 = .ok (.iload_n 1, 1) := by decide +kernel
theorem dX3_setTimerEvent_43 : decode cX3_setTimerEvent 43 = .ok (.iaload, 1) := by decide +kernel
theorem dX3_setTimerEvent_44 : decode cX3_setTimerEvent 44 = .ok (.istore_n 3, 1) := by decide +kernel
theorem dX3_setTimerEvent_45 : decode cX3_setTimerEvent 45 = .ok (.aload_n 0, 1) := by decide +kernel
theorem dX3_setTimerEvent_46 : decode cX3_setTimerEvent 46 = .ok (.getfield 12, 3) := by decide +kernel
theorem dX3_setTimerEvent_49 : decode cX3_setTimerEvent 49 = .ok (.getfield 107, 3) := by decide +kernel
theorem dX3_setTimerEvent_52 : decode cX3_setTimerEvent 52 = .ok (.iload_n 1, 1) := by decide +kernel
theorem dX3_setTimerEvent_53 : decode cX3_setTimerEvent 53 = .ok (.iload_n 2, 1) := by decide +kernel
theorem dX3_setTimerEvent_54 : decode cX3_setTimerEvent 54 = .ok (.iastore, 1) := by decide +kernel
theorem dX3_setTimerEvent_55 : decode cX3_setTimerEvent 55 = .ok (.iload_n 3, 1) := by decide +kernel
theorem dX3_setTimerEvent_56 : decode cX3_setTimerEvent 56 = .ok (.ireturn, 1) := by decide +kernel
theorem dX3_stateCount_0 : decode cX3_stateCount 0 = .ok (.aload_n 0, 1) := by decide +kernel
theorem dX3_stateCount_1 : decode cX3_stateCount 1 = .ok (.getfield 12, 3) := by decide +kernel
theorem dX3_stateCount_4 : decode cX3_stateCount 4 = .ok (.getfield 32, 3) := by decide +kernel
theorem dX3_stateCount_7 : decode cX3_stateCount 7 = .ok (.ireturn, 1) := by decide +kernel
theorem dX3_transitionCount_0 : decode cX3_transitionCount 0 = .ok (.aload_n 0, 1) := by decide +kernel
theorem dX3_transitionCount_1 : decode cX3_transitionCount 1 = .ok (.getfield 12, 3) := by decide +kernel
theorem dX3_transitionCount_4 : decode cX3_transitionCount 4 = .ok (.getfield 69, 3) := by decide +kernel
theorem dX3_transitionCount_7 : decode cX3_transitionCount 7 = .ok (.ireturn, 1) := by decide +kernel
set_option maxRecDepth 20000 in
theorem ggX3_isHidden_X3_isBelow : GoodIn wsX3_isHidden wsX3_isBelow := goodIn_r _ [8] (by decide +kernel) (by decide +kernel)
set_option maxRecDepth 20000 in
theorem gX3_isHidden_X3_isBelow : GoodIn wsX3_isHidden (va_wsS RX3 47 yX3_isBelow wsX3_isBelow) := goodIn_app (goodIn_of _ (by decide +kernel)) ggX3_isHidden_X3_isBelow
set_option maxRecDepth 20000 in
theorem ggX3_isHidden_X1_isBehindAnother : GoodIn wsX3_isHidden wsX1_isBehindAnother := goodIn_r _ [13, 14, 15, 16, 17, 18, 12, 19, 20, 21, 22, 23, 24, 25, 26, 27, 28, 29, 30, 34, 35, 36, 37, 38, 39, 40, 41, 42, 43, 44, 45, 46] (by decide +kernel) (by decide +kernel)
set_option maxRecDepth 20000 in
theorem gX3_isHidden_X1_isBehindAnother : GoodIn wsX3_isHidden (wsV RX3 110 RX1 yX1_isBehindAnother wsX1_isBehindAnother) := goodIn_app (goodIn_of _ (by decide +kernel)) ggX3_isHidden_X1_isBehindAnother
theorem dX3_isHidden_0 : decode cX3_isHidden 0 = .ok (.iload_n 1, 1) := by decide +kernel
theorem dX3_isHidden_1 : decode cX3_isHidden 1 = .ok (.aload_n 0, 1) := by decide +kernel
theorem dX3_isHidden_2 : decode cX3_isHidden 2 = .ok (.getfield 12, 3) := by decide +kernel
theorem dX3_isHidden_5 : decode cX3_isHidden 5 = .ok (.getfield 69, 3) := by decide +kernel
theorem dX3_isHidden_8 : decode cX3_isHidden 8 = .ok (.invokestatic 47, 3) := by decide +kernel
theorem dX3_isHidden_11 : decode cX3_isHidden 11 = .ok (.ifCond .ne 13, 3) := by decide +kernel
theorem dX3_isHidden_14 : decode cX3_isHidden 14 = .ok (.new 51, 3) := by decide +kernel
theorem dX3_isHidden_17 : decode cX3_isHidden 17 = .ok (.dup, 1) := by decide +kernel
theorem dX3_isHidden_18 : decode cX3_isHidden 18 = .ok (.ldc 86, 2) := by decide +kernel
theorem dX3_isHidden_20 : decode cX3_isHidden 20 = .ok (.invokespecial 55, 3) := by decide +kernel
theorem dX3_isHidden_23 : decode cX3_isHidden 23 = .ok (.athrow, 1) := by decide +kernel
theorem dX3_isHidden_24 : decode cX3_isHidden 24 = .ok (.aload_n 0, 1) := by decide +kernel
theorem dX3_isHidden_25 : decode cX3_isHidden 25 = .ok (.getfield 12, 3) := by decide +kernel
theorem dX3_isHidden_28 : decode cX3_isHidden 28 = .ok (.iload_n 1, 1) := by decide +kernel
theorem dX3_isHidden_29 : decode cX3_isHidden 29 = .ok (.invokevirtual 110, 3) := by decide +kernel
theorem dX3_isHidden_32 : decode cX3_isHidden 32 = .ok (.ireturn, 1) := by decide +kernel
set_option maxRecDepth 20000 in
theorem ggX3_restart_X0_begin : GoodIn wsX3_restart wsX0_begin := goodIn_r _ [7, 8, 9, 10, 11, 12, 13, 14, 15, 16, 17, 18, 19, 20, 21, 22, 23, 27, 28, 29, 30, 31, 32, 33, 34, 35, 36] (by decide +kernel) (by decide +kernel)
set_option maxRecDepth 20000 in
theorem gX3_restart_X0_begin : GoodIn wsX3_restart (wsV RX3 117 RX0 yX0_begin wsX0_begin) := goodIn_app (goodIn_of _ (by decide +kernel)) ggX3_restart_X0_begin
theorem dX3_restart_0 : decode cX3_restart 0 = .ok (.aload_n 0, 1) := by decide +kernel
theorem dX3_restart_1 : decode cX3_restart 1 = .ok (.getfield 21, 3) := by decide +kernel
theorem dX3_restart_4 : decode cX3_restart 4 = .ok (.getfield 113, 3) := by decide +kernel
theorem dX3_restart_7 : decode cX3_restart 7 = .ok (.lstore_n 1, 1) := by decide +kernel
theorem dX3_restart_8 : decode cX3_restart 8 = .ok (.aload_n 0, 1) := by decide +kernel
theorem dX3_restart_9 : decode cX3_restart 9 = .ok (.getfield 21, 3) := by decide +kernel
theorem dX3_restart_12 : decode cX3_restart 12 = .ok (.invokevirtual 117, 3) := by decide +kernel
theorem dX3_restart_15 : decode cX3_restart 15 = .ok (.lload_n 1, 1) := by decide +kernel
theorem dX3_restart_16 : decode cX3_restart 16 = .ok (.lreturn, 1) := by decide +kernel
set_option maxRecDepth 20000 in
theorem ggX3_happen_X3_isBelow : GoodIn wsX3_happen wsX3_isBelow := goodIn_r _ [7] (by decide +kernel) (by decide +kernel)
set_option maxRecDepth 20000 in
theorem gX3_happen_X3_isBelow : GoodIn wsX3_happen (va_wsS RX3 47 yX3_isBelow wsX3_isBelow) := goodIn_app (goodIn_of _ (by decide +kernel)) ggX3_happen_X3_isBelow
set_option maxRecDepth 20000 in
theorem ggX3_happen_X0_react : GoodIn wsX3_happen wsX0_react := goodIn_r _ [12, 13, 14, 15, 16, 17, 18, 19, 20, 21, 11, 22, 23, 24, 25, 26, 27, 28, 29, 30, 31, 32, 33, 34, 35, 36, 37, 38, 39, 40, 41, 42, 43, 44, 45, 46, 47, 48, 49, 50, 51, 52, 53, 54, 55, 56, 57, 58, 59, 60, 61, 62, 63, 64, 65, 66, 67, 68, 69, 70, 74, 75, 76, 77, 78, 79, 80, 81, 82, 83, 84, 85, 86, 87, 88, 89, 90, 91, 92, 93, 94, 95, 96] (by decide +kernel) (by decide +kernel)
set_option maxRecDepth 20000 in
theorem gX3_happen_X0_react : GoodIn wsX3_happen (wsV RX3 120 RX0 yX0_react wsX0_react) := goodIn_app (goodIn_of _ (by decide +kernel)) ggX3_happen_X0_react
theorem dX3_happen_0 : decode cX3_happen 0 = .ok (.iload_n 1, 1) := by decide +kernel
theorem dX3_happen_1 : decode cX3_happen 1 = .ok (.bipush 8, 2) := by decide +kernel
theorem dX3_happen_3 : decode cX3_happen 3 = .ok (.invokestatic 47, 3) := by decide +kernel
theorem dX3_happen_6 : decode cX3_happen 6 = .ok (.ifCond .ne 13, 3) := by decide +kernel
theorem dX3_happen_9 : decode cX3_happen 9 = .ok (.new 51, 3) := by decide +kernel
theorem dX3_happen_12 : decode cX3_happen 12 = .ok (.dup, 1) := by decide +kernel
theorem dX3_happen_13 : decode cX3_happen 13 = .ok (.ldc 56, 2) := by decide +kernel
theorem dX3_happen_15 : decode cX3_happen 15 = .ok (.invokespecial 55, 3) := by decide +kernel
theorem dX3_happen_18 : decode cX3_happen 18 = .ok (.athrow, 1) := by decide +kernel
theorem dX3_happen_19 : decode cX3_happen 19 = .ok (.aload_n 0, 1) := by decide +kernel
theorem dX3_happen_20 : decode cX3_happen 20 = .ok (.getfield 21, 3) := by decide +kernel
theorem dX3_happen_23 : decode cX3_happen 23 = .ok (.iload_n 1, 1) := by decide +kernel
theorem dX3_happen_24 : decode cX3_happen 24 = .ok (.invokevirtual 120, 3) := by decide +kernel
theorem dX3_happen_27 : decode cX3_happen 27 = .ok (.ireturn, 1) := by decide +kernel
set_option maxRecDepth 20000 in
theorem ggX3_advance_X0_goOn : GoodIn wsX3_advance wsX0_goOn := goodIn_r _ [8, 9, 10, 11, 12, 13, 14, 15, 16, 7, 17, 18, 19, 20, 21, 22, 23, 24, 25, 26, 27, 28, 29, 30, 31, 32, 33, 34, 35, 36, 37, 38, 39, 40, 41, 42, 43, 44, 45, 46, 47, 48, 49, 50, 51, 52, 53, 54, 55, 56, 57, 58, 59, 60, 61, 62, 63, 64, 65, 66, 67, 68, 69, 70, 71, 72, 73, 74, 75, 79, 80, 81, 82, 83, 84, 85, 86, 87, 88, 89, 90, 91, 92, 93, 94, 95, 96, 97, 98, 99, 100, 101] (by decide +kernel) (by decide +kernel)
set_option maxRecDepth 20000 in
theorem gX3_advance_X0_goOn : GoodIn wsX3_advance (wsV RX3 126 RX0 yX0_goOn wsX0_goOn) := goodIn_app (goodIn_of _ (by decide +kernel)) ggX3_advance_X0_goOn
