theorem dX4_restart_69 : decode cX4_restart 69 = .ok (.getfield 41, 3) := by decide +kernel
theorem dX4_restart_72 : decode cX4_restart 72 = .ok (.iload_n 3, 1) := by decide +kernel
theorem dX4_restart_73 : decode cX4_restart 73 = .ok (.iconst 0, 1) := by decide +kernel
theorem dX4_restart_74 : decode cX4_restart 74 = .ok (.iastore, 1) := by decide +kernel
theorem dX4_restart_75 : decode cX4_restart 75 = .ok (.iinc 3 1, 3) := by decide +kernel
theorem dX4_restart_78 : decode cX4_restart 78 = .ok (.goto (-16), 3) := by decide +kernel
theorem dX4_restart_81 : decode cX4_restart 81 = .ok (.aload_n 0, 1) := by decide +kernel
theorem dX4_restart_82 : decode cX4_restart 82 = .ok (.iconst 0, 1) := by decide +kernel
theorem dX4_restart_83 : decode cX4_restart 83 = .ok (.putfield 121, 3) := by decide +kernel
theorem dX4_restart_86 : decode cX4_restart 86 = .ok (.aload_n 0, 1) := by decide +kernel
theorem dX4_restart_87 : decode cX4_restart 87 = .ok (.iconst 0, 1) := by decide +kernel
theorem dX4_restart_88 : decode cX4_restart 88 = .ok (.putfield 124, 3) := by decide +kernel
theorem dX4_restart_91 : decode cX4_restart 91 = .ok (.lload_n 1, 1) := by decide +kernel
theorem dX4_restart_92 : decode cX4_restart 92 = .ok (.lreturn, 1) := by decide +kernel
theorem dX4_act_0 : decode cX4_act 0 = .ok (.iload_n 1, 1) := by decide +kernel
theorem dX4_act_1 : decode cX4_act 1 = .ok (.ifCond .ne 10, 3) := by decide +kernel
theorem dX4_act_4 : decode cX4_act 4 = .ok (.aload_n 0, 1) := by decide +kernel
theorem dX4_act_5 : decode cX4_act 5 = .ok (.getfield 44, 3) := by decide +kernel
theorem dX4_act_8 : decode cX4_act 8 = .ok (.iload_n 2, 1) := by decide +kernel
theorem dX4_act_9 : decode cX4_act 9 = .ok (.iload_n 3, 1) := by decide +kernel
theorem dX4_act_10 : decode cX4_act 10 = .ok (.iastore, 1) := by decide +kernel
theorem dX4_act_11 : decode cX4_act 11 = .ok (.iload_n 1, 1) := by decide +kernel
theorem dX4_act_12 : decode cX4_act 12 = .ok (.iconst 1, 1) := by decide +kernel
theorem dX4_act_13 : decode cX4_act 13 = .ok (.if_icmp .ne 29, 3) := by decide +kernel
theorem dX4_act_16 : decode cX4_act 16 = .ok (.aload_n 0, 1) := by decide +kernel
theorem dX4_act_17 : decode cX4_act 17 = .ok (.getfield 44, 3) := by decide +kernel
theorem dX4_act_20 : decode cX4_act 20 = .ok (.iload_n 2, 1) := by decide +kernel
theorem dX4_act_21 : decode cX4_act 21 = .ok (.sipush (-1000), 3) := by decide +kernel
theorem dX4_act_24 : decode cX4_act 24 = .ok (.sipush 1000, 3) := by decide +kernel
theorem dX4_act_27 : decode cX4_act 27 = .ok (.aload_n 0, 1) := by decide +kernel
theorem dX4_act_28 : decode cX4_act 28 = .ok (.getfield 44, 3) := by decide +kernel
theorem dX4_act_31 : decode cX4_act 31 = .ok (.iload_n 2, 1) := by decide +kernel
theorem dX4_act_32 : decode cX4_act 32 = .ok (.iaload, 1) := by decide +kernel
theorem dX4_act_33 : decode cX4_act 33 = .ok (.iload_n 3, 1) := by decide +kernel
theorem dX4_act_34 : decode cX4_act 34 = .ok (.iadd, 1) := by decide +kernel
theorem dX4_act_35 : decode cX4_act 35 = .ok (.invokestatic 127, 3) := by decide +kernel
theorem dX4_act_38 : decode cX4_act 38 = .ok (.invokestatic 133, 3) := by decide +kernel
theorem dX4_act_41 : decode cX4_act 41 = .ok (.iastore, 1) := by decide +kernel
theorem dX4_act_42 : decode cX4_act 42 = .ok (.iload_n 1, 1) := by decide +kernel
theorem dX4_act_43 : decode cX4_act 43 = .ok (.iconst 2, 1) := by decide +kernel
theorem dX4_act_44 : decode cX4_act 44 = .ok (.if_icmp .ne 23, 3) := by decide +kernel
theorem dX4_act_47 : decode cX4_act 47 = .ok (.aload_n 0, 1) := by decide +kernel
theorem dX4_act_48 : decode cX4_act 48 = .ok (.getfield 47, 3) := by decide +kernel
theorem dX4_act_51 : decode cX4_act 51 = .ok (.iload_n 2, 1) := by decide +kernel
theorem dX4_act_52 : decode cX4_act 52 = .ok (.iconst 1, 1) := by decide +kernel
theorem dX4_act_53 : decode cX4_act 53 = .ok (.bastore, 1) := by decide +kernel
theorem dX4_act_54 : decode cX4_act 54 = .ok (.aload_n 0, 1) := by decide +kernel
theorem dX4_act_55 : decode cX4_act 55 = .ok (.getfield 51, 3) := by decide +kernel
theorem dX4_act_58 : decode cX4_act 58 = .ok (.iload_n 2, 1) := by decide +kernel
theorem dX4_act_59 : decode cX4_act 59 = .ok (.aload_n 0, 1) := by decide +kernel
theorem dX4_act_60 : decode cX4_act 60 = .ok (.getfield 114, 3) := by decide +kernel
theorem dX4_act_63 : decode cX4_act 63 = .ok (.iload_n 3, 1) := by decide +kernel
theorem dX4_act_64 : decode cX4_act 64 = .ok (.i2l, 1) := by decide +kernel
theorem dX4_act_65 : decode cX4_act 65 = .ok (.ladd, 1) := by decide +kernel
theorem dX4_act_66 : decode cX4_act 66 = .ok (.lastore, 1) := by decide +kernel
theorem dX4_act_67 : decode cX4_act 67 = .ok (.iload_n 1, 1) := by decide +kernel
theorem dX4_act_68 : decode cX4_act 68 = .ok (.iconst 3, 1) := by decide +kernel
theorem dX4_act_69 : decode cX4_act 69 = .ok (.if_icmp .ne 10, 3) := by decide +kernel
theorem dX4_act_72 : decode cX4_act 72 = .ok (.aload_n 0, 1) := by decide +kernel
theorem dX4_act_73 : decode cX4_act 73 = .ok (.getfield 47, 3) := by decide +kernel
theorem dX4_act_76 : decode cX4_act 76 = .ok (.iload_n 2, 1) := by decide +kernel
theorem dX4_act_77 : decode cX4_act 77 = .ok (.iconst 0, 1) := by decide +kernel
theorem dX4_act_78 : decode cX4_act 78 = .ok (.bastore, 1) := by decide +kernel
theorem dX4_act_79 : decode cX4_act 79 = .ok (.iload_n 1, 1) := by decide +kernel
theorem dX4_act_80 : decode cX4_act 80 = .ok (.iconst 4, 1) := by decide +kernel
theorem dX4_act_81 : decode cX4_act 81 = .ok (.if_icmp .eq 4, 3) := by decide +kernel
theorem dX4_act_84 : decode cX4_act 84 = .ok (.return_, 1) := by decide +kernel
theorem dX4_act_85 : decode cX4_act 85 = .ok (.aload_n 0, 1) := by decide +kernel
theorem dX4_act_86 : decode cX4_act 86 = .ok (.getfield 121, 3) := by decide +kernel
theorem dX4_act_89 : decode cX4_act 89 = .ok (.bipush 60, 2) := by decide +kernel
theorem dX4_act_91 : decode cX4_act 91 = .ok (.if_icmp .ge 13, 3) := by decide +kernel
theorem dX4_act_94 : decode cX4_act 94 = .ok (.aload_n 0, 1) := by decide +kernel
theorem dX4_act_95 : decode cX4_act 95 = .ok (.getfield 55, 3) := by decide +kernel
theorem dX4_act_98 : decode cX4_act 98 = .ok (.aload_n 0, 1) := by decide +kernel
theorem dX4_act_99 : decode cX4_act 99 = .ok (.getfield 121, 3) := by decide +kernel
theorem dX4_act_102 : decode cX4_act 102 = .ok (.iload_n 2, 1) := by decide +kernel
theorem dX4_act_103 : decode cX4_act 103 = .ok (.iastore, 1) := by decide +kernel
theorem dX4_act_104 : decode cX4_act 104 = .ok (.aload_n 0, 1) := by decide +kernel
theorem dX4_act_105 : decode cX4_act 105 = .ok (.dup, 1) := by decide +kernel
theorem dX4_act_106 : decode cX4_act 106 = .ok (.getfield 121, 3) := by decide +kernel
theorem dX4_act_109 : decode cX4_act 109 = .ok (.iconst 1, 1) := by decide +kernel
theorem dX4_act_110 : decode cX4_act 110 = .ok (.iadd, 1) := by decide +kernel
theorem dX4_act_111 : decode cX4_act 111 = .ok (.putfield 121, 3) := by decide +kernel
theorem dX4_act_114 : decode cX4_act 114 = .ok (.return_, 1) := by decide +kernel
set_option maxRecDepth 20000 in
theorem ggX4_fire_X4_isTrue : GoodIn wsX4_fire wsX4_isTrue := goodIn_r _ [16, 5, 17, 18, 35, 36, 37, 38, 39, 40, 41, 42, 43, 44, 45, 46, 47, 48, 49, 50, 51, 52, 53, 54, 55, 56, 57, 58, 59, 60, 61, 62, 63, 64] (by decide +kernel) (by decide +kernel)
set_option maxRecDepth 20000 in
theorem gX4_fire_X4_isTrue : GoodIn wsX4_fire (wsV RX4 107 RX4 yX4_isTrue wsX4_isTrue) := goodIn_app (goodIn_of _ (by decide +kernel)) ggX4_fire_X4_isTrue
set_option maxRecDepth 20000 in
theorem ggX4_fire_X4_act : GoodIn wsX4_fire wsX4_act := goodIn_r _ [22, 6, 23, 24, 25, 26, 27, 28, 29, 30, 31, 32, 33, 34, 35, 36, 37, 38, 39, 40, 41, 42, 43, 44, 45, 46, 47, 48, 49, 50, 51, 52, 53, 54, 55, 56, 57, 58, 59, 60, 61, 62, 63, 64] (by decide +kernel) (by decide +kernel)
set_option maxRecDepth 20000 in
theorem gX4_fire_X4_act : GoodIn wsX4_fire (wsV RX4 136 RX4 yX4_act wsX4_act) := goodIn_app (goodIn_of _ (by decide +kernel)) ggX4_fire_X4_act
theorem dX4_fire_0 : decode cX4_fire 0 = .ok (.iconst 0, 1) := by decide +kernel
theorem dX4_fire_1 : decode cX4_fire 1 = .ok (.istore_n 2, 1) := by decide +kernel
theorem dX4_fire_2 : decode cX4_fire 2 = .ok (.iload_n 2, 1) := by decide +kernel
theorem dX4_fire_3 : decode cX4_fire 3 = .ok (.aload_n 0, 1) := by decide +kernel
theorem dX4_fire_4 : decode cX4_fire 4 = .ok (.getfield 83, 3) := by decide +kernel
theorem dX4_fire_7 : decode cX4_fire 7 = .ok (.if_icmp .ge 142, 3) := by decide +kernel
theorem dX4_fire_10 : decode cX4_fire 10 = .ok (.aload_n 0, 1) := by decide +kernel
theorem dX4_fire_11 : decode cX4_fire 11 = .ok (.getfield 17, 3) := by decide +kernel
theorem dX4_fire_14 : decode cX4_fire 14 = .ok (.iload_n 2, 1) := by decide +kernel
theorem dX4_fire_15 : decode cX4_fire 15 = .ok (.iaload, 1) := by decide +kernel
theorem dX4_fire_16 : decode cX4_fire 16 = .ok (.aload_n 0, 1) := by decide +kernel
theorem dX4_fire_17 : decode cX4_fire 17 = .ok (.getfield 118, 3) := by decide +kernel
theorem dX4_fire_20 : decode cX4_fire 20 = .ok (.if_icmp .ne 123, 3) := by decide +kernel
theorem dX4_fire_23 : decode cX4_fire 23 = .ok (.aload_n 0, 1) := by decide +kernel
theorem dX4_fire_24 : decode cX4_fire 24 = .ok (.getfield 20, 3) := by decide +kernel
theorem dX4_fire_27 : decode cX4_fire 27 = .ok (.iload_n 2, 1) := by decide +kernel
theorem dX4_fire_28 : decode cX4_fire 28 = .ok (.iaload, 1) := by decide +kernel
theorem dX4_fire_29 : decode cX4_fire 29 = .ok (.iload_n 1, 1) := by decide +kernel
theorem dX4_fire_30 : decode cX4_fire 30 = .ok (.if_icmp .ne 113, 3) := by decide +kernel
theorem dX4_fire_33 : decode cX4_fire 33 = .ok (.aload_n 0, 1) := by decide +kernel
theorem dX4_fire_34 : decode cX4_fire 34 = .ok (.getfield 23, 3) := by decide +kernel
theorem dX4_fire_37 : decode cX4_fire 37 = .ok (.iload_n 2, 1) := by decide +kernel
theorem dX4_fire_38 : decode cX4_fire 38 = .ok (.iaload, 1) := by decide +kernel
theorem dX4_fire_39 : decode cX4_fire 39 = .ok (.iconst (-1), 1) := by decide +kernel
theorem dX4_fire_40 : decode cX4_fire 40 = .ok (.if_icmp .eq 25, 3) := by decide +kernel
theorem dX4_fire_43 : decode cX4_fire 43 = .ok (.aload_n 0, 1) := by decide +kernel
theorem dX4_fire_44 : decode cX4_fire 44 = .ok (.iload_n 2, 1) := by decide +kernel
theorem dX4_fire_45 : decode cX4_fire 45 = .ok (.aload_n 0, 1) := by decide +kernel
theorem dX4_fire_46 : decode cX4_fire 46 = .ok (.getfield 44, 3) := by decide +kernel
theorem dX4_fire_49 : decode cX4_fire 49 = .ok (.aload_n 0, 1) := by decide +kernel
theorem dX4_fire_50 : decode cX4_fire 50 = .ok (.getfield 23, 3) := by decide +kernel
theorem dX4_fire_53 : decode cX4_fire 53 = .ok (.iload_n 2, 1) := by decide +kernel
theorem dX4_fire_54 : decode cX4_fire 54 = .ok (.iaload, 1) := by decide +kernel
theorem dX4_fire_55 : decode cX4_fire 55 = .ok (.iaload, 1) := by decide +kernel
theorem dX4_fire_56 : decode cX4_fire 56 = .ok (.invokevirtual 107, 3) := by decide +kernel
theorem dX4_fire_59 : decode cX4_fire 59 = .ok (.ifCond .ne 6, 3) := by decide +kernel
theorem dX4_fire_62 : decode cX4_fire 62 = .ok (.goto 81, 3) := by decide +kernel
theorem dX4_fire_65 : decode cX4_fire 65 = .ok (.iconst 0, 1) := by decide +kernel
theorem dX4_fire_66 : decode cX4_fire 66 = .ok (.istore_n 3, 1) := by decide +kernel
theorem dX4_fire_67 : decode cX4_fire 67 = .ok (.iload_n 3, 1) := by decide +kernel
theorem dX4_fire_68 : decode cX4_fire 68 = .ok (.aload_n 0, 1) := by decide +kernel
theorem dX4_fire_69 : decode cX4_fire 69 = .ok (.getfield 35, 3) := by decide +kernel
theorem dX4_fire_72 : decode cX4_fire 72 = .ok (.iload_n 2, 1) := by decide +kernel
theorem dX4_fire_73 : decode cX4_fire 73 = .ok (.iaload, 1) := by decide +kernel
theorem dX4_fire_74 : decode cX4_fire 74 = .ok (.if_icmp .ge 47, 3) := by decide +kernel
theorem dX4_fire_77 : decode cX4_fire 77 = .ok (.iconst 3, 1) := by decide +kernel
theorem dX4_fire_78 : decode cX4_fire 78 = .ok (.iconst 3, 1) := by decide +kernel
theorem dX4_fire_79 : decode cX4_fire 79 = .ok (.iload_n 2, 1) := by decide +kernel
theorem dX4_fire_80 : decode cX4_fire 80 = .ok (.imul, 1) := by decide +kernel
theorem dX4_fire_81 : decode cX4_fire 81 = .ok (.iload_n 3, 1) := by decide +kernel
theorem dX4_fire_82 : decode cX4_fire 82 = .ok (.iadd, 1) := by decide +kernel
theorem dX4_fire_83 : decode cX4_fire 83 = .ok (.imul, 1) := by decide +kernel
theorem dX4_fire_84 : decode cX4_fire 84 = .ok (.istore 4, 2) := by decide +kernel
theorem dX4_fire_86 : decode cX4_fire 86 = .ok (.aload_n 0, 1) := by decide +kernel
theorem dX4_fire_87 : decode cX4_fire 87 = .ok (.aload_n 0, 1) := by decide +kernel
theorem dX4_fire_88 : decode cX4_fire 88 = .ok (.getfield 38, 3) := by decide +kernel
theorem dX4_fire_91 : decode cX4_fire 91 = .ok (.iload 4, 2) := by decide +kernel
theorem dX4_fire_93 : decode cX4_fire 93 = .ok (.iaload, 1) := by decide +kernel
theorem dX4_fire_94 : decode cX4_fire 94 = .ok (.aload_n 0, 1) := by decide +kernel
theorem dX4_fire_95 : decode cX4_fire 95 = .ok (.getfield 38, 3) := by decide +kernel
theorem dX4_fire_98 : decode cX4_fire 98 = .ok (.iload 4, 2) := by decide +kernel
theorem dX4_fire_100 : decode cX4_fire 100 = .ok (.iconst 1, 1) := by decide +kernel
theorem dX4_fire_101 : decode cX4_fire 101 = .ok (.iadd, 1) := by decide +kernel
theorem dX4_fire_102 : decode cX4_fire 102 = .ok (.iaload, 1) := by decide +kernel
theorem dX4_fire_103 : decode cX4_fire 103 = .ok (.aload_n 0, 1) := by decide +kernel
theorem dX4_fire_104 : decode cX4_fire 104 = .ok (.getfield 38, 3) := by decide +kernel
theorem dX4_fire_107 : decode cX4_fire 107 = .ok (.iload 4, 2) := by decide +kernel
theorem dX4_fire_109 : decode cX4_fire 109 = .ok (.iconst 2, 1) := by decide +kernel
theorem dX4_fire_110 : decode cX4_fire 110 = .ok (.iadd, 1) := by decide +kernel
theorem dX4_fire_111 : decode cX4_fire 111 = .ok (.iaload, 1) := by decide +kernel
theorem dX4_fire_112 : decode cX4_fire 112 = .ok (.invokevirtual 136, 3) := by decide +kernel
theorem dX4_fire_115 : decode cX4_fire 115 = .ok (.iinc 3 1, 3) := by decide +kernel
theorem dX4_fire_118 : decode cX4_fire 118 = .ok (.goto (-51), 3) := by decide +kernel
theorem dX4_fire_121 : decode cX4_fire 121 = .ok (.aload_n 0, 1) := by decide +kernel
theorem dX4_fire_122 : decode cX4_fire 122 = .ok (.aload_n 0, 1) := by decide +kernel
theorem dX4_fire_123 : decode cX4_fire 123 = .ok (.getfield 32, 3) := by decide +kernel
theorem dX4_fire_126 : decode cX4_fire 126 = .ok (.iload_n 2, 1) := by decide +kernel
theorem dX4_fire_127 : decode cX4_fire 127 = .ok (.iaload, 1) := by decide +kernel
theorem dX4_fire_128 : decode cX4_fire 128 = .ok (.putfield 118, 3) := by decide +kernel
theorem dX4_fire_131 : decode cX4_fire 131 = .ok (.aload_n 0, 1) := by decide +kernel
theorem dX4_fire_132 : decode cX4_fire 132 = .ok (.getfield 41, 3) := by decide +kernel
theorem dX4_fire_135 : decode cX4_fire 135 = .ok (.iload_n 2, 1) := by decide +kernel
theorem dX4_fire_136 : decode cX4_fire 136 = .ok (.dup2, 1) := by decide +kernel
theorem dX4_fire_137 : decode cX4_fire 137 = .ok (.iaload, 1) := by decide +kernel
theorem dX4_fire_138 : decode cX4_fire 138 = .ok (.iconst 1, 1) := by decide +kernel
theorem dX4_fire_139 : decode cX4_fire 139 = .ok (.iadd, 1) := by decide +kernel
theorem dX4_fire_140 : decode cX4_fire 140 = .ok (.iastore, 1) := by decide +kernel
theorem dX4_fire_141 : decode cX4_fire 141 = .ok (.iload_n 2, 1) := by decide +kernel
theorem dX4_fire_142 : decode cX4_fire 142 = .ok (.ireturn, 1) := by decide +kernel
theorem dX4_fire_143 : decode cX4_fire 143 = .ok (.iinc 2 1, 3) := by decide +kernel
theorem dX4_fire_146 : decode cX4_fire 146 = .ok (.goto (-144), 3) := by decide +kernel
theorem dX4_fire_149 : decode cX4_fire 149 = .ok (.aload_n 0, 1) := by decide +kernel
theorem dX4_fire_150 : decode cX4_fire 150 = .ok (.dup, 1) := by decide +kernel
theorem dX4_fire_151 : decode cX4_fire 151 = .ok (.getfield 124, 3) := by decide +kernel
theorem dX4_fire_154 : decode cX4_fire 154 = .ok (.iconst 1, 1) := by decide +kernel
theorem dX4_fire_155 : decode cX4_fire 155 = .ok (.iadd, 1) := by decide +kernel
theorem dX4_fire_156 : decode cX4_fire 156 = .ok (.putfield 124, 3) := by decide +kernel
theorem dX4_fire_159 : decode cX4_fire 159 = .ok (.iconst (-1), 1) := by decide +kernel
theorem dX4_fire_160 : decode cX4_fire 160 = .ok (.ireturn, 1) := by decide +kernel
set_option maxRecDepth 20000 in
theorem ggX4_happen_X4_isEvent : GoodIn wsX4_happen wsX4_isEvent := goodIn_r _ [5, 6, 7, 4, 8] (by decide +kernel) (by decide +kernel)
set_option maxRecDepth 20000 in
theorem gX4_happen_X4_isEvent : GoodIn wsX4_happen (va_wsS RX4 98 yX4_isEvent wsX4_isEvent) := goodIn_app (goodIn_of _ (by decide +kernel)) ggX4_happen_X4_isEvent
set_option maxRecDepth 20000 in
theorem ggX4_happen_X4_fire : GoodIn wsX4_happen wsX4_fire := goodIn_r _ [12, 13, 14, 15, 16, 17, 18, 19, 20, 21, 22, 23, 24, 25, 26, 4, 27, 28, 29, 30, 31, 32, 33, 34, 35, 36, 37, 38, 39, 40, 41, 42, 43, 44, 45, 50, 51, 52, 53, 54, 55, 56, 57, 58, 59, 60, 61, 62, 63, 64, 65, 66, 67, 68, 69, 70, 71, 72, 73, 74, 75, 76, 77, 78, 79] (by decide +kernel) (by decide +kernel)
set_option maxRecDepth 20000 in
theorem gX4_happen_X4_fire : GoodIn wsX4_happen (wsV RX4 140 RX4 yX4_fire wsX4_fire) := goodIn_app (goodIn_of _ (by decide +kernel)) ggX4_happen_X4_fire
set_option maxRecDepth 20000 in
theorem ggX4_happen_X4_fail : GoodIn wsX4_happen wsX4_fail := goodIn_r _ [49, 1, 50, 51, 52, 53, 54, 55, 56, 57, 58, 59, 60, 61, 62, 63, 64, 65, 66, 67, 68, 69, 70, 71, 72, 73, 74, 75, 76, 77, 78, 79] (by decide +kernel) (by decide +kernel)
set_option maxRecDepth 20000 in
theorem gX4_happen_X4_fail : GoodIn wsX4_happen (wsV RX4 86 RX4 yX4_fail wsX4_fail) := goodIn_app (goodIn_of _ (by decide +kernel)) ggX4_happen_X4_fail
theorem dX4_happen_0 : decode cX4_happen 0 = .ok (.aload_n 0, 1) := by decide +kernel
theorem dX4_happen_1 : decode cX4_happen 1 = .ok (.iconst 0, 1) := by decide +kernel
theorem dX4_happen_2 : decode cX4_happen 2 = .ok (.putfield 76, 3) := by decide +kernel
theorem dX4_happen_5 : decode cX4_happen 5 = .ok (.iload_n 1, 1) := by decide +kernel
theorem dX4_happen_6 : decode cX4_happen 6 = .ok (.invokestatic 98, 3) := by decide +kernel
theorem dX4_happen_9 : decode cX4_happen 9 = .ok (.ifCond .eq 11, 3) := by decide +kernel
theorem dX4_happen_12 : decode cX4_happen 12 = .ok (.aload_n 0, 1) := by decide +kernel
theorem dX4_happen_13 : decode cX4_happen 13 = .ok (.iload_n 1, 1) := by decide +kernel
theorem dX4_happen_14 : decode cX4_happen 14 = .ok (.invokevirtual 140, 3) := by decide +kernel
theorem dX4_happen_17 : decode cX4_happen 17 = .ok (.goto 8, 3) := by decide +kernel
theorem dX4_happen_20 : decode cX4_happen 20 = .ok (.aload_n 0, 1) := by decide +kernel
theorem dX4_happen_21 : decode cX4_happen 21 = .ok (.iconst 1, 1) := by decide +kernel
theorem dX4_happen_22 : decode cX4_happen 22 = .ok (.invokevirtual 86, 3) := by decide +kernel
theorem dX4_happen_25 : decode cX4_happen 25 = .ok (.ireturn, 1) := by decide +kernel
theorem dX4_nextTimer_0 : decode cX4_nextTimer 0 = .ok (.iconst (-1), 1) := by decide +kernel
theorem dX4_nextTimer_1 : decode cX4_nextTimer 1 = .ok (.istore_n 3, 1) := by decide +kernel
theorem dX4_nextTimer_2 : decode cX4_nextTimer 2 = .ok (.iconst 0, 1) := by decide +kernel
theorem dX4_nextTimer_3 : decode cX4_nextTimer 3 = .ok (.istore 4, 2) := by decide +kernel
theorem dX4_nextTimer_5 : decode cX4_nextTimer 5 = .ok (.iload 4, 2) := by decide +kernel
theorem dX4_nextTimer_7 : decode cX4_nextTimer 7 = .ok (.iconst 4, 1) := by decide +kernel
theorem dX4_nextTimer_8 : decode cX4_nextTimer 8 = .ok (.if_icmp .ge 56, 3) := by decide +kernel
theorem dX4_nextTimer_11 : decode cX4_nextTimer 11 = .ok (.aload_n 0, 1) := by decide +kernel
theorem dX4_nextTimer_12 : decode cX4_nextTimer 12 = .ok (.getfield 47, 3) := by decide +kernel
theorem dX4_nextTimer_15 : decode cX4_nextTimer 15 = .ok (.iload 4, 2) := by decide +kernel
theorem dX4_nextTimer_17 : decode cX4_nextTimer 17 = .ok (.baload, 1) := by decide +kernel
theorem dX4_nextTimer_18 : decode cX4_nextTimer 18 = .ok (.ifCond .eq 40, 3) := by decide +kernel
theorem dX4_nextTimer_21 : decode cX4_nextTimer 21 = .ok (.aload_n 0, 1) := by decide +kernel
theorem dX4_nextTimer_22 : decode cX4_nextTimer 22 = .ok (.getfield 51, 3) := by decide +kernel
theorem dX4_nextTimer_25 : decode cX4_nextTimer 25 = .ok (.iload 4, 2) := by decide +kernel
theorem dX4_nextTimer_27 : decode cX4_nextTimer 27 = .ok (.laload, 1) := by decide +kernel
theorem dX4_nextTimer_28 : decode cX4_nextTimer 28 = .ok (.lload_n 1, 1) := by decide +kernel
theorem dX4_nextTimer_29 : decode cX4_nextTimer 29 = .ok (.lcmp, 1) := by decide +kernel
theorem dX4_nextTimer_30 : decode cX4_nextTimer 30 = .ok (.ifCond .gt 28, 3) := by decide +kernel
theorem dX4_nextTimer_33 : decode cX4_nextTimer 33 = .ok (.iload_n 3, 1) := by decide +kernel
theorem dX4_nextTimer_34 : decode cX4_nextTimer 34 = .ok (.iconst (-1), 1) := by decide +kernel
theorem dX4_nextTimer_35 : decode cX4_nextTimer 35 = .ok (.if_icmp .eq 20, 3) := by decide +kernel
theorem dX4_nextTimer_38 : decode cX4_nextTimer 38 = .ok (.aload_n 0, 1) := by decide +kernel
theorem dX4_nextTimer_39 : decode cX4_nextTimer 39 = .ok (.getfield 51, 3) := by decide +kernel
theorem dX4_nextTimer_42 : decode cX4_nextTimer 42 = .ok (.iload 4, 2) := by decide +kernel
theorem dX4_nextTimer_44 : decode cX4_nextTimer 44 = .ok (.laload, 1) := by decide +kernel
theorem dX4_nextTimer_45 : decode cX4_nextTimer 45 = .ok (.aload_n 0, 1) := by decide +kernel
theorem dX4_nextTimer_46 : decode cX4_nextTimer 46 = .ok (.getfield 51, 3) := by decide +kernel
theorem dX4_nextTimer_49 : decode cX4_nextTimer 49 = .ok (.iload_n 3, 1) := by decide +kernel
theorem dX4_nextTimer_50 : decode cX4_nextTimer 50 = .ok (.laload, 1) := by decide +kernel
theorem dX4_nextTimer_51 : decode cX4_nextTimer 51 = .ok (.lcmp, 1) := by decide +kernel
theorem dX4_nextTimer_52 : decode cX4_nextTimer 52 = .ok (.ifCond .ge 6, 3) := by decide +kernel
theorem dX4_nextTimer_55 : decode cX4_nextTimer 55 = .ok (.iload 4, 2) := by decide +kernel
theorem dX4_nextTimer_57 : decode cX4_nextTimer 57 = .ok (.istore_n 3, 1) := by decide +kernel
theorem dX4_nextTimer_58 : decode cX4_nextTimer 58 = .ok (.iinc 4 1, 3) := by decide +kernel
theorem dX4_nextTimer_61 : decode cX4_nextTimer 61 = .ok (.goto (-56), 3) := by decide +kernel
theorem dX4_nextTimer_64 : decode cX4_nextTimer 64 = .ok (.iload_n 3, 1) := by decide +kernel
theorem dX4_nextTimer_65 : decode cX4_nextTimer 65 = .ok (.ireturn, 1) := by decide +kernel
set_option maxRecDepth 20000 in
theorem ggX4_advance_X4_isIn : GoodIn wsX4_advance wsX4_isIn := goodIn_r _ [9] (by decide +kernel) (by decide +kernel)
set_option maxRecDepth 20000 in
theorem gX4_advance_X4_isIn : GoodIn wsX4_advance (va_wsS RX4 79 yX4_isIn wsX4_isIn) := goodIn_app (goodIn_of _ (by decide +kernel)) ggX4_advance_X4_isIn
set_option maxRecDepth 20000 in
theorem ggX4_advance_X4_fail : GoodIn wsX4_advance wsX4_fail := goodIn_r _ [13, 1, 52, 53, 54, 55, 56, 57, 58, 59, 60, 61, 62, 63, 64, 65, 66, 67, 68, 69, 70, 71, 72, 73, 74, 75, 76, 77, 78, 79, 80, 81] (by decide +kernel) (by decide +kernel)
set_option maxRecDepth 20000 in
theorem gX4_advance_X4_fail : GoodIn wsX4_advance (wsV RX4 86 RX4 yX4_fail wsX4_fail) := goodIn_app (goodIn_of _ (by decide +kernel)) ggX4_advance_X4_fail
set_option maxRecDepth 20000 in
theorem ggX4_advance_X4_nextTimer : GoodIn wsX4_advance wsX4_nextTimer := goodIn_r _ [17, 4, 3, 52, 53, 54, 55, 56, 57, 58, 59, 60, 61, 62, 63, 64, 65, 66, 67, 68, 69, 70, 71, 72, 73, 74, 75, 76, 77, 78, 79, 80, 81] (by decide +kernel) (by decide +kernel)
set_option maxRecDepth 20000 in
theorem gX4_advance_X4_nextTimer : GoodIn wsX4_advance (wsV RX4 143 RX4 yX4_nextTimer wsX4_nextTimer) := goodIn_app (goodIn_of _ (by decide +kernel)) ggX4_advance_X4_nextTimer
set_option maxRecDepth 20000 in
theorem ggX4_advance_X4_fire : GoodIn wsX4_advance wsX4_fire := goodIn_r _ [21, 22, 23, 24, 25, 26, 27, 28, 29, 30, 31, 32, 33, 34, 35, 8, 36, 37, 38, 39, 40, 41, 42, 43, 44, 45, 46, 47, 48, 49, 4, 3, 2, 50, 51, 52, 53, 54, 55, 56, 57, 58, 59, 60, 61, 62, 63, 64, 65, 66, 67, 68, 69, 70, 71, 72, 73, 74, 75, 76, 77, 78, 79, 80, 81] (by decide +kernel) (by decide +kernel)
set_option maxRecDepth 20000 in
theorem gX4_advance_X4_fire : GoodIn wsX4_advance (wsV RX4 140 RX4 yX4_fire wsX4_fire) := goodIn_app (goodIn_of _ (by decide +kernel)) ggX4_advance_X4_fire
theorem dX4_advance_0 : decode cX4_advance 0 = .ok (.aload_n 0, 1) := by decide +kernel
theorem dX4_advance_1 : decode cX4_advance 1 = .ok (.iconst 0, 1) := by decide +kernel
theorem dX4_advance_2 : decode cX4_advance 2 = .ok (.putfield 76, 3) := by decide +kernel
theorem dX4_advance_5 : decode cX4_advance 5 = .ok (.iload_n 1, 1) := by decide +kernel
theorem dX4_advance_6 : decode cX4_advance 6 = .ok (.iconst 0, 1) := by decide +kernel
theorem dX4_advance_7 : decode cX4_advance 7 = .ok (.sipush 1000, 3) := by decide +kernel
theorem dX4_advance_10 : decode cX4_advance 10 = .ok (.invokestatic 79, 3) := by decide +kernel
theorem dX4_advance_13 : decode cX4_advance 13 = .ok (.ifCond .ne 9, 3) := by decide +kernel
theorem dX4_advance_16 : decode cX4_advance 16 = .ok (.aload_n 0, 1) := by decide +kernel
theorem dX4_advance_17 : decode cX4_advance 17 = .ok (.iconst 1, 1) := by decide +kernel
theorem dX4_advance_18 : decode cX4_advance 18 = .ok (.invokevirtual 86, 3) := by decide +kernel
theorem dX4_advance_21 : decode cX4_advance 21 = .ok (.ireturn, 1) := by decide +kernel
theorem dX4_advance_22 : decode cX4_advance 22 = .ok (.aload_n 0, 1) := by decide +kernel
theorem dX4_advance_23 : decode cX4_advance 23 = .ok (.getfield 114, 3) := by decide +kernel
theorem dX4_advance_26 : decode cX4_advance 26 = .ok (.iload_n 1, 1) := by decide +kernel
theorem dX4_advance_27 : decode cX4_advance 27 = .ok (.i2l, 1) := by decide +kernel
theorem dX4_advance_28 : decode cX4_advance 28 = .ok (.ladd, 1) := by decide +kernel
theorem dX4_advance_29 : decode cX4_advance 29 = .ok (.lstore_n 2, 1) := by decide +kernel
theorem dX4_advance_30 : decode cX4_advance 30 = .ok (.iconst 0, 1) := by decide +kernel
theorem dX4_advance_31 : decode cX4_advance 31 = .ok (.istore 4, 2) := by decide +kernel
theorem dX4_advance_33 : decode cX4_advance 33 = .ok (.aload_n 0, 1) := by decide +kernel
theorem dX4_advance_34 : decode cX4_advance 34 = .ok (.lload_n 2, 1) := by decide +kernel
theorem dX4_advance_35 : decode cX4_advance 35 = .ok (.invokevirtual 143, 3) := by decide +kernel
theorem dX4_advance_38 : decode cX4_advance 38 = .ok (.istore 5, 2) := by decide +kernel
theorem dX4_advance_40 : decode cX4_advance 40 = .ok (.iload 5, 2) := by decide +kernel
theorem dX4_advance_42 : decode cX4_advance 42 = .ok (.iconst (-1), 1) := by decide +kernel
theorem dX4_advance_43 : decode cX4_advance 43 = .ok (.if_icmp .eq 47, 3) := by decide +kernel
theorem dX4_advance_46 : decode cX4_advance 46 = .ok (.aload_n 0, 1) := by decide +kernel
theorem dX4_advance_47 : decode cX4_advance 47 = .ok (.aload_n 0, 1) := by decide +kernel
theorem dX4_advance_48 : decode cX4_advance 48 = .ok (.getfield 51, 3) := by decide +kernel
theorem dX4_advance_51 : decode cX4_advance 51 = .ok (.iload 5, 2) := by decide +kernel
theorem dX4_advance_53 : decode cX4_advance 53 = .ok (.laload, 1) := by decide +kernel
theorem dX4_advance_54 : decode cX4_advance 54 = .ok (.putfield 114, 3) := by decide +kernel
theorem dX4_advance_57 : decode cX4_advance 57 = .ok (.aload_n 0, 1) := by decide +kernel
theorem dX4_advance_58 : decode cX4_advance 58 = .ok (.getfield 47, 3) := by decide +kernel
theorem dX4_advance_61 : decode cX4_advance 61 = .ok (.iload 5, 2) := by decide +kernel
theorem dX4_advance_63 : decode cX4_advance 63 = .ok (.iconst 0, 1) := by decide +kernel
theorem dX4_advance_64 : decode cX4_advance 64 = .ok (.bastore, 1) := by decide +kernel
theorem dX4_advance_65 : decode cX4_advance 65 = .ok (.aload_n 0, 1) := by decide +kernel
theorem dX4_advance_66 : decode cX4_advance 66 = .ok (.aload_n 0, 1) := by decide +kernel
theorem dX4_advance_67 : decode cX4_advance 67 = .ok (.getfield 13, 3) := by decide +kernel
theorem dX4_advance_70 : decode cX4_advance 70 = .ok (.iload 5, 2) := by decide +kernel
theorem dX4_advance_72 : decode cX4_advance 72 = .ok (.iaload, 1) := by decide +kernel
theorem dX4_advance_73 : decode cX4_advance 73 = .ok (.invokevirtual 140, 3) := by decide +kernel
theorem dX4_advance_76 : decode cX4_advance 76 = .ok (.pop, 1) := by decide +kernel
theorem dX4_advance_77 : decode cX4_advance 77 = .ok (.iinc 4 1, 3) := by decide +kernel
theorem dX4_advance_80 : decode cX4_advance 80 = .ok (.aload_n 0, 1) := by decide +kernel
theorem dX4_advance_81 : decode cX4_advance 81 = .ok (.lload_n 2, 1) := by decide +kernel
theorem dX4_advance_82 : decode cX4_advance 82 = .ok (.invokevirtual 143, 3) := by decide +kernel
theorem dX4_advance_85 : decode cX4_advance 85 = .ok (.istore 5, 2) := by decide +kernel
theorem dX4_advance_87 : decode cX4_advance 87 = .ok (.goto (-47), 3) := by decide +kernel
theorem dX4_advance_90 : decode cX4_advance 90 = .ok (.aload_n 0, 1) := by decide +kernel
theorem dX4_advance_91 : decode cX4_advance 91 = .ok (.lload_n 2, 1) := by decide +kernel
theorem dX4_advance_92 : decode cX4_advance 92 = .ok (.putfield 114, 3) := by decide +kernel
theorem dX4_advance_95 : decode cX4_advance 95 = .ok (.iload 4, 2) := by decide +kernel
theorem dX4_advance_97 : decode cX4_advance 97 = .ok (.ireturn, 1) := by decide +kernel
theorem dX4_state_0 : decode cX4_state 0 = .ok (.aload_n 0, 1) := by decide +kernel
theorem dX4_state_1 : decode cX4_state 1 = .ok (.iconst 0, 1) := by decide +kernel
theorem dX4_state_2 : decode cX4_state 2 = .ok (.putfield 76, 3) := by decide +kernel
theorem dX4_state_5 : decode cX4_state 5 = .ok (.aload_n 0, 1) := by decide +kernel
theorem dX4_state_6 : decode cX4_state 6 = .ok (.getfield 118, 3) := by decide +kernel
theorem dX4_state_9 : decode cX4_state 9 = .ok (.ireturn, 1) := by decide +kernel
theorem dX4_time_0 : decode cX4_time 0 = .ok (.aload_n 0, 1) := by decide +kernel
theorem dX4_time_1 : decode cX4_time 1 = .ok (.iconst 0, 1) := by decide +kernel
theorem dX4_time_2 : decode cX4_time 2 = .ok (.putfield 76, 3) := by decide +kernel
theorem dX4_time_5 : decode cX4_time 5 = .ok (.aload_n 0, 1) := by decide +kernel
theorem dX4_time_6 : decode cX4_time 6 = .ok (.getfield 114, 3) := by decide +kernel
theorem dX4_time_9 : decode cX4_time 9 = .ok (.lreturn, 1) := by decide +kernel
set_option maxRecDepth 20000 in
theorem ggX4_value_X4_isIn : GoodIn wsX4_value wsX4_isIn := goodIn_r _ [6] (by decide +kernel) (by decide +kernel)
set_option maxRecDepth 20000 in
theorem gX4_value_X4_isIn : GoodIn wsX4_value (va_wsS RX4 79 yX4_isIn wsX4_isIn) := goodIn_app (goodIn_of _ (by decide +kernel)) ggX4_value_X4_isIn
set_option maxRecDepth 20000 in
theorem ggX4_value_X4_fail : GoodIn wsX4_value wsX4_fail := goodIn_r _ [10, 1, 11, 12, 13, 14, 15, 16, 17, 18, 19, 20, 21, 22, 23, 24, 25, 26, 27, 28, 29, 30, 31, 32, 33, 34, 35, 36, 37, 38, 39, 40] (by decide +kernel) (by decide +kernel)
set_option maxRecDepth 20000 in
theorem gX4_value_X4_fail : GoodIn wsX4_value (wsV RX4 86 RX4 yX4_fail wsX4_fail) := goodIn_app (goodIn_of _ (by decide +kernel)) ggX4_value_X4_fail
theorem dX4_value_0 : decode cX4_value 0 = .ok (.aload_n 0, 1) := by decide +kernel
theorem dX4_value_1 : decode cX4_value 1 = .ok (.iconst 0, 1) := by decide +kernel
theorem dX4_value_2 : decode cX4_value 2 = .ok (.putfield 76, 3) := by decide +kernel
theorem dX4_value_5 : decode cX4_value 5 = .ok (.iload_n 1, 1) := by decide +kernel
theorem dX4_value_6 : decode cX4_value 6 = .ok (.iconst 0, 1) := by decide +kernel
theorem dX4_value_7 : decode cX4_value 7 = .ok (.iconst 2, 1) := by decide +kernel
theorem dX4_value_8 : decode cX4_value 8 = .ok (.invokestatic 79, 3) := by decide +kernel
theorem dX4_value_11 : decode cX4_value 11 = .ok (.ifCond .eq 12, 3) := by decide +kernel
theorem dX4_value_14 : decode cX4_value 14 = .ok (.aload_n 0, 1) := by decide +kernel
theorem dX4_value_15 : decode cX4_value 15 = .ok (.getfield 44, 3) := by decide +kernel
theorem dX4_value_18 : decode cX4_value 18 = .ok (.iload_n 1, 1) := by decide +kernel
theorem dX4_value_19 : decode cX4_value 19 = .ok (.iaload, 1) := by decide +kernel
theorem dX4_value_20 : decode cX4_value 20 = .ok (.goto 8, 3) := by decide +kernel
theorem dX4_value_23 : decode cX4_value 23 = .ok (.aload_n 0, 1) := by decide +kernel
theorem dX4_value_24 : decode cX4_value 24 = .ok (.iconst 1, 1) := by decide +kernel
theorem dX4_value_25 : decode cX4_value 25 = .ok (.invokevirtual 86, 3) := by decide +kernel
theorem dX4_value_28 : decode cX4_value 28 = .ok (.ireturn, 1) := by decide +kernel
theorem dX4_leftOf_0 : decode cX4_leftOf 0 = .ok (.aload_n 0, 1) := by decide +kernel
theorem dX4_leftOf_1 : decode cX4_leftOf 1 = .ok (.getfield 47, 3) := by decide +kernel
theorem dX4_leftOf_4 : decode cX4_leftOf 4 = .ok (.iload_n 1, 1) := by decide +kernel
theorem dX4_leftOf_5 : decode cX4_leftOf 5 = .ok (.baload, 1) := by decide +kernel
theorem dX4_leftOf_6 : decode cX4_leftOf 6 = .ok (.ifCond .eq 18, 3) := by decide +kernel
theorem dX4_leftOf_9 : decode cX4_leftOf 9 = .ok (.aload_n 0, 1) := by decide +kernel
theorem dX4_leftOf_10 : decode cX4_leftOf 10 = .ok (.getfield 51, 3) := by decide +kernel
theorem dX4_leftOf_13 : decode cX4_leftOf 13 = .ok (.iload_n 1, 1) := by decide +kernel
theorem dX4_leftOf_14 : decode cX4_leftOf 14 = .ok (.laload, 1) := by decide +kernel
theorem dX4_leftOf_15 : decode cX4_leftOf 15 = .ok (.aload_n 0, 1) := by decide +kernel
theorem dX4_leftOf_16 : decode cX4_leftOf 16 = .ok (.getfield 114, 3) := by decide +kernel
theorem dX4_leftOf_19 : decode cX4_leftOf 19 = .ok (.lsub, 1) := by decide +kernel
theorem dX4_leftOf_20 : decode cX4_leftOf 20 = .ok (.l2i, 1) := by decide +kernel
theorem dX4_leftOf_21 : decode cX4_leftOf 21 = .ok (.goto 4, 3) := by decide +kernel
theorem dX4_leftOf_24 : decode cX4_leftOf 24 = .ok (.iconst (-1), 1) := by decide +kernel
theorem dX4_leftOf_25 : decode cX4_leftOf 25 = .ok (.ireturn, 1) := by decide +kernel
set_option maxRecDepth 20000 in
theorem ggX4_left_X4_isIn : GoodIn wsX4_left wsX4_isIn := goodIn_r _ [5] (by decide +kernel) (by decide +kernel)
set_option maxRecDepth 20000 in
theorem gX4_left_X4_isIn : GoodIn wsX4_left (va_wsS RX4 79 yX4_isIn wsX4_isIn) := goodIn_app (goodIn_of _ (by decide +kernel)) ggX4_left_X4_isIn
set_option maxRecDepth 20000 in
theorem ggX4_left_X4_leftOf : GoodIn wsX4_left wsX4_leftOf := goodIn_r _ [9, 10, 11, 12, 17, 18, 19, 20, 21, 22, 23, 24, 25, 26, 27, 28, 29, 30, 31, 32, 33, 34, 35, 36, 37, 38, 39, 40, 41, 42, 43, 44, 45, 46] (by decide +kernel) (by decide +kernel)
set_option maxRecDepth 20000 in
theorem gX4_left_X4_leftOf : GoodIn wsX4_left (wsV RX4 147 RX4 yX4_leftOf wsX4_leftOf) := goodIn_app (goodIn_of _ (by decide +kernel)) ggX4_left_X4_leftOf
set_option maxRecDepth 20000 in
theorem ggX4_left_X4_fail : GoodIn wsX4_left wsX4_fail := goodIn_r _ [16, 1, 17, 18, 19, 20, 21, 22, 23, 24, 25, 26, 27, 28, 29, 30, 31, 32, 33, 34, 35, 36, 37, 38, 39, 40, 41, 42, 43, 44, 45, 46] (by decide +kernel) (by decide +kernel)
set_option maxRecDepth 20000 in
theorem gX4_left_X4_fail : GoodIn wsX4_left (wsV RX4 86 RX4 yX4_fail wsX4_fail) := goodIn_app (goodIn_of _ (by decide +kernel)) ggX4_left_X4_fail
theorem dX4_left_0 : decode cX4_left 0 = .ok (.aload_n 0, 1) := by decide +kernel
theorem dX4_left_1 : decode cX4_left 1 = .ok (.iconst 0, 1) := by decide +kernel
theorem dX4_left_2 : decode cX4_left 2 = .ok (.putfield 76, 3) := by decide +kernel
theorem dX4_left_5 : decode cX4_left 5 = .ok (.iload_n 1, 1) := by decide +kernel
theorem dX4_left_6 : decode cX4_left 6 = .ok (.iconst 0, 1) := by decide +kernel
theorem dX4_left_7 : decode cX4_left 7 = .ok (.iconst 3, 1) := by decide +kernel
theorem dX4_left_8 : decode cX4_left 8 = .ok (.invokestatic 79, 3) := by decide +kernel
theorem dX4_left_11 : decode cX4_left 11 = .ok (.ifCond .eq 11, 3) := by decide +kernel
theorem dX4_left_14 : decode cX4_left 14 = .ok (.aload_n 0, 1) := by decide +kernel
theorem dX4_left_15 : decode cX4_left 15 = .ok (.iload_n 1, 1) := by decide +kernel
theorem dX4_left_16 : decode cX4_left 16 = .ok (.invokevirtual 147, 3) := by decide +kernel
theorem dX4_left_19 : decode cX4_left 19 = .ok (.goto 8, 3) := by decide +kernel
theorem dX4_left_22 : decode cX4_left 22 = .ok (.aload_n 0, 1) := by decide +kernel
theorem dX4_left_23 : decode cX4_left 23 = .ok (.iconst 1, 1) := by decide +kernel
theorem dX4_left_24 : decode cX4_left 24 = .ok (.invokevirtual 86, 3) := by decide +kernel
theorem dX4_left_27 : decode cX4_left 27 = .ok (.ireturn, 1) := by decide +kernel
theorem dX4_emitted_0 : decode cX4_emitted 0 = .ok (.aload_n 0, 1) := by decide +kernel
theorem dX4_emitted_1 : decode cX4_emitted 1 = .ok (.iconst 0, 1) := by decide +kernel
theorem dX4_emitted_2 : decode cX4_emitted 2 = .ok (.putfield 76, 3) := by decide +kernel
theorem dX4_emitted_5 : decode cX4_emitted 5 = .ok (.aload_n 0, 1) := by decide +kernel
theorem dX4_emitted_6 : decode cX4_emitted 6 = .ok (.getfield 121, 3) := by decide +kernel
theorem dX4_emitted_9 : decode cX4_emitted 9 = .ok (.ireturn, 1) := by decide +kernel
set_option maxRecDepth 20000 in
theorem ggX4_output_X4_isIn : GoodIn wsX4_output wsX4_isIn := goodIn_r _ [11] (by decide +kernel) (by decide +kernel)
set_option maxRecDepth 20000 in
theorem gX4_output_X4_isIn : GoodIn wsX4_output (va_wsS RX4 79 yX4_isIn wsX4_isIn) := goodIn_app (goodIn_of _ (by decide +kernel)) ggX4_output_X4_isIn
set_option maxRecDepth 20000 in
theorem ggX4_output_X4_fail : GoodIn wsX4_output wsX4_fail := goodIn_r _ [15, 1, 16, 17, 18, 19, 20, 21, 22, 23, 24, 25, 26, 27, 28, 29, 30, 31, 32, 33, 34, 35, 36, 37, 38, 39, 40, 41, 42, 43, 44, 45] (by decide +kernel) (by decide +kernel)
set_option maxRecDepth 20000 in
theorem gX4_output_X4_fail : GoodIn wsX4_output (wsV RX4 86 RX4 yX4_fail wsX4_fail) := goodIn_app (goodIn_of _ (by decide +kernel)) ggX4_output_X4_fail
theorem dX4_output_0 : decode cX4_output 0 = .ok (.aload_n 0, 1) := by decide +kernel
theorem dX4_output_1 : decode cX4_output 1 = .ok (.iconst 0, 1) := by decide +kernel
theorem dX4_output_2 : decode cX4_output 2 = .ok (.putfield 76, 3) := by decide +kernel
theorem dX4_output_5 : decode cX4_output 5 = .ok (.iload_n 1, 1) := by decide +kernel
theorem dX4_output_6 : decode cX4_output 6 = .ok (.iconst 0, 1) := by decide +kernel
theorem dX4_output_7 : decode cX4_output 7 = .ok (.aload_n 0, 1) := by decide +kernel
theorem dX4_output_8 : decode cX4_output 8 = .ok (.getfield 121, 3) := by decide +kernel
theorem dX4_output_11 : decode cX4_output 11 = .ok (.bipush 60, 2) := by decide +kernel
theorem dX4_output_13 : decode cX4_output 13 = .ok (.invokestatic 127, 3) := by decide +kernel
theorem dX4_output_16 : decode cX4_output 16 = .ok (.iconst 1, 1) := by decide +kernel
theorem dX4_output_17 : decode cX4_output 17 = .ok (.isub, 1) := by decide +kernel
theorem dX4_output_18 : decode cX4_output 18 = .ok (.invokestatic 79, 3) := by decide +kernel
theorem dX4_output_21 : decode cX4_output 21 = .ok (.ifCond .eq 12, 3) := by decide +kernel
theorem dX4_output_24 : decode cX4_output 24 = .ok (.aload_n 0, 1) := by decide +kernel
theorem dX4_output_25 : decode cX4_output 25 = .ok (.getfield 55, 3) := by decide +kernel
theorem dX4_output_28 : decode cX4_output 28 = .ok (.iload_n 1, 1) := by decide +kernel
theorem dX4_output_29 : decode cX4_output 29 = .ok (.iaload, 1) := by decide +kernel
theorem dX4_output_30 : decode cX4_output 30 = .ok (.goto 8, 3) := by decide +kernel
theorem dX4_output_33 : decode cX4_output 33 = .ok (.aload_n 0, 1) := by decide +kernel
theorem dX4_output_34 : decode cX4_output 34 = .ok (.iconst 1, 1) := by decide +kernel
theorem dX4_output_35 : decode cX4_output 35 = .ok (.invokevirtual 86, 3) := by decide +kernel
theorem dX4_output_38 : decode cX4_output 38 = .ok (.ireturn, 1) := by decide +kernel
set_option maxRecDepth 20000 in
theorem ggX4_fired_X4_isTransition : GoodIn wsX4_fired wsX4_isTransition := goodIn_r _ [7, 8, 9, 10, 6, 11, 16, 17, 18, 19, 20, 21, 22, 23, 24, 25, 26, 27, 28, 29, 30, 31, 32, 33, 34, 35, 36, 37, 38, 39, 40, 41, 42, 43, 44, 45] (by decide +kernel) (by decide +kernel)
set_option maxRecDepth 20000 in
theorem gX4_fired_X4_isTransition : GoodIn wsX4_fired (wsV RX4 104 RX4 yX4_isTransition wsX4_isTransition) := goodIn_app (goodIn_of _ (by decide +kernel)) ggX4_fired_X4_isTransition
set_option maxRecDepth 20000 in
theorem ggX4_fired_X4_fail : GoodIn wsX4_fired wsX4_fail := goodIn_r _ [15, 1, 16, 17, 18, 19, 20, 21, 22, 23, 24, 25, 26, 27, 28, 29, 30, 31, 32, 33, 34, 35, 36, 37, 38, 39, 40, 41, 42, 43, 44, 45] (by decide +kernel) (by decide +kernel)
set_option maxRecDepth 20000 in
theorem gX4_fired_X4_fail : GoodIn wsX4_fired (wsV RX4 86 RX4 yX4_fail wsX4_fail) := goodIn_app (goodIn_of _ (by decide +kernel)) ggX4_fired_X4_fail
theorem dX4_fired_0 : decode cX4_fired 0 = .ok (.aload_n 0, 1) := by decide +kernel
theorem dX4_fired_1 : decode cX4_fired 1 = .ok (.iconst 0, 1) := by decide +kernel
theorem dX4_fired_2 : decode cX4_fired 2 = .ok (.putfield 76, 3) := by decide +kernel
theorem dX4_fired_5 : decode cX4_fired 5 = .ok (.aload_n 0, 1) := by decide +kernel
theorem dX4_fired_6 : decode cX4_fired 6 = .ok (.iload_n 1, 1) := by decide +kernel
theorem dX4_fired_7 : decode cX4_fired 7 = .ok (.invokevirtual 104, 3) := by decide +kernel
theorem dX4_fired_10 : decode cX4_fired 10 = .ok (.ifCond .eq 12, 3) := by decide +kernel
theorem dX4_fired_13 : decode cX4_fired 13 = .ok (.aload_n 0, 1) := by decide +kernel
theorem dX4_fired_14 : decode cX4_fired 14 = .ok (.getfield 41, 3) := by decide +kernel
theorem dX4_fired_17 : decode cX4_fired 17 = .ok (.iload_n 1, 1) := by decide +kernel
theorem dX4_fired_18 : decode cX4_fired 18 = .ok (.iaload, 1) := by decide +kernel
theorem dX4_fired_19 : decode cX4_fired 19 = .ok (.goto 8, 3) := by decide +kernel
theorem dX4_fired_22 : decode cX4_fired 22 = .ok (.aload_n 0, 1) := by decide +kernel
theorem dX4_fired_23 : decode cX4_fired 23 = .ok (.iconst 1, 1) := by decide +kernel
theorem dX4_fired_24 : decode cX4_fired 24 = .ok (.invokevirtual 86, 3) := by decide +kernel
theorem dX4_fired_27 : decode cX4_fired 27 = .ok (.ireturn, 1) := by decide +kernel
theorem dX4_ignored_0 : decode cX4_ignored 0 = .ok (.aload_n 0, 1) := by decide +kernel
theorem dX4_ignored_1 : decode cX4_ignored 1 = .ok (.iconst 0, 1) := by decide +kernel
theorem dX4_ignored_2 : decode cX4_ignored 2 = .ok (.putfield 76, 3) := by decide +kernel
theorem dX4_ignored_5 : decode cX4_ignored 5 = .ok (.aload_n 0, 1) := by decide +kernel
theorem dX4_ignored_6 : decode cX4_ignored 6 = .ok (.getfield 124, 3) := by decide +kernel
theorem dX4_ignored_9 : decode cX4_ignored 9 = .ok (.ireturn, 1) := by decide +kernel
theorem dX4_reach_0 : decode cX4_reach 0 = .ok (.iconst 0, 1) := by decide +kernel
theorem dX4_reach_1 : decode cX4_reach 1 = .ok (.istore_n 1, 1) := by decide +kernel
theorem dX4_reach_2 : decode cX4_reach 2 = .ok (.iload_n 1, 1) := by decide +kernel
theorem dX4_reach_3 : decode cX4_reach 3 = .ok (.bipush 12, 2) := by decide +kernel
theorem dX4_reach_5 : decode cX4_reach 5 = .ok (.if_icmp .ge 24, 3) := by decide +kernel
theorem dX4_reach_8 : decode cX4_reach 8 = .ok (.aload_n 0, 1) := by decide +kernel
theorem dX4_reach_9 : decode cX4_reach 9 = .ok (.getfield 70, 3) := by decide +kernel
theorem dX4_reach_12 : decode cX4_reach 12 = .ok (.iload_n 1, 1) := by decide +kernel
theorem dX4_reach_13 : decode cX4_reach 13 = .ok (.iload_n 1, 1) := by decide +kernel
theorem dX4_reach_14 : decode cX4_reach 14 = .ok (.ifCond .ne 7, 3) := by decide +kernel
theorem dX4_reach_17 : decode cX4_reach 17 = .ok (.iconst 1, 1) := by decide +kernel
theorem dX4_reach_18 : decode cX4_reach 18 = .ok (.goto 4, 3) := by decide +kernel
theorem dX4_reach_21 : decode cX4_reach 21 = .ok (.iconst 0, 1) := by decide +kernel
theorem dX4_reach_22 : decode cX4_reach 22 = .ok (.bastore, 1) := by decide +kernel
theorem dX4_reach_23 : decode cX4_reach 23 = .ok (.iinc 1 1, 3) := by decide +kernel
theorem dX4_reach_26 : decode cX4_reach 26 = .ok (.goto (-24), 3) := by decide +kernel
theorem dX4_reach_29 : decode cX4_reach 29 = .ok (.iconst 0, 1) := by decide +kernel
theorem dX4_reach_30 : decode cX4_reach 30 = .ok (.istore_n 1, 1) := by decide +kernel
theorem dX4_reach_31 : decode cX4_reach 31 = .ok (.iload_n 1, 1) := by decide +kernel
theorem dX4_reach_32 : decode cX4_reach 32 = .ok (.bipush 12, 2) := by decide +kernel
theorem dX4_reach_34 : decode cX4_reach 34 = .ok (.if_icmp .ge 51, 3) := by decide +kernel
theorem dX4_reach_37 : decode cX4_reach 37 = .ok (.iconst 0, 1) := by decide +kernel
theorem dX4_reach_38 : decode cX4_reach 38 = .ok (.istore_n 2, 1) := by decide +kernel
theorem dX4_reach_39 : decode cX4_reach 39 = .ok (.iload_n 2, 1) := by decide +kernel
theorem dX4_reach_40 : decode cX4_reach 40 = .ok (.aload_n 0, 1) := by decide +kernel
theorem dX4_reach_41 : decode cX4_reach 41 = .ok (.getfield 83, 3) := by decide +kernel
theorem dX4_reach_44 : decode cX4_reach 44 = .ok (.if_icmp .ge 35, 3) := by decide +kernel
theorem dX4_reach_47 : decode cX4_reach 47 = .ok (.aload_n 0, 1) := by decide +kernel
theorem dX4_reach_48 : decode cX4_reach 48 = .ok (.getfield 70, 3) := by decide +kernel
theorem dX4_reach_51 : decode cX4_reach 51 = .ok (.aload_n 0, 1) := by decide +kernel
theorem dX4_reach_52 : decode cX4_reach 52 = .ok (.getfield 17, 3) := by decide +kernel
theorem dX4_reach_55 : decode cX4_reach 55 = .ok (.iload_n 2, 1) := by decide +kernel
theorem dX4_reach_56 : decode cX4_reach 56 = .ok (.iaload, 1) := by decide +kernel
theorem dX4_reach_57 : decode cX4_reach 57 = .ok (.baload, 1) := by decide +kernel
theorem dX4_reach_58 : decode cX4_reach 58 = .ok (.ifCond .eq 15, 3) := by decide +kernel
theorem dX4_reach_61 : decode cX4_reach 61 = .ok (.aload_n 0, 1) := by decide +kernel
theorem dX4_reach_62 : decode cX4_reach 62 = .ok (.getfield 70, 3) := by decide +kernel
theorem dX4_reach_65 : decode cX4_reach 65 = .ok (.aload_n 0, 1) := by decide +kernel
theorem dX4_reach_66 : decode cX4_reach 66 = .ok (.getfield 32, 3) := by decide +kernel
theorem dX4_reach_69 : decode cX4_reach 69 = .ok (.iload_n 2, 1) := by decide +kernel
theorem dX4_reach_70 : decode cX4_reach 70 = .ok (.iaload, 1) := by decide +kernel
theorem dX4_reach_71 : decode cX4_reach 71 = .ok (.iconst 1, 1) := by decide +kernel
theorem dX4_reach_72 : decode cX4_reach 72 = .ok (.bastore, 1) := by decide +kernel
theorem dX4_reach_73 : decode cX4_reach 73 = .ok (.iinc 2 1, 3) := by decide +kernel
theorem dX4_reach_76 : decode cX4_reach 76 = .ok (.goto (-37), 3) := by decide +kernel
theorem dX4_reach_79 : decode cX4_reach 79 = .ok (.iinc 1 1, 3) := by decide +kernel
theorem dX4_reach_82 : decode cX4_reach 82 = .ok (.goto (-51), 3) := by decide +kernel
theorem dX4_reach_85 : decode cX4_reach 85 = .ok (.return_, 1) := by decide +kernel
theorem dX4_transition_0 : decode cX4_transition 0 = .ok (.iload_n 3, 1) := by decide +kernel
theorem dX4_transition_1 : decode cX4_transition 1 = .ok (.istore 4, 2) := by decide +kernel
theorem dX4_transition_3 : decode cX4_transition 3 = .ok (.iconst 0, 1) := by decide +kernel
theorem dX4_transition_4 : decode cX4_transition 4 = .ok (.istore 5, 2) := by decide +kernel
theorem dX4_transition_6 : decode cX4_transition 6 = .ok (.iload 5, 2) := by decide +kernel
theorem dX4_transition_8 : decode cX4_transition 8 = .ok (.aload_n 0, 1) := by decide +kernel
theorem dX4_transition_9 : decode cX4_transition 9 = .ok (.getfield 83, 3) := by decide +kernel
theorem dX4_transition_12 : decode cX4_transition 12 = .ok (.if_icmp .ge 45, 3) := by decide +kernel
theorem dX4_transition_15 : decode cX4_transition 15 = .ok (.aload_n 0, 1) := by decide +kernel
theorem dX4_transition_16 : decode cX4_transition 16 = .ok (.getfield 17, 3) := by decide +kernel
theorem dX4_transition_19 : decode cX4_transition 19 = .ok (.iload 5, 2) := by decide +kernel
theorem dX4_transition_21 : decode cX4_transition 21 = .ok (.iaload, 1) := by decide +kernel
theorem dX4_transition_22 : decode cX4_transition 22 = .ok (.iload_n 1, 1) := by decide +kernel
theorem dX4_transition_23 : decode cX4_transition 23 = .ok (.if_icmp .ne 28, 3) := by decide +kernel
theorem dX4_transition_26 : decode cX4_transition 26 = .ok (.aload_n 0, 1) := by decide +kernel
theorem dX4_transition_27 : decode cX4_transition 27 = .ok (.getfield 20, 3) := by decide +kernel
theorem dX4_transition_30 : decode cX4_transition 30 = .ok (.iload 5, 2) := by decide +kernel
theorem dX4_transition_32 : decode cX4_transition 32 = .ok (.iaload, 1) := by decide +kernel
theorem dX4_transition_33 : decode cX4_transition 33 = .ok (.iload_n 2, 1) := by decide +kernel
theorem dX4_transition_34 : decode cX4_transition 34 = .ok (.if_icmp .eq 6, 3) := by decide +kernel
theorem dX4_transition_37 : decode cX4_transition 37 = .ok (.goto 14, 3) := by decide +kernel
theorem dX4_transition_40 : decode cX4_transition 40 = .ok (.iload 4, 2) := by decide +kernel
theorem dX4_transition_42 : decode cX4_transition 42 = .ok (.ifCond .ne 6, 3) := by decide +kernel
theorem dX4_transition_45 : decode cX4_transition 45 = .ok (.iload 5, 2) := by decide +kernel
theorem dX4_transition_47 : decode cX4_transition 47 = .ok (.ireturn, 1) := by decide +kernel
theorem dX4_transition_48 : decode cX4_transition 48 = .ok (.iinc 4 (-1), 3) := by decide +kernel
theorem dX4_transition_51 : decode cX4_transition 51 = .ok (.iinc 5 1, 3) := by decide +kernel
theorem dX4_transition_54 : decode cX4_transition 54 = .ok (.goto (-48), 3) := by decide +kernel
theorem dX4_transition_57 : decode cX4_transition 57 = .ok (.iconst (-1), 1) := by decide +kernel
theorem dX4_transition_58 : decode cX4_transition 58 = .ok (.ireturn, 1) := by decide +kernel
theorem dX4_areAlike_0 : decode cX4_areAlike 0 = .ok (.aload_n 0, 1) := by decide +kernel
theorem dX4_areAlike_1 : decode cX4_areAlike 1 = .ok (.getfield 23, 3) := by decide +kernel
theorem dX4_areAlike_4 : decode cX4_areAlike 4 = .ok (.iload_n 1, 1) := by decide +kernel
theorem dX4_areAlike_5 : decode cX4_areAlike 5 = .ok (.iaload, 1) := by decide +kernel
theorem dX4_areAlike_6 : decode cX4_areAlike 6 = .ok (.aload_n 0, 1) := by decide +kernel
theorem dX4_areAlike_7 : decode cX4_areAlike 7 = .ok (.getfield 23, 3) := by decide +kernel
theorem dX4_areAlike_10 : decode cX4_areAlike 10 = .ok (.iload_n 2, 1) := by decide +kernel
theorem dX4_areAlike_11 : decode cX4_areAlike 11 = .ok (.iaload, 1) := by decide +kernel
theorem dX4_areAlike_12 : decode cX4_areAlike 12 = .ok (.if_icmp .ne 76, 3) := by decide +kernel
theorem dX4_areAlike_15 : decode cX4_areAlike 15 = .ok (.aload_n 0, 1) := by decide +kernel
theorem dX4_areAlike_16 : decode cX4_areAlike 16 = .ok (.getfield 26, 3) := by decide +kernel
theorem dX4_areAlike_19 : decode cX4_areAlike 19 = .ok (.iload_n 1, 1) := by decide +kernel
theorem dX4_areAlike_20 : decode cX4_areAlike 20 = .ok (.iaload, 1) := by decide +kernel
theorem dX4_areAlike_21 : decode cX4_areAlike 21 = .ok (.aload_n 0, 1) := by decide +kernel
theorem dX4_areAlike_22 : decode cX4_areAlike 22 = .ok (.getfield 26, 3) := by decide +kernel
theorem dX4_areAlike_25 : decode cX4_areAlike 25 = .ok (.iload_n 2, 1) := by decide +kernel
theorem dX4_areAlike_26 : decode cX4_areAlike 26 = .ok (.iaload, 1) := by decide +kernel
theorem dX4_areAlike_27 : decode cX4_areAlike 27 = .ok (.if_icmp .ne 61, 3) := by decide +kernel
theorem dX4_areAlike_30 : decode cX4_areAlike 30 = .ok (.aload_n 0, 1) := by decide +kernel
theorem dX4_areAlike_31 : decode cX4_areAlike 31 = .ok (.getfield 29, 3) := by decide +kernel
theorem dX4_areAlike_34 : decode cX4_areAlike 34 = .ok (.iload_n 1, 1) := by decide +kernel
theorem dX4_areAlike_35 : decode cX4_areAlike 35 = .ok (.iaload, 1) := by decide +kernel
theorem dX4_areAlike_36 : decode cX4_areAlike 36 = .ok (.aload_n 0, 1) := by decide +kernel
theorem dX4_areAlike_37 : decode cX4_areAlike 37 = .ok (.getfield 29, 3) := by decide +kernel
theorem dX4_areAlike_40 : decode cX4_areAlike 40 = .ok (.iload_n 2, 1) := by decide +kernel
theorem dX4_areAlike_41 : decode cX4_areAlike 41 = .ok (.iaload, 1) := by decide +kernel
theorem dX4_areAlike_42 : decode cX4_areAlike 42 = .ok (.if_icmp .ne 46, 3) := by decide +kernel
theorem dX4_areAlike_45 : decode cX4_areAlike 45 = .ok (.aload_n 0, 1) := by decide +kernel
theorem dX4_areAlike_46 : decode cX4_areAlike 46 = .ok (.getfield 35, 3) := by decide +kernel
theorem dX4_areAlike_49 : decode cX4_areAlike 49 = .ok (.iload_n 1, 1) := by decide +kernel
theorem dX4_areAlike_50 : decode cX4_areAlike 50 = .ok (.iaload, 1) := by decide +kernel
theorem dX4_areAlike_51 : decode cX4_areAlike 51 = .ok (.aload_n 0, 1) := by decide +kernel
theorem dX4_areAlike_52 : decode cX4_areAlike 52 = .ok (.getfield 35, 3) := by decide +kernel
theorem dX4_areAlike_55 : decode cX4_areAlike 55 = .ok (.iload_n 2, 1) := by decide +kernel
theorem dX4_areAlike_56 : decode cX4_areAlike 56 = .ok (.iaload, 1) := by decide +kernel
theorem dX4_areAlike_57 : decode cX4_areAlike 57 = .ok (.if_icmp .ne 31, 3) := by decide +kernel
theorem dX4_areAlike_60 : decode cX4_areAlike 60 = .ok (.aload_n 0, 1) := by decide +kernel
theorem dX4_areAlike_61 : decode cX4_areAlike 61 = .ok (.getfield 73, 3) := by decide +kernel
theorem dX4_areAlike_64 : decode cX4_areAlike 64 = .ok (.bipush 12, 2) := by decide +kernel
theorem dX4_areAlike_66 : decode cX4_areAlike 66 = .ok (.aload_n 0, 1) := by decide +kernel
theorem dX4_areAlike_67 : decode cX4_areAlike 67 = .ok (.getfield 32, 3) := by decide +kernel
theorem dX4_areAlike_70 : decode cX4_areAlike 70 = .ok (.iload_n 1, 1) := by decide +kernel
theorem dX4_areAlike_71 : decode cX4_areAlike 71 = .ok (.iaload, 1) := by decide +kernel
theorem dX4_areAlike_72 : decode cX4_areAlike 72 = .ok (.imul, 1) := by decide +kernel
theorem dX4_areAlike_73 : decode cX4_areAlike 73 = .ok (.aload_n 0, 1) := by decide +kernel
theorem dX4_areAlike_74 : decode cX4_areAlike 74 = .ok (.getfield 32, 3) := by decide +kernel
theorem dX4_areAlike_77 : decode cX4_areAlike 77 = .ok (.iload_n 2, 1) := by decide +kernel
theorem dX4_areAlike_78 : decode cX4_areAlike 78 = .ok (.iaload, 1) := by decide +kernel
theorem dX4_areAlike_79 : decode cX4_areAlike 79 = .ok (.iadd, 1) := by decide +kernel
theorem dX4_areAlike_80 : decode cX4_areAlike 80 = .ok (.baload, 1) := by decide +kernel
theorem dX4_areAlike_81 : decode cX4_areAlike 81 = .ok (.ifCond .ne 7, 3) := by decide +kernel
theorem dX4_areAlike_84 : decode cX4_areAlike 84 = .ok (.iconst 1, 1) := by decide +kernel
theorem dX4_areAlike_85 : decode cX4_areAlike 85 = .ok (.goto 4, 3) := by decide +kernel
theorem dX4_areAlike_88 : decode cX4_areAlike 88 = .ok (.iconst 0, 1) := by decide +kernel
theorem dX4_areAlike_89 : decode cX4_areAlike 89 = .ok (.istore_n 3, 1) := by decide +kernel
theorem dX4_areAlike_90 : decode cX4_areAlike 90 = .ok (.iconst 0, 1) := by decide +kernel
theorem dX4_areAlike_91 : decode cX4_areAlike 91 = .ok (.istore 4, 2) := by decide +kernel
theorem dX4_areAlike_93 : decode cX4_areAlike 93 = .ok (.iload 4, 2) := by decide +kernel
theorem dX4_areAlike_95 : decode cX4_areAlike 95 = .ok (.iconst 3, 1) := by decide +kernel
theorem dX4_areAlike_96 : decode cX4_areAlike 96 = .ok (.aload_n 0, 1) := by decide +kernel
theorem dX4_areAlike_97 : decode cX4_areAlike 97 = .ok (.getfield 35, 3) := by decide +kernel
theorem dX4_areAlike_100 : decode cX4_areAlike 100 = .ok (.iload_n 1, 1) := by decide +kernel
theorem dX4_areAlike_101 : decode cX4_areAlike 101 = .ok (.iaload, 1) := by decide +kernel
theorem dX4_areAlike_102 : decode cX4_areAlike 102 = .ok (.imul, 1) := by decide +kernel
theorem dX4_areAlike_103 : decode cX4_areAlike 103 = .ok (.if_icmp .ge 46, 3) := by decide +kernel
theorem dX4_areAlike_106 : decode cX4_areAlike 106 = .ok (.iload_n 3, 1) := by decide +kernel
theorem dX4_areAlike_107 : decode cX4_areAlike 107 = .ok (.ifCond .eq 42, 3) := by decide +kernel
theorem dX4_areAlike_110 : decode cX4_areAlike 110 = .ok (.aload_n 0, 1) := by decide +kernel
theorem dX4_areAlike_111 : decode cX4_areAlike 111 = .ok (.getfield 38, 3) := by decide +kernel
theorem dX4_areAlike_114 : decode cX4_areAlike 114 = .ok (.bipush 9, 2) := by decide +kernel
theorem dX4_areAlike_116 : decode cX4_areAlike 116 = .ok (.iload_n 1, 1) := by decide +kernel
theorem dX4_areAlike_117 : decode cX4_areAlike 117 = .ok (.imul, 1) := by decide +kernel
theorem dX4_areAlike_118 : decode cX4_areAlike 118 = .ok (.iload 4, 2) := by decide +kernel
theorem dX4_areAlike_120 : decode cX4_areAlike 120 = .ok (.iadd, 1) := by decide +kernel
theorem dX4_areAlike_121 : decode cX4_areAlike 121 = .ok (.iaload, 1) := by decide +kernel
theorem dX4_areAlike_122 : decode cX4_areAlike 122 = .ok (.aload_n 0, 1) := by decide +kernel
theorem dX4_areAlike_123 : decode cX4_areAlike 123 = .ok (.getfield 38, 3) := by decide +kernel
theorem dX4_areAlike_126 : decode cX4_areAlike 126 = .ok (.bipush 9, 2) := by decide +kernel
theorem dX4_areAlike_128 : decode cX4_areAlike 128 = .ok (.iload_n 2, 1) := by decide +kernel
theorem dX4_areAlike_129 : decode cX4_areAlike 129 = .ok (.imul, 1) := by decide +kernel
theorem dX4_areAlike_130 : decode cX4_areAlike 130 = .ok (.iload 4, 2) := by decide +kernel
theorem dX4_areAlike_132 : decode cX4_areAlike 132 = .ok (.iadd, 1) := by decide +kernel
theorem dX4_areAlike_133 : decode cX4_areAlike 133 = .ok (.iaload, 1) := by decide +kernel
theorem dX4_areAlike_134 : decode cX4_areAlike 134 = .ok (.if_icmp .ne 7, 3) := by decide +kernel
theorem dX4_areAlike_137 : decode cX4_areAlike 137 = .ok (.iconst 1, 1) := by decide +kernel
theorem dX4_areAlike_138 : decode cX4_areAlike 138 = .ok (.goto 4, 3) := by decide +kernel
theorem dX4_areAlike_141 : decode cX4_areAlike 141 = .ok (.iconst 0, 1) := by decide +kernel
theorem dX4_areAlike_142 : decode cX4_areAlike 142 = .ok (.istore_n 3, 1) := by decide +kernel
theorem dX4_areAlike_143 : decode cX4_areAlike 143 = .ok (.iinc 4 1, 3) := by decide +kernel
theorem dX4_areAlike_146 : decode cX4_areAlike 146 = .ok (.goto (-53), 3) := by decide +kernel
theorem dX4_areAlike_149 : decode cX4_areAlike 149 = .ok (.iload_n 3, 1) := by decide +kernel
theorem dX4_areAlike_150 : decode cX4_areAlike 150 = .ok (.ireturn, 1) := by decide +kernel
set_option maxRecDepth 20000 in
theorem ggX4_areDifferent_X4_transition : GoodIn wsX4_areDifferent wsX4_transition := goodIn_r _ [5, 6, 7, 8, 20, 21, 22, 23, 24, 25, 26, 27, 28, 29, 30, 31, 32, 33, 34, 35, 36, 37, 38, 39, 40, 41, 42, 43, 44, 45, 46, 47, 48, 49] (by decide +kernel) (by decide +kernel)
set_option maxRecDepth 20000 in
theorem gX4_areDifferent_X4_transition : GoodIn wsX4_areDifferent (wsV RX4 150 RX4 yX4_transition wsX4_transition) := goodIn_app (goodIn_of _ (by decide +kernel)) ggX4_areDifferent_X4_transition
set_option maxRecDepth 20000 in
theorem ggX4_areDifferent_X4_areAlike : GoodIn wsX4_areDifferent wsX4_areAlike := goodIn_r _ [12, 13, 14, 15, 16, 17, 18, 19, 20, 21, 22, 23, 24, 25, 26, 27, 28, 29, 30, 31, 32, 33, 34, 35, 36, 37, 38, 39, 40, 41, 42, 43, 44, 45, 46, 47, 48, 49] (by decide +kernel) (by decide +kernel)
set_option maxRecDepth 20000 in
theorem gX4_areDifferent_X4_areAlike : GoodIn wsX4_areDifferent (wsV RX4 154 RX4 yX4_areAlike wsX4_areAlike) := goodIn_app (goodIn_of _ (by decide +kernel)) ggX4_areDifferent_X4_areAlike
theorem dX4_areDifferent_0 : decode cX4_areDifferent 0 = .ok (.iconst 0, 1) := by decide +kernel
theorem dX4_areDifferent_1 : decode cX4_areDifferent 1 = .ok (.istore_n 3, 1) := by decide +kernel
theorem dX4_areDifferent_2 : decode cX4_areDifferent 2 = .ok (.iload_n 3, 1) := by decide +kernel
theorem dX4_areDifferent_3 : decode cX4_areDifferent 3 = .ok (.bipush 8, 2) := by decide +kernel
theorem dX4_areDifferent_5 : decode cX4_areDifferent 5 = .ok (.if_icmp .ge 93, 3) := by decide +kernel
theorem dX4_areDifferent_8 : decode cX4_areDifferent 8 = .ok (.iconst 0, 1) := by decide +kernel
theorem dX4_areDifferent_9 : decode cX4_areDifferent 9 = .ok (.istore 4, 2) := by decide +kernel
theorem dX4_areDifferent_11 : decode cX4_areDifferent 11 = .ok (.aload_n 0, 1) := by decide +kernel
theorem dX4_areDifferent_12 : decode cX4_areDifferent 12 = .ok (.iload_n 1, 1) := by decide +kernel
theorem dX4_areDifferent_13 : decode cX4_areDifferent 13 = .ok (.iload_n 3, 1) := by decide +kernel
theorem dX4_areDifferent_14 : decode cX4_areDifferent 14 = .ok (.iconst 0, 1) := by decide +kernel
theorem dX4_areDifferent_15 : decode cX4_areDifferent 15 = .ok (.invokevirtual 150, 3) := by decide +kernel
theorem dX4_areDifferent_18 : decode cX4_areDifferent 18 = .ok (.istore 5, 2) := by decide +kernel
theorem dX4_areDifferent_20 : decode cX4_areDifferent 20 = .ok (.aload_n 0, 1) := by decide +kernel
theorem dX4_areDifferent_21 : decode cX4_areDifferent 21 = .ok (.iload_n 2, 1) := by decide +kernel
theorem dX4_areDifferent_22 : decode cX4_areDifferent 22 = .ok (.iload_n 3, 1) := by decide +kernel
theorem dX4_areDifferent_23 : decode cX4_areDifferent 23 = .ok (.iconst 0, 1) := by decide +kernel
theorem dX4_areDifferent_24 : decode cX4_areDifferent 24 = .ok (.invokevirtual 150, 3) := by decide +kernel
theorem dX4_areDifferent_27 : decode cX4_areDifferent 27 = .ok (.istore 6, 2) := by decide +kernel
theorem dX4_areDifferent_29 : decode cX4_areDifferent 29 = .ok (.iload 5, 2) := by decide +kernel
theorem dX4_areDifferent_31 : decode cX4_areDifferent 31 = .ok (.iconst (-1), 1) := by decide +kernel
theorem dX4_areDifferent_32 : decode cX4_areDifferent 32 = .ok (.if_icmp .eq 46, 3) := by decide +kernel
theorem dX4_areDifferent_35 : decode cX4_areDifferent 35 = .ok (.iload 6, 2) := by decide +kernel
theorem dX4_areDifferent_37 : decode cX4_areDifferent 37 = .ok (.iconst (-1), 1) := by decide +kernel
theorem dX4_areDifferent_38 : decode cX4_areDifferent 38 = .ok (.if_icmp .eq 40, 3) := by decide +kernel
theorem dX4_areDifferent_41 : decode cX4_areDifferent 41 = .ok (.aload_n 0, 1) := by decide +kernel
theorem dX4_areDifferent_42 : decode cX4_areDifferent 42 = .ok (.iload 5, 2) := by decide +kernel
theorem dX4_areDifferent_44 : decode cX4_areDifferent 44 = .ok (.iload 6, 2) := by decide +kernel
theorem dX4_areDifferent_46 : decode cX4_areDifferent 46 = .ok (.invokevirtual 154, 3) := by decide +kernel
theorem dX4_areDifferent_49 : decode cX4_areDifferent 49 = .ok (.ifCond .eq 29, 3) := by decide +kernel
theorem dX4_areDifferent_52 : decode cX4_areDifferent 52 = .ok (.iinc 4 1, 3) := by decide +kernel
theorem dX4_areDifferent_55 : decode cX4_areDifferent 55 = .ok (.aload_n 0, 1) := by decide +kernel
theorem dX4_areDifferent_56 : decode cX4_areDifferent 56 = .ok (.iload_n 1, 1) := by decide +kernel
theorem dX4_areDifferent_57 : decode cX4_areDifferent 57 = .ok (.iload_n 3, 1) := by decide +kernel
theorem dX4_areDifferent_58 : decode cX4_areDifferent 58 = .ok (.iload 4, 2) := by decide +kernel
theorem dX4_areDifferent_60 : decode cX4_areDifferent 60 = .ok (.invokevirtual 150, 3) := by decide +kernel
theorem dX4_areDifferent_63 : decode cX4_areDifferent 63 = .ok (.istore 5, 2) := by decide +kernel
theorem dX4_areDifferent_65 : decode cX4_areDifferent 65 = .ok (.aload_n 0, 1) := by decide +kernel
theorem dX4_areDifferent_66 : decode cX4_areDifferent 66 = .ok (.iload_n 2, 1) := by decide +kernel
theorem dX4_areDifferent_67 : decode cX4_areDifferent 67 = .ok (.iload_n 3, 1) := by decide +kernel
theorem dX4_areDifferent_68 : decode cX4_areDifferent 68 = .ok (.iload 4, 2) := by decide +kernel
theorem dX4_areDifferent_70 : decode cX4_areDifferent 70 = .ok (.invokevirtual 150, 3) := by decide +kernel
theorem dX4_areDifferent_73 : decode cX4_areDifferent 73 = .ok (.istore 6, 2) := by decide +kernel
theorem dX4_areDifferent_75 : decode cX4_areDifferent 75 = .ok (.goto (-46), 3) := by decide +kernel
theorem dX4_areDifferent_78 : decode cX4_areDifferent 78 = .ok (.iload 5, 2) := by decide +kernel
theorem dX4_areDifferent_80 : decode cX4_areDifferent 80 = .ok (.iconst (-1), 1) := by decide +kernel
theorem dX4_areDifferent_81 : decode cX4_areDifferent 81 = .ok (.if_icmp .ne 9, 3) := by decide +kernel
theorem dX4_areDifferent_84 : decode cX4_areDifferent 84 = .ok (.iload 6, 2) := by decide +kernel
theorem dX4_areDifferent_86 : decode cX4_areDifferent 86 = .ok (.iconst (-1), 1) := by decide +kernel
theorem dX4_areDifferent_87 : decode cX4_areDifferent 87 = .ok (.if_icmp .eq 5, 3) := by decide +kernel
theorem dX4_areDifferent_90 : decode cX4_areDifferent 90 = .ok (.iconst 1, 1) := by decide +kernel
theorem dX4_areDifferent_91 : decode cX4_areDifferent 91 = .ok (.ireturn, 1) := by decide +kernel
theorem dX4_areDifferent_92 : decode cX4_areDifferent 92 = .ok (.iinc 3 1, 3) := by decide +kernel
theorem dX4_areDifferent_95 : decode cX4_areDifferent 95 = .ok (.goto (-93), 3) := by decide +kernel
theorem dX4_areDifferent_98 : decode cX4_areDifferent 98 = .ok (.iconst 0, 1) := by decide +kernel
theorem dX4_areDifferent_99 : decode cX4_areDifferent 99 = .ok (.ireturn, 1) := by decide +kernel
set_option maxRecDepth 20000 in
theorem ggX4_takeApart_X4_areDifferent : GoodIn wsX4_takeApart wsX4_areDifferent := goodIn_r _ [8, 9, 10, 11, 7, 12, 13, 14, 15, 16, 17, 18, 19, 20, 21, 22, 23, 1, 24, 25, 26, 27, 28, 29, 30, 31, 32, 33, 34, 35, 36, 37, 38, 39, 40, 41, 42, 43, 44, 45, 46, 47, 48, 49, 50, 51, 52, 53, 54, 55] (by decide +kernel) (by decide +kernel)
set_option maxRecDepth 20000 in
theorem gX4_takeApart_X4_areDifferent : GoodIn wsX4_takeApart (wsV RX4 157 RX4 yX4_areDifferent wsX4_areDifferent) := goodIn_app (goodIn_of _ (by decide +kernel)) ggX4_takeApart_X4_areDifferent
theorem dX4_takeApart_0 : decode cX4_takeApart 0 = .ok (.iconst 0, 1) := by decide +kernel
theorem dX4_takeApart_1 : decode cX4_takeApart 1 = .ok (.istore_n 1, 1) := by decide +kernel
theorem dX4_takeApart_2 : decode cX4_takeApart 2 = .ok (.iload_n 1, 1) := by decide +kernel
theorem dX4_takeApart_3 : decode cX4_takeApart 3 = .ok (.sipush 144, 3) := by decide +kernel
theorem dX4_takeApart_6 : decode cX4_takeApart 6 = .ok (.if_icmp .ge 16, 3) := by decide +kernel
theorem dX4_takeApart_9 : decode cX4_takeApart 9 = .ok (.aload_n 0, 1) := by decide +kernel
theorem dX4_takeApart_10 : decode cX4_takeApart 10 = .ok (.getfield 73, 3) := by decide +kernel
theorem dX4_takeApart_13 : decode cX4_takeApart 13 = .ok (.iload_n 1, 1) := by decide +kernel
theorem dX4_takeApart_14 : decode cX4_takeApart 14 = .ok (.iconst 0, 1) := by decide +kernel
theorem dX4_takeApart_15 : decode cX4_takeApart 15 = .ok (.bastore, 1) := by decide +kernel
theorem dX4_takeApart_16 : decode cX4_takeApart 16 = .ok (.iinc 1 1, 3) := by decide +kernel
theorem dX4_takeApart_19 : decode cX4_takeApart 19 = .ok (.goto (-17), 3) := by decide +kernel
theorem dX4_takeApart_22 : decode cX4_takeApart 22 = .ok (.iconst 1, 1) := by decide +kernel
theorem dX4_takeApart_23 : decode cX4_takeApart 23 = .ok (.istore_n 1, 1) := by decide +kernel
theorem dX4_takeApart_24 : decode cX4_takeApart 24 = .ok (.iload_n 1, 1) := by decide +kernel
theorem dX4_takeApart_25 : decode cX4_takeApart 25 = .ok (.ifCond .eq 110, 3) := by decide +kernel
theorem dX4_takeApart_28 : decode cX4_takeApart 28 = .ok (.iconst 0, 1) := by decide +kernel
theorem dX4_takeApart_29 : decode cX4_takeApart 29 = .ok (.istore_n 1, 1) := by decide +kernel
theorem dX4_takeApart_30 : decode cX4_takeApart 30 = .ok (.iconst 0, 1) := by decide +kernel
theorem dX4_takeApart_31 : decode cX4_takeApart 31 = .ok (.istore_n 2, 1) := by decide +kernel
theorem dX4_takeApart_32 : decode cX4_takeApart 32 = .ok (.iload_n 2, 1) := by decide +kernel
theorem dX4_takeApart_33 : decode cX4_takeApart 33 = .ok (.aload_n 0, 1) := by decide +kernel
theorem dX4_takeApart_34 : decode cX4_takeApart 34 = .ok (.getfield 7, 3) := by decide +kernel
theorem dX4_takeApart_37 : decode cX4_takeApart 37 = .ok (.if_icmp .ge 95, 3) := by decide +kernel
theorem dX4_takeApart_40 : decode cX4_takeApart 40 = .ok (.iconst 0, 1) := by decide +kernel
theorem dX4_takeApart_41 : decode cX4_takeApart 41 = .ok (.istore_n 3, 1) := by decide +kernel
theorem dX4_takeApart_42 : decode cX4_takeApart 42 = .ok (.iload_n 3, 1) := by decide +kernel
theorem dX4_takeApart_43 : decode cX4_takeApart 43 = .ok (.aload_n 0, 1) := by decide +kernel
theorem dX4_takeApart_44 : decode cX4_takeApart 44 = .ok (.getfield 7, 3) := by decide +kernel
theorem dX4_takeApart_47 : decode cX4_takeApart 47 = .ok (.if_icmp .ge 79, 3) := by decide +kernel
theorem dX4_takeApart_50 : decode cX4_takeApart 50 = .ok (.aload_n 0, 1) := by decide +kernel
theorem dX4_takeApart_51 : decode cX4_takeApart 51 = .ok (.getfield 73, 3) := by decide +kernel
theorem dX4_takeApart_54 : decode cX4_takeApart 54 = .ok (.bipush 12, 2) := by decide +kernel
theorem dX4_takeApart_56 : decode cX4_takeApart 56 = .ok (.iload_n 2, 1) := by decide +kernel
theorem dX4_takeApart_57 : decode cX4_takeApart 57 = .ok (.imul, 1) := by decide +kernel
theorem dX4_takeApart_58 : decode cX4_takeApart 58 = .ok (.iload_n 3, 1) := by decide +kernel
theorem dX4_takeApart_59 : decode cX4_takeApart 59 = .ok (.iadd, 1) := by decide +kernel
theorem dX4_takeApart_60 : decode cX4_takeApart 60 = .ok (.baload, 1) := by decide +kernel
theorem dX4_takeApart_61 : decode cX4_takeApart 61 = .ok (.ifCond .ne 59, 3) := by decide +kernel
theorem dX4_takeApart_64 : decode cX4_takeApart 64 = .ok (.aload_n 0, 1) := by decide +kernel
theorem dX4_takeApart_65 : decode cX4_takeApart 65 = .ok (.getfield 70, 3) := by decide +kernel
theorem dX4_takeApart_68 : decode cX4_takeApart 68 = .ok (.iload_n 2, 1) := by decide +kernel
theorem dX4_takeApart_69 : decode cX4_takeApart 69 = .ok (.baload, 1) := by decide +kernel
theorem dX4_takeApart_70 : decode cX4_takeApart 70 = .ok (.ifCond .eq 50, 3) := by decide +kernel
theorem dX4_takeApart_73 : decode cX4_takeApart 73 = .ok (.aload_n 0, 1) := by decide +kernel
theorem dX4_takeApart_74 : decode cX4_takeApart 74 = .ok (.getfield 70, 3) := by decide +kernel
theorem dX4_takeApart_77 : decode cX4_takeApart 77 = .ok (.iload_n 3, 1) := by decide +kernel
theorem dX4_takeApart_78 : decode cX4_takeApart 78 = .ok (.baload, 1) := by decide +kernel
theorem dX4_takeApart_79 : decode cX4_takeApart 79 = .ok (.ifCond .eq 41, 3) := by decide +kernel
theorem dX4_takeApart_82 : decode cX4_takeApart 82 = .ok (.aload_n 0, 1) := by decide +kernel
theorem dX4_takeApart_83 : decode cX4_takeApart 83 = .ok (.iload_n 2, 1) := by decide +kernel
theorem dX4_takeApart_84 : decode cX4_takeApart 84 = .ok (.iload_n 3, 1) := by decide +kernel
theorem dX4_takeApart_85 : decode cX4_takeApart 85 = .ok (.invokevirtual 157, 3) := by decide +kernel
theorem dX4_takeApart_88 : decode cX4_takeApart 88 = .ok (.ifCond .ne 6, 3) := by decide +kernel
theorem dX4_takeApart_91 : decode cX4_takeApart 91 = .ok (.goto 29, 3) := by decide +kernel
theorem dX4_takeApart_94 : decode cX4_takeApart 94 = .ok (.aload_n 0, 1) := by decide +kernel
theorem dX4_takeApart_95 : decode cX4_takeApart 95 = .ok (.getfield 73, 3) := by decide +kernel
theorem dX4_takeApart_98 : decode cX4_takeApart 98 = .ok (.bipush 12, 2) := by decide +kernel
theorem dX4_takeApart_100 : decode cX4_takeApart 100 = .ok (.iload_n 2, 1) := by decide +kernel
theorem dX4_takeApart_101 : decode cX4_takeApart 101 = .ok (.imul, 1) := by decide +kernel
theorem dX4_takeApart_102 : decode cX4_takeApart 102 = .ok (.iload_n 3, 1) := by decide +kernel
theorem dX4_takeApart_103 : decode cX4_takeApart 103 = .ok (.iadd, 1) := by decide +kernel
theorem dX4_takeApart_104 : decode cX4_takeApart 104 = .ok (.iconst 1, 1) := by decide +kernel
theorem dX4_takeApart_105 : decode cX4_takeApart 105 = .ok (.bastore, 1) := by decide +kernel
theorem dX4_takeApart_106 : decode cX4_takeApart 106 = .ok (.aload_n 0, 1) := by decide +kernel
theorem dX4_takeApart_107 : decode cX4_takeApart 107 = .ok (.getfield 73, 3) := by decide +kernel
theorem dX4_takeApart_110 : decode cX4_takeApart 110 = .ok (.bipush 12, 2) := by decide +kernel
theorem dX4_takeApart_112 : decode cX4_takeApart 112 = .ok (.iload_n 3, 1) := by decide +kernel
theorem dX4_takeApart_113 : decode cX4_takeApart 113 = .ok (.imul, 1) := by decide +kernel
theorem dX4_takeApart_114 : decode cX4_takeApart 114 = .ok (.iload_n 2, 1) := by decide +kernel
theorem dX4_takeApart_115 : decode cX4_takeApart 115 = .ok (.iadd, 1) := by decide +kernel
theorem dX4_takeApart_116 : decode cX4_takeApart 116 = .ok (.iconst 1, 1) := by decide +kernel
theorem dX4_takeApart_117 : decode cX4_takeApart 117 = .ok (.bastore, 1) := by decide +kernel
theorem dX4_takeApart_118 : decode cX4_takeApart 118 = .ok (.iconst 1, 1) := by decide +kernel
theorem dX4_takeApart_119 : decode cX4_takeApart 119 = .ok (.istore_n 1, 1) := by decide +kernel
theorem dX4_takeApart_120 : decode cX4_takeApart 120 = .ok (.iinc 3 1, 3) := by decide +kernel
theorem dX4_takeApart_123 : decode cX4_takeApart 123 = .ok (.goto (-81), 3) := by decide +kernel
theorem dX4_takeApart_126 : decode cX4_takeApart 126 = .ok (.iinc 2 1, 3) := by decide +kernel
theorem dX4_takeApart_129 : decode cX4_takeApart 129 = .ok (.goto (-97), 3) := by decide +kernel
theorem dX4_takeApart_132 : decode cX4_takeApart 132 = .ok (.goto (-108), 3) := by decide +kernel
theorem dX4_takeApart_135 : decode cX4_takeApart 135 = .ok (.return_, 1) := by decide +kernel
theorem dX4_usedEvents_0 : decode cX4_usedEvents 0 = .ok (.iconst 0, 1) := by decide +kernel
theorem dX4_usedEvents_1 : decode cX4_usedEvents 1 = .ok (.istore_n 2, 1) := by decide +kernel
theorem dX4_usedEvents_2 : decode cX4_usedEvents 2 = .ok (.iconst 0, 1) := by decide +kernel
theorem dX4_usedEvents_3 : decode cX4_usedEvents 3 = .ok (.istore_n 3, 1) := by decide +kernel
theorem dX4_usedEvents_4 : decode cX4_usedEvents 4 = .ok (.iload_n 3, 1) := by decide +kernel
theorem dX4_usedEvents_5 : decode cX4_usedEvents 5 = .ok (.aload_n 0, 1) := by decide +kernel
theorem dX4_usedEvents_6 : decode cX4_usedEvents 6 = .ok (.getfield 83, 3) := by decide +kernel
theorem dX4_usedEvents_9 : decode cX4_usedEvents 9 = .ok (.if_icmp .ge 30, 3) := by decide +kernel
theorem dX4_usedEvents_12 : decode cX4_usedEvents 12 = .ok (.aload_n 0, 1) := by decide +kernel
theorem dX4_usedEvents_13 : decode cX4_usedEvents 13 = .ok (.getfield 17, 3) := by decide +kernel
theorem dX4_usedEvents_16 : decode cX4_usedEvents 16 = .ok (.iload_n 3, 1) := by decide +kernel
theorem dX4_usedEvents_17 : decode cX4_usedEvents 17 = .ok (.iaload, 1) := by decide +kernel
theorem dX4_usedEvents_18 : decode cX4_usedEvents 18 = .ok (.iload_n 1, 1) := by decide +kernel
theorem dX4_usedEvents_19 : decode cX4_usedEvents 19 = .ok (.if_icmp .ne 14, 3) := by decide +kernel
theorem dX4_usedEvents_22 : decode cX4_usedEvents 22 = .ok (.iload_n 2, 1) := by decide +kernel
theorem dX4_usedEvents_23 : decode cX4_usedEvents 23 = .ok (.iconst 1, 1) := by decide +kernel
theorem dX4_usedEvents_24 : decode cX4_usedEvents 24 = .ok (.aload_n 0, 1) := by decide +kernel
theorem dX4_usedEvents_25 : decode cX4_usedEvents 25 = .ok (.getfield 20, 3) := by decide +kernel
theorem dX4_usedEvents_28 : decode cX4_usedEvents 28 = .ok (.iload_n 3, 1) := by decide +kernel
theorem dX4_usedEvents_29 : decode cX4_usedEvents 29 = .ok (.iaload, 1) := by decide +kernel
theorem dX4_usedEvents_30 : decode cX4_usedEvents 30 = .ok (.ishl, 1) := by decide +kernel
theorem dX4_usedEvents_31 : decode cX4_usedEvents 31 = .ok (.ior, 1) := by decide +kernel
theorem dX4_usedEvents_32 : decode cX4_usedEvents 32 = .ok (.istore_n 2, 1) := by decide +kernel
theorem dX4_usedEvents_33 : decode cX4_usedEvents 33 = .ok (.iinc 3 1, 3) := by decide +kernel
theorem dX4_usedEvents_36 : decode cX4_usedEvents 36 = .ok (.goto (-32), 3) := by decide +kernel
theorem dX4_usedEvents_39 : decode cX4_usedEvents 39 = .ok (.iload_n 2, 1) := by decide +kernel
theorem dX4_usedEvents_40 : decode cX4_usedEvents 40 = .ok (.ireturn, 1) := by decide +kernel
theorem dX4_fits_0 : decode cX4_fits 0 = .ok (.iconst 1, 1) := by decide +kernel
theorem dX4_fits_1 : decode cX4_fits 1 = .ok (.istore_n 3, 1) := by decide +kernel
theorem dX4_fits_2 : decode cX4_fits 2 = .ok (.iconst 0, 1) := by decide +kernel
theorem dX4_fits_3 : decode cX4_fits 3 = .ok (.istore 4, 2) := by decide +kernel
theorem dX4_fits_5 : decode cX4_fits 5 = .ok (.iload 4, 2) := by decide +kernel
theorem dX4_fits_7 : decode cX4_fits 7 = .ok (.bipush 8, 2) := by decide +kernel
theorem dX4_fits_9 : decode cX4_fits 9 = .ok (.if_icmp .ge 41, 3) := by decide +kernel
theorem dX4_fits_12 : decode cX4_fits 12 = .ok (.iload_n 3, 1) := by decide +kernel
theorem dX4_fits_13 : decode cX4_fits 13 = .ok (.ifCond .eq 29, 3) := by decide +kernel
theorem dX4_fits_16 : decode cX4_fits 16 = .ok (.iload_n 1, 1) := by decide +kernel
theorem dX4_fits_17 : decode cX4_fits 17 = .ok (.iload 4, 2) := by decide +kernel
theorem dX4_fits_19 : decode cX4_fits 19 = .ok (.ishr, 1) := by decide +kernel
theorem dX4_fits_20 : decode cX4_fits 20 = .ok (.iconst 1, 1) := by decide +kernel
theorem dX4_fits_21 : decode cX4_fits 21 = .ok (.iand, 1) := by decide +kernel
theorem dX4_fits_22 : decode cX4_fits 22 = .ok (.ifCond .eq 16, 3) := by decide +kernel
theorem dX4_fits_25 : decode cX4_fits 25 = .ok (.aload_n 0, 1) := by decide +kernel
theorem dX4_fits_26 : decode cX4_fits 26 = .ok (.getfield 67, 3) := by decide +kernel
theorem dX4_fits_29 : decode cX4_fits 29 = .ok (.iload_n 2, 1) := by decide +kernel
theorem dX4_fits_30 : decode cX4_fits 30 = .ok (.iload 4, 2) := by decide +kernel
theorem dX4_fits_32 : decode cX4_fits 32 = .ok (.iadd, 1) := by decide +kernel
theorem dX4_fits_33 : decode cX4_fits 33 = .ok (.iaload, 1) := by decide +kernel
theorem dX4_fits_34 : decode cX4_fits 34 = .ok (.iconst (-1), 1) := by decide +kernel
theorem dX4_fits_35 : decode cX4_fits 35 = .ok (.if_icmp .ne 7, 3) := by decide +kernel
theorem dX4_fits_38 : decode cX4_fits 38 = .ok (.iconst 1, 1) := by decide +kernel
theorem dX4_fits_39 : decode cX4_fits 39 = .ok (.goto 4, 3) := by decide +kernel
theorem dX4_fits_42 : decode cX4_fits 42 = .ok (.iconst 0, 1) := by decide +kernel
theorem dX4_fits_43 : decode cX4_fits 43 = .ok (.istore_n 3, 1) := by decide +kernel
theorem dX4_fits_44 : decode cX4_fits 44 = .ok (.iinc 4 1, 3) := by decide +kernel
theorem dX4_fits_47 : decode cX4_fits 47 = .ok (.goto (-42), 3) := by decide +kernel
theorem dX4_fits_50 : decode cX4_fits 50 = .ok (.iload_n 3, 1) := by decide +kernel
theorem dX4_fits_51 : decode cX4_fits 51 = .ok (.ireturn, 1) := by decide +kernel
set_option maxRecDepth 20000 in
theorem ggX4_lay_X4_fits : GoodIn wsX4_lay wsX4_fits := goodIn_r _ [12, 2, 13, 14, 15, 16, 17, 18, 19, 20, 21, 22, 23, 24, 25, 26, 27, 28, 29, 30, 31, 32, 33, 34, 35, 36, 37, 38, 39, 40, 41, 42] (by decide +kernel) (by decide +kernel)
set_option maxRecDepth 20000 in
theorem gX4_lay_X4_fits : GoodIn wsX4_lay (wsV RX4 160 RX4 yX4_fits wsX4_fits) := goodIn_app (goodIn_of _ (by decide +kernel)) ggX4_lay_X4_fits
theorem dX4_lay_0 : decode cX4_lay 0 = .ok (.iconst 0, 1) := by decide +kernel
theorem dX4_lay_1 : decode cX4_lay 1 = .ok (.istore_n 3, 1) := by decide +kernel
theorem dX4_lay_2 : decode cX4_lay 2 = .ok (.aload_n 0, 1) := by decide +kernel
theorem dX4_lay_3 : decode cX4_lay 3 = .ok (.iload_n 2, 1) := by decide +kernel
theorem dX4_lay_4 : decode cX4_lay 4 = .ok (.iload_n 3, 1) := by decide +kernel
theorem dX4_lay_5 : decode cX4_lay 5 = .ok (.invokevirtual 160, 3) := by decide +kernel
theorem dX4_lay_8 : decode cX4_lay 8 = .ok (.ifCond .ne 9, 3) := by decide +kernel
theorem dX4_lay_11 : decode cX4_lay 11 = .ok (.iinc 3 1, 3) := by decide +kernel
theorem dX4_lay_14 : decode cX4_lay 14 = .ok (.goto (-12), 3) := by decide +kernel
theorem dX4_lay_17 : decode cX4_lay 17 = .ok (.aload_n 0, 1) := by decide +kernel
theorem dX4_lay_18 : decode cX4_lay 18 = .ok (.getfield 61, 3) := by decide +kernel
theorem dX4_lay_21 : decode cX4_lay 21 = .ok (.iload_n 1, 1) := by decide +kernel
theorem dX4_lay_22 : decode cX4_lay 22 = .ok (.iload_n 3, 1) := by decide +kernel
theorem dX4_lay_23 : decode cX4_lay 23 = .ok (.iastore, 1) := by decide +kernel
theorem dX4_lay_24 : decode cX4_lay 24 = .ok (.iconst 0, 1) := by decide +kernel
theorem dX4_lay_25 : decode cX4_lay 25 = .ok (.istore 4, 2) := by decide +kernel
theorem dX4_lay_27 : decode cX4_lay 27 = .ok (.iload 4, 2) := by decide +kernel
theorem dX4_lay_29 : decode cX4_lay 29 = .ok (.bipush 8, 2) := by decide +kernel
theorem dX4_lay_31 : decode cX4_lay 31 = .ok (.if_icmp .ge 48, 3) := by decide +kernel
theorem dX4_lay_34 : decode cX4_lay 34 = .ok (.iload_n 2, 1) := by decide +kernel
theorem dX4_lay_35 : decode cX4_lay 35 = .ok (.iload 4, 2) := by decide +kernel
theorem dX4_lay_37 : decode cX4_lay 37 = .ok (.ishr, 1) := by decide +kernel
theorem dX4_lay_38 : decode cX4_lay 38 = .ok (.iconst 1, 1) := by decide +kernel
theorem dX4_lay_39 : decode cX4_lay 39 = .ok (.iand, 1) := by decide +kernel
theorem dX4_lay_40 : decode cX4_lay 40 = .ok (.ifCond .ne 6, 3) := by decide +kernel
theorem dX4_lay_43 : decode cX4_lay 43 = .ok (.goto 30, 3) := by decide +kernel
theorem dX4_lay_46 : decode cX4_lay 46 = .ok (.aload_n 0, 1) := by decide +kernel
theorem dX4_lay_47 : decode cX4_lay 47 = .ok (.getfield 67, 3) := by decide +kernel
theorem dX4_lay_50 : decode cX4_lay 50 = .ok (.iload_n 3, 1) := by decide +kernel
theorem dX4_lay_51 : decode cX4_lay 51 = .ok (.iload 4, 2) := by decide +kernel
theorem dX4_lay_53 : decode cX4_lay 53 = .ok (.iadd, 1) := by decide +kernel
theorem dX4_lay_54 : decode cX4_lay 54 = .ok (.iload_n 1, 1) := by decide +kernel
theorem dX4_lay_55 : decode cX4_lay 55 = .ok (.iastore, 1) := by decide +kernel
theorem dX4_lay_56 : decode cX4_lay 56 = .ok (.aload_n 0, 1) := by decide +kernel
theorem dX4_lay_57 : decode cX4_lay 57 = .ok (.aload_n 0, 1) := by decide +kernel
theorem dX4_lay_58 : decode cX4_lay 58 = .ok (.getfield 163, 3) := by decide +kernel
theorem dX4_lay_61 : decode cX4_lay 61 = .ok (.iload_n 3, 1) := by decide +kernel
theorem dX4_lay_62 : decode cX4_lay 62 = .ok (.iload 4, 2) := by decide +kernel
theorem dX4_lay_64 : decode cX4_lay 64 = .ok (.iadd, 1) := by decide +kernel
theorem dX4_lay_65 : decode cX4_lay 65 = .ok (.iconst 1, 1) := by decide +kernel
theorem dX4_lay_66 : decode cX4_lay 66 = .ok (.iadd, 1) := by decide +kernel
theorem dX4_lay_67 : decode cX4_lay 67 = .ok (.invokestatic 133, 3) := by decide +kernel
theorem dX4_lay_70 : decode cX4_lay 70 = .ok (.putfield 163, 3) := by decide +kernel
theorem dX4_lay_73 : decode cX4_lay 73 = .ok (.iinc 4 1, 3) := by decide +kernel
theorem dX4_lay_76 : decode cX4_lay 76 = .ok (.goto (-49), 3) := by decide +kernel
theorem dX4_lay_79 : decode cX4_lay 79 = .ok (.return_, 1) := by decide +kernel
set_option maxRecDepth 20000 in
theorem ggX4_make_X4_reach : GoodIn wsX4_make wsX4_reach := goodIn_r _ [15, 5, 16, 17, 18, 65, 66, 67, 68, 69, 70, 71, 72, 73, 74, 75, 76, 77, 78, 79, 80, 81, 82, 83, 84, 85, 86, 87, 88, 89, 90, 91, 92, 93, 94] (by decide +kernel) (by decide +kernel)
set_option maxRecDepth 20000 in
theorem gX4_make_X4_reach : GoodIn wsX4_make (wsV RX4 166 RX4 yX4_reach wsX4_reach) := goodIn_app (goodIn_of _ (by decide +kernel)) ggX4_make_X4_reach
set_option maxRecDepth 20000 in
theorem ggX4_make_X4_takeApart : GoodIn wsX4_make wsX4_takeApart := goodIn_r _ [22, 6, 3, 5, 23, 24, 25, 14, 26, 27, 28, 29, 30, 16, 17, 31, 32, 33, 34, 35, 36, 37, 38, 39, 18, 40, 65, 66, 67, 68, 69, 70, 71, 72, 73, 74, 75, 76, 77, 78, 79, 80, 81, 82, 83, 84, 85, 86, 87, 88, 89, 90, 91, 92, 93, 94] (by decide +kernel) (by decide +kernel)
set_option maxRecDepth 20000 in
theorem gX4_make_X4_takeApart : GoodIn wsX4_make (wsV RX4 169 RX4 yX4_takeApart wsX4_takeApart) := goodIn_app (goodIn_of _ (by decide +kernel)) ggX4_make_X4_takeApart
set_option maxRecDepth 20000 in
theorem ggX4_make_X4_usedEvents : GoodIn wsX4_make wsX4_usedEvents := goodIn_r _ [44, 16, 17, 31, 65, 66, 67, 68, 69, 70, 71, 72, 73, 74, 75, 76, 77, 78, 79, 80, 81, 82, 83, 84, 85, 86, 87, 88, 89, 90, 91, 92, 93, 94] (by decide +kernel) (by decide +kernel)
set_option maxRecDepth 20000 in
theorem gX4_make_X4_usedEvents : GoodIn wsX4_make (wsV RX4 175 RX4 yX4_usedEvents wsX4_usedEvents) := goodIn_app (goodIn_of _ (by decide +kernel)) ggX4_make_X4_usedEvents
set_option maxRecDepth 20000 in
theorem ggX4_make_J6_bitCount_0f7a4 : GoodIn wsX4_make wsJ6_bitCount_0f7a4 := goodIn_r _ [48, 49, 50, 51] (by decide +kernel) (by decide +kernel)
set_option maxRecDepth 20000 in
theorem gX4_make_J6_bitCount_0f7a4 : GoodIn wsX4_make (va_wsS RX4 178 yJ6_bitCount_0f7a4 wsJ6_bitCount_0f7a4) := goodIn_app (goodIn_of _ (by decide +kernel)) ggX4_make_J6_bitCount_0f7a4
set_option maxRecDepth 20000 in
theorem ggX4_make_X4_lay : GoodIn wsX4_make wsX4_lay := goodIn_r _ [55, 56, 9, 8, 57, 58, 59, 60, 61, 62, 63, 14, 64, 65, 66, 67, 68, 69, 70, 71, 72, 73, 74, 75, 76, 77, 78, 79, 80, 81, 82, 83, 84, 85, 86, 87, 88, 89, 90, 91, 92, 93, 94] (by decide +kernel) (by decide +kernel)
set_option maxRecDepth 20000 in
theorem gX4_make_X4_lay : GoodIn wsX4_make (wsV RX4 183 RX4 yX4_lay wsX4_lay) := goodIn_app (goodIn_of _ (by decide +kernel)) ggX4_make_X4_lay
theorem dX4_make_0 : decode cX4_make 0 = .ok (.aload_n 0, 1) := by decide +kernel
theorem dX4_make_1 : decode cX4_make 1 = .ok (.invokevirtual 166, 3) := by decide +kernel
theorem dX4_make_4 : decode cX4_make 4 = .ok (.aload_n 0, 1) := by decide +kernel
theorem dX4_make_5 : decode cX4_make 5 = .ok (.invokevirtual 169, 3) := by decide +kernel
theorem dX4_make_8 : decode cX4_make 8 = .ok (.aload_n 0, 1) := by decide +kernel
theorem dX4_make_9 : decode cX4_make 9 = .ok (.iconst 0, 1) := by decide +kernel
theorem dX4_make_10 : decode cX4_make 10 = .ok (.putfield 172, 3) := by decide +kernel
theorem dX4_make_13 : decode cX4_make 13 = .ok (.bipush 12, 2) := by decide +kernel
theorem dX4_make_15 : decode cX4_make 15 = .ok (.newarray .int, 2) := by decide +kernel
theorem dX4_make_17 : decode cX4_make 17 = .ok (.astore_n 1, 1) := by decide +kernel
theorem dX4_make_18 : decode cX4_make 18 = .ok (.iconst 0, 1) := by decide +kernel
theorem dX4_make_19 : decode cX4_make 19 = .ok (.istore_n 2, 1) := by decide +kernel
theorem dX4_make_20 : decode cX4_make 20 = .ok (.iload_n 2, 1) := by decide +kernel
theorem dX4_make_21 : decode cX4_make 21 = .ok (.aload_n 0, 1) := by decide +kernel
theorem dX4_make_22 : decode cX4_make 22 = .ok (.getfield 7, 3) := by decide +kernel
theorem dX4_make_25 : decode cX4_make 25 = .ok (.if_icmp .ge 148, 3) := by decide +kernel
theorem dX4_make_28 : decode cX4_make 28 = .ok (.aload_n 0, 1) := by decide +kernel
theorem dX4_make_29 : decode cX4_make 29 = .ok (.getfield 58, 3) := by decide +kernel
theorem dX4_make_32 : decode cX4_make 32 = .ok (.iload_n 2, 1) := by decide +kernel
theorem dX4_make_33 : decode cX4_make 33 = .ok (.iconst (-1), 1) := by decide +kernel
theorem dX4_make_34 : decode cX4_make 34 = .ok (.iastore, 1) := by decide +kernel
theorem dX4_make_35 : decode cX4_make 35 = .ok (.aload_n 0, 1) := by decide +kernel
theorem dX4_make_36 : decode cX4_make 36 = .ok (.getfield 70, 3) := by decide +kernel
theorem dX4_make_39 : decode cX4_make 39 = .ok (.iload_n 2, 1) := by decide +kernel
theorem dX4_make_40 : decode cX4_make 40 = .ok (.baload, 1) := by decide +kernel
theorem dX4_make_41 : decode cX4_make 41 = .ok (.ifCond .ne 6, 3) := by decide +kernel
theorem dX4_make_44 : decode cX4_make 44 = .ok (.goto 123, 3) := by decide +kernel
theorem dX4_make_47 : decode cX4_make 47 = .ok (.iconst 0, 1) := by decide +kernel
theorem dX4_make_48 : decode cX4_make 48 = .ok (.istore_n 3, 1) := by decide +kernel
theorem dX4_make_49 : decode cX4_make 49 = .ok (.iload_n 3, 1) := by decide +kernel
theorem dX4_make_50 : decode cX4_make 50 = .ok (.iload_n 2, 1) := by decide +kernel
theorem dX4_make_51 : decode cX4_make 51 = .ok (.if_icmp .ge 54, 3) := by decide +kernel
theorem dX4_make_54 : decode cX4_make 54 = .ok (.aload_n 0, 1) := by decide +kernel
theorem dX4_make_55 : decode cX4_make 55 = .ok (.getfield 58, 3) := by decide +kernel
theorem dX4_make_58 : decode cX4_make 58 = .ok (.iload_n 2, 1) := by decide +kernel
theorem dX4_make_59 : decode cX4_make 59 = .ok (.iaload, 1) := by decide +kernel
theorem dX4_make_60 : decode cX4_make 60 = .ok (.iconst (-1), 1) := by decide +kernel
theorem dX4_make_61 : decode cX4_make 61 = .ok (.if_icmp .ne 44, 3) := by decide +kernel
theorem dX4_make_64 : decode cX4_make 64 = .ok (.aload_n 0, 1) := by decide +kernel
theorem dX4_make_65 : decode cX4_make 65 = .ok (.getfield 70, 3) := by decide +kernel
theorem dX4_make_68 : decode cX4_make 68 = .ok (.iload_n 3, 1) := by decide +kernel
theorem dX4_make_69 : decode cX4_make 69 = .ok (.baload, 1) := by decide +kernel
theorem dX4_make_70 : decode cX4_make 70 = .ok (.ifCond .eq 29, 3) := by decide +kernel
theorem dX4_make_73 : decode cX4_make 73 = .ok (.aload_n 0, 1) := by decide +kernel
theorem dX4_make_74 : decode cX4_make 74 = .ok (.getfield 73, 3) := by decide +kernel
theorem dX4_make_77 : decode cX4_make 77 = .ok (.bipush 12, 2) := by decide +kernel
theorem dX4_make_79 : decode cX4_make 79 = .ok (.iload_n 2, 1) := by decide +kernel
theorem dX4_make_80 : decode cX4_make 80 = .ok (.imul, 1) := by decide +kernel
theorem dX4_make_81 : decode cX4_make 81 = .ok (.iload_n 3, 1) := by decide +kernel
theorem dX4_make_82 : decode cX4_make 82 = .ok (.iadd, 1) := by decide +kernel
theorem dX4_make_83 : decode cX4_make 83 = .ok (.baload, 1) := by decide +kernel
theorem dX4_make_84 : decode cX4_make 84 = .ok (.ifCond .ne 15, 3) := by decide +kernel
theorem dX4_make_87 : decode cX4_make 87 = .ok (.aload_n 0, 1) := by decide +kernel
theorem dX4_make_88 : decode cX4_make 88 = .ok (.getfield 58, 3) := by decide +kernel
theorem dX4_make_91 : decode cX4_make 91 = .ok (.iload_n 2, 1) := by decide +kernel
theorem dX4_make_92 : decode cX4_make 92 = .ok (.aload_n 0, 1) := by decide +kernel
theorem dX4_make_93 : decode cX4_make 93 = .ok (.getfield 58, 3) := by decide +kernel
theorem dX4_make_96 : decode cX4_make 96 = .ok (.iload_n 3, 1) := by decide +kernel
theorem dX4_make_97 : decode cX4_make 97 = .ok (.iaload, 1) := by decide +kernel
theorem dX4_make_98 : decode cX4_make 98 = .ok (.iastore, 1) := by decide +kernel
theorem dX4_make_99 : decode cX4_make 99 = .ok (.iinc 3 1, 3) := by decide +kernel
theorem dX4_make_102 : decode cX4_make 102 = .ok (.goto (-53), 3) := by decide +kernel
theorem dX4_make_105 : decode cX4_make 105 = .ok (.aload_n 0, 1) := by decide +kernel
theorem dX4_make_106 : decode cX4_make 106 = .ok (.getfield 58, 3) := by decide +kernel
theorem dX4_make_109 : decode cX4_make 109 = .ok (.iload_n 2, 1) := by decide +kernel
theorem dX4_make_110 : decode cX4_make 110 = .ok (.iaload, 1) := by decide +kernel
theorem dX4_make_111 : decode cX4_make 111 = .ok (.iconst (-1), 1) := by decide +kernel
theorem dX4_make_112 : decode cX4_make 112 = .ok (.if_icmp .eq 6, 3) := by decide +kernel
theorem dX4_make_115 : decode cX4_make 115 = .ok (.goto 52, 3) := by decide +kernel
theorem dX4_make_118 : decode cX4_make 118 = .ok (.aload_n 0, 1) := by decide +kernel
theorem dX4_make_119 : decode cX4_make 119 = .ok (.getfield 58, 3) := by decide +kernel
theorem dX4_make_122 : decode cX4_make 122 = .ok (.iload_n 2, 1) := by decide +kernel
theorem dX4_make_123 : decode cX4_make 123 = .ok (.aload_n 0, 1) := by decide +kernel
theorem dX4_make_124 : decode cX4_make 124 = .ok (.getfield 172, 3) := by decide +kernel
theorem dX4_make_127 : decode cX4_make 127 = .ok (.iastore, 1) := by decide +kernel
theorem dX4_make_128 : decode cX4_make 128 = .ok (.aload_n 1, 1) := by decide +kernel
theorem dX4_make_129 : decode cX4_make 129 = .ok (.aload_n 0, 1) := by decide +kernel
theorem dX4_make_130 : decode cX4_make 130 = .ok (.getfield 172, 3) := by decide +kernel
theorem dX4_make_133 : decode cX4_make 133 = .ok (.aload_n 0, 1) := by decide +kernel
theorem dX4_make_134 : decode cX4_make 134 = .ok (.iload_n 2, 1) := by decide +kernel
theorem dX4_make_135 : decode cX4_make 135 = .ok (.invokevirtual 175, 3) := by decide +kernel
theorem dX4_make_138 : decode cX4_make 138 = .ok (.iastore, 1) := by decide +kernel
theorem dX4_make_139 : decode cX4_make 139 = .ok (.aload_n 0, 1) := by decide +kernel
theorem dX4_make_140 : decode cX4_make 140 = .ok (.getfield 64, 3) := by decide +kernel
theorem dX4_make_143 : decode cX4_make 143 = .ok (.aload_n 0, 1) := by decide +kernel
theorem dX4_make_144 : decode cX4_make 144 = .ok (.getfield 172, 3) := by decide +kernel
theorem dX4_make_147 : decode cX4_make 147 = .ok (.aload_n 1, 1) := by decide +kernel
theorem dX4_make_148 : decode cX4_make 148 = .ok (.aload_n 0, 1) := by decide +kernel
theorem dX4_make_149 : decode cX4_make 149 = .ok (.getfield 172, 3) := by decide +kernel
theorem dX4_make_152 : decode cX4_make 152 = .ok (.iaload, 1) := by decide +kernel
theorem dX4_make_153 : decode cX4_make 153 = .ok (.invokestatic 178, 3) := by decide +kernel
theorem dX4_make_156 : decode cX4_make 156 = .ok (.iastore, 1) := by decide +kernel
theorem dX4_make_157 : decode cX4_make 157 = .ok (.aload_n 0, 1) := by decide +kernel
theorem dX4_make_158 : decode cX4_make 158 = .ok (.dup, 1) := by decide +kernel
theorem dX4_make_159 : decode cX4_make 159 = .ok (.getfield 172, 3) := by decide +kernel
theorem dX4_make_162 : decode cX4_make 162 = .ok (.iconst 1, 1) := by decide +kernel
theorem dX4_make_163 : decode cX4_make 163 = .ok (.iadd, 1) := by decide +kernel
theorem dX4_make_164 : decode cX4_make 164 = .ok (.putfield 172, 3) := by decide +kernel
theorem dX4_make_167 : decode cX4_make 167 = .ok (.iinc 2 1, 3) := by decide +kernel
theorem dX4_make_170 : decode cX4_make 170 = .ok (.goto (-150), 3) := by decide +kernel
theorem dX4_make_173 : decode cX4_make 173 = .ok (.aload_n 0, 1) := by decide +kernel
theorem dX4_make_174 : decode cX4_make 174 = .ok (.iconst 0, 1) := by decide +kernel
theorem dX4_make_175 : decode cX4_make 175 = .ok (.putfield 163, 3) := by decide +kernel
theorem dX4_make_178 : decode cX4_make 178 = .ok (.iconst 0, 1) := by decide +kernel
theorem dX4_make_179 : decode cX4_make 179 = .ok (.istore_n 2, 1) := by decide +kernel
theorem dX4_make_180 : decode cX4_make 180 = .ok (.iload_n 2, 1) := by decide +kernel
theorem dX4_make_181 : decode cX4_make 181 = .ok (.bipush 120, 2) := by decide +kernel
theorem dX4_make_183 : decode cX4_make 183 = .ok (.if_icmp .ge 16, 3) := by decide +kernel
theorem dX4_make_186 : decode cX4_make 186 = .ok (.aload_n 0, 1) := by decide +kernel
theorem dX4_make_187 : decode cX4_make 187 = .ok (.getfield 67, 3) := by decide +kernel
theorem dX4_make_190 : decode cX4_make 190 = .ok (.iload_n 2, 1) := by decide +kernel
theorem dX4_make_191 : decode cX4_make 191 = .ok (.iconst (-1), 1) := by decide +kernel
theorem dX4_make_192 : decode cX4_make 192 = .ok (.iastore, 1) := by decide +kernel
theorem dX4_make_193 : decode cX4_make 193 = .ok (.iinc 2 1, 3) := by decide +kernel
theorem dX4_make_196 : decode cX4_make 196 = .ok (.goto (-16), 3) := by decide +kernel
theorem dX4_make_199 : decode cX4_make 199 = .ok (.bipush 8, 2) := by decide +kernel
theorem dX4_make_201 : decode cX4_make 201 = .ok (.istore_n 2, 1) := by decide +kernel
theorem dX4_make_202 : decode cX4_make 202 = .ok (.iload_n 2, 1) := by decide +kernel
theorem dX4_make_203 : decode cX4_make 203 = .ok (.ifCond .lt 43, 3) := by decide +kernel
theorem dX4_make_206 : decode cX4_make 206 = .ok (.iconst 0, 1) := by decide +kernel
theorem dX4_make_207 : decode cX4_make 207 = .ok (.istore_n 3, 1) := by decide +kernel
theorem dX4_make_208 : decode cX4_make 208 = .ok (.iload_n 3, 1) := by decide +kernel
theorem dX4_make_209 : decode cX4_make 209 = .ok (.aload_n 0, 1) := by decide +kernel
theorem dX4_make_210 : decode cX4_make 210 = .ok (.getfield 172, 3) := by decide +kernel
theorem dX4_make_213 : decode cX4_make 213 = .ok (.if_icmp .ge 27, 3) := by decide +kernel
theorem dX4_make_216 : decode cX4_make 216 = .ok (.aload_n 0, 1) := by decide +kernel
theorem dX4_make_217 : decode cX4_make 217 = .ok (.getfield 64, 3) := by decide +kernel
theorem dX4_make_220 : decode cX4_make 220 = .ok (.iload_n 3, 1) := by decide +kernel
theorem dX4_make_221 : decode cX4_make 221 = .ok (.iaload, 1) := by decide +kernel
theorem dX4_make_222 : decode cX4_make 222 = .ok (.iload_n 2, 1) := by decide +kernel
theorem dX4_make_223 : decode cX4_make 223 = .ok (.if_icmp .ne 11, 3) := by decide +kernel
theorem dX4_make_226 : decode cX4_make 226 = .ok (.aload_n 0, 1) := by decide +kernel
theorem dX4_make_227 : decode cX4_make 227 = .ok (.iload_n 3, 1) := by decide +kernel
theorem dX4_make_228 : decode cX4_make 228 = .ok (.aload_n 1, 1) := by decide +kernel
theorem dX4_make_229 : decode cX4_make 229 = .ok (.iload_n 3, 1) := by decide +kernel
theorem dX4_make_230 : decode cX4_make 230 = .ok (.iaload, 1) := by decide +kernel
theorem dX4_make_231 : decode cX4_make 231 = .ok (.invokevirtual 183, 3) := by decide +kernel
theorem dX4_make_234 : decode cX4_make 234 = .ok (.iinc 3 1, 3) := by decide +kernel
theorem dX4_make_237 : decode cX4_make 237 = .ok (.goto (-29), 3) := by decide +kernel
theorem dX4_make_240 : decode cX4_make 240 = .ok (.iinc 2 (-1), 3) := by decide +kernel
theorem dX4_make_243 : decode cX4_make 243 = .ok (.goto (-41), 3) := by decide +kernel
theorem dX4_make_246 : decode cX4_make 246 = .ok (.aload_n 0, 1) := by decide +kernel
theorem dX4_make_247 : decode cX4_make 247 = .ok (.iconst 1, 1) := by decide +kernel
theorem dX4_make_248 : decode cX4_make 248 = .ok (.putfield 90, 3) := by decide +kernel
theorem dX4_make_251 : decode cX4_make 251 = .ok (.return_, 1) := by decide +kernel
set_option maxRecDepth 20000 in
theorem ggX4_compile_X4_make : GoodIn wsX4_compile wsX4_make := goodIn_r _ [8, 3, 9, 10, 11, 12, 13, 14, 15, 16, 2, 17, 18, 19, 7, 20, 21, 22, 23, 24, 25, 26, 27, 28, 29, 30, 31, 32, 33, 34, 35, 36, 37, 38, 39, 40, 41, 42, 43, 44, 45, 46, 47, 48, 49, 50, 51, 52, 53, 54, 55, 56, 57, 58, 59, 60, 61, 62, 63, 64, 65, 66, 67, 68, 69, 70, 71, 72, 73, 74, 75, 76, 77, 78, 79, 80, 81, 82, 83, 84, 85, 86, 87, 88, 89, 90, 91, 92, 93, 94, 95, 96, 97, 98, 99] (by decide +kernel) (by decide +kernel)
set_option maxRecDepth 20000 in
theorem gX4_compile_X4_make : GoodIn wsX4_compile (wsV RX4 187 RX4 yX4_make wsX4_make) := goodIn_app (goodIn_of _ (by decide +kernel)) ggX4_compile_X4_make
theorem dX4_compile_0 : decode cX4_compile 0 = .ok (.aload_n 0, 1) := by decide +kernel
theorem dX4_compile_1 : decode cX4_compile 1 = .ok (.iconst 0, 1) := by decide +kernel
theorem dX4_compile_2 : decode cX4_compile 2 = .ok (.putfield 76, 3) := by decide +kernel
theorem dX4_compile_5 : decode cX4_compile 5 = .ok (.aload_n 0, 1) := by decide +kernel
theorem dX4_compile_6 : decode cX4_compile 6 = .ok (.getfield 90, 3) := by decide +kernel
theorem dX4_compile_9 : decode cX4_compile 9 = .ok (.ifCond .ne 7, 3) := by decide +kernel
theorem dX4_compile_12 : decode cX4_compile 12 = .ok (.aload_n 0, 1) := by decide +kernel
theorem dX4_compile_13 : decode cX4_compile 13 = .ok (.invokevirtual 187, 3) := by decide +kernel
theorem dX4_compile_16 : decode cX4_compile 16 = .ok (.aload_n 0, 1) := by decide +kernel
theorem dX4_compile_17 : decode cX4_compile 17 = .ok (.getfield 172, 3) := by decide +kernel
theorem dX4_compile_20 : decode cX4_compile 20 = .ok (.ireturn, 1) := by decide +kernel
theorem dX4_isCompiled_0 : decode cX4_isCompiled 0 = .ok (.aload_n 0, 1) := by decide +kernel
theorem dX4_isCompiled_1 : decode cX4_isCompiled 1 = .ok (.iconst 0, 1) := by decide +kernel
theorem dX4_isCompiled_2 : decode cX4_isCompiled 2 = .ok (.putfield 76, 3) := by decide +kernel
theorem dX4_isCompiled_5 : decode cX4_isCompiled 5 = .ok (.aload_n 0, 1) := by decide +kernel
theorem dX4_isCompiled_6 : decode cX4_isCompiled 6 = .ok (.getfield 90, 3) := by decide +kernel
theorem dX4_isCompiled_9 : decode cX4_isCompiled 9 = .ok (.ireturn, 1) := by decide +kernel
theorem dX4_asks_0 : decode cX4_asks 0 = .ok (.aload_n 0, 1) := by decide +kernel
theorem dX4_asks_1 : decode cX4_asks 1 = .ok (.aload_n 0, 1) := by decide +kernel
theorem dX4_asks_2 : decode cX4_asks 2 = .ok (.getfield 90, 3) := by decide +kernel
theorem dX4_asks_5 : decode cX4_asks 5 = .ok (.ifCond .ne 7, 3) := by decide +kernel
theorem dX4_asks_8 : decode cX4_asks 8 = .ok (.iconst 1, 1) := by decide +kernel
theorem dX4_asks_9 : decode cX4_asks 9 = .ok (.goto 17, 3) := by decide +kernel
theorem dX4_asks_12 : decode cX4_asks 12 = .ok (.iload_n 1, 1) := by decide +kernel
theorem dX4_asks_13 : decode cX4_asks 13 = .ok (.ifCond .lt 8, 3) := by decide +kernel
theorem dX4_asks_16 : decode cX4_asks 16 = .ok (.iload_n 1, 1) := by decide +kernel
theorem dX4_asks_17 : decode cX4_asks 17 = .ok (.iload_n 2, 1) := by decide +kernel
theorem dX4_asks_18 : decode cX4_asks 18 = .ok (.if_icmp .lt 7, 3) := by decide +kernel
theorem dX4_asks_21 : decode cX4_asks 21 = .ok (.iconst 2, 1) := by decide +kernel
theorem dX4_asks_22 : decode cX4_asks 22 = .ok (.goto 4, 3) := by decide +kernel
theorem dX4_asks_25 : decode cX4_asks 25 = .ok (.iconst 0, 1) := by decide +kernel
theorem dX4_asks_26 : decode cX4_asks 26 = .ok (.putfield 76, 3) := by decide +kernel
theorem dX4_asks_29 : decode cX4_asks 29 = .ok (.aload_n 0, 1) := by decide +kernel
theorem dX4_asks_30 : decode cX4_asks 30 = .ok (.getfield 76, 3) := by decide +kernel
theorem dX4_asks_33 : decode cX4_asks 33 = .ok (.ifCond .ne 7, 3) := by decide +kernel
theorem dX4_asks_36 : decode cX4_asks 36 = .ok (.iconst 1, 1) := by decide +kernel
theorem dX4_asks_37 : decode cX4_asks 37 = .ok (.goto 4, 3) := by decide +kernel
theorem dX4_asks_40 : decode cX4_asks 40 = .ok (.iconst 0, 1) := by decide +kernel
theorem dX4_asks_41 : decode cX4_asks 41 = .ok (.ireturn, 1) := by decide +kernel
set_option maxRecDepth 20000 in
theorem ggX4_classOf_X4_asks : GoodIn wsX4_classOf wsX4_asks := goodIn_r _ [7, 8, 9, 10, 11, 12, 13, 14, 15, 16, 17, 18, 19, 20, 21, 22, 23, 24, 25, 26, 27, 28, 29, 30, 31, 32, 33, 34, 35, 36, 37, 38, 39] (by decide +kernel) (by decide +kernel)
set_option maxRecDepth 20000 in
theorem gX4_classOf_X4_asks : GoodIn wsX4_classOf (wsV RX4 190 RX4 yX4_asks wsX4_asks) := goodIn_app (goodIn_of _ (by decide +kernel)) ggX4_classOf_X4_asks
theorem dX4_classOf_0 : decode cX4_classOf 0 = .ok (.aload_n 0, 1) := by decide +kernel
theorem dX4_classOf_1 : decode cX4_classOf 1 = .ok (.iload_n 1, 1) := by decide +kernel
theorem dX4_classOf_2 : decode cX4_classOf 2 = .ok (.aload_n 0, 1) := by decide +kernel
theorem dX4_classOf_3 : decode cX4_classOf 3 = .ok (.getfield 7, 3) := by decide +kernel
theorem dX4_classOf_6 : decode cX4_classOf 6 = .ok (.invokevirtual 190, 3) := by decide +kernel
theorem dX4_classOf_9 : decode cX4_classOf 9 = .ok (.ifCond .eq 12, 3) := by decide +kernel
theorem dX4_classOf_12 : decode cX4_classOf 12 = .ok (.aload_n 0, 1) := by decide +kernel
theorem dX4_classOf_13 : decode cX4_classOf 13 = .ok (.getfield 58, 3) := by decide +kernel
theorem dX4_classOf_16 : decode cX4_classOf 16 = .ok (.iload_n 1, 1) := by decide +kernel
theorem dX4_classOf_17 : decode cX4_classOf 17 = .ok (.iaload, 1) := by decide +kernel
theorem dX4_classOf_18 : decode cX4_classOf 18 = .ok (.goto 4, 3) := by decide +kernel
theorem dX4_classOf_21 : decode cX4_classOf 21 = .ok (.iconst 0, 1) := by decide +kernel
theorem dX4_classOf_22 : decode cX4_classOf 22 = .ok (.ireturn, 1) := by decide +kernel
set_option maxRecDepth 20000 in
theorem ggX4_offset_X4_asks : GoodIn wsX4_offset wsX4_asks := goodIn_r _ [7, 8, 9, 10, 11, 12, 13, 14, 15, 16, 17, 18, 19, 20, 21, 22, 23, 24, 25, 26, 27, 28, 29, 30, 31, 32, 33, 34, 35, 36, 37, 38, 39] (by decide +kernel) (by decide +kernel)
set_option maxRecDepth 20000 in
theorem gX4_offset_X4_asks : GoodIn wsX4_offset (wsV RX4 190 RX4 yX4_asks wsX4_asks) := goodIn_app (goodIn_of _ (by decide +kernel)) ggX4_offset_X4_asks
theorem dX4_offset_0 : decode cX4_offset 0 = .ok (.aload_n 0, 1) := by decide +kernel
theorem dX4_offset_1 : decode cX4_offset 1 = .ok (.iload_n 1, 1) := by decide +kernel
theorem dX4_offset_2 : decode cX4_offset 2 = .ok (.aload_n 0, 1) := by decide +kernel
theorem dX4_offset_3 : decode cX4_offset 3 = .ok (.getfield 172, 3) := by decide +kernel
theorem dX4_offset_6 : decode cX4_offset 6 = .ok (.invokevirtual 190, 3) := by decide +kernel
theorem dX4_offset_9 : decode cX4_offset 9 = .ok (.ifCond .eq 12, 3) := by decide +kernel
theorem dX4_offset_12 : decode cX4_offset 12 = .ok (.aload_n 0, 1) := by decide +kernel
theorem dX4_offset_13 : decode cX4_offset 13 = .ok (.getfield 61, 3) := by decide +kernel
theorem dX4_offset_16 : decode cX4_offset 16 = .ok (.iload_n 1, 1) := by decide +kernel
theorem dX4_offset_17 : decode cX4_offset 17 = .ok (.iaload, 1) := by decide +kernel
theorem dX4_offset_18 : decode cX4_offset 18 = .ok (.goto 4, 3) := by decide +kernel
theorem dX4_offset_21 : decode cX4_offset 21 = .ok (.iconst 0, 1) := by decide +kernel
theorem dX4_offset_22 : decode cX4_offset 22 = .ok (.ireturn, 1) := by decide +kernel
set_option maxRecDepth 20000 in
theorem ggX4_used_X4_asks : GoodIn wsX4_used wsX4_asks := goodIn_r _ [7, 8, 9, 10, 11, 12, 13, 14, 15, 16, 17, 18, 19, 20, 21, 22, 23, 24, 25, 26, 27, 28, 29, 30, 31, 32, 33, 34, 35, 36, 37, 38, 39] (by decide +kernel) (by decide +kernel)
set_option maxRecDepth 20000 in
theorem gX4_used_X4_asks : GoodIn wsX4_used (wsV RX4 190 RX4 yX4_asks wsX4_asks) := goodIn_app (goodIn_of _ (by decide +kernel)) ggX4_used_X4_asks
theorem dX4_used_0 : decode cX4_used 0 = .ok (.aload_n 0, 1) := by decide +kernel
theorem dX4_used_1 : decode cX4_used 1 = .ok (.iload_n 1, 1) := by decide +kernel
theorem dX4_used_2 : decode cX4_used 2 = .ok (.aload_n 0, 1) := by decide +kernel
theorem dX4_used_3 : decode cX4_used 3 = .ok (.getfield 172, 3) := by decide +kernel
theorem dX4_used_6 : decode cX4_used 6 = .ok (.invokevirtual 190, 3) := by decide +kernel
theorem dX4_used_9 : decode cX4_used 9 = .ok (.ifCond .eq 12, 3) := by decide +kernel
theorem dX4_used_12 : decode cX4_used 12 = .ok (.aload_n 0, 1) := by decide +kernel
theorem dX4_used_13 : decode cX4_used 13 = .ok (.getfield 64, 3) := by decide +kernel
theorem dX4_used_16 : decode cX4_used 16 = .ok (.iload_n 1, 1) := by decide +kernel
theorem dX4_used_17 : decode cX4_used 17 = .ok (.iaload, 1) := by decide +kernel
theorem dX4_used_18 : decode cX4_used 18 = .ok (.goto 4, 3) := by decide +kernel
theorem dX4_used_21 : decode cX4_used 21 = .ok (.iconst 0, 1) := by decide +kernel
theorem dX4_used_22 : decode cX4_used 22 = .ok (.ireturn, 1) := by decide +kernel
theorem dX4_tableSize_0 : decode cX4_tableSize 0 = .ok (.aload_n 0, 1) := by decide +kernel
theorem dX4_tableSize_1 : decode cX4_tableSize 1 = .ok (.aload_n 0, 1) := by decide +kernel
theorem dX4_tableSize_2 : decode cX4_tableSize 2 = .ok (.getfield 90, 3) := by decide +kernel
theorem dX4_tableSize_5 : decode cX4_tableSize 5 = .ok (.ifCond .eq 7, 3) := by decide +kernel
theorem dX4_tableSize_8 : decode cX4_tableSize 8 = .ok (.iconst 0, 1) := by decide +kernel
theorem dX4_tableSize_9 : decode cX4_tableSize 9 = .ok (.goto 4, 3) := by decide +kernel
theorem dX4_tableSize_12 : decode cX4_tableSize 12 = .ok (.iconst 1, 1) := by decide +kernel
theorem dX4_tableSize_13 : decode cX4_tableSize 13 = .ok (.putfield 76, 3) := by decide +kernel
theorem dX4_tableSize_16 : decode cX4_tableSize 16 = .ok (.aload_n 0, 1) := by decide +kernel
theorem dX4_tableSize_17 : decode cX4_tableSize 17 = .ok (.getfield 90, 3) := by decide +kernel
theorem dX4_tableSize_20 : decode cX4_tableSize 20 = .ok (.ifCond .eq 10, 3) := by decide +kernel
theorem dX4_tableSize_23 : decode cX4_tableSize 23 = .ok (.aload_n 0, 1) := by decide +kernel
theorem dX4_tableSize_24 : decode cX4_tableSize 24 = .ok (.getfield 163, 3) := by decide +kernel
theorem dX4_tableSize_27 : decode cX4_tableSize 27 = .ok (.goto 4, 3) := by decide +kernel
theorem dX4_tableSize_30 : decode cX4_tableSize 30 = .ok (.iconst 0, 1) := by decide +kernel
theorem dX4_tableSize_31 : decode cX4_tableSize 31 = .ok (.ireturn, 1) := by decide +kernel
set_option maxRecDepth 20000 in
theorem ggX4_owner_X4_asks : GoodIn wsX4_owner wsX4_asks := goodIn_r _ [7, 8, 9, 10, 11, 12, 13, 14, 15, 16, 17, 18, 19, 20, 21, 22, 23, 24, 25, 26, 27, 28, 29, 30, 31, 32, 33, 34, 35, 36, 37, 38, 39] (by decide +kernel) (by decide +kernel)
set_option maxRecDepth 20000 in
theorem gX4_owner_X4_asks : GoodIn wsX4_owner (wsV RX4 190 RX4 yX4_asks wsX4_asks) := goodIn_app (goodIn_of _ (by decide +kernel)) ggX4_owner_X4_asks
theorem dX4_owner_0 : decode cX4_owner 0 = .ok (.aload_n 0, 1) := by decide +kernel
theorem dX4_owner_1 : decode cX4_owner 1 = .ok (.iload_n 1, 1) := by decide +kernel
theorem dX4_owner_2 : decode cX4_owner 2 = .ok (.aload_n 0, 1) := by decide +kernel
theorem dX4_owner_3 : decode cX4_owner 3 = .ok (.getfield 163, 3) := by decide +kernel
theorem dX4_owner_6 : decode cX4_owner 6 = .ok (.invokevirtual 190, 3) := by decide +kernel
theorem dX4_owner_9 : decode cX4_owner 9 = .ok (.ifCond .eq 12, 3) := by decide +kernel
theorem dX4_owner_12 : decode cX4_owner 12 = .ok (.aload_n 0, 1) := by decide +kernel
theorem dX4_owner_13 : decode cX4_owner 13 = .ok (.getfield 67, 3) := by decide +kernel
theorem dX4_owner_16 : decode cX4_owner 16 = .ok (.iload_n 1, 1) := by decide +kernel
theorem dX4_owner_17 : decode cX4_owner 17 = .ok (.iaload, 1) := by decide +kernel
theorem dX4_owner_18 : decode cX4_owner 18 = .ok (.goto 4, 3) := by decide +kernel
theorem dX4_owner_21 : decode cX4_owner 21 = .ok (.iconst 0, 1) := by decide +kernel
theorem dX4_owner_22 : decode cX4_owner 22 = .ok (.ireturn, 1) := by decide +kernel
theorem dX4_density_0 : decode cX4_density 0 = .ok (.aload_n 0, 1) := by decide +kernel
theorem dX4_density_1 : decode cX4_density 1 = .ok (.aload_n 0, 1) := by decide +kernel
theorem dX4_density_2 : decode cX4_density 2 = .ok (.getfield 90, 3) := by decide +kernel
theorem dX4_density_5 : decode cX4_density 5 = .ok (.ifCond .eq 7, 3) := by decide +kernel
theorem dX4_density_8 : decode cX4_density 8 = .ok (.iconst 0, 1) := by decide +kernel
theorem dX4_density_9 : decode cX4_density 9 = .ok (.goto 4, 3) := by decide +kernel
theorem dX4_density_12 : decode cX4_density 12 = .ok (.iconst 1, 1) := by decide +kernel
theorem dX4_density_13 : decode cX4_density 13 = .ok (.putfield 76, 3) := by decide +kernel
theorem dX4_density_16 : decode cX4_density 16 = .ok (.aload_n 0, 1) := by decide +kernel
theorem dX4_density_17 : decode cX4_density 17 = .ok (.getfield 76, 3) := by decide +kernel
theorem dX4_density_20 : decode cX4_density 20 = .ok (.ifCond .eq 5, 3) := by decide +kernel
theorem dX4_density_23 : decode cX4_density 23 = .ok (.dconst 0, 1) := by decide +kernel
theorem dX4_density_24 : decode cX4_density 24 = .ok (.dreturn, 1) := by decide +kernel
theorem dX4_density_25 : decode cX4_density 25 = .ok (.iconst 0, 1) := by decide +kernel
theorem dX4_density_26 : decode cX4_density 26 = .ok (.istore_n 1, 1) := by decide +kernel
theorem dX4_density_27 : decode cX4_density 27 = .ok (.iconst 0, 1) := by decide +kernel
theorem dX4_density_28 : decode cX4_density 28 = .ok (.istore_n 2, 1) := by decide +kernel
theorem dX4_density_29 : decode cX4_density 29 = .ok (.iload_n 2, 1) := by decide +kernel
theorem dX4_density_30 : decode cX4_density 30 = .ok (.aload_n 0, 1) := by decide +kernel
theorem dX4_density_31 : decode cX4_density 31 = .ok (.getfield 163, 3) := by decide +kernel
theorem dX4_density_34 : decode cX4_density 34 = .ok (.if_icmp .ge 27, 3) := by decide +kernel
theorem dX4_density_37 : decode cX4_density 37 = .ok (.iload_n 1, 1) := by decide +kernel
theorem dX4_density_38 : decode cX4_density 38 = .ok (.aload_n 0, 1) := by decide +kernel
theorem dX4_density_39 : decode cX4_density 39 = .ok (.getfield 67, 3) := by decide +kernel
theorem dX4_density_42 : decode cX4_density 42 = .ok (.iload_n 2, 1) := by decide +kernel
theorem dX4_density_43 : decode cX4_density 43 = .ok (.iaload, 1) := by decide +kernel
theorem dX4_density_44 : decode cX4_density 44 = .ok (.iconst (-1), 1) := by decide +kernel
theorem dX4_density_45 : decode cX4_density 45 = .ok (.if_icmp .ne 7, 3) := by decide +kernel
theorem dX4_density_48 : decode cX4_density 48 = .ok (.iconst 0, 1) := by decide +kernel
theorem dX4_density_49 : decode cX4_density 49 = .ok (.goto 4, 3) := by decide +kernel
theorem dX4_density_52 : decode cX4_density 52 = .ok (.iconst 1, 1) := by decide +kernel
theorem dX4_density_53 : decode cX4_density 53 = .ok (.iadd, 1) := by decide +kernel
theorem dX4_density_54 : decode cX4_density 54 = .ok (.istore_n 1, 1) := by decide +kernel
theorem dX4_density_55 : decode cX4_density 55 = .ok (.iinc 2 1, 3) := by decide +kernel
theorem dX4_density_58 : decode cX4_density 58 = .ok (.goto (-29), 3) := by decide +kernel
theorem dX4_density_61 : decode cX4_density 61 = .ok (.aload_n 0, 1) := by decide +kernel
theorem dX4_density_62 : decode cX4_density 62 = .ok (.getfield 163, 3) := by decide +kernel
theorem dX4_density_65 : decode cX4_density 65 = .ok (.ifCond .ne 7, 3) := by decide +kernel
theorem dX4_density_68 : decode cX4_density 68 = .ok (.dconst 1, 1) := by decide +kernel
theorem dX4_density_69 : decode cX4_density 69 = .ok (.goto 11, 3) := by decide +kernel
theorem dX4_density_72 : decode cX4_density 72 = .ok (.iload_n 1, 1) := by decide +kernel
theorem dX4_density_73 : decode cX4_density 73 = .ok (.i2d, 1) := by decide +kernel
theorem dX4_density_74 : decode cX4_density 74 = .ok (.aload_n 0, 1) := by decide +kernel
theorem dX4_density_75 : decode cX4_density 75 = .ok (.getfield 163, 3) := by decide +kernel
theorem dX4_density_78 : decode cX4_density 78 = .ok (.i2d, 1) := by decide +kernel
theorem dX4_density_79 : decode cX4_density 79 = .ok (.ddiv, 1) := by decide +kernel
theorem dX4_density_80 : decode cX4_density 80 = .ok (.dreturn, 1) := by decide +kernel
set_option maxRecDepth 20000 in
theorem ggX4_digest_X4_leftOf : GoodIn wsX4_digest wsX4_leftOf := goodIn_r _ [23, 24, 25, 12, 26, 27, 28, 29, 30, 31, 32, 33, 34, 35, 36, 37, 38, 39, 40, 41, 42, 43, 44, 45, 46, 47, 48, 49, 50, 51, 52, 53, 54, 55] (by decide +kernel) (by decide +kernel)
set_option maxRecDepth 20000 in
theorem gX4_digest_X4_leftOf : GoodIn wsX4_digest (wsV RX4 147 RX4 yX4_leftOf wsX4_leftOf) := goodIn_app (goodIn_of _ (by decide +kernel)) ggX4_digest_X4_leftOf
theorem dX4_digest_0 : decode cX4_digest 0 = .ok (.aload_n 0, 1) := by decide +kernel
theorem dX4_digest_1 : decode cX4_digest 1 = .ok (.iconst 0, 1) := by decide +kernel
theorem dX4_digest_2 : decode cX4_digest 2 = .ok (.putfield 76, 3) := by decide +kernel
theorem dX4_digest_5 : decode cX4_digest 5 = .ok (.ldc2_w 193, 3) := by decide +kernel
theorem dX4_digest_8 : decode cX4_digest 8 = .ok (.aload_n 0, 1) := by decide +kernel
theorem dX4_digest_9 : decode cX4_digest 9 = .ok (.getfield 7, 3) := by decide +kernel
theorem dX4_digest_12 : decode cX4_digest 12 = .ok (.i2l, 1) := by decide +kernel
theorem dX4_digest_13 : decode cX4_digest 13 = .ok (.ladd, 1) := by decide +kernel
theorem dX4_digest_14 : decode cX4_digest 14 = .ok (.ldc2_w 195, 3) := by decide +kernel
theorem dX4_digest_17 : decode cX4_digest 17 = .ok (.lmul, 1) := by decide +kernel
theorem dX4_digest_18 : decode cX4_digest 18 = .ok (.aload_n 0, 1) := by decide +kernel
theorem dX4_digest_19 : decode cX4_digest 19 = .ok (.getfield 83, 3) := by decide +kernel
theorem dX4_digest_22 : decode cX4_digest 22 = .ok (.i2l, 1) := by decide +kernel
theorem dX4_digest_23 : decode cX4_digest 23 = .ok (.ladd, 1) := by decide +kernel
theorem dX4_digest_24 : decode cX4_digest 24 = .ok (.lstore_n 1, 1) := by decide +kernel
theorem dX4_digest_25 : decode cX4_digest 25 = .ok (.iconst 0, 1) := by decide +kernel
theorem dX4_digest_26 : decode cX4_digest 26 = .ok (.istore_n 3, 1) := by decide +kernel
theorem dX4_digest_27 : decode cX4_digest 27 = .ok (.iload_n 3, 1) := by decide +kernel
theorem dX4_digest_28 : decode cX4_digest 28 = .ok (.aload_n 0, 1) := by decide +kernel
theorem dX4_digest_29 : decode cX4_digest 29 = .ok (.getfield 83, 3) := by decide +kernel
theorem dX4_digest_32 : decode cX4_digest 32 = .ok (.if_icmp .ge 71, 3) := by decide +kernel
theorem dX4_digest_35 : decode cX4_digest 35 = .ok (.lload_n 1, 1) := by decide +kernel
theorem dX4_digest_36 : decode cX4_digest 36 = .ok (.ldc2_w 195, 3) := by decide +kernel
theorem dX4_digest_39 : decode cX4_digest 39 = .ok (.lmul, 1) := by decide +kernel
theorem dX4_digest_40 : decode cX4_digest 40 = .ok (.aload_n 0, 1) := by decide +kernel
theorem dX4_digest_41 : decode cX4_digest 41 = .ok (.getfield 17, 3) := by decide +kernel
theorem dX4_digest_44 : decode cX4_digest 44 = .ok (.iload_n 3, 1) := by decide +kernel
theorem dX4_digest_45 : decode cX4_digest 45 = .ok (.iaload, 1) := by decide +kernel
theorem dX4_digest_46 : decode cX4_digest 46 = .ok (.i2l, 1) := by decide +kernel
theorem dX4_digest_47 : decode cX4_digest 47 = .ok (.ladd, 1) := by decide +kernel
theorem dX4_digest_48 : decode cX4_digest 48 = .ok (.ldc2_w 195, 3) := by decide +kernel
theorem dX4_digest_51 : decode cX4_digest 51 = .ok (.lmul, 1) := by decide +kernel
theorem dX4_digest_52 : decode cX4_digest 52 = .ok (.aload_n 0, 1) := by decide +kernel
theorem dX4_digest_53 : decode cX4_digest 53 = .ok (.getfield 20, 3) := by decide +kernel
theorem dX4_digest_56 : decode cX4_digest 56 = .ok (.iload_n 3, 1) := by decide +kernel
theorem dX4_digest_57 : decode cX4_digest 57 = .ok (.iaload, 1) := by decide +kernel
theorem dX4_digest_58 : decode cX4_digest 58 = .ok (.i2l, 1) := by decide +kernel
theorem dX4_digest_59 : decode cX4_digest 59 = .ok (.ladd, 1) := by decide +kernel
theorem dX4_digest_60 : decode cX4_digest 60 = .ok (.ldc2_w 195, 3) := by decide +kernel
theorem dX4_digest_63 : decode cX4_digest 63 = .ok (.lmul, 1) := by decide +kernel
theorem dX4_digest_64 : decode cX4_digest 64 = .ok (.aload_n 0, 1) := by decide +kernel
theorem dX4_digest_65 : decode cX4_digest 65 = .ok (.getfield 32, 3) := by decide +kernel
theorem dX4_digest_68 : decode cX4_digest 68 = .ok (.iload_n 3, 1) := by decide +kernel
theorem dX4_digest_69 : decode cX4_digest 69 = .ok (.iaload, 1) := by decide +kernel
theorem dX4_digest_70 : decode cX4_digest 70 = .ok (.i2l, 1) := by decide +kernel
theorem dX4_digest_71 : decode cX4_digest 71 = .ok (.ladd, 1) := by decide +kernel
theorem dX4_digest_72 : decode cX4_digest 72 = .ok (.ldc2_w 195, 3) := by decide +kernel
theorem dX4_digest_75 : decode cX4_digest 75 = .ok (.lmul, 1) := by decide +kernel
theorem dX4_digest_76 : decode cX4_digest 76 = .ok (.aload_n 0, 1) := by decide +kernel
theorem dX4_digest_77 : decode cX4_digest 77 = .ok (.getfield 35, 3) := by decide +kernel
theorem dX4_digest_80 : decode cX4_digest 80 = .ok (.iload_n 3, 1) := by decide +kernel
theorem dX4_digest_81 : decode cX4_digest 81 = .ok (.iaload, 1) := by decide +kernel
theorem dX4_digest_82 : decode cX4_digest 82 = .ok (.i2l, 1) := by decide +kernel
theorem dX4_digest_83 : decode cX4_digest 83 = .ok (.ladd, 1) := by decide +kernel
theorem dX4_digest_84 : decode cX4_digest 84 = .ok (.ldc2_w 195, 3) := by decide +kernel
theorem dX4_digest_87 : decode cX4_digest 87 = .ok (.lmul, 1) := by decide +kernel
