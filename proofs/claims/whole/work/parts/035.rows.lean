set_option maxRecDepth 20000 in
theorem gX7_quarterOn_X7_setBe : GoodIn wsX7_quarterOn (wsV RX7 103 RX7 yX7_setBe wsX7_setBe) := goodIn_app (goodIn_of _ (by decide +kernel)) ggX7_quarterOn_X7_setBe
set_option maxRecDepth 20000 in
theorem ggX7_quarterOn_X7_deal : GoodIn wsX7_quarterOn wsX7_deal := goodIn_r _ [16, 17, 2, 18, 19, 20, 6, 21, 22, 3, 4, 5, 7, 8, 23, 24, 25, 26, 27, 28, 29, 30, 31, 32, 33, 34, 35, 36, 37, 38, 39, 40, 41, 42, 43, 44, 45, 46, 47, 48, 49, 50, 51, 9, 10, 11, 12, 52, 53, 54, 55, 56, 57, 58, 59, 86, 87, 88, 89, 90, 91, 92, 93, 94, 95, 96, 97, 98] (by decide +kernel) (by decide +kernel)
set_option maxRecDepth 20000 in
theorem gX7_quarterOn_X7_deal : GoodIn wsX7_quarterOn (wsV RX7 141 RX7 yX7_deal wsX7_deal) := goodIn_app (goodIn_of _ (by decide +kernel)) ggX7_quarterOn_X7_deal
set_option maxRecDepth 20000 in
theorem ggX7_quarterOn_X7_fly : GoodIn wsX7_quarterOn wsX7_fly := goodIn_r _ [63, 64, 22, 3, 4, 5, 6, 7, 8, 65, 66, 67, 68, 37, 38, 39, 40, 9, 10, 11, 12, 18, 19, 20, 21, 69, 70, 71, 72, 73, 74, 75, 76, 77, 78, 79, 80, 81, 82, 2, 83, 84, 85, 86, 87, 88, 89, 90, 91, 92, 93, 94, 95, 96, 97, 98] (by decide +kernel) (by decide +kernel)
set_option maxRecDepth 20000 in
theorem gX7_quarterOn_X7_fly : GoodIn wsX7_quarterOn (wsV RX7 144 RX7 yX7_fly wsX7_fly) := goodIn_app (goodIn_of _ (by decide +kernel)) ggX7_quarterOn_X7_fly
theorem dX7_quarterOn_0 : decode cX7_quarterOn 0 = .ok (.iconst 0, 1) := by decide +kernel
theorem dX7_quarterOn_1 : decode cX7_quarterOn 1 = .ok (.istore_n 1, 1) := by decide +kernel
theorem dX7_quarterOn_2 : decode cX7_quarterOn 2 = .ok (.iconst 0, 1) := by decide +kernel
theorem dX7_quarterOn_3 : decode cX7_quarterOn 3 = .ok (.istore_n 2, 1) := by decide +kernel
theorem dX7_quarterOn_4 : decode cX7_quarterOn 4 = .ok (.iload_n 2, 1) := by decide +kernel
theorem dX7_quarterOn_5 : decode cX7_quarterOn 5 = .ok (.aload_n 0, 1) := by decide +kernel
theorem dX7_quarterOn_6 : decode cX7_quarterOn 6 = .ok (.getfield 49, 3) := by decide +kernel
theorem dX7_quarterOn_9 : decode cX7_quarterOn 9 = .ok (.if_icmp .ge 57, 3) := by decide +kernel
theorem dX7_quarterOn_12 : decode cX7_quarterOn 12 = .ok (.aload_n 0, 1) := by decide +kernel
theorem dX7_quarterOn_13 : decode cX7_quarterOn 13 = .ok (.iload_n 2, 1) := by decide +kernel
theorem dX7_quarterOn_14 : decode cX7_quarterOn 14 = .ok (.iconst 1, 1) := by decide +kernel
theorem dX7_quarterOn_15 : decode cX7_quarterOn 15 = .ok (.invokevirtual 94, 3) := by decide +kernel
theorem dX7_quarterOn_18 : decode cX7_quarterOn 18 = .ok (.ifCond .le 17, 3) := by decide +kernel
theorem dX7_quarterOn_21 : decode cX7_quarterOn 21 = .ok (.aload_n 0, 1) := by decide +kernel
theorem dX7_quarterOn_22 : decode cX7_quarterOn 22 = .ok (.iload_n 2, 1) := by decide +kernel
theorem dX7_quarterOn_23 : decode cX7_quarterOn 23 = .ok (.iconst 1, 1) := by decide +kernel
theorem dX7_quarterOn_24 : decode cX7_quarterOn 24 = .ok (.aload_n 0, 1) := by decide +kernel
theorem dX7_quarterOn_25 : decode cX7_quarterOn 25 = .ok (.iload_n 2, 1) := by decide +kernel
theorem dX7_quarterOn_26 : decode cX7_quarterOn 26 = .ok (.iconst 1, 1) := by decide +kernel
theorem dX7_quarterOn_27 : decode cX7_quarterOn 27 = .ok (.invokevirtual 94, 3) := by decide +kernel
theorem dX7_quarterOn_30 : decode cX7_quarterOn 30 = .ok (.iconst 1, 1) := by decide +kernel
theorem dX7_quarterOn_31 : decode cX7_quarterOn 31 = .ok (.isub, 1) := by decide +kernel
theorem dX7_quarterOn_32 : decode cX7_quarterOn 32 = .ok (.invokevirtual 103, 3) := by decide +kernel
theorem dX7_quarterOn_35 : decode cX7_quarterOn 35 = .ok (.aload_n 0, 1) := by decide +kernel
theorem dX7_quarterOn_36 : decode cX7_quarterOn 36 = .ok (.iload_n 2, 1) := by decide +kernel
theorem dX7_quarterOn_37 : decode cX7_quarterOn 37 = .ok (.iconst 1, 1) := by decide +kernel
theorem dX7_quarterOn_38 : decode cX7_quarterOn 38 = .ok (.invokevirtual 94, 3) := by decide +kernel
theorem dX7_quarterOn_41 : decode cX7_quarterOn 41 = .ok (.ifCond .le 6, 3) := by decide +kernel
theorem dX7_quarterOn_44 : decode cX7_quarterOn 44 = .ok (.goto 16, 3) := by decide +kernel
theorem dX7_quarterOn_47 : decode cX7_quarterOn 47 = .ok (.iload_n 1, 1) := by decide +kernel
theorem dX7_quarterOn_48 : decode cX7_quarterOn 48 = .ok (.aload_n 0, 1) := by decide +kernel
theorem dX7_quarterOn_49 : decode cX7_quarterOn 49 = .ok (.iload_n 2, 1) := by decide +kernel
theorem dX7_quarterOn_50 : decode cX7_quarterOn 50 = .ok (.invokevirtual 141, 3) := by decide +kernel
theorem dX7_quarterOn_53 : decode cX7_quarterOn 53 = .ok (.iadd, 1) := by decide +kernel
theorem dX7_quarterOn_54 : decode cX7_quarterOn 54 = .ok (.istore_n 1, 1) := by decide +kernel
theorem dX7_quarterOn_55 : decode cX7_quarterOn 55 = .ok (.aload_n 0, 1) := by decide +kernel
theorem dX7_quarterOn_56 : decode cX7_quarterOn 56 = .ok (.iload_n 2, 1) := by decide +kernel
theorem dX7_quarterOn_57 : decode cX7_quarterOn 57 = .ok (.invokevirtual 144, 3) := by decide +kernel
theorem dX7_quarterOn_60 : decode cX7_quarterOn 60 = .ok (.iinc 2 1, 3) := by decide +kernel
theorem dX7_quarterOn_63 : decode cX7_quarterOn 63 = .ok (.goto (-59), 3) := by decide +kernel
theorem dX7_quarterOn_66 : decode cX7_quarterOn 66 = .ok (.aload_n 0, 1) := by decide +kernel
theorem dX7_quarterOn_67 : decode cX7_quarterOn 67 = .ok (.getfield 29, 3) := by decide +kernel
theorem dX7_quarterOn_70 : decode cX7_quarterOn 70 = .ok (.iconst 0, 1) := by decide +kernel
theorem dX7_quarterOn_71 : decode cX7_quarterOn 71 = .ok (.dup2, 1) := by decide +kernel
theorem dX7_quarterOn_72 : decode cX7_quarterOn 72 = .ok (.iaload, 1) := by decide +kernel
theorem dX7_quarterOn_73 : decode cX7_quarterOn 73 = .ok (.iconst 1, 1) := by decide +kernel
theorem dX7_quarterOn_74 : decode cX7_quarterOn 74 = .ok (.iadd, 1) := by decide +kernel
theorem dX7_quarterOn_75 : decode cX7_quarterOn 75 = .ok (.iastore, 1) := by decide +kernel
theorem dX7_quarterOn_76 : decode cX7_quarterOn 76 = .ok (.iload_n 1, 1) := by decide +kernel
theorem dX7_quarterOn_77 : decode cX7_quarterOn 77 = .ok (.ireturn, 1) := by decide +kernel
set_option maxRecDepth 20000 in
theorem ggX7_pass_X7_isIn : GoodIn wsX7_pass wsX7_isIn := goodIn_r _ [5] (by decide +kernel) (by decide +kernel)
set_option maxRecDepth 20000 in
theorem gX7_pass_X7_isIn : GoodIn wsX7_pass (va_wsS RX7 42 yX7_isIn wsX7_isIn) := goodIn_app (goodIn_of _ (by decide +kernel)) ggX7_pass_X7_isIn
set_option maxRecDepth 20000 in
theorem ggX7_pass_X7_fail : GoodIn wsX7_pass wsX7_fail := goodIn_r _ [9, 1, 95, 96, 97, 98, 99, 100, 101, 102, 103, 104, 105, 106, 107] (by decide +kernel) (by decide +kernel)
set_option maxRecDepth 20000 in
theorem gX7_pass_X7_fail : GoodIn wsX7_pass (wsV RX7 55 RX7 yX7_fail wsX7_fail) := goodIn_app (goodIn_of _ (by decide +kernel)) ggX7_pass_X7_fail
set_option maxRecDepth 20000 in
theorem ggX7_pass_X7_quarterOn : GoodIn wsX7_pass wsX7_quarterOn := goodIn_r _ [13, 14, 15, 16, 17, 18, 4, 19, 20, 21, 22, 23, 24, 25, 26, 27, 28, 29, 30, 31, 32, 33, 34, 35, 36, 37, 38, 39, 40, 41, 42, 43, 44, 45, 46, 47, 48, 49, 50, 51, 52, 53, 54, 55, 56, 57, 58, 59, 60, 61, 62, 63, 64, 65, 66, 67, 68, 69, 70, 71, 72, 73, 74, 75, 76, 77, 78, 79, 80, 81, 82, 83, 84, 85, 86, 87, 88, 89, 90, 91, 92, 93, 94, 2, 3, 5, 95, 96, 97, 98, 99, 100, 101, 102, 103, 104, 105, 106, 107] (by decide +kernel) (by decide +kernel)
set_option maxRecDepth 20000 in
theorem gX7_pass_X7_quarterOn : GoodIn wsX7_pass (wsV RX7 148 RX7 yX7_quarterOn wsX7_quarterOn) := goodIn_app (goodIn_of _ (by decide +kernel)) ggX7_pass_X7_quarterOn
theorem dX7_pass_0 : decode cX7_pass 0 = .ok (.aload_n 0, 1) := by decide +kernel
theorem dX7_pass_1 : decode cX7_pass 1 = .ok (.iconst 0, 1) := by decide +kernel
theorem dX7_pass_2 : decode cX7_pass 2 = .ok (.putfield 35, 3) := by decide +kernel
theorem dX7_pass_5 : decode cX7_pass 5 = .ok (.iload_n 1, 1) := by decide +kernel
theorem dX7_pass_6 : decode cX7_pass 6 = .ok (.iconst 1, 1) := by decide +kernel
theorem dX7_pass_7 : decode cX7_pass 7 = .ok (.sipush 240, 3) := by decide +kernel
theorem dX7_pass_10 : decode cX7_pass 10 = .ok (.invokestatic 42, 3) := by decide +kernel
theorem dX7_pass_13 : decode cX7_pass 13 = .ok (.ifCond .ne 9, 3) := by decide +kernel
theorem dX7_pass_16 : decode cX7_pass 16 = .ok (.aload_n 0, 1) := by decide +kernel
theorem dX7_pass_17 : decode cX7_pass 17 = .ok (.iconst 1, 1) := by decide +kernel
theorem dX7_pass_18 : decode cX7_pass 18 = .ok (.invokevirtual 55, 3) := by decide +kernel
theorem dX7_pass_21 : decode cX7_pass 21 = .ok (.ireturn, 1) := by decide +kernel
theorem dX7_pass_22 : decode cX7_pass 22 = .ok (.iconst 0, 1) := by decide +kernel
theorem dX7_pass_23 : decode cX7_pass 23 = .ok (.istore_n 2, 1) := by decide +kernel
theorem dX7_pass_24 : decode cX7_pass 24 = .ok (.iconst 0, 1) := by decide +kernel
theorem dX7_pass_25 : decode cX7_pass 25 = .ok (.istore_n 3, 1) := by decide +kernel
theorem dX7_pass_26 : decode cX7_pass 26 = .ok (.iload_n 3, 1) := by decide +kernel
theorem dX7_pass_27 : decode cX7_pass 27 = .ok (.iload_n 1, 1) := by decide +kernel
theorem dX7_pass_28 : decode cX7_pass 28 = .ok (.if_icmp .ge 16, 3) := by decide +kernel
theorem dX7_pass_31 : decode cX7_pass 31 = .ok (.iload_n 2, 1) := by decide +kernel
theorem dX7_pass_32 : decode cX7_pass 32 = .ok (.aload_n 0, 1) := by decide +kernel
theorem dX7_pass_33 : decode cX7_pass 33 = .ok (.invokevirtual 148, 3) := by decide +kernel
theorem dX7_pass_36 : decode cX7_pass 36 = .ok (.iadd, 1) := by decide +kernel
theorem dX7_pass_37 : decode cX7_pass 37 = .ok (.istore_n 2, 1) := by decide +kernel
theorem dX7_pass_38 : decode cX7_pass 38 = .ok (.iinc 3 1, 3) := by decide +kernel
theorem dX7_pass_41 : decode cX7_pass 41 = .ok (.goto (-15), 3) := by decide +kernel
theorem dX7_pass_44 : decode cX7_pass 44 = .ok (.iload_n 2, 1) := by decide +kernel
theorem dX7_pass_45 : decode cX7_pass 45 = .ok (.ireturn, 1) := by decide +kernel
set_option maxRecDepth 20000 in
theorem ggX7_counted_X7_le : GoodIn wsX7_counted wsX7_le := goodIn_r _ [10, 11, 29, 30, 31, 32, 33, 34, 35, 36, 37, 38, 39, 40, 41] (by decide +kernel) (by decide +kernel)
set_option maxRecDepth 20000 in
theorem gX7_counted_X7_le : GoodIn wsX7_counted (wsV RX7 110 RX7 yX7_le wsX7_le) := goodIn_app (goodIn_of _ (by decide +kernel)) ggX7_counted_X7_le
set_option maxRecDepth 20000 in
theorem ggX7_counted_X7_be : GoodIn wsX7_counted wsX7_be := goodIn_r _ [15, 16, 29, 30, 31, 32, 33, 34, 35, 36, 37, 38, 39, 40, 41] (by decide +kernel) (by decide +kernel)
set_option maxRecDepth 20000 in
theorem gX7_counted_X7_be : GoodIn wsX7_counted (wsV RX7 94 RX7 yX7_be wsX7_be) := goodIn_app (goodIn_of _ (by decide +kernel)) ggX7_counted_X7_be
set_option maxRecDepth 20000 in
theorem ggX7_counted_X7_isOpen : GoodIn wsX7_counted wsX7_isOpen := goodIn_r _ [20, 1, 21, 22, 23, 9, 24, 25, 26, 27, 28, 29, 30, 31, 32, 33, 34, 35, 36, 37, 38, 39, 40, 41] (by decide +kernel) (by decide +kernel)
set_option maxRecDepth 20000 in
theorem gX7_counted_X7_isOpen : GoodIn wsX7_counted (wsV RX7 138 RX7 yX7_isOpen wsX7_isOpen) := goodIn_app (goodIn_of _ (by decide +kernel)) ggX7_counted_X7_isOpen
theorem dX7_counted_0 : decode cX7_counted 0 = .ok (.iconst 0, 1) := by decide +kernel
theorem dX7_counted_1 : decode cX7_counted 1 = .ok (.istore_n 2, 1) := by decide +kernel
theorem dX7_counted_2 : decode cX7_counted 2 = .ok (.iload_n 1, 1) := by decide +kernel
theorem dX7_counted_3 : decode cX7_counted 3 = .ok (.tableswitch 144 0 7 #[45, 52, 57, 62, 67, 72, 72, 117], 45) := by decide +kernel
theorem dX7_counted_48 : decode cX7_counted 48 = .ok (.aload_n 0, 1) := by decide +kernel
theorem dX7_counted_49 : decode cX7_counted 49 = .ok (.getfield 29, 3) := by decide +kernel
theorem dX7_counted_52 : decode cX7_counted 52 = .ok (.iconst 0, 1) := by decide +kernel
theorem dX7_counted_53 : decode cX7_counted 53 = .ok (.iaload, 1) := by decide +kernel
theorem dX7_counted_54 : decode cX7_counted 54 = .ok (.ireturn, 1) := by decide +kernel
theorem dX7_counted_55 : decode cX7_counted 55 = .ok (.aload_n 0, 1) := by decide +kernel
theorem dX7_counted_56 : decode cX7_counted 56 = .ok (.getfield 39, 3) := by decide +kernel
theorem dX7_counted_59 : decode cX7_counted 59 = .ok (.ireturn, 1) := by decide +kernel
theorem dX7_counted_60 : decode cX7_counted 60 = .ok (.aload_n 0, 1) := by decide +kernel
theorem dX7_counted_61 : decode cX7_counted 61 = .ok (.getfield 46, 3) := by decide +kernel
theorem dX7_counted_64 : decode cX7_counted 64 = .ok (.ireturn, 1) := by decide +kernel
theorem dX7_counted_65 : decode cX7_counted 65 = .ok (.aload_n 0, 1) := by decide +kernel
theorem dX7_counted_66 : decode cX7_counted 66 = .ok (.getfield 49, 3) := by decide +kernel
theorem dX7_counted_69 : decode cX7_counted 69 = .ok (.ireturn, 1) := by decide +kernel
theorem dX7_counted_70 : decode cX7_counted 70 = .ok (.aload_n 0, 1) := by decide +kernel
theorem dX7_counted_71 : decode cX7_counted 71 = .ok (.getfield 52, 3) := by decide +kernel
theorem dX7_counted_74 : decode cX7_counted 74 = .ok (.ireturn, 1) := by decide +kernel
theorem dX7_counted_75 : decode cX7_counted 75 = .ok (.iconst 0, 1) := by decide +kernel
theorem dX7_counted_76 : decode cX7_counted 76 = .ok (.istore_n 3, 1) := by decide +kernel
theorem dX7_counted_77 : decode cX7_counted 77 = .ok (.iload_n 3, 1) := by decide +kernel
theorem dX7_counted_78 : decode cX7_counted 78 = .ok (.aload_n 0, 1) := by decide +kernel
theorem dX7_counted_79 : decode cX7_counted 79 = .ok (.getfield 52, 3) := by decide +kernel
theorem dX7_counted_82 : decode cX7_counted 82 = .ok (.if_icmp .ge 36, 3) := by decide +kernel
theorem dX7_counted_85 : decode cX7_counted 85 = .ok (.iload_n 2, 1) := by decide +kernel
theorem dX7_counted_86 : decode cX7_counted 86 = .ok (.aload_n 0, 1) := by decide +kernel
theorem dX7_counted_87 : decode cX7_counted 87 = .ok (.iload_n 3, 1) := by decide +kernel
theorem dX7_counted_88 : decode cX7_counted 88 = .ok (.iload_n 1, 1) := by decide +kernel
theorem dX7_counted_89 : decode cX7_counted 89 = .ok (.iconst 5, 1) := by decide +kernel
theorem dX7_counted_90 : decode cX7_counted 90 = .ok (.if_icmp .ne 7, 3) := by decide +kernel
theorem dX7_counted_93 : decode cX7_counted 93 = .ok (.iconst 3, 1) := by decide +kernel
theorem dX7_counted_94 : decode cX7_counted 94 = .ok (.goto 4, 3) := by decide +kernel
theorem dX7_counted_97 : decode cX7_counted 97 = .ok (.iconst 2, 1) := by decide +kernel
theorem dX7_counted_98 : decode cX7_counted 98 = .ok (.invokevirtual 110, 3) := by decide +kernel
theorem dX7_counted_101 : decode cX7_counted 101 = .ok (.iconst (-1), 1) := by decide +kernel
theorem dX7_counted_102 : decode cX7_counted 102 = .ok (.if_icmp .ne 7, 3) := by decide +kernel
theorem dX7_counted_105 : decode cX7_counted 105 = .ok (.iconst 0, 1) := by decide +kernel
theorem dX7_counted_106 : decode cX7_counted 106 = .ok (.goto 4, 3) := by decide +kernel
theorem dX7_counted_109 : decode cX7_counted 109 = .ok (.iconst 1, 1) := by decide +kernel
theorem dX7_counted_110 : decode cX7_counted 110 = .ok (.iadd, 1) := by decide +kernel
theorem dX7_counted_111 : decode cX7_counted 111 = .ok (.istore_n 2, 1) := by decide +kernel
theorem dX7_counted_112 : decode cX7_counted 112 = .ok (.iinc 3 1, 3) := by decide +kernel
theorem dX7_counted_115 : decode cX7_counted 115 = .ok (.goto (-38), 3) := by decide +kernel
theorem dX7_counted_118 : decode cX7_counted 118 = .ok (.iload_n 2, 1) := by decide +kernel
theorem dX7_counted_119 : decode cX7_counted 119 = .ok (.ireturn, 1) := by decide +kernel
theorem dX7_counted_120 : decode cX7_counted 120 = .ok (.iconst 0, 1) := by decide +kernel
theorem dX7_counted_121 : decode cX7_counted 121 = .ok (.istore_n 3, 1) := by decide +kernel
theorem dX7_counted_122 : decode cX7_counted 122 = .ok (.iload_n 3, 1) := by decide +kernel
theorem dX7_counted_123 : decode cX7_counted 123 = .ok (.aload_n 0, 1) := by decide +kernel
theorem dX7_counted_124 : decode cX7_counted 124 = .ok (.getfield 49, 3) := by decide +kernel
theorem dX7_counted_127 : decode cX7_counted 127 = .ok (.if_icmp .ge 18, 3) := by decide +kernel
theorem dX7_counted_130 : decode cX7_counted 130 = .ok (.iload_n 2, 1) := by decide +kernel
theorem dX7_counted_131 : decode cX7_counted 131 = .ok (.aload_n 0, 1) := by decide +kernel
theorem dX7_counted_132 : decode cX7_counted 132 = .ok (.iload_n 3, 1) := by decide +kernel
theorem dX7_counted_133 : decode cX7_counted 133 = .ok (.iconst 4, 1) := by decide +kernel
theorem dX7_counted_134 : decode cX7_counted 134 = .ok (.invokevirtual 94, 3) := by decide +kernel
theorem dX7_counted_137 : decode cX7_counted 137 = .ok (.iadd, 1) := by decide +kernel
theorem dX7_counted_138 : decode cX7_counted 138 = .ok (.istore_n 2, 1) := by decide +kernel
theorem dX7_counted_139 : decode cX7_counted 139 = .ok (.iinc 3 1, 3) := by decide +kernel
theorem dX7_counted_142 : decode cX7_counted 142 = .ok (.goto (-20), 3) := by decide +kernel
theorem dX7_counted_145 : decode cX7_counted 145 = .ok (.iload_n 2, 1) := by decide +kernel
theorem dX7_counted_146 : decode cX7_counted 146 = .ok (.ireturn, 1) := by decide +kernel
theorem dX7_counted_147 : decode cX7_counted 147 = .ok (.iconst 0, 1) := by decide +kernel
theorem dX7_counted_148 : decode cX7_counted 148 = .ok (.istore_n 3, 1) := by decide +kernel
theorem dX7_counted_149 : decode cX7_counted 149 = .ok (.iload_n 3, 1) := by decide +kernel
theorem dX7_counted_150 : decode cX7_counted 150 = .ok (.aload_n 0, 1) := by decide +kernel
theorem dX7_counted_151 : decode cX7_counted 151 = .ok (.getfield 46, 3) := by decide +kernel
theorem dX7_counted_154 : decode cX7_counted 154 = .ok (.if_icmp .ge 25, 3) := by decide +kernel
theorem dX7_counted_157 : decode cX7_counted 157 = .ok (.iload_n 2, 1) := by decide +kernel
theorem dX7_counted_158 : decode cX7_counted 158 = .ok (.aload_n 0, 1) := by decide +kernel
theorem dX7_counted_159 : decode cX7_counted 159 = .ok (.iload_n 3, 1) := by decide +kernel
theorem dX7_counted_160 : decode cX7_counted 160 = .ok (.invokevirtual 138, 3) := by decide +kernel
theorem dX7_counted_163 : decode cX7_counted 163 = .ok (.ifCond .eq 7, 3) := by decide +kernel
theorem dX7_counted_166 : decode cX7_counted 166 = .ok (.iconst 1, 1) := by decide +kernel
theorem dX7_counted_167 : decode cX7_counted 167 = .ok (.goto 4, 3) := by decide +kernel
theorem dX7_counted_170 : decode cX7_counted 170 = .ok (.iconst 0, 1) := by decide +kernel
theorem dX7_counted_171 : decode cX7_counted 171 = .ok (.iadd, 1) := by decide +kernel
theorem dX7_counted_172 : decode cX7_counted 172 = .ok (.istore_n 2, 1) := by decide +kernel
theorem dX7_counted_173 : decode cX7_counted 173 = .ok (.iinc 3 1, 3) := by decide +kernel
theorem dX7_counted_176 : decode cX7_counted 176 = .ok (.goto (-27), 3) := by decide +kernel
theorem dX7_counted_179 : decode cX7_counted 179 = .ok (.iload_n 2, 1) := by decide +kernel
theorem dX7_counted_180 : decode cX7_counted 180 = .ok (.ireturn, 1) := by decide +kernel
set_option maxRecDepth 20000 in
theorem ggX7_count_X7_isIn : GoodIn wsX7_count wsX7_isIn := goodIn_r _ [5] (by decide +kernel) (by decide +kernel)
set_option maxRecDepth 20000 in
theorem gX7_count_X7_isIn : GoodIn wsX7_count (va_wsS RX7 42 yX7_isIn wsX7_isIn) := goodIn_app (goodIn_of _ (by decide +kernel)) ggX7_count_X7_isIn
set_option maxRecDepth 20000 in
theorem ggX7_count_X7_counted : GoodIn wsX7_count wsX7_counted := goodIn_r _ [9, 10, 11, 12, 13, 14, 15, 16, 17, 4, 18, 19, 20, 21, 22, 23, 24, 25, 26, 27, 28, 29, 30, 31, 32, 33, 2, 3, 5, 38, 39, 40, 41, 42, 43, 44, 45, 46, 47, 48, 49, 50] (by decide +kernel) (by decide +kernel)
set_option maxRecDepth 20000 in
theorem gX7_count_X7_counted : GoodIn wsX7_count (wsV RX7 152 RX7 yX7_counted wsX7_counted) := goodIn_app (goodIn_of _ (by decide +kernel)) ggX7_count_X7_counted
set_option maxRecDepth 20000 in
theorem ggX7_count_X7_fail : GoodIn wsX7_count wsX7_fail := goodIn_r _ [37, 1, 38, 39, 40, 41, 42, 43, 44, 45, 46, 47, 48, 49, 50] (by decide +kernel) (by decide +kernel)
set_option maxRecDepth 20000 in
theorem gX7_count_X7_fail : GoodIn wsX7_count (wsV RX7 55 RX7 yX7_fail wsX7_fail) := goodIn_app (goodIn_of _ (by decide +kernel)) ggX7_count_X7_fail
theorem dX7_count_0 : decode cX7_count 0 = .ok (.aload_n 0, 1) := by decide +kernel
theorem dX7_count_1 : decode cX7_count 1 = .ok (.iconst 0, 1) := by decide +kernel
theorem dX7_count_2 : decode cX7_count 2 = .ok (.putfield 35, 3) := by decide +kernel
theorem dX7_count_5 : decode cX7_count 5 = .ok (.iload_n 1, 1) := by decide +kernel
theorem dX7_count_6 : decode cX7_count 6 = .ok (.iconst 0, 1) := by decide +kernel
theorem dX7_count_7 : decode cX7_count 7 = .ok (.bipush 8, 2) := by decide +kernel
theorem dX7_count_9 : decode cX7_count 9 = .ok (.invokestatic 42, 3) := by decide +kernel
theorem dX7_count_12 : decode cX7_count 12 = .ok (.ifCond .eq 11, 3) := by decide +kernel
theorem dX7_count_15 : decode cX7_count 15 = .ok (.aload_n 0, 1) := by decide +kernel
theorem dX7_count_16 : decode cX7_count 16 = .ok (.iload_n 1, 1) := by decide +kernel
theorem dX7_count_17 : decode cX7_count 17 = .ok (.invokevirtual 152, 3) := by decide +kernel
theorem dX7_count_20 : decode cX7_count 20 = .ok (.goto 8, 3) := by decide +kernel
theorem dX7_count_23 : decode cX7_count 23 = .ok (.aload_n 0, 1) := by decide +kernel
theorem dX7_count_24 : decode cX7_count 24 = .ok (.iconst 1, 1) := by decide +kernel
theorem dX7_count_25 : decode cX7_count 25 = .ok (.invokevirtual 55, 3) := by decide +kernel
theorem dX7_count_28 : decode cX7_count 28 = .ok (.ireturn, 1) := by decide +kernel
theorem dX7_kept_0 : decode cX7_kept 0 = .ok (.iconst 3, 1) := by decide +kernel
theorem dX7_kept_1 : decode cX7_kept 1 = .ok (.anewarray 155, 3) := by decide +kernel
theorem dX7_kept_4 : decode cX7_kept 4 = .ok (.dup, 1) := by decide +kernel
theorem dX7_kept_5 : decode cX7_kept 5 = .ok (.iconst 0, 1) := by decide +kernel
theorem dX7_kept_6 : decode cX7_kept 6 = .ok (.aload_n 0, 1) := by decide +kernel
theorem dX7_kept_7 : decode cX7_kept 7 = .ok (.getfield 20, 3) := by decide +kernel
theorem dX7_kept_10 : decode cX7_kept 10 = .ok (.invokevirtual 156, 3) := by decide +kernel
theorem dX7_kept_13 : decode cX7_kept 13 = .ok (.checkcast 155, 3) := by decide +kernel
theorem dX7_kept_16 : decode cX7_kept 16 = .ok (.aastore, 1) := by decide +kernel
theorem dX7_kept_17 : decode cX7_kept 17 = .ok (.dup, 1) := by decide +kernel
theorem dX7_kept_18 : decode cX7_kept 18 = .ok (.iconst 1, 1) := by decide +kernel
theorem dX7_kept_19 : decode cX7_kept 19 = .ok (.aload_n 0, 1) := by decide +kernel
theorem dX7_kept_20 : decode cX7_kept 20 = .ok (.getfield 26, 3) := by decide +kernel
theorem dX7_kept_23 : decode cX7_kept 23 = .ok (.invokevirtual 156, 3) := by decide +kernel
theorem dX7_kept_26 : decode cX7_kept 26 = .ok (.checkcast 155, 3) := by decide +kernel
theorem dX7_kept_29 : decode cX7_kept 29 = .ok (.aastore, 1) := by decide +kernel
theorem dX7_kept_30 : decode cX7_kept 30 = .ok (.dup, 1) := by decide +kernel
theorem dX7_kept_31 : decode cX7_kept 31 = .ok (.iconst 2, 1) := by decide +kernel
theorem dX7_kept_32 : decode cX7_kept 32 = .ok (.aload_n 0, 1) := by decide +kernel
theorem dX7_kept_33 : decode cX7_kept 33 = .ok (.getfield 29, 3) := by decide +kernel
theorem dX7_kept_36 : decode cX7_kept 36 = .ok (.invokevirtual 156, 3) := by decide +kernel
theorem dX7_kept_39 : decode cX7_kept 39 = .ok (.checkcast 155, 3) := by decide +kernel
theorem dX7_kept_42 : decode cX7_kept 42 = .ok (.aastore, 1) := by decide +kernel
theorem dX7_kept_43 : decode cX7_kept 43 = .ok (.areturn, 1) := by decide +kernel
theorem dX7_bringBack_0 : decode cX7_bringBack 0 = .ok (.aload_n 1, 1) := by decide +kernel
theorem dX7_bringBack_1 : decode cX7_bringBack 1 = .ok (.iconst 0, 1) := by decide +kernel
theorem dX7_bringBack_2 : decode cX7_bringBack 2 = .ok (.aaload, 1) := by decide +kernel
theorem dX7_bringBack_3 : decode cX7_bringBack 3 = .ok (.iconst 0, 1) := by decide +kernel
theorem dX7_bringBack_4 : decode cX7_bringBack 4 = .ok (.aload_n 0, 1) := by decide +kernel
theorem dX7_bringBack_5 : decode cX7_bringBack 5 = .ok (.getfield 20, 3) := by decide +kernel
theorem dX7_bringBack_8 : decode cX7_bringBack 8 = .ok (.iconst 0, 1) := by decide +kernel
theorem dX7_bringBack_9 : decode cX7_bringBack 9 = .ok (.aload_n 0, 1) := by decide +kernel
theorem dX7_bringBack_10 : decode cX7_bringBack 10 = .ok (.getfield 20, 3) := by decide +kernel
theorem dX7_bringBack_13 : decode cX7_bringBack 13 = .ok (.arraylength, 1) := by decide +kernel
theorem dX7_bringBack_14 : decode cX7_bringBack 14 = .ok (.invokestatic 75, 3) := by decide +kernel
theorem dX7_bringBack_17 : decode cX7_bringBack 17 = .ok (.aload_n 1, 1) := by decide +kernel
theorem dX7_bringBack_18 : decode cX7_bringBack 18 = .ok (.iconst 1, 1) := by decide +kernel
theorem dX7_bringBack_19 : decode cX7_bringBack 19 = .ok (.aaload, 1) := by decide +kernel
theorem dX7_bringBack_20 : decode cX7_bringBack 20 = .ok (.iconst 0, 1) := by decide +kernel
theorem dX7_bringBack_21 : decode cX7_bringBack 21 = .ok (.aload_n 0, 1) := by decide +kernel
theorem dX7_bringBack_22 : decode cX7_bringBack 22 = .ok (.getfield 26, 3) := by decide +kernel
theorem dX7_bringBack_25 : decode cX7_bringBack 25 = .ok (.iconst 0, 1) := by decide +kernel
theorem dX7_bringBack_26 : decode cX7_bringBack 26 = .ok (.aload_n 0, 1) := by decide +kernel
theorem dX7_bringBack_27 : decode cX7_bringBack 27 = .ok (.getfield 26, 3) := by decide +kernel
theorem dX7_bringBack_30 : decode cX7_bringBack 30 = .ok (.arraylength, 1) := by decide +kernel
theorem dX7_bringBack_31 : decode cX7_bringBack 31 = .ok (.invokestatic 75, 3) := by decide +kernel
theorem dX7_bringBack_34 : decode cX7_bringBack 34 = .ok (.aload_n 0, 1) := by decide +kernel
theorem dX7_bringBack_35 : decode cX7_bringBack 35 = .ok (.getfield 29, 3) := by decide +kernel
theorem dX7_bringBack_38 : decode cX7_bringBack 38 = .ok (.iconst 0, 1) := by decide +kernel
theorem dX7_bringBack_39 : decode cX7_bringBack 39 = .ok (.aload_n 1, 1) := by decide +kernel
theorem dX7_bringBack_40 : decode cX7_bringBack 40 = .ok (.iconst 2, 1) := by decide +kernel
theorem dX7_bringBack_41 : decode cX7_bringBack 41 = .ok (.aaload, 1) := by decide +kernel
theorem dX7_bringBack_42 : decode cX7_bringBack 42 = .ok (.iconst 0, 1) := by decide +kernel
theorem dX7_bringBack_43 : decode cX7_bringBack 43 = .ok (.iaload, 1) := by decide +kernel
theorem dX7_bringBack_44 : decode cX7_bringBack 44 = .ok (.iastore, 1) := by decide +kernel
theorem dX7_bringBack_45 : decode cX7_bringBack 45 = .ok (.return_, 1) := by decide +kernel
set_option maxRecDepth 20000 in
theorem ggX7_comes_X7_isLetter : GoodIn wsX7_comes wsX7_isLetter := goodIn_r _ [6, 7, 8, 9, 5, 10, 117, 118, 119, 120, 121, 122, 123, 124, 125, 126, 127, 128, 129] (by decide +kernel) (by decide +kernel)
set_option maxRecDepth 20000 in
theorem gX7_comes_X7_isLetter : GoodIn wsX7_comes (wsV RX7 116 RX7 yX7_isLetter wsX7_isLetter) := goodIn_app (goodIn_of _ (by decide +kernel)) ggX7_comes_X7_isLetter
set_option maxRecDepth 20000 in
theorem ggX7_comes_X7_fail : GoodIn wsX7_comes wsX7_fail := goodIn_r _ [14, 1, 117, 118, 119, 120, 121, 122, 123, 124, 125, 126, 127, 128, 129] (by decide +kernel) (by decide +kernel)
set_option maxRecDepth 20000 in
theorem gX7_comes_X7_fail : GoodIn wsX7_comes (wsV RX7 55 RX7 yX7_fail wsX7_fail) := goodIn_app (goodIn_of _ (by decide +kernel)) ggX7_comes_X7_fail
set_option maxRecDepth 20000 in
theorem ggX7_comes_X7_kept : GoodIn wsX7_comes wsX7_kept := goodIn_r _ [18, 19, 20, 21, 22, 23, 24, 25, 26, 27, 117, 118, 119, 120, 121, 122, 123, 124, 125, 126, 127, 128, 129] (by decide +kernel) (by decide +kernel)
set_option maxRecDepth 20000 in
theorem gX7_comes_X7_kept : GoodIn wsX7_comes (wsV RX7 160 RX7 yX7_kept wsX7_kept) := goodIn_app (goodIn_of _ (by decide +kernel)) ggX7_comes_X7_kept
set_option maxRecDepth 20000 in
theorem ggX7_comes_X7_le : GoodIn wsX7_comes wsX7_le := goodIn_r _ [31, 26, 117, 118, 119, 120, 121, 122, 123, 124, 125, 126, 127, 128, 129] (by decide +kernel) (by decide +kernel)
set_option maxRecDepth 20000 in
theorem gX7_comes_X7_le : GoodIn wsX7_comes (wsV RX7 110 RX7 yX7_le wsX7_le) := goodIn_app (goodIn_of _ (by decide +kernel)) ggX7_comes_X7_le
set_option maxRecDepth 20000 in
theorem ggX7_comes_X7_quarterOn : GoodIn wsX7_comes wsX7_quarterOn := goodIn_r _ [35, 36, 27, 37, 38, 39, 5, 40, 20, 41, 42, 43, 44, 45, 46, 47, 48, 7, 49, 50, 51, 52, 53, 28, 29, 30, 31, 26, 54, 55, 56, 57, 58, 59, 60, 61, 62, 63, 64, 65, 66, 67, 68, 69, 70, 71, 72, 73, 74, 75, 76, 77, 78, 79, 80, 81, 82, 83, 84, 85, 86, 87, 88, 89, 90, 91, 92, 93, 94, 95, 96, 97, 98, 99, 100, 101, 102, 103, 104, 105, 106, 107, 108, 8, 9, 10, 117, 118, 119, 120, 121, 122, 123, 124, 125, 126, 127, 128, 129] (by decide +kernel) (by decide +kernel)
set_option maxRecDepth 20000 in
theorem gX7_comes_X7_quarterOn : GoodIn wsX7_comes (wsV RX7 148 RX7 yX7_quarterOn wsX7_quarterOn) := goodIn_app (goodIn_of _ (by decide +kernel)) ggX7_comes_X7_quarterOn
set_option maxRecDepth 20000 in
theorem ggX7_comes_X7_bringBack : GoodIn wsX7_comes wsX7_bringBack := goodIn_r _ [112, 20, 113, 114, 115, 116, 26, 27, 117, 118, 119, 120, 121, 122, 123, 124, 125, 126, 127, 128, 129] (by decide +kernel) (by decide +kernel)
set_option maxRecDepth 20000 in
theorem gX7_comes_X7_bringBack : GoodIn wsX7_comes (wsV RX7 164 RX7 yX7_bringBack wsX7_bringBack) := goodIn_app (goodIn_of _ (by decide +kernel)) ggX7_comes_X7_bringBack
theorem dX7_comes_0 : decode cX7_comes 0 = .ok (.aload_n 0, 1) := by decide +kernel
theorem dX7_comes_1 : decode cX7_comes 1 = .ok (.iconst 0, 1) := by decide +kernel
theorem dX7_comes_2 : decode cX7_comes 2 = .ok (.putfield 35, 3) := by decide +kernel
theorem dX7_comes_5 : decode cX7_comes 5 = .ok (.aload_n 0, 1) := by decide +kernel
theorem dX7_comes_6 : decode cX7_comes 6 = .ok (.iload_n 1, 1) := by decide +kernel
theorem dX7_comes_7 : decode cX7_comes 7 = .ok (.invokevirtual 116, 3) := by decide +kernel
theorem dX7_comes_10 : decode cX7_comes 10 = .ok (.ifCond .ne 9, 3) := by decide +kernel
theorem dX7_comes_13 : decode cX7_comes 13 = .ok (.aload_n 0, 1) := by decide +kernel
theorem dX7_comes_14 : decode cX7_comes 14 = .ok (.iconst 1, 1) := by decide +kernel
theorem dX7_comes_15 : decode cX7_comes 15 = .ok (.invokevirtual 55, 3) := by decide +kernel
theorem dX7_comes_18 : decode cX7_comes 18 = .ok (.ireturn, 1) := by decide +kernel
theorem dX7_comes_19 : decode cX7_comes 19 = .ok (.aload_n 0, 1) := by decide +kernel
theorem dX7_comes_20 : decode cX7_comes 20 = .ok (.invokevirtual 160, 3) := by decide +kernel
theorem dX7_comes_23 : decode cX7_comes 23 = .ok (.astore_n 2, 1) := by decide +kernel
theorem dX7_comes_24 : decode cX7_comes 24 = .ok (.iconst 0, 1) := by decide +kernel
theorem dX7_comes_25 : decode cX7_comes 25 = .ok (.istore_n 3, 1) := by decide +kernel
theorem dX7_comes_26 : decode cX7_comes 26 = .ok (.iload_n 3, 1) := by decide +kernel
theorem dX7_comes_27 : decode cX7_comes 27 = .ok (.sipush 240, 3) := by decide +kernel
theorem dX7_comes_30 : decode cX7_comes 30 = .ok (.if_icmp .ge 24, 3) := by decide +kernel
theorem dX7_comes_33 : decode cX7_comes 33 = .ok (.aload_n 0, 1) := by decide +kernel
theorem dX7_comes_34 : decode cX7_comes 34 = .ok (.iload_n 1, 1) := by decide +kernel
theorem dX7_comes_35 : decode cX7_comes 35 = .ok (.iconst 3, 1) := by decide +kernel
theorem dX7_comes_36 : decode cX7_comes 36 = .ok (.invokevirtual 110, 3) := by decide +kernel
theorem dX7_comes_39 : decode cX7_comes 39 = .ok (.iconst (-1), 1) := by decide +kernel
theorem dX7_comes_40 : decode cX7_comes 40 = .ok (.if_icmp .ne 14, 3) := by decide +kernel
theorem dX7_comes_43 : decode cX7_comes 43 = .ok (.aload_n 0, 1) := by decide +kernel
theorem dX7_comes_44 : decode cX7_comes 44 = .ok (.invokevirtual 148, 3) := by decide +kernel
theorem dX7_comes_47 : decode cX7_comes 47 = .ok (.pop, 1) := by decide +kernel
theorem dX7_comes_48 : decode cX7_comes 48 = .ok (.iinc 3 1, 3) := by decide +kernel
theorem dX7_comes_51 : decode cX7_comes 51 = .ok (.goto (-25), 3) := by decide +kernel
theorem dX7_comes_54 : decode cX7_comes 54 = .ok (.aload_n 0, 1) := by decide +kernel
theorem dX7_comes_55 : decode cX7_comes 55 = .ok (.iload_n 1, 1) := by decide +kernel
theorem dX7_comes_56 : decode cX7_comes 56 = .ok (.iconst 3, 1) := by decide +kernel
theorem dX7_comes_57 : decode cX7_comes 57 = .ok (.invokevirtual 110, 3) := by decide +kernel
theorem dX7_comes_60 : decode cX7_comes 60 = .ok (.iconst (-1), 1) := by decide +kernel
theorem dX7_comes_61 : decode cX7_comes 61 = .ok (.if_icmp .ne 5, 3) := by decide +kernel
theorem dX7_comes_64 : decode cX7_comes 64 = .ok (.iconst (-1), 1) := by decide +kernel
theorem dX7_comes_65 : decode cX7_comes 65 = .ok (.istore_n 3, 1) := by decide +kernel
theorem dX7_comes_66 : decode cX7_comes 66 = .ok (.aload_n 0, 1) := by decide +kernel
theorem dX7_comes_67 : decode cX7_comes 67 = .ok (.aload_n 2, 1) := by decide +kernel
theorem dX7_comes_68 : decode cX7_comes 68 = .ok (.invokevirtual 164, 3) := by decide +kernel
theorem dX7_comes_71 : decode cX7_comes 71 = .ok (.iload_n 3, 1) := by decide +kernel
theorem dX7_comes_72 : decode cX7_comes 72 = .ok (.ireturn, 1) := by decide +kernel
set_option maxRecDepth 20000 in
theorem ggX7_advise_X7_isIn : GoodIn wsX7_advise wsX7_isIn := goodIn_r _ [6] (by decide +kernel) (by decide +kernel)
set_option maxRecDepth 20000 in
theorem gX7_advise_X7_isIn : GoodIn wsX7_advise (va_wsS RX7 42 yX7_isIn wsX7_isIn) := goodIn_app (goodIn_of _ (by decide +kernel)) ggX7_advise_X7_isIn
set_option maxRecDepth 20000 in
theorem ggX7_advise_X7_fail : GoodIn wsX7_advise wsX7_fail := goodIn_r _ [10, 1, 121, 122, 123, 124, 125, 126, 127, 128, 129, 130, 131, 132, 133] (by decide +kernel) (by decide +kernel)
set_option maxRecDepth 20000 in
theorem gX7_advise_X7_fail : GoodIn wsX7_advise (wsV RX7 55 RX7 yX7_fail wsX7_fail) := goodIn_app (goodIn_of _ (by decide +kernel)) ggX7_advise_X7_fail
set_option maxRecDepth 20000 in
theorem ggX7_advise_X7_kept : GoodIn wsX7_advise wsX7_kept := goodIn_r _ [14, 15, 16, 17, 18, 19, 20, 21, 22, 23, 121, 122, 123, 124, 125, 126, 127, 128, 129, 130, 131, 132, 133] (by decide +kernel) (by decide +kernel)
set_option maxRecDepth 20000 in
theorem gX7_advise_X7_kept : GoodIn wsX7_advise (wsV RX7 160 RX7 yX7_kept wsX7_kept) := goodIn_app (goodIn_of _ (by decide +kernel)) ggX7_advise_X7_kept
set_option maxRecDepth 20000 in
theorem ggX7_advise_X7_ro : GoodIn wsX7_advise wsX7_ro := goodIn_r _ [27, 28, 121, 122, 123, 124, 125, 126, 127, 128, 129, 130, 131, 132, 133] (by decide +kernel) (by decide +kernel)
set_option maxRecDepth 20000 in
theorem gX7_advise_X7_ro : GoodIn wsX7_advise (wsV RX7 66 RX7 yX7_ro wsX7_ro) := goodIn_app (goodIn_of _ (by decide +kernel)) ggX7_advise_X7_ro
set_option maxRecDepth 20000 in
theorem ggX7_advise_X7_setGate : GoodIn wsX7_advise wsX7_setGate := goodIn_r _ [32, 1, 28, 33, 34, 35, 5, 36, 2, 3, 4, 6, 7, 8, 9, 10, 24, 25, 26, 27, 121, 122, 123, 124, 125, 126, 127, 128, 129, 130, 131, 132, 133] (by decide +kernel) (by decide +kernel)
set_option maxRecDepth 20000 in
theorem gX7_advise_X7_setGate : GoodIn wsX7_advise (wsV RX7 168 RX7 yX7_setGate wsX7_setGate) := goodIn_app (goodIn_of _ (by decide +kernel)) ggX7_advise_X7_setGate
set_option maxRecDepth 20000 in
theorem ggX7_advise_X7_quarterOn : GoodIn wsX7_advise wsX7_quarterOn := goodIn_r _ [40, 41, 23, 42, 43, 44, 5, 45, 16, 46, 47, 48, 49, 50, 51, 52, 53, 54, 55, 56, 57, 58, 59, 60, 61, 62, 63, 22, 64, 65, 66, 67, 68, 69, 70, 71, 72, 73, 74, 75, 76, 77, 78, 79, 80, 81, 82, 83, 84, 85, 86, 87, 88, 89, 90, 91, 92, 93, 94, 95, 96, 97, 98, 99, 100, 101, 102, 103, 104, 105, 106, 107, 108, 2, 24, 25, 26, 27, 28, 109, 110, 111, 112, 3, 4, 6, 121, 122, 123, 124, 125, 126, 127, 128, 129, 130, 131, 132, 133] (by decide +kernel) (by decide +kernel)
set_option maxRecDepth 20000 in
theorem gX7_advise_X7_quarterOn : GoodIn wsX7_advise (wsV RX7 148 RX7 yX7_quarterOn wsX7_quarterOn) := goodIn_app (goodIn_of _ (by decide +kernel)) ggX7_advise_X7_quarterOn
set_option maxRecDepth 20000 in
theorem ggX7_advise_X7_bringBack : GoodIn wsX7_advise wsX7_bringBack := goodIn_r _ [116, 16, 117, 118, 119, 120, 22, 23, 121, 122, 123, 124, 125, 126, 127, 128, 129, 130, 131, 132, 133] (by decide +kernel) (by decide +kernel)
set_option maxRecDepth 20000 in
theorem gX7_advise_X7_bringBack : GoodIn wsX7_advise (wsV RX7 164 RX7 yX7_bringBack wsX7_bringBack) := goodIn_app (goodIn_of _ (by decide +kernel)) ggX7_advise_X7_bringBack
theorem dX7_advise_0 : decode cX7_advise 0 = .ok (.aload_n 0, 1) := by decide +kernel
theorem dX7_advise_1 : decode cX7_advise 1 = .ok (.iconst 0, 1) := by decide +kernel
theorem dX7_advise_2 : decode cX7_advise 2 = .ok (.putfield 35, 3) := by decide +kernel
theorem dX7_advise_5 : decode cX7_advise 5 = .ok (.iload_n 1, 1) := by decide +kernel
theorem dX7_advise_6 : decode cX7_advise 6 = .ok (.iconst 1, 1) := by decide +kernel
theorem dX7_advise_7 : decode cX7_advise 7 = .ok (.bipush 120, 2) := by decide +kernel
theorem dX7_advise_9 : decode cX7_advise 9 = .ok (.invokestatic 42, 3) := by decide +kernel
theorem dX7_advise_12 : decode cX7_advise 12 = .ok (.ifCond .ne 9, 3) := by decide +kernel
theorem dX7_advise_15 : decode cX7_advise 15 = .ok (.aload_n 0, 1) := by decide +kernel
theorem dX7_advise_16 : decode cX7_advise 16 = .ok (.iconst 1, 1) := by decide +kernel
theorem dX7_advise_17 : decode cX7_advise 17 = .ok (.invokevirtual 55, 3) := by decide +kernel
theorem dX7_advise_20 : decode cX7_advise 20 = .ok (.ireturn, 1) := by decide +kernel
theorem dX7_advise_21 : decode cX7_advise 21 = .ok (.aload_n 0, 1) := by decide +kernel
theorem dX7_advise_22 : decode cX7_advise 22 = .ok (.invokevirtual 160, 3) := by decide +kernel
theorem dX7_advise_25 : decode cX7_advise 25 = .ok (.astore_n 2, 1) := by decide +kernel
theorem dX7_advise_26 : decode cX7_advise 26 = .ok (.iconst (-1), 1) := by decide +kernel
theorem dX7_advise_27 : decode cX7_advise 27 = .ok (.istore_n 3, 1) := by decide +kernel
theorem dX7_advise_28 : decode cX7_advise 28 = .ok (.iconst 0, 1) := by decide +kernel
theorem dX7_advise_29 : decode cX7_advise 29 = .ok (.istore 4, 2) := by decide +kernel
theorem dX7_advise_31 : decode cX7_advise 31 = .ok (.iconst (-1), 1) := by decide +kernel
theorem dX7_advise_32 : decode cX7_advise 32 = .ok (.istore 5, 2) := by decide +kernel
theorem dX7_advise_34 : decode cX7_advise 34 = .ok (.iload 5, 2) := by decide +kernel
theorem dX7_advise_36 : decode cX7_advise 36 = .ok (.aload_n 0, 1) := by decide +kernel
theorem dX7_advise_37 : decode cX7_advise 37 = .ok (.getfield 46, 3) := by decide +kernel
theorem dX7_advise_40 : decode cX7_advise 40 = .ok (.if_icmp .ge 135, 3) := by decide +kernel
theorem dX7_advise_43 : decode cX7_advise 43 = .ok (.iload 5, 2) := by decide +kernel
theorem dX7_advise_45 : decode cX7_advise 45 = .ok (.iconst (-1), 1) := by decide +kernel
theorem dX7_advise_46 : decode cX7_advise 46 = .ok (.if_icmp .ne 7, 3) := by decide +kernel
theorem dX7_advise_49 : decode cX7_advise 49 = .ok (.iconst 0, 1) := by decide +kernel
theorem dX7_advise_50 : decode cX7_advise 50 = .ok (.goto 10, 3) := by decide +kernel
theorem dX7_advise_53 : decode cX7_advise 53 = .ok (.aload_n 0, 1) := by decide +kernel
theorem dX7_advise_54 : decode cX7_advise 54 = .ok (.iload 5, 2) := by decide +kernel
theorem dX7_advise_56 : decode cX7_advise 56 = .ok (.iconst 3, 1) := by decide +kernel
theorem dX7_advise_57 : decode cX7_advise 57 = .ok (.invokevirtual 66, 3) := by decide +kernel
theorem dX7_advise_60 : decode cX7_advise 60 = .ok (.istore 6, 2) := by decide +kernel
theorem dX7_advise_62 : decode cX7_advise 62 = .ok (.iload 5, 2) := by decide +kernel
theorem dX7_advise_64 : decode cX7_advise 64 = .ok (.iconst (-1), 1) := by decide +kernel
theorem dX7_advise_65 : decode cX7_advise 65 = .ok (.if_icmp .ne 7, 3) := by decide +kernel
theorem dX7_advise_68 : decode cX7_advise 68 = .ok (.iconst 0, 1) := by decide +kernel
theorem dX7_advise_69 : decode cX7_advise 69 = .ok (.goto 10, 3) := by decide +kernel
theorem dX7_advise_72 : decode cX7_advise 72 = .ok (.aload_n 0, 1) := by decide +kernel
theorem dX7_advise_73 : decode cX7_advise 73 = .ok (.iload 5, 2) := by decide +kernel
theorem dX7_advise_75 : decode cX7_advise 75 = .ok (.iconst 4, 1) := by decide +kernel
theorem dX7_advise_76 : decode cX7_advise 76 = .ok (.invokevirtual 66, 3) := by decide +kernel
theorem dX7_advise_79 : decode cX7_advise 79 = .ok (.istore 7, 2) := by decide +kernel
theorem dX7_advise_81 : decode cX7_advise 81 = .ok (.iload 5, 2) := by decide +kernel
theorem dX7_advise_83 : decode cX7_advise 83 = .ok (.iconst (-1), 1) := by decide +kernel
theorem dX7_advise_84 : decode cX7_advise 84 = .ok (.if_icmp .eq 13, 3) := by decide +kernel
theorem dX7_advise_87 : decode cX7_advise 87 = .ok (.aload_n 0, 1) := by decide +kernel
theorem dX7_advise_88 : decode cX7_advise 88 = .ok (.iload 5, 2) := by decide +kernel
theorem dX7_advise_90 : decode cX7_advise 90 = .ok (.iconst 0, 1) := by decide +kernel
theorem dX7_advise_91 : decode cX7_advise 91 = .ok (.bipush 24, 2) := by decide +kernel
theorem dX7_advise_93 : decode cX7_advise 93 = .ok (.invokevirtual 168, 3) := by decide +kernel
theorem dX7_advise_96 : decode cX7_advise 96 = .ok (.pop, 1) := by decide +kernel
theorem dX7_advise_97 : decode cX7_advise 97 = .ok (.iconst 0, 1) := by decide +kernel
theorem dX7_advise_98 : decode cX7_advise 98 = .ok (.istore 8, 2) := by decide +kernel
theorem dX7_advise_100 : decode cX7_advise 100 = .ok (.iconst 0, 1) := by decide +kernel
theorem dX7_advise_101 : decode cX7_advise 101 = .ok (.istore 9, 2) := by decide +kernel
theorem dX7_advise_103 : decode cX7_advise 103 = .ok (.iload 9, 2) := by decide +kernel
theorem dX7_advise_105 : decode cX7_advise 105 = .ok (.iload_n 1, 1) := by decide +kernel
theorem dX7_advise_106 : decode cX7_advise 106 = .ok (.if_icmp .ge 18, 3) := by decide +kernel
theorem dX7_advise_109 : decode cX7_advise 109 = .ok (.iload 8, 2) := by decide +kernel
theorem dX7_advise_111 : decode cX7_advise 111 = .ok (.aload_n 0, 1) := by decide +kernel
theorem dX7_advise_112 : decode cX7_advise 112 = .ok (.invokevirtual 148, 3) := by decide +kernel
theorem dX7_advise_115 : decode cX7_advise 115 = .ok (.iadd, 1) := by decide +kernel
theorem dX7_advise_116 : decode cX7_advise 116 = .ok (.istore 8, 2) := by decide +kernel
theorem dX7_advise_118 : decode cX7_advise 118 = .ok (.iinc 9 1, 3) := by decide +kernel
theorem dX7_advise_121 : decode cX7_advise 121 = .ok (.goto (-18), 3) := by decide +kernel
theorem dX7_advise_124 : decode cX7_advise 124 = .ok (.aload_n 0, 1) := by decide +kernel
theorem dX7_advise_125 : decode cX7_advise 125 = .ok (.aload_n 2, 1) := by decide +kernel
theorem dX7_advise_126 : decode cX7_advise 126 = .ok (.invokevirtual 164, 3) := by decide +kernel
theorem dX7_advise_129 : decode cX7_advise 129 = .ok (.iload 5, 2) := by decide +kernel
theorem dX7_advise_131 : decode cX7_advise 131 = .ok (.iconst (-1), 1) := by decide +kernel
theorem dX7_advise_132 : decode cX7_advise 132 = .ok (.if_icmp .eq 14, 3) := by decide +kernel
theorem dX7_advise_135 : decode cX7_advise 135 = .ok (.aload_n 0, 1) := by decide +kernel
theorem dX7_advise_136 : decode cX7_advise 136 = .ok (.iload 5, 2) := by decide +kernel
theorem dX7_advise_138 : decode cX7_advise 138 = .ok (.iload 6, 2) := by decide +kernel
theorem dX7_advise_140 : decode cX7_advise 140 = .ok (.iload 7, 2) := by decide +kernel
theorem dX7_advise_142 : decode cX7_advise 142 = .ok (.invokevirtual 168, 3) := by decide +kernel
theorem dX7_advise_145 : decode cX7_advise 145 = .ok (.pop, 1) := by decide +kernel
theorem dX7_advise_146 : decode cX7_advise 146 = .ok (.iload 5, 2) := by decide +kernel
theorem dX7_advise_148 : decode cX7_advise 148 = .ok (.iconst (-1), 1) := by decide +kernel
theorem dX7_advise_149 : decode cX7_advise 149 = .ok (.if_icmp .eq 13, 3) := by decide +kernel
theorem dX7_advise_152 : decode cX7_advise 152 = .ok (.iload 8, 2) := by decide +kernel
theorem dX7_advise_154 : decode cX7_advise 154 = .ok (.iload 4, 2) := by decide +kernel
theorem dX7_advise_156 : decode cX7_advise 156 = .ok (.if_icmp .gt 6, 3) := by decide +kernel
theorem dX7_advise_159 : decode cX7_advise 159 = .ok (.goto 10, 3) := by decide +kernel
theorem dX7_advise_162 : decode cX7_advise 162 = .ok (.iload 5, 2) := by decide +kernel
theorem dX7_advise_164 : decode cX7_advise 164 = .ok (.istore_n 3, 1) := by decide +kernel
theorem dX7_advise_165 : decode cX7_advise 165 = .ok (.iload 8, 2) := by decide +kernel
theorem dX7_advise_167 : decode cX7_advise 167 = .ok (.istore 4, 2) := by decide +kernel
theorem dX7_advise_169 : decode cX7_advise 169 = .ok (.iinc 5 1, 3) := by decide +kernel
theorem dX7_advise_172 : decode cX7_advise 172 = .ok (.goto (-138), 3) := by decide +kernel
theorem dX7_advise_175 : decode cX7_advise 175 = .ok (.iload_n 3, 1) := by decide +kernel
theorem dX7_advise_176 : decode cX7_advise 176 = .ok (.ireturn, 1) := by decide +kernel
set_option maxRecDepth 20000 in
theorem ggX7_trusted_X7_isHouse : GoodIn wsX7_trusted wsX7_isHouse := goodIn_r _ [7, 8, 9, 10, 6, 11, 35, 36, 37, 38, 39, 40, 41, 42, 43, 44, 45, 46, 47] (by decide +kernel) (by decide +kernel)
set_option maxRecDepth 20000 in
theorem gX7_trusted_X7_isHouse : GoodIn wsX7_trusted (wsV RX7 62 RX7 yX7_isHouse wsX7_isHouse) := goodIn_app (goodIn_of _ (by decide +kernel)) ggX7_trusted_X7_isHouse
set_option maxRecDepth 20000 in
theorem ggX7_trusted_X7_fail : GoodIn wsX7_trusted wsX7_fail := goodIn_r _ [15, 1, 35, 36, 37, 38, 39, 40, 41, 42, 43, 44, 45, 46, 47] (by decide +kernel) (by decide +kernel)
set_option maxRecDepth 20000 in
theorem gX7_trusted_X7_fail : GoodIn wsX7_trusted (wsV RX7 55 RX7 yX7_fail wsX7_fail) := goodIn_app (goodIn_of _ (by decide +kernel)) ggX7_trusted_X7_fail
set_option maxRecDepth 20000 in
theorem ggX7_trusted_X7_targetOf : GoodIn wsX7_trusted wsX7_targetOf := goodIn_r _ [19, 20, 21, 22, 23, 6, 24, 25, 26, 27, 28, 29, 30, 31, 32, 33, 34, 35, 36, 37, 38, 39, 40, 41, 42, 43, 44, 45, 46, 47] (by decide +kernel) (by decide +kernel)
set_option maxRecDepth 20000 in
theorem gX7_trusted_X7_targetOf : GoodIn wsX7_trusted (wsV RX7 132 RX7 yX7_targetOf wsX7_targetOf) := goodIn_app (goodIn_of _ (by decide +kernel)) ggX7_trusted_X7_targetOf
set_option maxRecDepth 20000 in
theorem ggX7_trusted_X7_away : GoodIn wsX7_trusted wsX7_away := goodIn_r _ [29, 30, 31, 32, 33, 34, 35, 36, 37, 38, 39, 40, 41, 42, 43, 44, 45, 46, 47] (by decide +kernel) (by decide +kernel)
set_option maxRecDepth 20000 in
theorem gX7_trusted_X7_away : GoodIn wsX7_trusted (wsV RX7 84 RX7 yX7_away wsX7_away) := goodIn_app (goodIn_of _ (by decide +kernel)) ggX7_trusted_X7_away
set_option maxRecDepth 20000 in
theorem ggX7_trusted_X7_be : GoodIn wsX7_trusted wsX7_be := goodIn_r _ [24, 25, 35, 36, 37, 38, 39, 40, 41, 42, 43, 44, 45, 46, 47] (by decide +kernel) (by decide +kernel)
set_option maxRecDepth 20000 in
theorem gX7_trusted_X7_be : GoodIn wsX7_trusted (wsV RX7 94 RX7 yX7_be wsX7_be) := goodIn_app (goodIn_of _ (by decide +kernel)) ggX7_trusted_X7_be
theorem dX7_trusted_0 : decode cX7_trusted 0 = .ok (.aload_n 0, 1) := by decide +kernel
theorem dX7_trusted_1 : decode cX7_trusted 1 = .ok (.iconst 0, 1) := by decide +kernel
theorem dX7_trusted_2 : decode cX7_trusted 2 = .ok (.putfield 35, 3) := by decide +kernel
theorem dX7_trusted_5 : decode cX7_trusted 5 = .ok (.aload_n 0, 1) := by decide +kernel
theorem dX7_trusted_6 : decode cX7_trusted 6 = .ok (.iload_n 1, 1) := by decide +kernel
theorem dX7_trusted_7 : decode cX7_trusted 7 = .ok (.invokevirtual 62, 3) := by decide +kernel
theorem dX7_trusted_10 : decode cX7_trusted 10 = .ok (.ifCond .ne 9, 3) := by decide +kernel
theorem dX7_trusted_13 : decode cX7_trusted 13 = .ok (.aload_n 0, 1) := by decide +kernel
theorem dX7_trusted_14 : decode cX7_trusted 14 = .ok (.iconst 1, 1) := by decide +kernel
theorem dX7_trusted_15 : decode cX7_trusted 15 = .ok (.invokevirtual 55, 3) := by decide +kernel
theorem dX7_trusted_18 : decode cX7_trusted 18 = .ok (.ireturn, 1) := by decide +kernel
theorem dX7_trusted_19 : decode cX7_trusted 19 = .ok (.iconst (-1), 1) := by decide +kernel
theorem dX7_trusted_20 : decode cX7_trusted 20 = .ok (.istore_n 2, 1) := by decide +kernel
theorem dX7_trusted_21 : decode cX7_trusted 21 = .ok (.iconst 0, 1) := by decide +kernel
theorem dX7_trusted_22 : decode cX7_trusted 22 = .ok (.istore_n 3, 1) := by decide +kernel
theorem dX7_trusted_23 : decode cX7_trusted 23 = .ok (.iload_n 3, 1) := by decide +kernel
theorem dX7_trusted_24 : decode cX7_trusted 24 = .ok (.aload_n 0, 1) := by decide +kernel
theorem dX7_trusted_25 : decode cX7_trusted 25 = .ok (.getfield 49, 3) := by decide +kernel
theorem dX7_trusted_28 : decode cX7_trusted 28 = .ok (.if_icmp .ge 83, 3) := by decide +kernel
theorem dX7_trusted_31 : decode cX7_trusted 31 = .ok (.aload_n 0, 1) := by decide +kernel
theorem dX7_trusted_32 : decode cX7_trusted 32 = .ok (.iload_n 3, 1) := by decide +kernel
theorem dX7_trusted_33 : decode cX7_trusted 33 = .ok (.iload_n 1, 1) := by decide +kernel
theorem dX7_trusted_34 : decode cX7_trusted 34 = .ok (.invokevirtual 132, 3) := by decide +kernel
theorem dX7_trusted_37 : decode cX7_trusted 37 = .ok (.istore 4, 2) := by decide +kernel
theorem dX7_trusted_39 : decode cX7_trusted 39 = .ok (.iload 4, 2) := by decide +kernel
theorem dX7_trusted_41 : decode cX7_trusted 41 = .ok (.iconst (-1), 1) := by decide +kernel
theorem dX7_trusted_42 : decode cX7_trusted 42 = .ok (.if_icmp .ne 6, 3) := by decide +kernel
theorem dX7_trusted_45 : decode cX7_trusted 45 = .ok (.goto 60, 3) := by decide +kernel
theorem dX7_trusted_48 : decode cX7_trusted 48 = .ok (.iload_n 2, 1) := by decide +kernel
theorem dX7_trusted_49 : decode cX7_trusted 49 = .ok (.iconst (-1), 1) := by decide +kernel
theorem dX7_trusted_50 : decode cX7_trusted 50 = .ok (.if_icmp .ne 7, 3) := by decide +kernel
theorem dX7_trusted_53 : decode cX7_trusted 53 = .ok (.iconst (-1), 1) := by decide +kernel
theorem dX7_trusted_54 : decode cX7_trusted 54 = .ok (.goto 22, 3) := by decide +kernel
theorem dX7_trusted_57 : decode cX7_trusted 57 = .ok (.aload_n 0, 1) := by decide +kernel
theorem dX7_trusted_58 : decode cX7_trusted 58 = .ok (.iload 4, 2) := by decide +kernel
theorem dX7_trusted_60 : decode cX7_trusted 60 = .ok (.iload_n 1, 1) := by decide +kernel
theorem dX7_trusted_61 : decode cX7_trusted 61 = .ok (.invokevirtual 84, 3) := by decide +kernel
theorem dX7_trusted_64 : decode cX7_trusted 64 = .ok (.aload_n 0, 1) := by decide +kernel
theorem dX7_trusted_65 : decode cX7_trusted 65 = .ok (.aload_n 0, 1) := by decide +kernel
theorem dX7_trusted_66 : decode cX7_trusted 66 = .ok (.iload_n 2, 1) := by decide +kernel
theorem dX7_trusted_67 : decode cX7_trusted 67 = .ok (.iload_n 1, 1) := by decide +kernel
theorem dX7_trusted_68 : decode cX7_trusted 68 = .ok (.invokevirtual 132, 3) := by decide +kernel
theorem dX7_trusted_71 : decode cX7_trusted 71 = .ok (.iload_n 1, 1) := by decide +kernel
theorem dX7_trusted_72 : decode cX7_trusted 72 = .ok (.invokevirtual 84, 3) := by decide +kernel
theorem dX7_trusted_75 : decode cX7_trusted 75 = .ok (.isub, 1) := by decide +kernel
theorem dX7_trusted_76 : decode cX7_trusted 76 = .ok (.istore 5, 2) := by decide +kernel
theorem dX7_trusted_78 : decode cX7_trusted 78 = .ok (.iload 5, 2) := by decide +kernel
theorem dX7_trusted_80 : decode cX7_trusted 80 = .ok (.ifCond .ne 18, 3) := by decide +kernel
theorem dX7_trusted_83 : decode cX7_trusted 83 = .ok (.aload_n 0, 1) := by decide +kernel
theorem dX7_trusted_84 : decode cX7_trusted 84 = .ok (.iload_n 2, 1) := by decide +kernel
theorem dX7_trusted_85 : decode cX7_trusted 85 = .ok (.iconst 3, 1) := by decide +kernel
theorem dX7_trusted_86 : decode cX7_trusted 86 = .ok (.invokevirtual 94, 3) := by decide +kernel
theorem dX7_trusted_89 : decode cX7_trusted 89 = .ok (.aload_n 0, 1) := by decide +kernel
theorem dX7_trusted_90 : decode cX7_trusted 90 = .ok (.iload_n 3, 1) := by decide +kernel
theorem dX7_trusted_91 : decode cX7_trusted 91 = .ok (.iconst 3, 1) := by decide +kernel
theorem dX7_trusted_92 : decode cX7_trusted 92 = .ok (.invokevirtual 94, 3) := by decide +kernel
theorem dX7_trusted_95 : decode cX7_trusted 95 = .ok (.isub, 1) := by decide +kernel
theorem dX7_trusted_96 : decode cX7_trusted 96 = .ok (.istore 5, 2) := by decide +kernel
theorem dX7_trusted_98 : decode cX7_trusted 98 = .ok (.iload 5, 2) := by decide +kernel
theorem dX7_trusted_100 : decode cX7_trusted 100 = .ok (.ifCond .ge 5, 3) := by decide +kernel
theorem dX7_trusted_103 : decode cX7_trusted 103 = .ok (.iload_n 3, 1) := by decide +kernel
theorem dX7_trusted_104 : decode cX7_trusted 104 = .ok (.istore_n 2, 1) := by decide +kernel
theorem dX7_trusted_105 : decode cX7_trusted 105 = .ok (.iinc 3 1, 3) := by decide +kernel
theorem dX7_trusted_108 : decode cX7_trusted 108 = .ok (.goto (-85), 3) := by decide +kernel
theorem dX7_trusted_111 : decode cX7_trusted 111 = .ok (.iload_n 2, 1) := by decide +kernel
theorem dX7_trusted_112 : decode cX7_trusted 112 = .ok (.ireturn, 1) := by decide +kernel
set_option maxRecDepth 20000 in
theorem ggX7_mean_X7_le : GoodIn wsX7_mean wsX7_le := goodIn_r _ [7, 8, 9, 10, 11, 12, 13, 14, 15, 16, 17, 18, 19, 20, 21] (by decide +kernel) (by decide +kernel)
set_option maxRecDepth 20000 in
theorem gX7_mean_X7_le : GoodIn wsX7_mean (wsV RX7 110 RX7 yX7_le wsX7_le) := goodIn_app (goodIn_of _ (by decide +kernel)) ggX7_mean_X7_le
theorem dX7_mean_0 : decode cX7_mean 0 = .ok (.aload_n 0, 1) := by decide +kernel
theorem dX7_mean_1 : decode cX7_mean 1 = .ok (.iconst 0, 1) := by decide +kernel
theorem dX7_mean_2 : decode cX7_mean 2 = .ok (.putfield 35, 3) := by decide +kernel
theorem dX7_mean_5 : decode cX7_mean 5 = .ok (.iconst 0, 1) := by decide +kernel
theorem dX7_mean_6 : decode cX7_mean 6 = .ok (.istore_n 1, 1) := by decide +kernel
theorem dX7_mean_7 : decode cX7_mean 7 = .ok (.iconst 0, 1) := by decide +kernel
theorem dX7_mean_8 : decode cX7_mean 8 = .ok (.istore_n 2, 1) := by decide +kernel
theorem dX7_mean_9 : decode cX7_mean 9 = .ok (.iconst 0, 1) := by decide +kernel
theorem dX7_mean_10 : decode cX7_mean 10 = .ok (.istore_n 3, 1) := by decide +kernel
theorem dX7_mean_11 : decode cX7_mean 11 = .ok (.iload_n 3, 1) := by decide +kernel
theorem dX7_mean_12 : decode cX7_mean 12 = .ok (.aload_n 0, 1) := by decide +kernel
theorem dX7_mean_13 : decode cX7_mean 13 = .ok (.getfield 52, 3) := by decide +kernel
theorem dX7_mean_16 : decode cX7_mean 16 = .ok (.if_icmp .ge 34, 3) := by decide +kernel
theorem dX7_mean_19 : decode cX7_mean 19 = .ok (.aload_n 0, 1) := by decide +kernel
theorem dX7_mean_20 : decode cX7_mean 20 = .ok (.iload_n 3, 1) := by decide +kernel
theorem dX7_mean_21 : decode cX7_mean 21 = .ok (.iconst 3, 1) := by decide +kernel
theorem dX7_mean_22 : decode cX7_mean 22 = .ok (.invokevirtual 110, 3) := by decide +kernel
theorem dX7_mean_25 : decode cX7_mean 25 = .ok (.iconst (-1), 1) := by decide +kernel
theorem dX7_mean_26 : decode cX7_mean 26 = .ok (.if_icmp .ne 6, 3) := by decide +kernel
theorem dX7_mean_29 : decode cX7_mean 29 = .ok (.goto 15, 3) := by decide +kernel
theorem dX7_mean_32 : decode cX7_mean 32 = .ok (.iload_n 1, 1) := by decide +kernel
theorem dX7_mean_33 : decode cX7_mean 33 = .ok (.aload_n 0, 1) := by decide +kernel
theorem dX7_mean_34 : decode cX7_mean 34 = .ok (.iload_n 3, 1) := by decide +kernel
theorem dX7_mean_35 : decode cX7_mean 35 = .ok (.iconst 3, 1) := by decide +kernel
theorem dX7_mean_36 : decode cX7_mean 36 = .ok (.invokevirtual 110, 3) := by decide +kernel
theorem dX7_mean_39 : decode cX7_mean 39 = .ok (.iadd, 1) := by decide +kernel
theorem dX7_mean_40 : decode cX7_mean 40 = .ok (.istore_n 1, 1) := by decide +kernel
theorem dX7_mean_41 : decode cX7_mean 41 = .ok (.iinc 2 1, 3) := by decide +kernel
theorem dX7_mean_44 : decode cX7_mean 44 = .ok (.iinc 3 1, 3) := by decide +kernel
theorem dX7_mean_47 : decode cX7_mean 47 = .ok (.goto (-36), 3) := by decide +kernel
theorem dX7_mean_50 : decode cX7_mean 50 = .ok (.iload_n 2, 1) := by decide +kernel
theorem dX7_mean_51 : decode cX7_mean 51 = .ok (.ifCond .ne 7, 3) := by decide +kernel
theorem dX7_mean_54 : decode cX7_mean 54 = .ok (.dconst 0, 1) := by decide +kernel
theorem dX7_mean_55 : decode cX7_mean 55 = .ok (.goto 8, 3) := by decide +kernel
theorem dX7_mean_58 : decode cX7_mean 58 = .ok (.iload_n 1, 1) := by decide +kernel
theorem dX7_mean_59 : decode cX7_mean 59 = .ok (.i2d, 1) := by decide +kernel
theorem dX7_mean_60 : decode cX7_mean 60 = .ok (.iload_n 2, 1) := by decide +kernel
theorem dX7_mean_61 : decode cX7_mean 61 = .ok (.i2d, 1) := by decide +kernel
theorem dX7_mean_62 : decode cX7_mean 62 = .ok (.ddiv, 1) := by decide +kernel
theorem dX7_mean_63 : decode cX7_mean 63 = .ok (.dreturn, 1) := by decide +kernel
set_option maxRecDepth 20000 in
theorem ggX7_digest_X7_counted : GoodIn wsX7_digest wsX7_counted := goodIn_r _ [16, 17, 4, 6, 8, 10, 18, 19, 20, 15, 21, 11, 22, 23, 24, 25, 26, 27, 28, 29, 30, 31, 32, 33, 34, 7, 35, 36, 37, 51, 52, 53, 54, 55, 56, 57, 58, 59, 60, 61, 62, 63] (by decide +kernel) (by decide +kernel)
set_option maxRecDepth 20000 in
theorem gX7_digest_X7_counted : GoodIn wsX7_digest (wsV RX7 152 RX7 yX7_counted wsX7_counted) := goodIn_app (goodIn_of _ (by decide +kernel)) ggX7_digest_X7_counted
set_option maxRecDepth 20000 in
theorem ggX7_digest_X7_beeTold : GoodIn wsX7_digest wsX7_beeTold := goodIn_r _ [41, 42, 43, 44, 45, 15, 46, 9, 22, 23, 24, 25, 26, 47, 48, 49, 50, 10, 18, 19, 20, 21, 11, 51, 52, 53, 54, 55, 56, 57, 58, 59, 60, 61, 62, 63] (by decide +kernel) (by decide +kernel)
set_option maxRecDepth 20000 in
theorem gX7_digest_X7_beeTold : GoodIn wsX7_digest (wsV RX7 129 RX7 yX7_beeTold wsX7_beeTold) := goodIn_app (goodIn_of _ (by decide +kernel)) ggX7_digest_X7_beeTold
set_option maxRecDepth 20000 in
theorem ggX7_digest_X7_be : GoodIn wsX7_digest wsX7_be := goodIn_r _ [25, 26, 51, 52, 53, 54, 55, 56, 57, 58, 59, 60, 61, 62, 63] (by decide +kernel) (by decide +kernel)
set_option maxRecDepth 20000 in
theorem gX7_digest_X7_be : GoodIn wsX7_digest (wsV RX7 94 RX7 yX7_be wsX7_be) := goodIn_app (goodIn_of _ (by decide +kernel)) ggX7_digest_X7_be
theorem dX7_digest_0 : decode cX7_digest 0 = .ok (.aload_n 0, 1) := by decide +kernel
theorem dX7_digest_1 : decode cX7_digest 1 = .ok (.iconst 0, 1) := by decide +kernel
theorem dX7_digest_2 : decode cX7_digest 2 = .ok (.putfield 35, 3) := by decide +kernel
theorem dX7_digest_5 : decode cX7_digest 5 = .ok (.ldc2_w 172, 3) := by decide +kernel
theorem dX7_digest_8 : decode cX7_digest 8 = .ok (.lstore_n 1, 1) := by decide +kernel
theorem dX7_digest_9 : decode cX7_digest 9 = .ok (.iconst 0, 1) := by decide +kernel
theorem dX7_digest_10 : decode cX7_digest 10 = .ok (.istore_n 3, 1) := by decide +kernel
theorem dX7_digest_11 : decode cX7_digest 11 = .ok (.iload_n 3, 1) := by decide +kernel
theorem dX7_digest_12 : decode cX7_digest 12 = .ok (.bipush 9, 2) := by decide +kernel
theorem dX7_digest_14 : decode cX7_digest 14 = .ok (.if_icmp .ge 22, 3) := by decide +kernel
theorem dX7_digest_17 : decode cX7_digest 17 = .ok (.lload_n 1, 1) := by decide +kernel
theorem dX7_digest_18 : decode cX7_digest 18 = .ok (.ldc2_w 174, 3) := by decide +kernel
theorem dX7_digest_21 : decode cX7_digest 21 = .ok (.lmul, 1) := by decide +kernel
theorem dX7_digest_22 : decode cX7_digest 22 = .ok (.aload_n 0, 1) := by decide +kernel
theorem dX7_digest_23 : decode cX7_digest 23 = .ok (.iload_n 3, 1) := by decide +kernel
theorem dX7_digest_24 : decode cX7_digest 24 = .ok (.invokevirtual 152, 3) := by decide +kernel
theorem dX7_digest_27 : decode cX7_digest 27 = .ok (.i2l, 1) := by decide +kernel
theorem dX7_digest_28 : decode cX7_digest 28 = .ok (.ladd, 1) := by decide +kernel
theorem dX7_digest_29 : decode cX7_digest 29 = .ok (.lstore_n 1, 1) := by decide +kernel
theorem dX7_digest_30 : decode cX7_digest 30 = .ok (.iinc 3 1, 3) := by decide +kernel
theorem dX7_digest_33 : decode cX7_digest 33 = .ok (.goto (-22), 3) := by decide +kernel
theorem dX7_digest_36 : decode cX7_digest 36 = .ok (.iconst 0, 1) := by decide +kernel
theorem dX7_digest_37 : decode cX7_digest 37 = .ok (.istore_n 3, 1) := by decide +kernel
theorem dX7_digest_38 : decode cX7_digest 38 = .ok (.iload_n 3, 1) := by decide +kernel
theorem dX7_digest_39 : decode cX7_digest 39 = .ok (.aload_n 0, 1) := by decide +kernel
theorem dX7_digest_40 : decode cX7_digest 40 = .ok (.getfield 39, 3) := by decide +kernel
theorem dX7_digest_43 : decode cX7_digest 43 = .ok (.if_icmp .ge 31, 3) := by decide +kernel
theorem dX7_digest_46 : decode cX7_digest 46 = .ok (.lload_n 1, 1) := by decide +kernel
theorem dX7_digest_47 : decode cX7_digest 47 = .ok (.ldc2_w 174, 3) := by decide +kernel
theorem dX7_digest_50 : decode cX7_digest 50 = .ok (.lmul, 1) := by decide +kernel
theorem dX7_digest_51 : decode cX7_digest 51 = .ok (.aload_n 0, 1) := by decide +kernel
theorem dX7_digest_52 : decode cX7_digest 52 = .ok (.getfield 9, 3) := by decide +kernel
theorem dX7_digest_55 : decode cX7_digest 55 = .ok (.iload_n 3, 1) := by decide +kernel
theorem dX7_digest_56 : decode cX7_digest 56 = .ok (.baload, 1) := by decide +kernel
theorem dX7_digest_57 : decode cX7_digest 57 = .ok (.ifCond .eq 7, 3) := by decide +kernel
theorem dX7_digest_60 : decode cX7_digest 60 = .ok (.iconst 1, 1) := by decide +kernel
theorem dX7_digest_61 : decode cX7_digest 61 = .ok (.goto 4, 3) := by decide +kernel
theorem dX7_digest_64 : decode cX7_digest 64 = .ok (.iconst 0, 1) := by decide +kernel
theorem dX7_digest_65 : decode cX7_digest 65 = .ok (.i2l, 1) := by decide +kernel
theorem dX7_digest_66 : decode cX7_digest 66 = .ok (.ladd, 1) := by decide +kernel
theorem dX7_digest_67 : decode cX7_digest 67 = .ok (.lstore_n 1, 1) := by decide +kernel
theorem dX7_digest_68 : decode cX7_digest 68 = .ok (.iinc 3 1, 3) := by decide +kernel
theorem dX7_digest_71 : decode cX7_digest 71 = .ok (.goto (-33), 3) := by decide +kernel
theorem dX7_digest_74 : decode cX7_digest 74 = .ok (.iconst 0, 1) := by decide +kernel
theorem dX7_digest_75 : decode cX7_digest 75 = .ok (.istore_n 3, 1) := by decide +kernel
theorem dX7_digest_76 : decode cX7_digest 76 = .ok (.iload_n 3, 1) := by decide +kernel
theorem dX7_digest_77 : decode cX7_digest 77 = .ok (.iconst 5, 1) := by decide +kernel
theorem dX7_digest_78 : decode cX7_digest 78 = .ok (.aload_n 0, 1) := by decide +kernel
theorem dX7_digest_79 : decode cX7_digest 79 = .ok (.getfield 46, 3) := by decide +kernel
theorem dX7_digest_82 : decode cX7_digest 82 = .ok (.imul, 1) := by decide +kernel
theorem dX7_digest_83 : decode cX7_digest 83 = .ok (.if_icmp .ge 23, 3) := by decide +kernel
theorem dX7_digest_86 : decode cX7_digest 86 = .ok (.lload_n 1, 1) := by decide +kernel
theorem dX7_digest_87 : decode cX7_digest 87 = .ok (.ldc2_w 174, 3) := by decide +kernel
theorem dX7_digest_90 : decode cX7_digest 90 = .ok (.lmul, 1) := by decide +kernel
theorem dX7_digest_91 : decode cX7_digest 91 = .ok (.aload_n 0, 1) := by decide +kernel
theorem dX7_digest_92 : decode cX7_digest 92 = .ok (.getfield 13, 3) := by decide +kernel
theorem dX7_digest_95 : decode cX7_digest 95 = .ok (.iload_n 3, 1) := by decide +kernel
theorem dX7_digest_96 : decode cX7_digest 96 = .ok (.iaload, 1) := by decide +kernel
theorem dX7_digest_97 : decode cX7_digest 97 = .ok (.i2l, 1) := by decide +kernel
theorem dX7_digest_98 : decode cX7_digest 98 = .ok (.ladd, 1) := by decide +kernel
theorem dX7_digest_99 : decode cX7_digest 99 = .ok (.lstore_n 1, 1) := by decide +kernel
theorem dX7_digest_100 : decode cX7_digest 100 = .ok (.iinc 3 1, 3) := by decide +kernel
theorem dX7_digest_103 : decode cX7_digest 103 = .ok (.goto (-27), 3) := by decide +kernel
theorem dX7_digest_106 : decode cX7_digest 106 = .ok (.iconst 0, 1) := by decide +kernel
theorem dX7_digest_107 : decode cX7_digest 107 = .ok (.istore_n 3, 1) := by decide +kernel
theorem dX7_digest_108 : decode cX7_digest 108 = .ok (.iload_n 3, 1) := by decide +kernel
theorem dX7_digest_109 : decode cX7_digest 109 = .ok (.aload_n 0, 1) := by decide +kernel
theorem dX7_digest_110 : decode cX7_digest 110 = .ok (.getfield 49, 3) := by decide +kernel
theorem dX7_digest_113 : decode cX7_digest 113 = .ok (.if_icmp .ge 80, 3) := by decide +kernel
theorem dX7_digest_116 : decode cX7_digest 116 = .ok (.iconst 0, 1) := by decide +kernel
theorem dX7_digest_117 : decode cX7_digest 117 = .ok (.istore 4, 2) := by decide +kernel
theorem dX7_digest_119 : decode cX7_digest 119 = .ok (.iload 4, 2) := by decide +kernel
theorem dX7_digest_121 : decode cX7_digest 121 = .ok (.bipush 9, 2) := by decide +kernel
theorem dX7_digest_123 : decode cX7_digest 123 = .ok (.if_icmp .ge 24, 3) := by decide +kernel
theorem dX7_digest_126 : decode cX7_digest 126 = .ok (.lload_n 1, 1) := by decide +kernel
theorem dX7_digest_127 : decode cX7_digest 127 = .ok (.ldc2_w 174, 3) := by decide +kernel
theorem dX7_digest_130 : decode cX7_digest 130 = .ok (.lmul, 1) := by decide +kernel
theorem dX7_digest_131 : decode cX7_digest 131 = .ok (.aload_n 0, 1) := by decide +kernel
theorem dX7_digest_132 : decode cX7_digest 132 = .ok (.iload_n 3, 1) := by decide +kernel
theorem dX7_digest_133 : decode cX7_digest 133 = .ok (.iload 4, 2) := by decide +kernel
theorem dX7_digest_135 : decode cX7_digest 135 = .ok (.invokevirtual 129, 3) := by decide +kernel
theorem dX7_digest_138 : decode cX7_digest 138 = .ok (.i2l, 1) := by decide +kernel
theorem dX7_digest_139 : decode cX7_digest 139 = .ok (.ladd, 1) := by decide +kernel
theorem dX7_digest_140 : decode cX7_digest 140 = .ok (.lstore_n 1, 1) := by decide +kernel
theorem dX7_digest_141 : decode cX7_digest 141 = .ok (.iinc 4 1, 3) := by decide +kernel
theorem dX7_digest_144 : decode cX7_digest 144 = .ok (.goto (-25), 3) := by decide +kernel
theorem dX7_digest_147 : decode cX7_digest 147 = .ok (.iconst 0, 1) := by decide +kernel
theorem dX7_digest_148 : decode cX7_digest 148 = .ok (.istore 4, 2) := by decide +kernel
theorem dX7_digest_150 : decode cX7_digest 150 = .ok (.iload 4, 2) := by decide +kernel
theorem dX7_digest_152 : decode cX7_digest 152 = .ok (.aload_n 0, 1) := by decide +kernel
theorem dX7_digest_153 : decode cX7_digest 153 = .ok (.iload_n 3, 1) := by decide +kernel
theorem dX7_digest_154 : decode cX7_digest 154 = .ok (.iconst 5, 1) := by decide +kernel
theorem dX7_digest_155 : decode cX7_digest 155 = .ok (.invokevirtual 94, 3) := by decide +kernel
theorem dX7_digest_158 : decode cX7_digest 158 = .ok (.if_icmp .ge 29, 3) := by decide +kernel
theorem dX7_digest_161 : decode cX7_digest 161 = .ok (.lload_n 1, 1) := by decide +kernel
theorem dX7_digest_162 : decode cX7_digest 162 = .ok (.ldc2_w 174, 3) := by decide +kernel
theorem dX7_digest_165 : decode cX7_digest 165 = .ok (.lmul, 1) := by decide +kernel
theorem dX7_digest_166 : decode cX7_digest 166 = .ok (.aload_n 0, 1) := by decide +kernel
theorem dX7_digest_167 : decode cX7_digest 167 = .ok (.getfield 23, 3) := by decide +kernel
theorem dX7_digest_170 : decode cX7_digest 170 = .ok (.bipush 7, 2) := by decide +kernel
theorem dX7_digest_172 : decode cX7_digest 172 = .ok (.iload_n 3, 1) := by decide +kernel
theorem dX7_digest_173 : decode cX7_digest 173 = .ok (.imul, 1) := by decide +kernel
theorem dX7_digest_174 : decode cX7_digest 174 = .ok (.iload 4, 2) := by decide +kernel
theorem dX7_digest_176 : decode cX7_digest 176 = .ok (.iadd, 1) := by decide +kernel
theorem dX7_digest_177 : decode cX7_digest 177 = .ok (.iaload, 1) := by decide +kernel
theorem dX7_digest_178 : decode cX7_digest 178 = .ok (.i2l, 1) := by decide +kernel
theorem dX7_digest_179 : decode cX7_digest 179 = .ok (.ladd, 1) := by decide +kernel
theorem dX7_digest_180 : decode cX7_digest 180 = .ok (.lstore_n 1, 1) := by decide +kernel
theorem dX7_digest_181 : decode cX7_digest 181 = .ok (.iinc 4 1, 3) := by decide +kernel
theorem dX7_digest_184 : decode cX7_digest 184 = .ok (.goto (-34), 3) := by decide +kernel
theorem dX7_digest_187 : decode cX7_digest 187 = .ok (.iinc 3 1, 3) := by decide +kernel
theorem dX7_digest_190 : decode cX7_digest 190 = .ok (.goto (-82), 3) := by decide +kernel
theorem dX7_digest_193 : decode cX7_digest 193 = .ok (.iconst 0, 1) := by decide +kernel
theorem dX7_digest_194 : decode cX7_digest 194 = .ok (.istore_n 3, 1) := by decide +kernel
theorem dX7_digest_195 : decode cX7_digest 195 = .ok (.iload_n 3, 1) := by decide +kernel
theorem dX7_digest_196 : decode cX7_digest 196 = .ok (.iconst 5, 1) := by decide +kernel
theorem dX7_digest_197 : decode cX7_digest 197 = .ok (.aload_n 0, 1) := by decide +kernel
theorem dX7_digest_198 : decode cX7_digest 198 = .ok (.getfield 52, 3) := by decide +kernel
theorem dX7_digest_201 : decode cX7_digest 201 = .ok (.imul, 1) := by decide +kernel
theorem dX7_digest_202 : decode cX7_digest 202 = .ok (.if_icmp .ge 23, 3) := by decide +kernel
theorem dX7_digest_205 : decode cX7_digest 205 = .ok (.lload_n 1, 1) := by decide +kernel
theorem dX7_digest_206 : decode cX7_digest 206 = .ok (.ldc2_w 174, 3) := by decide +kernel
theorem dX7_digest_209 : decode cX7_digest 209 = .ok (.lmul, 1) := by decide +kernel
theorem dX7_digest_210 : decode cX7_digest 210 = .ok (.aload_n 0, 1) := by decide +kernel
theorem dX7_digest_211 : decode cX7_digest 211 = .ok (.getfield 26, 3) := by decide +kernel
theorem dX7_digest_214 : decode cX7_digest 214 = .ok (.iload_n 3, 1) := by decide +kernel
theorem dX7_digest_215 : decode cX7_digest 215 = .ok (.iaload, 1) := by decide +kernel
theorem dX7_digest_216 : decode cX7_digest 216 = .ok (.i2l, 1) := by decide +kernel
theorem dX7_digest_217 : decode cX7_digest 217 = .ok (.ladd, 1) := by decide +kernel
theorem dX7_digest_218 : decode cX7_digest 218 = .ok (.lstore_n 1, 1) := by decide +kernel
theorem dX7_digest_219 : decode cX7_digest 219 = .ok (.iinc 3 1, 3) := by decide +kernel
theorem dX7_digest_222 : decode cX7_digest 222 = .ok (.goto (-27), 3) := by decide +kernel
theorem dX7_digest_225 : decode cX7_digest 225 = .ok (.lload_n 1, 1) := by decide +kernel
theorem dX7_digest_226 : decode cX7_digest 226 = .ok (.lreturn, 1) := by decide +kernel
theorem dJ9_max_7cf53_0 : decode cJ9_max_7cf53 0 = .ok (.iload_n 0, 1) := by decide +kernel
theorem dJ9_max_7cf53_1 : decode cJ9_max_7cf53 1 = .ok (.iload_n 1, 1) := by decide +kernel
theorem dJ9_max_7cf53_2 : decode cJ9_max_7cf53 2 = .ok (.if_icmp .lt 7, 3) := by decide +kernel
theorem dJ9_max_7cf53_5 : decode cJ9_max_7cf53 5 = .ok (.iload_n 0, 1) := by decide +kernel
theorem dJ9_max_7cf53_6 : decode cJ9_max_7cf53 6 = .ok (.goto 4, 3) := by decide +kernel
theorem dJ9_max_7cf53_9 : decode cJ9_max_7cf53 9 = .ok (.iload_n 1, 1) := by decide +kernel
theorem dJ9_max_7cf53_10 : decode cJ9_max_7cf53 10 = .ok (.ireturn, 1) := by decide +kernel
theorem dJ9_min_7cf53_0 : decode cJ9_min_7cf53 0 = .ok (.iload_n 0, 1) := by decide +kernel
theorem dJ9_min_7cf53_1 : decode cJ9_min_7cf53 1 = .ok (.iload_n 1, 1) := by decide +kernel
theorem dJ9_min_7cf53_2 : decode cJ9_min_7cf53 2 = .ok (.if_icmp .gt 7, 3) := by decide +kernel
theorem dJ9_min_7cf53_5 : decode cJ9_min_7cf53 5 = .ok (.iload_n 0, 1) := by decide +kernel
theorem dJ9_min_7cf53_6 : decode cJ9_min_7cf53 6 = .ok (.goto 4, 3) := by decide +kernel
theorem dJ9_min_7cf53_9 : decode cJ9_min_7cf53 9 = .ok (.iload_n 1, 1) := by decide +kernel
theorem dJ9_min_7cf53_10 : decode cJ9_min_7cf53 10 = .ok (.ireturn, 1) := by decide +kernel
set_option maxRecDepth 20000 in
theorem ggL_addHouse_X6_addHouse : GoodIn wsL_addHouse wsX6_addHouse := goodIn_ca (goodIn_r _ [6, 7, 8, 9, 10, 11, 12, 13, 14, 15, 16, 17, 18, 19] (by decide +kernel) (by decide +kernel)) (goodIn_sub (fun _ h => List.mem_cons_of_mem _ (List.mem_append_right _ h)) (by decide +kernel))
set_option maxRecDepth 20000 in
theorem gL_addHouse_X6_addHouse : GoodIn wsL_addHouse (wsV RL 7 RX6 yX6_addHouse wsX6_addHouse) := goodIn_app (goodIn_of _ (by decide +kernel)) ggL_addHouse_X6_addHouse
theorem dL_addHouse_0 : decode cL_addHouse 0 = .ok (.aload_n 1, 1) := by decide +kernel
theorem dL_addHouse_1 : decode cL_addHouse 1 = .ok (.iconst 0, 1) := by decide +kernel
theorem dL_addHouse_2 : decode cL_addHouse 2 = .ok (.aload_n 0, 1) := by decide +kernel
theorem dL_addHouse_3 : decode cL_addHouse 3 = .ok (.invokevirtual 7, 3) := by decide +kernel
theorem dL_addHouse_6 : decode cL_addHouse 6 = .ok (.i2l, 1) := by decide +kernel
theorem dL_addHouse_7 : decode cL_addHouse 7 = .ok (.lastore, 1) := by decide +kernel
theorem dL_addHouse_8 : decode cL_addHouse 8 = .ok (.goto 6, 3) := by decide +kernel
theorem dL_addHouse_11 : decode cL_addHouse 11 = .ok (.astore_n 2, 1) := by decide +kernel
theorem dL_addHouse_12 : decode cL_addHouse 12 = .ok (.iconst 1, 1) := by decide +kernel
theorem dL_addHouse_13 : decode cL_addHouse 13 = .ok (.ireturn, 1) := by decide +kernel
theorem dL_addHouse_14 : decode cL_addHouse 14 = .ok (.iconst 0, 1) := by decide +kernel
theorem dL_addHouse_15 : decode cL_addHouse 15 = .ok (.ireturn, 1) := by decide +kernel
set_option maxRecDepth 20000 in
theorem ggL_setHive_X6_setHive : GoodIn wsL_setHive wsX6_setHive := goodIn_ca (goodIn_r _ [6, 7, 8, 9, 10, 11, 5, 12, 13, 14, 15, 16, 17, 18, 19, 20, 21, 22, 23, 24, 25, 26, 27, 28, 29, 30, 31, 32, 33, 34, 35] (by decide +kernel) (by decide +kernel)) (goodIn_sub (fun _ h => List.mem_cons_of_mem _ (List.mem_append_right _ h)) (by decide +kernel))
set_option maxRecDepth 20000 in
theorem gL_setHive_X6_setHive : GoodIn wsL_setHive (wsV RL 15 RX6 yX6_setHive wsX6_setHive) := goodIn_app (goodIn_of _ (by decide +kernel)) ggL_setHive_X6_setHive
theorem dL_setHive_0 : decode cL_setHive 0 = .ok (.aload_n 3, 1) := by decide +kernel
theorem dL_setHive_1 : decode cL_setHive 1 = .ok (.iconst 0, 1) := by decide +kernel
theorem dL_setHive_2 : decode cL_setHive 2 = .ok (.aload_n 0, 1) := by decide +kernel
theorem dL_setHive_3 : decode cL_setHive 3 = .ok (.iload_n 1, 1) := by decide +kernel
theorem dL_setHive_4 : decode cL_setHive 4 = .ok (.iload_n 2, 1) := by decide +kernel
theorem dL_setHive_5 : decode cL_setHive 5 = .ok (.invokevirtual 15, 3) := by decide +kernel
theorem dL_setHive_8 : decode cL_setHive 8 = .ok (.ifCond .eq 7, 3) := by decide +kernel
theorem dL_setHive_11 : decode cL_setHive 11 = .ok (.lconst 1, 1) := by decide +kernel
theorem dL_setHive_12 : decode cL_setHive 12 = .ok (.goto 4, 3) := by decide +kernel
theorem dL_setHive_15 : decode cL_setHive 15 = .ok (.lconst 0, 1) := by decide +kernel
theorem dL_setHive_16 : decode cL_setHive 16 = .ok (.lastore, 1) := by decide +kernel
theorem dL_setHive_17 : decode cL_setHive 17 = .ok (.goto 7, 3) := by decide +kernel
theorem dL_setHive_20 : decode cL_setHive 20 = .ok (.astore 4, 2) := by decide +kernel
theorem dL_setHive_22 : decode cL_setHive 22 = .ok (.iconst 1, 1) := by decide +kernel
theorem dL_setHive_23 : decode cL_setHive 23 = .ok (.ireturn, 1) := by decide +kernel
theorem dL_setHive_24 : decode cL_setHive 24 = .ok (.iconst 0, 1) := by decide +kernel
theorem dL_setHive_25 : decode cL_setHive 25 = .ok (.ireturn, 1) := by decide +kernel
set_option maxRecDepth 20000 in
theorem ggL_addLane_X6_addLane : GoodIn wsL_addLane wsX6_addLane := goodIn_ca (goodIn_ca (goodIn_ca (goodIn_r _ [8, 9, 10, 11, 12, 13, 14, 15, 16, 17, 18, 19, 7, 20, 21, 22, 23, 24, 25, 26, 27, 28, 29, 30, 31, 32, 33, 34, 35, 36, 37, 38, 39, 40, 41, 42, 43, 44, 45, 46, 47, 48, 49, 50, 51, 52, 53, 54, 55, 56, 57, 58, 59, 60, 61, 62, 63, 64, 65, 66, 67, 68, 69, 70, 71] (by decide +kernel) (by decide +kernel)) (goodIn_sub (fun _ h => List.mem_cons_of_mem _ (List.mem_append_left _ (List.mem_append_left _ (List.mem_append_right _ h)))) (by decide +kernel))) (goodIn_sub (fun _ h => List.mem_cons_of_mem _ (List.mem_append_left _ (List.mem_append_right _ h))) (by decide +kernel))) (goodIn_sub (fun _ h => List.mem_cons_of_mem _ (List.mem_append_right _ h)) (by decide +kernel))
set_option maxRecDepth 20000 in
theorem gL_addLane_X6_addLane : GoodIn wsL_addLane (wsV RL 21 RX6 yX6_addLane wsX6_addLane) := goodIn_app (goodIn_of _ (by decide +kernel)) ggL_addLane_X6_addLane
theorem dL_addLane_0 : decode cL_addLane 0 = .ok (.aload 4, 2) := by decide +kernel
theorem dL_addLane_2 : decode cL_addLane 2 = .ok (.iconst 0, 1) := by decide +kernel
theorem dL_addLane_3 : decode cL_addLane 3 = .ok (.aload_n 0, 1) := by decide +kernel
theorem dL_addLane_4 : decode cL_addLane 4 = .ok (.iload_n 1, 1) := by decide +kernel
theorem dL_addLane_5 : decode cL_addLane 5 = .ok (.iload_n 2, 1) := by decide +kernel
theorem dL_addLane_6 : decode cL_addLane 6 = .ok (.iload_n 3, 1) := by decide +kernel
theorem dL_addLane_7 : decode cL_addLane 7 = .ok (.invokevirtual 21, 3) := by decide +kernel
theorem dL_addLane_10 : decode cL_addLane 10 = .ok (.i2l, 1) := by decide +kernel
theorem dL_addLane_11 : decode cL_addLane 11 = .ok (.lastore, 1) := by decide +kernel
theorem dL_addLane_12 : decode cL_addLane 12 = .ok (.goto 15, 3) := by decide +kernel
theorem dL_addLane_15 : decode cL_addLane 15 = .ok (.astore 5, 2) := by decide +kernel
theorem dL_addLane_17 : decode cL_addLane 17 = .ok (.iconst 1, 1) := by decide +kernel
theorem dL_addLane_18 : decode cL_addLane 18 = .ok (.ireturn, 1) := by decide +kernel
theorem dL_addLane_19 : decode cL_addLane 19 = .ok (.astore 5, 2) := by decide +kernel
theorem dL_addLane_21 : decode cL_addLane 21 = .ok (.iconst 2, 1) := by decide +kernel
theorem dL_addLane_22 : decode cL_addLane 22 = .ok (.ireturn, 1) := by decide +kernel
theorem dL_addLane_23 : decode cL_addLane 23 = .ok (.astore 5, 2) := by decide +kernel
theorem dL_addLane_25 : decode cL_addLane 25 = .ok (.iconst 3, 1) := by decide +kernel
theorem dL_addLane_26 : decode cL_addLane 26 = .ok (.ireturn, 1) := by decide +kernel
theorem dL_addLane_27 : decode cL_addLane 27 = .ok (.iconst 0, 1) := by decide +kernel
theorem dL_addLane_28 : decode cL_addLane 28 = .ok (.ireturn, 1) := by decide +kernel
set_option maxRecDepth 20000 in
theorem ggL_setGate_X6_setGate : GoodIn wsL_setGate wsX6_setGate := goodIn_ca (goodIn_ca (goodIn_r _ [7, 8, 9, 10, 11, 12, 13, 14, 15, 16, 17, 18, 19, 20, 21, 22, 23, 24, 25, 26, 27, 28, 29, 30, 31, 32, 33, 34, 35] (by decide +kernel) (by decide +kernel)) (goodIn_sub (fun _ h => List.mem_cons_of_mem _ (List.mem_append_left _ (List.mem_append_right _ h))) (by decide +kernel))) (goodIn_sub (fun _ h => List.mem_cons_of_mem _ (List.mem_append_right _ h)) (by decide +kernel))
set_option maxRecDepth 20000 in
theorem gL_setGate_X6_setGate : GoodIn wsL_setGate (wsV RL 27 RX6 yX6_setGate wsX6_setGate) := goodIn_app (goodIn_of _ (by decide +kernel)) ggL_setGate_X6_setGate
theorem dL_setGate_0 : decode cL_setGate 0 = .ok (.aload 4, 2) := by decide +kernel
theorem dL_setGate_2 : decode cL_setGate 2 = .ok (.iconst 0, 1) := by decide +kernel
theorem dL_setGate_3 : decode cL_setGate 3 = .ok (.aload_n 0, 1) := by decide +kernel
theorem dL_setGate_4 : decode cL_setGate 4 = .ok (.iload_n 1, 1) := by decide +kernel
theorem dL_setGate_5 : decode cL_setGate 5 = .ok (.iload_n 2, 1) := by decide +kernel
theorem dL_setGate_6 : decode cL_setGate 6 = .ok (.iload_n 3, 1) := by decide +kernel
theorem dL_setGate_7 : decode cL_setGate 7 = .ok (.invokevirtual 27, 3) := by decide +kernel
theorem dL_setGate_10 : decode cL_setGate 10 = .ok (.i2l, 1) := by decide +kernel
theorem dL_setGate_11 : decode cL_setGate 11 = .ok (.lastore, 1) := by decide +kernel
theorem dL_setGate_12 : decode cL_setGate 12 = .ok (.goto 11, 3) := by decide +kernel
theorem dL_setGate_15 : decode cL_setGate 15 = .ok (.astore 5, 2) := by decide +kernel
theorem dL_setGate_17 : decode cL_setGate 17 = .ok (.iconst 1, 1) := by decide +kernel
theorem dL_setGate_18 : decode cL_setGate 18 = .ok (.ireturn, 1) := by decide +kernel
theorem dL_setGate_19 : decode cL_setGate 19 = .ok (.astore 5, 2) := by decide +kernel
theorem dL_setGate_21 : decode cL_setGate 21 = .ok (.iconst 2, 1) := by decide +kernel
theorem dL_setGate_22 : decode cL_setGate 22 = .ok (.ireturn, 1) := by decide +kernel
theorem dL_setGate_23 : decode cL_setGate 23 = .ok (.iconst 0, 1) := by decide +kernel
theorem dL_setGate_24 : decode cL_setGate 24 = .ok (.ireturn, 1) := by decide +kernel
set_option maxRecDepth 20000 in
theorem ggL_way_X6_way : GoodIn wsL_way wsX6_way := goodIn_ca (goodIn_r _ [6, 7, 8, 9, 10, 5, 11, 12, 13, 14, 15, 16, 17, 18, 19, 20, 21, 22, 23, 24, 25, 26, 27, 28, 29, 30, 31, 32, 33, 34] (by decide +kernel) (by decide +kernel)) (goodIn_sub (fun _ h => List.mem_cons_of_mem _ (List.mem_append_right _ h)) (by decide +kernel))
set_option maxRecDepth 20000 in
theorem gL_way_X6_way : GoodIn wsL_way (wsV RL 30 RX6 yX6_way wsX6_way) := goodIn_app (goodIn_of _ (by decide +kernel)) ggL_way_X6_way
theorem dL_way_0 : decode cL_way 0 = .ok (.aload_n 3, 1) := by decide +kernel
theorem dL_way_1 : decode cL_way 1 = .ok (.iconst 0, 1) := by decide +kernel
theorem dL_way_2 : decode cL_way 2 = .ok (.aload_n 0, 1) := by decide +kernel
theorem dL_way_3 : decode cL_way 3 = .ok (.iload_n 1, 1) := by decide +kernel
theorem dL_way_4 : decode cL_way 4 = .ok (.iload_n 2, 1) := by decide +kernel
theorem dL_way_5 : decode cL_way 5 = .ok (.invokevirtual 30, 3) := by decide +kernel
theorem dL_way_8 : decode cL_way 8 = .ok (.i2l, 1) := by decide +kernel
theorem dL_way_9 : decode cL_way 9 = .ok (.lastore, 1) := by decide +kernel
theorem dL_way_10 : decode cL_way 10 = .ok (.goto 7, 3) := by decide +kernel
theorem dL_way_13 : decode cL_way 13 = .ok (.astore 4, 2) := by decide +kernel
theorem dL_way_15 : decode cL_way 15 = .ok (.iconst 1, 1) := by decide +kernel
theorem dL_way_16 : decode cL_way 16 = .ok (.ireturn, 1) := by decide +kernel
theorem dL_way_17 : decode cL_way 17 = .ok (.iconst 0, 1) := by decide +kernel
theorem dL_way_18 : decode cL_way 18 = .ok (.ireturn, 1) := by decide +kernel
set_option maxRecDepth 20000 in
theorem ggL_addBee_X6_addBee : GoodIn wsL_addBee wsX6_addBee := goodIn_ca (goodIn_ca (goodIn_r _ [7, 8, 9, 10, 11, 12, 13, 14, 15, 16, 6, 17, 18, 19, 20, 21, 22, 23, 24, 25, 26, 27, 28, 29, 30, 31, 32, 33, 34, 35, 36, 37, 38, 39, 40, 41, 42, 43, 44, 45, 46, 47, 48, 49, 50, 51, 52, 53, 54, 55, 56, 57, 58, 59, 60, 61, 62, 63, 64, 65, 66, 67, 68, 69, 70, 71, 72, 73, 74, 75, 76, 77, 78, 79, 80, 81, 82, 83, 84, 85, 86, 87, 88, 89, 90, 91, 92, 93, 94, 95, 96, 97, 98, 99, 100, 101, 102, 103, 104, 105, 106, 107, 108, 109, 110, 111, 112, 113, 114, 115, 116, 117, 118, 119, 120, 121, 122, 123, 124, 125, 126, 127, 128, 129, 130, 131, 132, 133, 134, 135, 136, 137, 138] (by decide +kernel) (by decide +kernel)) (goodIn_sub (fun _ h => List.mem_cons_of_mem _ (List.mem_append_left _ (List.mem_append_right _ h))) (by decide +kernel))) (goodIn_sub (fun _ h => List.mem_cons_of_mem _ (List.mem_append_right _ h)) (by decide +kernel))
set_option maxRecDepth 20000 in
theorem gL_addBee_X6_addBee : GoodIn wsL_addBee (wsV RL 34 RX6 yX6_addBee wsX6_addBee) := goodIn_app (goodIn_of _ (by decide +kernel)) ggL_addBee_X6_addBee
theorem dL_addBee_0 : decode cL_addBee 0 = .ok (.aload_n 2, 1) := by decide +kernel
theorem dL_addBee_1 : decode cL_addBee 1 = .ok (.iconst 0, 1) := by decide +kernel
theorem dL_addBee_2 : decode cL_addBee 2 = .ok (.aload_n 0, 1) := by decide +kernel
theorem dL_addBee_3 : decode cL_addBee 3 = .ok (.iload_n 1, 1) := by decide +kernel
theorem dL_addBee_4 : decode cL_addBee 4 = .ok (.invokevirtual 34, 3) := by decide +kernel
theorem dL_addBee_7 : decode cL_addBee 7 = .ok (.i2l, 1) := by decide +kernel
theorem dL_addBee_8 : decode cL_addBee 8 = .ok (.lastore, 1) := by decide +kernel
theorem dL_addBee_9 : decode cL_addBee 9 = .ok (.goto 9, 3) := by decide +kernel
theorem dL_addBee_12 : decode cL_addBee 12 = .ok (.astore_n 3, 1) := by decide +kernel
theorem dL_addBee_13 : decode cL_addBee 13 = .ok (.iconst 1, 1) := by decide +kernel
theorem dL_addBee_14 : decode cL_addBee 14 = .ok (.ireturn, 1) := by decide +kernel
theorem dL_addBee_15 : decode cL_addBee 15 = .ok (.astore_n 3, 1) := by decide +kernel
theorem dL_addBee_16 : decode cL_addBee 16 = .ok (.iconst 2, 1) := by decide +kernel
theorem dL_addBee_17 : decode cL_addBee 17 = .ok (.ireturn, 1) := by decide +kernel
theorem dL_addBee_18 : decode cL_addBee 18 = .ok (.iconst 0, 1) := by decide +kernel
theorem dL_addBee_19 : decode cL_addBee 19 = .ok (.ireturn, 1) := by decide +kernel
set_option maxRecDepth 20000 in
theorem ggL_swear_X6_swear : GoodIn wsL_swear wsX6_swear := goodIn_ca (goodIn_ca (goodIn_ca (goodIn_r _ [8, 9, 10, 11, 12, 13, 14, 15, 16, 17, 18, 7, 19, 20, 21, 22, 23, 24, 25, 26, 27, 28, 29, 30, 31, 32, 33, 34, 35, 36, 37, 38, 39, 40, 41, 42, 43, 44, 45, 46, 47, 48, 49, 50, 51, 52, 53, 54, 55, 56, 57, 58, 59, 60, 61, 62, 63, 64, 65, 66, 67, 68, 69, 70, 71, 72, 73, 74, 75, 76, 77, 78, 79, 80, 81, 82, 83, 84, 85, 86, 87, 88, 89, 90, 91, 92, 93, 94, 95, 96, 97, 98, 99, 100, 101, 102, 103, 104, 105, 106, 107, 108, 109, 110, 111, 112, 113, 114, 115, 116, 117, 118, 119, 120, 121, 122, 123, 124, 125, 126, 127, 128, 129, 130, 131, 132, 133, 134, 135, 136, 137, 138, 139, 140, 141, 142, 143, 144, 145, 146, 147, 148, 149, 150, 151, 152, 153, 154, 155, 156, 157, 158] (by decide +kernel) (by decide +kernel)) (goodIn_sub (fun _ h => List.mem_cons_of_mem _ (List.mem_append_left _ (List.mem_append_left _ (List.mem_append_right _ h)))) (by decide +kernel))) (goodIn_sub (fun _ h => List.mem_cons_of_mem _ (List.mem_append_left _ (List.mem_append_right _ h))) (by decide +kernel))) (goodIn_sub (fun _ h => List.mem_cons_of_mem _ (List.mem_append_right _ h)) (by decide +kernel))
set_option maxRecDepth 20000 in
theorem gL_swear_X6_swear : GoodIn wsL_swear (wsV RL 38 RX6 yX6_swear wsX6_swear) := goodIn_app (goodIn_of _ (by decide +kernel)) ggL_swear_X6_swear
theorem dL_swear_0 : decode cL_swear 0 = .ok (.aload_n 3, 1) := by decide +kernel
theorem dL_swear_1 : decode cL_swear 1 = .ok (.iconst 0, 1) := by decide +kernel
theorem dL_swear_2 : decode cL_swear 2 = .ok (.aload_n 0, 1) := by decide +kernel
theorem dL_swear_3 : decode cL_swear 3 = .ok (.iload_n 1, 1) := by decide +kernel
theorem dL_swear_4 : decode cL_swear 4 = .ok (.iload_n 2, 1) := by decide +kernel
theorem dL_swear_5 : decode cL_swear 5 = .ok (.invokevirtual 38, 3) := by decide +kernel
theorem dL_swear_8 : decode cL_swear 8 = .ok (.i2l, 1) := by decide +kernel
theorem dL_swear_9 : decode cL_swear 9 = .ok (.lastore, 1) := by decide +kernel
theorem dL_swear_10 : decode cL_swear 10 = .ok (.goto 15, 3) := by decide +kernel
theorem dL_swear_13 : decode cL_swear 13 = .ok (.astore 4, 2) := by decide +kernel
theorem dL_swear_15 : decode cL_swear 15 = .ok (.iconst 1, 1) := by decide +kernel
theorem dL_swear_16 : decode cL_swear 16 = .ok (.ireturn, 1) := by decide +kernel
theorem dL_swear_17 : decode cL_swear 17 = .ok (.astore 4, 2) := by decide +kernel
