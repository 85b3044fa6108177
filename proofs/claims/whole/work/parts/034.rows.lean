theorem dX7_swear_144 : decode cX7_swear 144 = .ok (.isub, 1) := by decide +kernel
theorem dX7_swear_145 : decode cX7_swear 145 = .ok (.invokestatic 107, 3) := by decide +kernel
theorem dX7_swear_148 : decode cX7_swear 148 = .ok (.invokevirtual 103, 3) := by decide +kernel
theorem dX7_swear_151 : decode cX7_swear 151 = .ok (.aload_n 0, 1) := by decide +kernel
theorem dX7_swear_152 : decode cX7_swear 152 = .ok (.iload_n 1, 1) := by decide +kernel
theorem dX7_swear_153 : decode cX7_swear 153 = .ok (.iconst 3, 1) := by decide +kernel
theorem dX7_swear_154 : decode cX7_swear 154 = .ok (.invokevirtual 94, 3) := by decide +kernel
theorem dX7_swear_157 : decode cX7_swear 157 = .ok (.ireturn, 1) := by decide +kernel
set_option maxRecDepth 20000 in
theorem ggX7_write_X7_isHouse : GoodIn wsX7_write wsX7_isHouse := goodIn_r _ [13, 14, 15, 16, 12, 17, 22, 23, 24, 25, 26, 27, 28, 29, 30, 31, 32, 33, 34] (by decide +kernel) (by decide +kernel)
set_option maxRecDepth 20000 in
theorem gX7_write_X7_isHouse : GoodIn wsX7_write (wsV RX7 62 RX7 yX7_isHouse wsX7_isHouse) := goodIn_app (goodIn_of _ (by decide +kernel)) ggX7_write_X7_isHouse
set_option maxRecDepth 20000 in
theorem ggX7_write_X7_fail : GoodIn wsX7_write wsX7_fail := goodIn_r _ [21, 1, 22, 23, 24, 25, 26, 27, 28, 29, 30, 31, 32, 33, 34] (by decide +kernel) (by decide +kernel)
set_option maxRecDepth 20000 in
theorem gX7_write_X7_fail : GoodIn wsX7_write (wsV RX7 55 RX7 yX7_fail wsX7_fail) := goodIn_app (goodIn_of _ (by decide +kernel)) ggX7_write_X7_fail
theorem dX7_write_0 : decode cX7_write 0 = .ok (.aload_n 0, 1) := by decide +kernel
theorem dX7_write_1 : decode cX7_write 1 = .ok (.iconst 0, 1) := by decide +kernel
theorem dX7_write_2 : decode cX7_write 2 = .ok (.putfield 35, 3) := by decide +kernel
theorem dX7_write_5 : decode cX7_write 5 = .ok (.aload_n 0, 1) := by decide +kernel
theorem dX7_write_6 : decode cX7_write 6 = .ok (.iload_n 1, 1) := by decide +kernel
theorem dX7_write_7 : decode cX7_write 7 = .ok (.invokevirtual 62, 3) := by decide +kernel
theorem dX7_write_10 : decode cX7_write 10 = .ok (.ifCond .eq 11, 3) := by decide +kernel
theorem dX7_write_13 : decode cX7_write 13 = .ok (.aload_n 0, 1) := by decide +kernel
theorem dX7_write_14 : decode cX7_write 14 = .ok (.iload_n 2, 1) := by decide +kernel
theorem dX7_write_15 : decode cX7_write 15 = .ok (.invokevirtual 62, 3) := by decide +kernel
theorem dX7_write_18 : decode cX7_write 18 = .ok (.ifCond .ne 9, 3) := by decide +kernel
theorem dX7_write_21 : decode cX7_write 21 = .ok (.aload_n 0, 1) := by decide +kernel
theorem dX7_write_22 : decode cX7_write 22 = .ok (.iconst 1, 1) := by decide +kernel
theorem dX7_write_23 : decode cX7_write 23 = .ok (.invokevirtual 55, 3) := by decide +kernel
theorem dX7_write_26 : decode cX7_write 26 = .ok (.ireturn, 1) := by decide +kernel
theorem dX7_write_27 : decode cX7_write 27 = .ok (.iload_n 1, 1) := by decide +kernel
theorem dX7_write_28 : decode cX7_write 28 = .ok (.iload_n 2, 1) := by decide +kernel
theorem dX7_write_29 : decode cX7_write 29 = .ok (.if_icmp .ne 9, 3) := by decide +kernel
theorem dX7_write_32 : decode cX7_write 32 = .ok (.aload_n 0, 1) := by decide +kernel
theorem dX7_write_33 : decode cX7_write 33 = .ok (.iconst 2, 1) := by decide +kernel
theorem dX7_write_34 : decode cX7_write 34 = .ok (.invokevirtual 55, 3) := by decide +kernel
theorem dX7_write_37 : decode cX7_write 37 = .ok (.ireturn, 1) := by decide +kernel
theorem dX7_write_38 : decode cX7_write 38 = .ok (.aload_n 0, 1) := by decide +kernel
theorem dX7_write_39 : decode cX7_write 39 = .ok (.getfield 52, 3) := by decide +kernel
theorem dX7_write_42 : decode cX7_write 42 = .ok (.bipush 20, 2) := by decide +kernel
theorem dX7_write_44 : decode cX7_write 44 = .ok (.if_icmp .ne 9, 3) := by decide +kernel
theorem dX7_write_47 : decode cX7_write 47 = .ok (.aload_n 0, 1) := by decide +kernel
theorem dX7_write_48 : decode cX7_write 48 = .ok (.iconst 3, 1) := by decide +kernel
theorem dX7_write_49 : decode cX7_write 49 = .ok (.invokevirtual 55, 3) := by decide +kernel
theorem dX7_write_52 : decode cX7_write 52 = .ok (.ireturn, 1) := by decide +kernel
theorem dX7_write_53 : decode cX7_write 53 = .ok (.iconst 5, 1) := by decide +kernel
theorem dX7_write_54 : decode cX7_write 54 = .ok (.newarray .int, 2) := by decide +kernel
theorem dX7_write_56 : decode cX7_write 56 = .ok (.dup, 1) := by decide +kernel
theorem dX7_write_57 : decode cX7_write 57 = .ok (.iconst 0, 1) := by decide +kernel
theorem dX7_write_58 : decode cX7_write 58 = .ok (.iload_n 2, 1) := by decide +kernel
theorem dX7_write_59 : decode cX7_write 59 = .ok (.iastore, 1) := by decide +kernel
theorem dX7_write_60 : decode cX7_write 60 = .ok (.dup, 1) := by decide +kernel
theorem dX7_write_61 : decode cX7_write 61 = .ok (.iconst 1, 1) := by decide +kernel
theorem dX7_write_62 : decode cX7_write 62 = .ok (.iload_n 1, 1) := by decide +kernel
theorem dX7_write_63 : decode cX7_write 63 = .ok (.iastore, 1) := by decide +kernel
theorem dX7_write_64 : decode cX7_write 64 = .ok (.dup, 1) := by decide +kernel
theorem dX7_write_65 : decode cX7_write 65 = .ok (.iconst 2, 1) := by decide +kernel
theorem dX7_write_66 : decode cX7_write 66 = .ok (.iconst (-1), 1) := by decide +kernel
theorem dX7_write_67 : decode cX7_write 67 = .ok (.iastore, 1) := by decide +kernel
theorem dX7_write_68 : decode cX7_write 68 = .ok (.dup, 1) := by decide +kernel
theorem dX7_write_69 : decode cX7_write 69 = .ok (.iconst 3, 1) := by decide +kernel
theorem dX7_write_70 : decode cX7_write 70 = .ok (.iconst (-1), 1) := by decide +kernel
theorem dX7_write_71 : decode cX7_write 71 = .ok (.iastore, 1) := by decide +kernel
theorem dX7_write_72 : decode cX7_write 72 = .ok (.dup, 1) := by decide +kernel
theorem dX7_write_73 : decode cX7_write 73 = .ok (.iconst 4, 1) := by decide +kernel
theorem dX7_write_74 : decode cX7_write 74 = .ok (.iconst 0, 1) := by decide +kernel
theorem dX7_write_75 : decode cX7_write 75 = .ok (.iastore, 1) := by decide +kernel
theorem dX7_write_76 : decode cX7_write 76 = .ok (.astore_n 3, 1) := by decide +kernel
theorem dX7_write_77 : decode cX7_write 77 = .ok (.aload_n 3, 1) := by decide +kernel
theorem dX7_write_78 : decode cX7_write 78 = .ok (.iconst 0, 1) := by decide +kernel
theorem dX7_write_79 : decode cX7_write 79 = .ok (.aload_n 0, 1) := by decide +kernel
theorem dX7_write_80 : decode cX7_write 80 = .ok (.getfield 26, 3) := by decide +kernel
theorem dX7_write_83 : decode cX7_write 83 = .ok (.iconst 5, 1) := by decide +kernel
theorem dX7_write_84 : decode cX7_write 84 = .ok (.aload_n 0, 1) := by decide +kernel
theorem dX7_write_85 : decode cX7_write 85 = .ok (.getfield 52, 3) := by decide +kernel
theorem dX7_write_88 : decode cX7_write 88 = .ok (.imul, 1) := by decide +kernel
theorem dX7_write_89 : decode cX7_write 89 = .ok (.iconst 5, 1) := by decide +kernel
theorem dX7_write_90 : decode cX7_write 90 = .ok (.invokestatic 75, 3) := by decide +kernel
theorem dX7_write_93 : decode cX7_write 93 = .ok (.aload_n 0, 1) := by decide +kernel
theorem dX7_write_94 : decode cX7_write 94 = .ok (.dup, 1) := by decide +kernel
theorem dX7_write_95 : decode cX7_write 95 = .ok (.getfield 52, 3) := by decide +kernel
theorem dX7_write_98 : decode cX7_write 98 = .ok (.iconst 1, 1) := by decide +kernel
theorem dX7_write_99 : decode cX7_write 99 = .ok (.iadd, 1) := by decide +kernel
theorem dX7_write_100 : decode cX7_write 100 = .ok (.putfield 52, 3) := by decide +kernel
theorem dX7_write_103 : decode cX7_write 103 = .ok (.aload_n 0, 1) := by decide +kernel
theorem dX7_write_104 : decode cX7_write 104 = .ok (.getfield 52, 3) := by decide +kernel
theorem dX7_write_107 : decode cX7_write 107 = .ok (.iconst 1, 1) := by decide +kernel
theorem dX7_write_108 : decode cX7_write 108 = .ok (.isub, 1) := by decide +kernel
theorem dX7_write_109 : decode cX7_write 109 = .ok (.ireturn, 1) := by decide +kernel
set_option maxRecDepth 20000 in
theorem ggX7_carries_X7_le : GoodIn wsX7_carries wsX7_le := goodIn_r _ [6, 7, 8, 9, 10, 11, 12, 13, 14, 15, 16, 17, 18, 19, 20] (by decide +kernel) (by decide +kernel)
set_option maxRecDepth 20000 in
theorem gX7_carries_X7_le : GoodIn wsX7_carries (wsV RX7 110 RX7 yX7_le wsX7_le) := goodIn_app (goodIn_of _ (by decide +kernel)) ggX7_carries_X7_le
theorem dX7_carries_0 : decode cX7_carries 0 = .ok (.iconst 0, 1) := by decide +kernel
theorem dX7_carries_1 : decode cX7_carries 1 = .ok (.istore_n 2, 1) := by decide +kernel
theorem dX7_carries_2 : decode cX7_carries 2 = .ok (.iconst 0, 1) := by decide +kernel
theorem dX7_carries_3 : decode cX7_carries 3 = .ok (.istore_n 3, 1) := by decide +kernel
theorem dX7_carries_4 : decode cX7_carries 4 = .ok (.iload_n 3, 1) := by decide +kernel
theorem dX7_carries_5 : decode cX7_carries 5 = .ok (.aload_n 0, 1) := by decide +kernel
theorem dX7_carries_6 : decode cX7_carries 6 = .ok (.getfield 52, 3) := by decide +kernel
theorem dX7_carries_9 : decode cX7_carries 9 = .ok (.if_icmp .ge 27, 3) := by decide +kernel
theorem dX7_carries_12 : decode cX7_carries 12 = .ok (.iload_n 2, 1) := by decide +kernel
theorem dX7_carries_13 : decode cX7_carries 13 = .ok (.aload_n 0, 1) := by decide +kernel
theorem dX7_carries_14 : decode cX7_carries 14 = .ok (.iload_n 3, 1) := by decide +kernel
theorem dX7_carries_15 : decode cX7_carries 15 = .ok (.iconst 2, 1) := by decide +kernel
theorem dX7_carries_16 : decode cX7_carries 16 = .ok (.invokevirtual 110, 3) := by decide +kernel
theorem dX7_carries_19 : decode cX7_carries 19 = .ok (.iload_n 1, 1) := by decide +kernel
theorem dX7_carries_20 : decode cX7_carries 20 = .ok (.if_icmp .ne 7, 3) := by decide +kernel
theorem dX7_carries_23 : decode cX7_carries 23 = .ok (.iconst 1, 1) := by decide +kernel
theorem dX7_carries_24 : decode cX7_carries 24 = .ok (.goto 4, 3) := by decide +kernel
theorem dX7_carries_27 : decode cX7_carries 27 = .ok (.iconst 0, 1) := by decide +kernel
theorem dX7_carries_28 : decode cX7_carries 28 = .ok (.iadd, 1) := by decide +kernel
theorem dX7_carries_29 : decode cX7_carries 29 = .ok (.istore_n 2, 1) := by decide +kernel
theorem dX7_carries_30 : decode cX7_carries 30 = .ok (.iinc 3 1, 3) := by decide +kernel
theorem dX7_carries_33 : decode cX7_carries 33 = .ok (.goto (-29), 3) := by decide +kernel
theorem dX7_carries_36 : decode cX7_carries 36 = .ok (.iload_n 2, 1) := by decide +kernel
theorem dX7_carries_37 : decode cX7_carries 37 = .ok (.ireturn, 1) := by decide +kernel
set_option maxRecDepth 20000 in
theorem ggX7_take_X7_setLe : GoodIn wsX7_take wsX7_setLe := goodIn_r _ [5, 6, 11, 12, 13, 14, 15, 16, 17, 18, 19, 20, 21, 22, 23] (by decide +kernel) (by decide +kernel)
set_option maxRecDepth 20000 in
theorem gX7_take_X7_setLe : GoodIn wsX7_take (wsV RX7 113 RX7 yX7_setLe wsX7_setLe) := goodIn_app (goodIn_of _ (by decide +kernel)) ggX7_take_X7_setLe
set_option maxRecDepth 20000 in
theorem ggX7_take_X7_le : GoodIn wsX7_take wsX7_le := goodIn_r _ [10, 6, 11, 12, 13, 14, 15, 16, 17, 18, 19, 20, 21, 22, 23] (by decide +kernel) (by decide +kernel)
set_option maxRecDepth 20000 in
theorem gX7_take_X7_le : GoodIn wsX7_take (wsV RX7 110 RX7 yX7_le wsX7_le) := goodIn_app (goodIn_of _ (by decide +kernel)) ggX7_take_X7_le
theorem dX7_take_0 : decode cX7_take 0 = .ok (.aload_n 0, 1) := by decide +kernel
theorem dX7_take_1 : decode cX7_take 1 = .ok (.iload_n 2, 1) := by decide +kernel
theorem dX7_take_2 : decode cX7_take 2 = .ok (.iconst 1, 1) := by decide +kernel
theorem dX7_take_3 : decode cX7_take 3 = .ok (.iconst (-1), 1) := by decide +kernel
theorem dX7_take_4 : decode cX7_take 4 = .ok (.invokevirtual 113, 3) := by decide +kernel
theorem dX7_take_7 : decode cX7_take 7 = .ok (.aload_n 0, 1) := by decide +kernel
theorem dX7_take_8 : decode cX7_take 8 = .ok (.iload_n 2, 1) := by decide +kernel
theorem dX7_take_9 : decode cX7_take 9 = .ok (.iconst 2, 1) := by decide +kernel
theorem dX7_take_10 : decode cX7_take 10 = .ok (.iload_n 1, 1) := by decide +kernel
theorem dX7_take_11 : decode cX7_take 11 = .ok (.invokevirtual 113, 3) := by decide +kernel
theorem dX7_take_14 : decode cX7_take 14 = .ok (.aload_n 0, 1) := by decide +kernel
theorem dX7_take_15 : decode cX7_take 15 = .ok (.iload_n 2, 1) := by decide +kernel
theorem dX7_take_16 : decode cX7_take 16 = .ok (.iconst 4, 1) := by decide +kernel
theorem dX7_take_17 : decode cX7_take 17 = .ok (.aload_n 0, 1) := by decide +kernel
theorem dX7_take_18 : decode cX7_take 18 = .ok (.iload_n 2, 1) := by decide +kernel
theorem dX7_take_19 : decode cX7_take 19 = .ok (.iconst 4, 1) := by decide +kernel
theorem dX7_take_20 : decode cX7_take 20 = .ok (.invokevirtual 110, 3) := by decide +kernel
theorem dX7_take_23 : decode cX7_take 23 = .ok (.iconst 1, 1) := by decide +kernel
theorem dX7_take_24 : decode cX7_take 24 = .ok (.iadd, 1) := by decide +kernel
theorem dX7_take_25 : decode cX7_take 25 = .ok (.invokevirtual 113, 3) := by decide +kernel
theorem dX7_take_28 : decode cX7_take 28 = .ok (.return_, 1) := by decide +kernel
set_option maxRecDepth 20000 in
theorem ggX7_honour_X7_be : GoodIn wsX7_honour wsX7_be := goodIn_r _ [12, 13, 18, 19, 20, 21, 22, 23, 24, 25, 26, 27, 28, 29, 30] (by decide +kernel) (by decide +kernel)
set_option maxRecDepth 20000 in
theorem gX7_honour_X7_be : GoodIn wsX7_honour (wsV RX7 94 RX7 yX7_be wsX7_be) := goodIn_app (goodIn_of _ (by decide +kernel)) ggX7_honour_X7_be
set_option maxRecDepth 20000 in
theorem ggX7_honour_X7_setBe : GoodIn wsX7_honour wsX7_setBe := goodIn_r _ [17, 13, 18, 19, 20, 21, 22, 23, 24, 25, 26, 27, 28, 29, 30] (by decide +kernel) (by decide +kernel)
set_option maxRecDepth 20000 in
theorem gX7_honour_X7_setBe : GoodIn wsX7_honour (wsV RX7 103 RX7 yX7_setBe wsX7_setBe) := goodIn_app (goodIn_of _ (by decide +kernel)) ggX7_honour_X7_setBe
theorem dX7_honour_0 : decode cX7_honour 0 = .ok (.aload_n 0, 1) := by decide +kernel
theorem dX7_honour_1 : decode cX7_honour 1 = .ok (.iload_n 1, 1) := by decide +kernel
theorem dX7_honour_2 : decode cX7_honour 2 = .ok (.iconst 3, 1) := by decide +kernel
theorem dX7_honour_3 : decode cX7_honour 3 = .ok (.iconst 0, 1) := by decide +kernel
theorem dX7_honour_4 : decode cX7_honour 4 = .ok (.bipush 20, 2) := by decide +kernel
theorem dX7_honour_6 : decode cX7_honour 6 = .ok (.aload_n 0, 1) := by decide +kernel
theorem dX7_honour_7 : decode cX7_honour 7 = .ok (.iload_n 1, 1) := by decide +kernel
theorem dX7_honour_8 : decode cX7_honour 8 = .ok (.iconst 3, 1) := by decide +kernel
theorem dX7_honour_9 : decode cX7_honour 9 = .ok (.invokevirtual 94, 3) := by decide +kernel
theorem dX7_honour_12 : decode cX7_honour 12 = .ok (.iload_n 2, 1) := by decide +kernel
theorem dX7_honour_13 : decode cX7_honour 13 = .ok (.iadd, 1) := by decide +kernel
theorem dX7_honour_14 : decode cX7_honour 14 = .ok (.invokestatic 70, 3) := by decide +kernel
theorem dX7_honour_17 : decode cX7_honour 17 = .ok (.invokestatic 107, 3) := by decide +kernel
theorem dX7_honour_20 : decode cX7_honour 20 = .ok (.invokevirtual 103, 3) := by decide +kernel
theorem dX7_honour_23 : decode cX7_honour 23 = .ok (.return_, 1) := by decide +kernel
set_option maxRecDepth 20000 in
theorem ggX7_bribe_X7_isBee : GoodIn wsX7_bribe wsX7_isBee := goodIn_r _ [6, 7, 8, 9, 5, 10, 58, 59, 60, 61, 62, 63, 64, 65, 66, 67, 68, 69, 70] (by decide +kernel) (by decide +kernel)
set_option maxRecDepth 20000 in
theorem gX7_bribe_X7_isBee : GoodIn wsX7_bribe (wsV RX7 97 RX7 yX7_isBee wsX7_isBee) := goodIn_app (goodIn_of _ (by decide +kernel)) ggX7_bribe_X7_isBee
set_option maxRecDepth 20000 in
theorem ggX7_bribe_X7_isLetter : GoodIn wsX7_bribe wsX7_isLetter := goodIn_r _ [14, 15, 8, 9, 5, 10, 58, 59, 60, 61, 62, 63, 64, 65, 66, 67, 68, 69, 70] (by decide +kernel) (by decide +kernel)
set_option maxRecDepth 20000 in
theorem gX7_bribe_X7_isLetter : GoodIn wsX7_bribe (wsV RX7 116 RX7 yX7_isLetter wsX7_isLetter) := goodIn_app (goodIn_of _ (by decide +kernel)) ggX7_bribe_X7_isLetter
set_option maxRecDepth 20000 in
theorem ggX7_bribe_X7_be : GoodIn wsX7_bribe wsX7_be := goodIn_r _ [19, 20, 58, 59, 60, 61, 62, 63, 64, 65, 66, 67, 68, 69, 70] (by decide +kernel) (by decide +kernel)
set_option maxRecDepth 20000 in
theorem gX7_bribe_X7_be : GoodIn wsX7_bribe (wsV RX7 94 RX7 yX7_be wsX7_be) := goodIn_app (goodIn_of _ (by decide +kernel)) ggX7_bribe_X7_be
set_option maxRecDepth 20000 in
theorem ggX7_bribe_X7_le : GoodIn wsX7_bribe wsX7_le := goodIn_r _ [24, 25, 58, 59, 60, 61, 62, 63, 64, 65, 66, 67, 68, 69, 70] (by decide +kernel) (by decide +kernel)
set_option maxRecDepth 20000 in
theorem gX7_bribe_X7_le : GoodIn wsX7_bribe (wsV RX7 110 RX7 yX7_le wsX7_le) := goodIn_app (goodIn_of _ (by decide +kernel)) ggX7_bribe_X7_le
set_option maxRecDepth 20000 in
theorem ggX7_bribe_X7_house : GoodIn wsX7_bribe wsX7_house := goodIn_r _ [29, 30, 16, 17, 18, 5, 19, 20, 58, 59, 60, 61, 62, 63, 64, 65, 66, 67, 68, 69, 70] (by decide +kernel) (by decide +kernel)
set_option maxRecDepth 20000 in
theorem gX7_bribe_X7_house : GoodIn wsX7_bribe (wsV RX7 100 RX7 yX7_house wsX7_house) := goodIn_app (goodIn_of _ (by decide +kernel)) ggX7_bribe_X7_house
set_option maxRecDepth 20000 in
theorem ggX7_bribe_X7_carries : GoodIn wsX7_bribe wsX7_carries := goodIn_r _ [34, 15, 21, 22, 23, 5, 24, 25, 58, 59, 60, 61, 62, 63, 64, 65, 66, 67, 68, 69, 70] (by decide +kernel) (by decide +kernel)
set_option maxRecDepth 20000 in
theorem gX7_bribe_X7_carries : GoodIn wsX7_bribe (wsV RX7 119 RX7 yX7_carries wsX7_carries) := goodIn_app (goodIn_of _ (by decide +kernel)) ggX7_bribe_X7_carries
set_option maxRecDepth 20000 in
theorem ggX7_bribe_X7_honour : GoodIn wsX7_bribe wsX7_honour := goodIn_r _ [38, 39, 40, 41, 42, 43, 44, 45, 16, 17, 18, 5, 19, 20, 46, 47, 48, 49, 58, 59, 60, 61, 62, 63, 64, 65, 66, 67, 68, 69, 70] (by decide +kernel) (by decide +kernel)
set_option maxRecDepth 20000 in
theorem gX7_bribe_X7_honour : GoodIn wsX7_bribe (wsV RX7 122 RX7 yX7_honour wsX7_honour) := goodIn_app (goodIn_of _ (by decide +kernel)) ggX7_bribe_X7_honour
set_option maxRecDepth 20000 in
theorem ggX7_bribe_X7_take : GoodIn wsX7_bribe wsX7_take := goodIn_r _ [53, 54, 55, 56, 5, 57, 25, 21, 22, 23, 24, 58, 59, 60, 61, 62, 63, 64, 65, 66, 67, 68, 69, 70] (by decide +kernel) (by decide +kernel)
set_option maxRecDepth 20000 in
theorem gX7_bribe_X7_take : GoodIn wsX7_bribe (wsV RX7 126 RX7 yX7_take wsX7_take) := goodIn_app (goodIn_of _ (by decide +kernel)) ggX7_bribe_X7_take
theorem dX7_bribe_0 : decode cX7_bribe 0 = .ok (.aload_n 0, 1) := by decide +kernel
theorem dX7_bribe_1 : decode cX7_bribe 1 = .ok (.aload_n 0, 1) := by decide +kernel
theorem dX7_bribe_2 : decode cX7_bribe 2 = .ok (.iload_n 1, 1) := by decide +kernel
theorem dX7_bribe_3 : decode cX7_bribe 3 = .ok (.invokevirtual 97, 3) := by decide +kernel
theorem dX7_bribe_6 : decode cX7_bribe 6 = .ok (.ifCond .eq 11, 3) := by decide +kernel
theorem dX7_bribe_9 : decode cX7_bribe 9 = .ok (.aload_n 0, 1) := by decide +kernel
theorem dX7_bribe_10 : decode cX7_bribe 10 = .ok (.iload_n 2, 1) := by decide +kernel
theorem dX7_bribe_11 : decode cX7_bribe 11 = .ok (.invokevirtual 116, 3) := by decide +kernel
theorem dX7_bribe_14 : decode cX7_bribe 14 = .ok (.ifCond .ne 7, 3) := by decide +kernel
theorem dX7_bribe_17 : decode cX7_bribe 17 = .ok (.iconst 1, 1) := by decide +kernel
theorem dX7_bribe_18 : decode cX7_bribe 18 = .ok (.goto 40, 3) := by decide +kernel
theorem dX7_bribe_21 : decode cX7_bribe 21 = .ok (.aload_n 0, 1) := by decide +kernel
theorem dX7_bribe_22 : decode cX7_bribe 22 = .ok (.iload_n 1, 1) := by decide +kernel
theorem dX7_bribe_23 : decode cX7_bribe 23 = .ok (.iconst 1, 1) := by decide +kernel
theorem dX7_bribe_24 : decode cX7_bribe 24 = .ok (.invokevirtual 94, 3) := by decide +kernel
theorem dX7_bribe_27 : decode cX7_bribe 27 = .ok (.ifCond .gt 26, 3) := by decide +kernel
theorem dX7_bribe_30 : decode cX7_bribe 30 = .ok (.aload_n 0, 1) := by decide +kernel
theorem dX7_bribe_31 : decode cX7_bribe 31 = .ok (.iload_n 2, 1) := by decide +kernel
theorem dX7_bribe_32 : decode cX7_bribe 32 = .ok (.iconst 1, 1) := by decide +kernel
theorem dX7_bribe_33 : decode cX7_bribe 33 = .ok (.invokevirtual 110, 3) := by decide +kernel
theorem dX7_bribe_36 : decode cX7_bribe 36 = .ok (.aload_n 0, 1) := by decide +kernel
theorem dX7_bribe_37 : decode cX7_bribe 37 = .ok (.iload_n 1, 1) := by decide +kernel
theorem dX7_bribe_38 : decode cX7_bribe 38 = .ok (.invokevirtual 100, 3) := by decide +kernel
theorem dX7_bribe_41 : decode cX7_bribe 41 = .ok (.if_icmp .ne 12, 3) := by decide +kernel
theorem dX7_bribe_44 : decode cX7_bribe 44 = .ok (.aload_n 0, 1) := by decide +kernel
theorem dX7_bribe_45 : decode cX7_bribe 45 = .ok (.iload_n 1, 1) := by decide +kernel
theorem dX7_bribe_46 : decode cX7_bribe 46 = .ok (.invokevirtual 119, 3) := by decide +kernel
theorem dX7_bribe_49 : decode cX7_bribe 49 = .ok (.iconst 3, 1) := by decide +kernel
theorem dX7_bribe_50 : decode cX7_bribe 50 = .ok (.if_icmp .ne 7, 3) := by decide +kernel
theorem dX7_bribe_53 : decode cX7_bribe 53 = .ok (.iconst 2, 1) := by decide +kernel
theorem dX7_bribe_54 : decode cX7_bribe 54 = .ok (.goto 4, 3) := by decide +kernel
theorem dX7_bribe_57 : decode cX7_bribe 57 = .ok (.iconst 0, 1) := by decide +kernel
theorem dX7_bribe_58 : decode cX7_bribe 58 = .ok (.putfield 35, 3) := by decide +kernel
theorem dX7_bribe_61 : decode cX7_bribe 61 = .ok (.aload_n 0, 1) := by decide +kernel
theorem dX7_bribe_62 : decode cX7_bribe 62 = .ok (.getfield 35, 3) := by decide +kernel
theorem dX7_bribe_65 : decode cX7_bribe 65 = .ok (.ifCond .eq 5, 3) := by decide +kernel
theorem dX7_bribe_68 : decode cX7_bribe 68 = .ok (.iconst 0, 1) := by decide +kernel
theorem dX7_bribe_69 : decode cX7_bribe 69 = .ok (.ireturn, 1) := by decide +kernel
theorem dX7_bribe_70 : decode cX7_bribe 70 = .ok (.aload_n 0, 1) := by decide +kernel
theorem dX7_bribe_71 : decode cX7_bribe 71 = .ok (.iload_n 1, 1) := by decide +kernel
theorem dX7_bribe_72 : decode cX7_bribe 72 = .ok (.iconst 3, 1) := by decide +kernel
theorem dX7_bribe_73 : decode cX7_bribe 73 = .ok (.invokevirtual 94, 3) := by decide +kernel
theorem dX7_bribe_76 : decode cX7_bribe 76 = .ok (.iconst 5, 1) := by decide +kernel
theorem dX7_bribe_77 : decode cX7_bribe 77 = .ok (.if_icmp .ge 7, 3) := by decide +kernel
theorem dX7_bribe_80 : decode cX7_bribe 80 = .ok (.iconst 1, 1) := by decide +kernel
theorem dX7_bribe_81 : decode cX7_bribe 81 = .ok (.goto 4, 3) := by decide +kernel
theorem dX7_bribe_84 : decode cX7_bribe 84 = .ok (.iconst 0, 1) := by decide +kernel
theorem dX7_bribe_85 : decode cX7_bribe 85 = .ok (.istore_n 3, 1) := by decide +kernel
theorem dX7_bribe_86 : decode cX7_bribe 86 = .ok (.aload_n 0, 1) := by decide +kernel
theorem dX7_bribe_87 : decode cX7_bribe 87 = .ok (.iload_n 1, 1) := by decide +kernel
theorem dX7_bribe_88 : decode cX7_bribe 88 = .ok (.iload_n 3, 1) := by decide +kernel
theorem dX7_bribe_89 : decode cX7_bribe 89 = .ok (.ifCond .eq 7, 3) := by decide +kernel
theorem dX7_bribe_92 : decode cX7_bribe 92 = .ok (.iconst (-1), 1) := by decide +kernel
theorem dX7_bribe_93 : decode cX7_bribe 93 = .ok (.goto 4, 3) := by decide +kernel
theorem dX7_bribe_96 : decode cX7_bribe 96 = .ok (.iconst 1, 1) := by decide +kernel
theorem dX7_bribe_97 : decode cX7_bribe 97 = .ok (.invokevirtual 122, 3) := by decide +kernel
theorem dX7_bribe_100 : decode cX7_bribe 100 = .ok (.iload_n 3, 1) := by decide +kernel
theorem dX7_bribe_101 : decode cX7_bribe 101 = .ok (.ifCond .eq 9, 3) := by decide +kernel
theorem dX7_bribe_104 : decode cX7_bribe 104 = .ok (.aload_n 0, 1) := by decide +kernel
theorem dX7_bribe_105 : decode cX7_bribe 105 = .ok (.iload_n 1, 1) := by decide +kernel
theorem dX7_bribe_106 : decode cX7_bribe 106 = .ok (.iload_n 2, 1) := by decide +kernel
theorem dX7_bribe_107 : decode cX7_bribe 107 = .ok (.invokevirtual 126, 3) := by decide +kernel
theorem dX7_bribe_110 : decode cX7_bribe 110 = .ok (.iload_n 3, 1) := by decide +kernel
theorem dX7_bribe_111 : decode cX7_bribe 111 = .ok (.ireturn, 1) := by decide +kernel
set_option maxRecDepth 20000 in
theorem ggX7_beeTold_X7_house : GoodIn wsX7_beeTold wsX7_house := goodIn_r _ [6, 7, 8, 9, 10, 5, 11, 12, 23, 24, 25, 26, 27, 28, 29, 30, 31, 32, 33, 34, 35] (by decide +kernel) (by decide +kernel)
set_option maxRecDepth 20000 in
theorem gX7_beeTold_X7_house : GoodIn wsX7_beeTold (wsV RX7 100 RX7 yX7_house wsX7_house) := goodIn_app (goodIn_of _ (by decide +kernel)) ggX7_beeTold_X7_house
set_option maxRecDepth 20000 in
theorem ggX7_beeTold_X7_be : GoodIn wsX7_beeTold wsX7_be := goodIn_r _ [11, 12, 23, 24, 25, 26, 27, 28, 29, 30, 31, 32, 33, 34, 35] (by decide +kernel) (by decide +kernel)
set_option maxRecDepth 20000 in
theorem gX7_beeTold_X7_be : GoodIn wsX7_beeTold (wsV RX7 94 RX7 yX7_be wsX7_be) := goodIn_app (goodIn_of _ (by decide +kernel)) ggX7_beeTold_X7_be
set_option maxRecDepth 20000 in
theorem ggX7_beeTold_X7_carries : GoodIn wsX7_beeTold wsX7_carries := goodIn_r _ [16, 17, 18, 19, 20, 5, 21, 22, 23, 24, 25, 26, 27, 28, 29, 30, 31, 32, 33, 34, 35] (by decide +kernel) (by decide +kernel)
set_option maxRecDepth 20000 in
theorem gX7_beeTold_X7_carries : GoodIn wsX7_beeTold (wsV RX7 119 RX7 yX7_carries wsX7_carries) := goodIn_app (goodIn_of _ (by decide +kernel)) ggX7_beeTold_X7_carries
theorem dX7_beeTold_0 : decode cX7_beeTold 0 = .ok (.bipush 9, 2) := by decide +kernel
theorem dX7_beeTold_2 : decode cX7_beeTold 2 = .ok (.newarray .int, 2) := by decide +kernel
theorem dX7_beeTold_4 : decode cX7_beeTold 4 = .ok (.dup, 1) := by decide +kernel
theorem dX7_beeTold_5 : decode cX7_beeTold 5 = .ok (.iconst 0, 1) := by decide +kernel
theorem dX7_beeTold_6 : decode cX7_beeTold 6 = .ok (.aload_n 0, 1) := by decide +kernel
theorem dX7_beeTold_7 : decode cX7_beeTold 7 = .ok (.iload_n 1, 1) := by decide +kernel
theorem dX7_beeTold_8 : decode cX7_beeTold 8 = .ok (.invokevirtual 100, 3) := by decide +kernel
theorem dX7_beeTold_11 : decode cX7_beeTold 11 = .ok (.iastore, 1) := by decide +kernel
theorem dX7_beeTold_12 : decode cX7_beeTold 12 = .ok (.dup, 1) := by decide +kernel
theorem dX7_beeTold_13 : decode cX7_beeTold 13 = .ok (.iconst 1, 1) := by decide +kernel
theorem dX7_beeTold_14 : decode cX7_beeTold 14 = .ok (.aload_n 0, 1) := by decide +kernel
theorem dX7_beeTold_15 : decode cX7_beeTold 15 = .ok (.iload_n 1, 1) := by decide +kernel
theorem dX7_beeTold_16 : decode cX7_beeTold 16 = .ok (.iconst 1, 1) := by decide +kernel
theorem dX7_beeTold_17 : decode cX7_beeTold 17 = .ok (.invokevirtual 94, 3) := by decide +kernel
theorem dX7_beeTold_20 : decode cX7_beeTold 20 = .ok (.iastore, 1) := by decide +kernel
theorem dX7_beeTold_21 : decode cX7_beeTold 21 = .ok (.dup, 1) := by decide +kernel
theorem dX7_beeTold_22 : decode cX7_beeTold 22 = .ok (.iconst 2, 1) := by decide +kernel
theorem dX7_beeTold_23 : decode cX7_beeTold 23 = .ok (.aload_n 0, 1) := by decide +kernel
theorem dX7_beeTold_24 : decode cX7_beeTold 24 = .ok (.iload_n 1, 1) := by decide +kernel
theorem dX7_beeTold_25 : decode cX7_beeTold 25 = .ok (.iconst 2, 1) := by decide +kernel
theorem dX7_beeTold_26 : decode cX7_beeTold 26 = .ok (.invokevirtual 94, 3) := by decide +kernel
theorem dX7_beeTold_29 : decode cX7_beeTold 29 = .ok (.iastore, 1) := by decide +kernel
theorem dX7_beeTold_30 : decode cX7_beeTold 30 = .ok (.dup, 1) := by decide +kernel
theorem dX7_beeTold_31 : decode cX7_beeTold 31 = .ok (.iconst 3, 1) := by decide +kernel
theorem dX7_beeTold_32 : decode cX7_beeTold 32 = .ok (.aload_n 0, 1) := by decide +kernel
theorem dX7_beeTold_33 : decode cX7_beeTold 33 = .ok (.iload_n 1, 1) := by decide +kernel
theorem dX7_beeTold_34 : decode cX7_beeTold 34 = .ok (.iconst 3, 1) := by decide +kernel
theorem dX7_beeTold_35 : decode cX7_beeTold 35 = .ok (.invokevirtual 94, 3) := by decide +kernel
theorem dX7_beeTold_38 : decode cX7_beeTold 38 = .ok (.iastore, 1) := by decide +kernel
theorem dX7_beeTold_39 : decode cX7_beeTold 39 = .ok (.dup, 1) := by decide +kernel
theorem dX7_beeTold_40 : decode cX7_beeTold 40 = .ok (.iconst 4, 1) := by decide +kernel
theorem dX7_beeTold_41 : decode cX7_beeTold 41 = .ok (.aload_n 0, 1) := by decide +kernel
theorem dX7_beeTold_42 : decode cX7_beeTold 42 = .ok (.iload_n 1, 1) := by decide +kernel
theorem dX7_beeTold_43 : decode cX7_beeTold 43 = .ok (.invokevirtual 119, 3) := by decide +kernel
theorem dX7_beeTold_46 : decode cX7_beeTold 46 = .ok (.iastore, 1) := by decide +kernel
theorem dX7_beeTold_47 : decode cX7_beeTold 47 = .ok (.dup, 1) := by decide +kernel
theorem dX7_beeTold_48 : decode cX7_beeTold 48 = .ok (.iconst 5, 1) := by decide +kernel
theorem dX7_beeTold_49 : decode cX7_beeTold 49 = .ok (.aload_n 0, 1) := by decide +kernel
theorem dX7_beeTold_50 : decode cX7_beeTold 50 = .ok (.iload_n 1, 1) := by decide +kernel
theorem dX7_beeTold_51 : decode cX7_beeTold 51 = .ok (.iconst 4, 1) := by decide +kernel
theorem dX7_beeTold_52 : decode cX7_beeTold 52 = .ok (.invokevirtual 94, 3) := by decide +kernel
theorem dX7_beeTold_55 : decode cX7_beeTold 55 = .ok (.iastore, 1) := by decide +kernel
theorem dX7_beeTold_56 : decode cX7_beeTold 56 = .ok (.dup, 1) := by decide +kernel
theorem dX7_beeTold_57 : decode cX7_beeTold 57 = .ok (.bipush 6, 2) := by decide +kernel
theorem dX7_beeTold_59 : decode cX7_beeTold 59 = .ok (.aload_n 0, 1) := by decide +kernel
theorem dX7_beeTold_60 : decode cX7_beeTold 60 = .ok (.iload_n 1, 1) := by decide +kernel
theorem dX7_beeTold_61 : decode cX7_beeTold 61 = .ok (.iconst 5, 1) := by decide +kernel
theorem dX7_beeTold_62 : decode cX7_beeTold 62 = .ok (.invokevirtual 94, 3) := by decide +kernel
theorem dX7_beeTold_65 : decode cX7_beeTold 65 = .ok (.iastore, 1) := by decide +kernel
theorem dX7_beeTold_66 : decode cX7_beeTold 66 = .ok (.dup, 1) := by decide +kernel
theorem dX7_beeTold_67 : decode cX7_beeTold 67 = .ok (.bipush 7, 2) := by decide +kernel
theorem dX7_beeTold_69 : decode cX7_beeTold 69 = .ok (.aload_n 0, 1) := by decide +kernel
theorem dX7_beeTold_70 : decode cX7_beeTold 70 = .ok (.iload_n 1, 1) := by decide +kernel
theorem dX7_beeTold_71 : decode cX7_beeTold 71 = .ok (.bipush 6, 2) := by decide +kernel
theorem dX7_beeTold_73 : decode cX7_beeTold 73 = .ok (.invokevirtual 94, 3) := by decide +kernel
theorem dX7_beeTold_76 : decode cX7_beeTold 76 = .ok (.iastore, 1) := by decide +kernel
theorem dX7_beeTold_77 : decode cX7_beeTold 77 = .ok (.dup, 1) := by decide +kernel
theorem dX7_beeTold_78 : decode cX7_beeTold 78 = .ok (.bipush 8, 2) := by decide +kernel
theorem dX7_beeTold_80 : decode cX7_beeTold 80 = .ok (.aload_n 0, 1) := by decide +kernel
theorem dX7_beeTold_81 : decode cX7_beeTold 81 = .ok (.iload_n 1, 1) := by decide +kernel
theorem dX7_beeTold_82 : decode cX7_beeTold 82 = .ok (.bipush 7, 2) := by decide +kernel
theorem dX7_beeTold_84 : decode cX7_beeTold 84 = .ok (.invokevirtual 94, 3) := by decide +kernel
theorem dX7_beeTold_87 : decode cX7_beeTold 87 = .ok (.iastore, 1) := by decide +kernel
theorem dX7_beeTold_88 : decode cX7_beeTold 88 = .ok (.astore_n 3, 1) := by decide +kernel
theorem dX7_beeTold_89 : decode cX7_beeTold 89 = .ok (.aload_n 3, 1) := by decide +kernel
theorem dX7_beeTold_90 : decode cX7_beeTold 90 = .ok (.iload_n 2, 1) := by decide +kernel
theorem dX7_beeTold_91 : decode cX7_beeTold 91 = .ok (.iaload, 1) := by decide +kernel
theorem dX7_beeTold_92 : decode cX7_beeTold 92 = .ok (.ireturn, 1) := by decide +kernel
set_option maxRecDepth 20000 in
theorem ggX7_bee_X7_isBee : GoodIn wsX7_bee wsX7_isBee := goodIn_r _ [6, 7, 8, 9, 5, 10, 40, 41, 42, 43, 44, 45, 46, 47, 48, 49, 50, 51, 52] (by decide +kernel) (by decide +kernel)
set_option maxRecDepth 20000 in
theorem gX7_bee_X7_isBee : GoodIn wsX7_bee (wsV RX7 97 RX7 yX7_isBee wsX7_isBee) := goodIn_app (goodIn_of _ (by decide +kernel)) ggX7_bee_X7_isBee
set_option maxRecDepth 20000 in
theorem ggX7_bee_X7_isIn : GoodIn wsX7_bee wsX7_isIn := goodIn_r _ [10] (by decide +kernel) (by decide +kernel)
set_option maxRecDepth 20000 in
theorem gX7_bee_X7_isIn : GoodIn wsX7_bee (va_wsS RX7 42 yX7_isIn wsX7_isIn) := goodIn_app (goodIn_of _ (by decide +kernel)) ggX7_bee_X7_isIn
set_option maxRecDepth 20000 in
theorem ggX7_bee_X7_beeTold : GoodIn wsX7_bee wsX7_beeTold := goodIn_r _ [14, 15, 16, 17, 18, 5, 19, 20, 21, 22, 23, 24, 25, 26, 27, 28, 29, 30, 31, 32, 33, 34, 35, 40, 41, 42, 43, 44, 45, 46, 47, 48, 49, 50, 51, 52] (by decide +kernel) (by decide +kernel)
set_option maxRecDepth 20000 in
theorem gX7_bee_X7_beeTold : GoodIn wsX7_bee (wsV RX7 129 RX7 yX7_beeTold wsX7_beeTold) := goodIn_app (goodIn_of _ (by decide +kernel)) ggX7_bee_X7_beeTold
set_option maxRecDepth 20000 in
theorem ggX7_bee_X7_fail : GoodIn wsX7_bee wsX7_fail := goodIn_r _ [39, 1, 40, 41, 42, 43, 44, 45, 46, 47, 48, 49, 50, 51, 52] (by decide +kernel) (by decide +kernel)
set_option maxRecDepth 20000 in
theorem gX7_bee_X7_fail : GoodIn wsX7_bee (wsV RX7 55 RX7 yX7_fail wsX7_fail) := goodIn_app (goodIn_of _ (by decide +kernel)) ggX7_bee_X7_fail
theorem dX7_bee_0 : decode cX7_bee 0 = .ok (.aload_n 0, 1) := by decide +kernel
theorem dX7_bee_1 : decode cX7_bee 1 = .ok (.iconst 0, 1) := by decide +kernel
theorem dX7_bee_2 : decode cX7_bee 2 = .ok (.putfield 35, 3) := by decide +kernel
theorem dX7_bee_5 : decode cX7_bee 5 = .ok (.aload_n 0, 1) := by decide +kernel
theorem dX7_bee_6 : decode cX7_bee 6 = .ok (.iload_n 1, 1) := by decide +kernel
theorem dX7_bee_7 : decode cX7_bee 7 = .ok (.invokevirtual 97, 3) := by decide +kernel
theorem dX7_bee_10 : decode cX7_bee 10 = .ok (.ifCond .eq 22, 3) := by decide +kernel
theorem dX7_bee_13 : decode cX7_bee 13 = .ok (.iload_n 2, 1) := by decide +kernel
theorem dX7_bee_14 : decode cX7_bee 14 = .ok (.iconst 0, 1) := by decide +kernel
theorem dX7_bee_15 : decode cX7_bee 15 = .ok (.bipush 8, 2) := by decide +kernel
theorem dX7_bee_17 : decode cX7_bee 17 = .ok (.invokestatic 42, 3) := by decide +kernel
theorem dX7_bee_20 : decode cX7_bee 20 = .ok (.ifCond .eq 12, 3) := by decide +kernel
theorem dX7_bee_23 : decode cX7_bee 23 = .ok (.aload_n 0, 1) := by decide +kernel
theorem dX7_bee_24 : decode cX7_bee 24 = .ok (.iload_n 1, 1) := by decide +kernel
theorem dX7_bee_25 : decode cX7_bee 25 = .ok (.iload_n 2, 1) := by decide +kernel
theorem dX7_bee_26 : decode cX7_bee 26 = .ok (.invokevirtual 129, 3) := by decide +kernel
theorem dX7_bee_29 : decode cX7_bee 29 = .ok (.goto 8, 3) := by decide +kernel
theorem dX7_bee_32 : decode cX7_bee 32 = .ok (.aload_n 0, 1) := by decide +kernel
theorem dX7_bee_33 : decode cX7_bee 33 = .ok (.iconst 1, 1) := by decide +kernel
theorem dX7_bee_34 : decode cX7_bee 34 = .ok (.invokevirtual 55, 3) := by decide +kernel
theorem dX7_bee_37 : decode cX7_bee 37 = .ok (.ireturn, 1) := by decide +kernel
set_option maxRecDepth 20000 in
theorem ggX7_letter_X7_isLetter : GoodIn wsX7_letter wsX7_isLetter := goodIn_r _ [6, 7, 8, 9, 5, 10, 20, 21, 22, 23, 24, 25, 26, 27, 28, 29, 30, 31, 32] (by decide +kernel) (by decide +kernel)
set_option maxRecDepth 20000 in
theorem gX7_letter_X7_isLetter : GoodIn wsX7_letter (wsV RX7 116 RX7 yX7_isLetter wsX7_isLetter) := goodIn_app (goodIn_of _ (by decide +kernel)) ggX7_letter_X7_isLetter
set_option maxRecDepth 20000 in
theorem ggX7_letter_X7_isIn : GoodIn wsX7_letter wsX7_isIn := goodIn_r _ [10] (by decide +kernel) (by decide +kernel)
set_option maxRecDepth 20000 in
theorem gX7_letter_X7_isIn : GoodIn wsX7_letter (va_wsS RX7 42 yX7_isIn wsX7_isIn) := goodIn_app (goodIn_of _ (by decide +kernel)) ggX7_letter_X7_isIn
set_option maxRecDepth 20000 in
theorem ggX7_letter_X7_le : GoodIn wsX7_letter wsX7_le := goodIn_r _ [14, 15, 20, 21, 22, 23, 24, 25, 26, 27, 28, 29, 30, 31, 32] (by decide +kernel) (by decide +kernel)
set_option maxRecDepth 20000 in
theorem gX7_letter_X7_le : GoodIn wsX7_letter (wsV RX7 110 RX7 yX7_le wsX7_le) := goodIn_app (goodIn_of _ (by decide +kernel)) ggX7_letter_X7_le
set_option maxRecDepth 20000 in
theorem ggX7_letter_X7_fail : GoodIn wsX7_letter wsX7_fail := goodIn_r _ [19, 1, 20, 21, 22, 23, 24, 25, 26, 27, 28, 29, 30, 31, 32] (by decide +kernel) (by decide +kernel)
set_option maxRecDepth 20000 in
theorem gX7_letter_X7_fail : GoodIn wsX7_letter (wsV RX7 55 RX7 yX7_fail wsX7_fail) := goodIn_app (goodIn_of _ (by decide +kernel)) ggX7_letter_X7_fail
theorem dX7_letter_0 : decode cX7_letter 0 = .ok (.aload_n 0, 1) := by decide +kernel
theorem dX7_letter_1 : decode cX7_letter 1 = .ok (.iconst 0, 1) := by decide +kernel
theorem dX7_letter_2 : decode cX7_letter 2 = .ok (.putfield 35, 3) := by decide +kernel
theorem dX7_letter_5 : decode cX7_letter 5 = .ok (.aload_n 0, 1) := by decide +kernel
theorem dX7_letter_6 : decode cX7_letter 6 = .ok (.iload_n 1, 1) := by decide +kernel
theorem dX7_letter_7 : decode cX7_letter 7 = .ok (.invokevirtual 116, 3) := by decide +kernel
theorem dX7_letter_10 : decode cX7_letter 10 = .ok (.ifCond .eq 21, 3) := by decide +kernel
theorem dX7_letter_13 : decode cX7_letter 13 = .ok (.iload_n 2, 1) := by decide +kernel
theorem dX7_letter_14 : decode cX7_letter 14 = .ok (.iconst 0, 1) := by decide +kernel
theorem dX7_letter_15 : decode cX7_letter 15 = .ok (.iconst 4, 1) := by decide +kernel
theorem dX7_letter_16 : decode cX7_letter 16 = .ok (.invokestatic 42, 3) := by decide +kernel
theorem dX7_letter_19 : decode cX7_letter 19 = .ok (.ifCond .eq 12, 3) := by decide +kernel
theorem dX7_letter_22 : decode cX7_letter 22 = .ok (.aload_n 0, 1) := by decide +kernel
theorem dX7_letter_23 : decode cX7_letter 23 = .ok (.iload_n 1, 1) := by decide +kernel
theorem dX7_letter_24 : decode cX7_letter 24 = .ok (.iload_n 2, 1) := by decide +kernel
theorem dX7_letter_25 : decode cX7_letter 25 = .ok (.invokevirtual 110, 3) := by decide +kernel
theorem dX7_letter_28 : decode cX7_letter 28 = .ok (.goto 8, 3) := by decide +kernel
theorem dX7_letter_31 : decode cX7_letter 31 = .ok (.aload_n 0, 1) := by decide +kernel
theorem dX7_letter_32 : decode cX7_letter 32 = .ok (.iconst 1, 1) := by decide +kernel
theorem dX7_letter_33 : decode cX7_letter 33 = .ok (.invokevirtual 55, 3) := by decide +kernel
theorem dX7_letter_36 : decode cX7_letter 36 = .ok (.ireturn, 1) := by decide +kernel
set_option maxRecDepth 20000 in
theorem ggX7_targetOf_X7_be : GoodIn wsX7_targetOf wsX7_be := goodIn_r _ [6, 7, 17, 18, 19, 20, 21, 22, 23, 24, 25, 26, 27, 28, 29] (by decide +kernel) (by decide +kernel)
set_option maxRecDepth 20000 in
theorem gX7_targetOf_X7_be : GoodIn wsX7_targetOf (wsV RX7 94 RX7 yX7_be wsX7_be) := goodIn_app (goodIn_of _ (by decide +kernel)) ggX7_targetOf_X7_be
set_option maxRecDepth 20000 in
theorem ggX7_targetOf_X7_away : GoodIn wsX7_targetOf wsX7_away := goodIn_r _ [11, 12, 13, 14, 15, 16, 17, 18, 19, 20, 21, 22, 23, 24, 25, 26, 27, 28, 29] (by decide +kernel) (by decide +kernel)
set_option maxRecDepth 20000 in
theorem gX7_targetOf_X7_away : GoodIn wsX7_targetOf (wsV RX7 84 RX7 yX7_away wsX7_away) := goodIn_app (goodIn_of _ (by decide +kernel)) ggX7_targetOf_X7_away
theorem dX7_targetOf_0 : decode cX7_targetOf 0 = .ok (.iconst (-1), 1) := by decide +kernel
theorem dX7_targetOf_1 : decode cX7_targetOf 1 = .ok (.istore_n 3, 1) := by decide +kernel
theorem dX7_targetOf_2 : decode cX7_targetOf 2 = .ok (.iconst 0, 1) := by decide +kernel
theorem dX7_targetOf_3 : decode cX7_targetOf 3 = .ok (.istore 4, 2) := by decide +kernel
theorem dX7_targetOf_5 : decode cX7_targetOf 5 = .ok (.iload 4, 2) := by decide +kernel
theorem dX7_targetOf_7 : decode cX7_targetOf 7 = .ok (.aload_n 0, 1) := by decide +kernel
theorem dX7_targetOf_8 : decode cX7_targetOf 8 = .ok (.iload_n 1, 1) := by decide +kernel
theorem dX7_targetOf_9 : decode cX7_targetOf 9 = .ok (.iconst 5, 1) := by decide +kernel
theorem dX7_targetOf_10 : decode cX7_targetOf 10 = .ok (.invokevirtual 94, 3) := by decide +kernel
theorem dX7_targetOf_13 : decode cX7_targetOf 13 = .ok (.if_icmp .ge 53, 3) := by decide +kernel
theorem dX7_targetOf_16 : decode cX7_targetOf 16 = .ok (.aload_n 0, 1) := by decide +kernel
theorem dX7_targetOf_17 : decode cX7_targetOf 17 = .ok (.getfield 23, 3) := by decide +kernel
theorem dX7_targetOf_20 : decode cX7_targetOf 20 = .ok (.bipush 7, 2) := by decide +kernel
theorem dX7_targetOf_22 : decode cX7_targetOf 22 = .ok (.iload_n 1, 1) := by decide +kernel
theorem dX7_targetOf_23 : decode cX7_targetOf 23 = .ok (.imul, 1) := by decide +kernel
theorem dX7_targetOf_24 : decode cX7_targetOf 24 = .ok (.iload 4, 2) := by decide +kernel
theorem dX7_targetOf_26 : decode cX7_targetOf 26 = .ok (.iadd, 1) := by decide +kernel
theorem dX7_targetOf_27 : decode cX7_targetOf 27 = .ok (.iaload, 1) := by decide +kernel
theorem dX7_targetOf_28 : decode cX7_targetOf 28 = .ok (.istore 5, 2) := by decide +kernel
theorem dX7_targetOf_30 : decode cX7_targetOf 30 = .ok (.aload_n 0, 1) := by decide +kernel
theorem dX7_targetOf_31 : decode cX7_targetOf 31 = .ok (.iload 5, 2) := by decide +kernel
theorem dX7_targetOf_33 : decode cX7_targetOf 33 = .ok (.iload_n 2, 1) := by decide +kernel
theorem dX7_targetOf_34 : decode cX7_targetOf 34 = .ok (.invokevirtual 84, 3) := by decide +kernel
theorem dX7_targetOf_37 : decode cX7_targetOf 37 = .ok (.iload_n 3, 1) := by decide +kernel
theorem dX7_targetOf_38 : decode cX7_targetOf 38 = .ok (.iconst (-1), 1) := by decide +kernel
theorem dX7_targetOf_39 : decode cX7_targetOf 39 = .ok (.if_icmp .ne 9, 3) := by decide +kernel
theorem dX7_targetOf_42 : decode cX7_targetOf 42 = .ok (.sipush 9999, 3) := by decide +kernel
theorem dX7_targetOf_45 : decode cX7_targetOf 45 = .ok (.goto 9, 3) := by decide +kernel
theorem dX7_targetOf_48 : decode cX7_targetOf 48 = .ok (.aload_n 0, 1) := by decide +kernel
theorem dX7_targetOf_49 : decode cX7_targetOf 49 = .ok (.iload_n 3, 1) := by decide +kernel
theorem dX7_targetOf_50 : decode cX7_targetOf 50 = .ok (.iload_n 2, 1) := by decide +kernel
theorem dX7_targetOf_51 : decode cX7_targetOf 51 = .ok (.invokevirtual 84, 3) := by decide +kernel
theorem dX7_targetOf_54 : decode cX7_targetOf 54 = .ok (.if_icmp .ge 6, 3) := by decide +kernel
theorem dX7_targetOf_57 : decode cX7_targetOf 57 = .ok (.iload 5, 2) := by decide +kernel
theorem dX7_targetOf_59 : decode cX7_targetOf 59 = .ok (.istore_n 3, 1) := by decide +kernel
theorem dX7_targetOf_60 : decode cX7_targetOf 60 = .ok (.iinc 4 1, 3) := by decide +kernel
theorem dX7_targetOf_63 : decode cX7_targetOf 63 = .ok (.goto (-58), 3) := by decide +kernel
theorem dX7_targetOf_66 : decode cX7_targetOf 66 = .ok (.iload_n 3, 1) := by decide +kernel
theorem dX7_targetOf_67 : decode cX7_targetOf 67 = .ok (.ireturn, 1) := by decide +kernel
set_option maxRecDepth 20000 in
theorem ggX7_target_X7_isBee : GoodIn wsX7_target wsX7_isBee := goodIn_r _ [6, 7, 8, 9, 5, 10, 39, 40, 41, 42, 43, 44, 45, 46, 47, 48, 49, 50, 51] (by decide +kernel) (by decide +kernel)
set_option maxRecDepth 20000 in
theorem gX7_target_X7_isBee : GoodIn wsX7_target (wsV RX7 97 RX7 yX7_isBee wsX7_isBee) := goodIn_app (goodIn_of _ (by decide +kernel)) ggX7_target_X7_isBee
set_option maxRecDepth 20000 in
theorem ggX7_target_X7_isHouse : GoodIn wsX7_target wsX7_isHouse := goodIn_r _ [14, 15, 8, 9, 5, 10, 39, 40, 41, 42, 43, 44, 45, 46, 47, 48, 49, 50, 51] (by decide +kernel) (by decide +kernel)
set_option maxRecDepth 20000 in
theorem gX7_target_X7_isHouse : GoodIn wsX7_target (wsV RX7 62 RX7 yX7_isHouse wsX7_isHouse) := goodIn_app (goodIn_of _ (by decide +kernel)) ggX7_target_X7_isHouse
set_option maxRecDepth 20000 in
theorem ggX7_target_X7_targetOf : GoodIn wsX7_target wsX7_targetOf := goodIn_r _ [19, 20, 21, 22, 23, 5, 24, 25, 26, 27, 28, 29, 30, 31, 32, 33, 34, 39, 40, 41, 42, 43, 44, 45, 46, 47, 48, 49, 50, 51] (by decide +kernel) (by decide +kernel)
set_option maxRecDepth 20000 in
theorem gX7_target_X7_targetOf : GoodIn wsX7_target (wsV RX7 132 RX7 yX7_targetOf wsX7_targetOf) := goodIn_app (goodIn_of _ (by decide +kernel)) ggX7_target_X7_targetOf
set_option maxRecDepth 20000 in
theorem ggX7_target_X7_fail : GoodIn wsX7_target wsX7_fail := goodIn_r _ [38, 1, 39, 40, 41, 42, 43, 44, 45, 46, 47, 48, 49, 50, 51] (by decide +kernel) (by decide +kernel)
set_option maxRecDepth 20000 in
theorem gX7_target_X7_fail : GoodIn wsX7_target (wsV RX7 55 RX7 yX7_fail wsX7_fail) := goodIn_app (goodIn_of _ (by decide +kernel)) ggX7_target_X7_fail
theorem dX7_target_0 : decode cX7_target 0 = .ok (.aload_n 0, 1) := by decide +kernel
theorem dX7_target_1 : decode cX7_target 1 = .ok (.iconst 0, 1) := by decide +kernel
theorem dX7_target_2 : decode cX7_target 2 = .ok (.putfield 35, 3) := by decide +kernel
theorem dX7_target_5 : decode cX7_target 5 = .ok (.aload_n 0, 1) := by decide +kernel
theorem dX7_target_6 : decode cX7_target 6 = .ok (.iload_n 1, 1) := by decide +kernel
theorem dX7_target_7 : decode cX7_target 7 = .ok (.invokevirtual 97, 3) := by decide +kernel
theorem dX7_target_10 : decode cX7_target 10 = .ok (.ifCond .eq 20, 3) := by decide +kernel
theorem dX7_target_13 : decode cX7_target 13 = .ok (.aload_n 0, 1) := by decide +kernel
theorem dX7_target_14 : decode cX7_target 14 = .ok (.iload_n 2, 1) := by decide +kernel
theorem dX7_target_15 : decode cX7_target 15 = .ok (.invokevirtual 62, 3) := by decide +kernel
theorem dX7_target_18 : decode cX7_target 18 = .ok (.ifCond .eq 12, 3) := by decide +kernel
theorem dX7_target_21 : decode cX7_target 21 = .ok (.aload_n 0, 1) := by decide +kernel
theorem dX7_target_22 : decode cX7_target 22 = .ok (.iload_n 1, 1) := by decide +kernel
theorem dX7_target_23 : decode cX7_target 23 = .ok (.iload_n 2, 1) := by decide +kernel
theorem dX7_target_24 : decode cX7_target 24 = .ok (.invokevirtual 132, 3) := by decide +kernel
theorem dX7_target_27 : decode cX7_target 27 = .ok (.goto 8, 3) := by decide +kernel
theorem dX7_target_30 : decode cX7_target 30 = .ok (.aload_n 0, 1) := by decide +kernel
theorem dX7_target_31 : decode cX7_target 31 = .ok (.iconst 1, 1) := by decide +kernel
theorem dX7_target_32 : decode cX7_target 32 = .ok (.invokevirtual 55, 3) := by decide +kernel
theorem dX7_target_35 : decode cX7_target 35 = .ok (.ireturn, 1) := by decide +kernel
set_option maxRecDepth 20000 in
theorem ggX7_deal_X7_house : GoodIn wsX7_deal wsX7_house := goodIn_r _ [7, 8, 9, 10, 11, 6, 12, 13, 55, 56, 57, 58, 59, 60, 61, 62, 63, 64, 65, 66, 67] (by decide +kernel) (by decide +kernel)
set_option maxRecDepth 20000 in
theorem gX7_deal_X7_house : GoodIn wsX7_deal (wsV RX7 100 RX7 yX7_house wsX7_house) := goodIn_app (goodIn_of _ (by decide +kernel)) ggX7_deal_X7_house
set_option maxRecDepth 20000 in
theorem ggX7_deal_X7_le : GoodIn wsX7_deal wsX7_le := goodIn_r _ [17, 18, 55, 56, 57, 58, 59, 60, 61, 62, 63, 64, 65, 66, 67] (by decide +kernel) (by decide +kernel)
set_option maxRecDepth 20000 in
theorem gX7_deal_X7_le : GoodIn wsX7_deal (wsV RX7 110 RX7 yX7_le wsX7_le) := goodIn_app (goodIn_of _ (by decide +kernel)) ggX7_deal_X7_le
set_option maxRecDepth 20000 in
theorem ggX7_deal_X7_targetOf : GoodIn wsX7_deal wsX7_targetOf := goodIn_r _ [22, 8, 9, 10, 11, 6, 12, 13, 23, 24, 25, 26, 27, 28, 29, 30, 31, 55, 56, 57, 58, 59, 60, 61, 62, 63, 64, 65, 66, 67] (by decide +kernel) (by decide +kernel)
set_option maxRecDepth 20000 in
theorem gX7_deal_X7_targetOf : GoodIn wsX7_deal (wsV RX7 132 RX7 yX7_targetOf wsX7_targetOf) := goodIn_app (goodIn_of _ (by decide +kernel)) ggX7_deal_X7_targetOf
set_option maxRecDepth 20000 in
theorem ggX7_deal_X7_setLe : GoodIn wsX7_deal wsX7_setLe := goodIn_r _ [35, 18, 55, 56, 57, 58, 59, 60, 61, 62, 63, 64, 65, 66, 67] (by decide +kernel) (by decide +kernel)
set_option maxRecDepth 20000 in
theorem gX7_deal_X7_setLe : GoodIn wsX7_deal (wsV RX7 113 RX7 yX7_setLe wsX7_setLe) := goodIn_app (goodIn_of _ (by decide +kernel)) ggX7_deal_X7_setLe
set_option maxRecDepth 20000 in
theorem ggX7_deal_X7_honour : GoodIn wsX7_deal wsX7_honour := goodIn_r _ [39, 28, 29, 30, 31, 40, 41, 42, 9, 10, 11, 6, 12, 13, 43, 44, 45, 46, 55, 56, 57, 58, 59, 60, 61, 62, 63, 64, 65, 66, 67] (by decide +kernel) (by decide +kernel)
set_option maxRecDepth 20000 in
theorem gX7_deal_X7_honour : GoodIn wsX7_deal (wsV RX7 122 RX7 yX7_honour wsX7_honour) := goodIn_app (goodIn_of _ (by decide +kernel)) ggX7_deal_X7_honour
set_option maxRecDepth 20000 in
theorem ggX7_deal_X7_be : GoodIn wsX7_deal wsX7_be := goodIn_r _ [12, 13, 55, 56, 57, 58, 59, 60, 61, 62, 63, 64, 65, 66, 67] (by decide +kernel) (by decide +kernel)
set_option maxRecDepth 20000 in
theorem gX7_deal_X7_be : GoodIn wsX7_deal (wsV RX7 94 RX7 yX7_be wsX7_be) := goodIn_app (goodIn_of _ (by decide +kernel)) ggX7_deal_X7_be
set_option maxRecDepth 20000 in
theorem ggX7_deal_X7_setBe : GoodIn wsX7_deal wsX7_setBe := goodIn_r _ [46, 13, 55, 56, 57, 58, 59, 60, 61, 62, 63, 64, 65, 66, 67] (by decide +kernel) (by decide +kernel)
set_option maxRecDepth 20000 in
theorem gX7_deal_X7_setBe : GoodIn wsX7_deal (wsV RX7 103 RX7 yX7_setBe wsX7_setBe) := goodIn_app (goodIn_of _ (by decide +kernel)) ggX7_deal_X7_setBe
set_option maxRecDepth 20000 in
theorem ggX7_deal_X7_carries : GoodIn wsX7_deal wsX7_carries := goodIn_r _ [50, 1, 14, 15, 16, 6, 17, 18, 55, 56, 57, 58, 59, 60, 61, 62, 63, 64, 65, 66, 67] (by decide +kernel) (by decide +kernel)
set_option maxRecDepth 20000 in
theorem gX7_deal_X7_carries : GoodIn wsX7_deal (wsV RX7 119 RX7 yX7_carries wsX7_carries) := goodIn_app (goodIn_of _ (by decide +kernel)) ggX7_deal_X7_carries
set_option maxRecDepth 20000 in
theorem ggX7_deal_X7_away : GoodIn wsX7_deal wsX7_away := goodIn_r _ [26, 27, 28, 29, 30, 31, 55, 56, 57, 58, 59, 60, 61, 62, 63, 64, 65, 66, 67] (by decide +kernel) (by decide +kernel)
set_option maxRecDepth 20000 in
theorem gX7_deal_X7_away : GoodIn wsX7_deal (wsV RX7 84 RX7 yX7_away wsX7_away) := goodIn_app (goodIn_of _ (by decide +kernel)) ggX7_deal_X7_away
set_option maxRecDepth 20000 in
theorem ggX7_deal_X7_take : GoodIn wsX7_deal wsX7_take := goodIn_r _ [54, 32, 33, 34, 6, 35, 18, 14, 15, 16, 17, 55, 56, 57, 58, 59, 60, 61, 62, 63, 64, 65, 66, 67] (by decide +kernel) (by decide +kernel)
set_option maxRecDepth 20000 in
theorem gX7_deal_X7_take : GoodIn wsX7_deal (wsV RX7 126 RX7 yX7_take wsX7_take) := goodIn_app (goodIn_of _ (by decide +kernel)) ggX7_deal_X7_take
theorem dX7_deal_0 : decode cX7_deal 0 = .ok (.iconst 0, 1) := by decide +kernel
theorem dX7_deal_1 : decode cX7_deal 1 = .ok (.istore_n 2, 1) := by decide +kernel
theorem dX7_deal_2 : decode cX7_deal 2 = .ok (.aload_n 0, 1) := by decide +kernel
theorem dX7_deal_3 : decode cX7_deal 3 = .ok (.iload_n 1, 1) := by decide +kernel
theorem dX7_deal_4 : decode cX7_deal 4 = .ok (.invokevirtual 100, 3) := by decide +kernel
theorem dX7_deal_7 : decode cX7_deal 7 = .ok (.istore_n 3, 1) := by decide +kernel
theorem dX7_deal_8 : decode cX7_deal 8 = .ok (.iconst 0, 1) := by decide +kernel
theorem dX7_deal_9 : decode cX7_deal 9 = .ok (.istore 4, 2) := by decide +kernel
theorem dX7_deal_11 : decode cX7_deal 11 = .ok (.iload 4, 2) := by decide +kernel
theorem dX7_deal_13 : decode cX7_deal 13 = .ok (.aload_n 0, 1) := by decide +kernel
theorem dX7_deal_14 : decode cX7_deal 14 = .ok (.getfield 52, 3) := by decide +kernel
theorem dX7_deal_17 : decode cX7_deal 17 = .ok (.if_icmp .ge 111, 3) := by decide +kernel
theorem dX7_deal_20 : decode cX7_deal 20 = .ok (.aload_n 0, 1) := by decide +kernel
theorem dX7_deal_21 : decode cX7_deal 21 = .ok (.iload 4, 2) := by decide +kernel
theorem dX7_deal_23 : decode cX7_deal 23 = .ok (.iconst 2, 1) := by decide +kernel
theorem dX7_deal_24 : decode cX7_deal 24 = .ok (.invokevirtual 110, 3) := by decide +kernel
theorem dX7_deal_27 : decode cX7_deal 27 = .ok (.iload_n 1, 1) := by decide +kernel
theorem dX7_deal_28 : decode cX7_deal 28 = .ok (.if_icmp .eq 6, 3) := by decide +kernel
theorem dX7_deal_31 : decode cX7_deal 31 = .ok (.goto 91, 3) := by decide +kernel
theorem dX7_deal_34 : decode cX7_deal 34 = .ok (.aload_n 0, 1) := by decide +kernel
theorem dX7_deal_35 : decode cX7_deal 35 = .ok (.iload 4, 2) := by decide +kernel
theorem dX7_deal_37 : decode cX7_deal 37 = .ok (.iconst 0, 1) := by decide +kernel
theorem dX7_deal_38 : decode cX7_deal 38 = .ok (.invokevirtual 110, 3) := by decide +kernel
theorem dX7_deal_41 : decode cX7_deal 41 = .ok (.iload_n 3, 1) := by decide +kernel
theorem dX7_deal_42 : decode cX7_deal 42 = .ok (.if_icmp .ne 7, 3) := by decide +kernel
theorem dX7_deal_45 : decode cX7_deal 45 = .ok (.iconst 1, 1) := by decide +kernel
theorem dX7_deal_46 : decode cX7_deal 46 = .ok (.goto 4, 3) := by decide +kernel
theorem dX7_deal_49 : decode cX7_deal 49 = .ok (.iconst 0, 1) := by decide +kernel
theorem dX7_deal_50 : decode cX7_deal 50 = .ok (.istore 5, 2) := by decide +kernel
theorem dX7_deal_52 : decode cX7_deal 52 = .ok (.iload 5, 2) := by decide +kernel
theorem dX7_deal_54 : decode cX7_deal 54 = .ok (.ifCond .ne 22, 3) := by decide +kernel
theorem dX7_deal_57 : decode cX7_deal 57 = .ok (.aload_n 0, 1) := by decide +kernel
theorem dX7_deal_58 : decode cX7_deal 58 = .ok (.iload_n 1, 1) := by decide +kernel
theorem dX7_deal_59 : decode cX7_deal 59 = .ok (.aload_n 0, 1) := by decide +kernel
theorem dX7_deal_60 : decode cX7_deal 60 = .ok (.iload 4, 2) := by decide +kernel
theorem dX7_deal_62 : decode cX7_deal 62 = .ok (.iconst 0, 1) := by decide +kernel
theorem dX7_deal_63 : decode cX7_deal 63 = .ok (.invokevirtual 110, 3) := by decide +kernel
theorem dX7_deal_66 : decode cX7_deal 66 = .ok (.invokevirtual 132, 3) := by decide +kernel
theorem dX7_deal_69 : decode cX7_deal 69 = .ok (.iload_n 3, 1) := by decide +kernel
theorem dX7_deal_70 : decode cX7_deal 70 = .ok (.if_icmp .eq 6, 3) := by decide +kernel
theorem dX7_deal_73 : decode cX7_deal 73 = .ok (.goto 49, 3) := by decide +kernel
theorem dX7_deal_76 : decode cX7_deal 76 = .ok (.aload_n 0, 1) := by decide +kernel
theorem dX7_deal_77 : decode cX7_deal 77 = .ok (.iload 4, 2) := by decide +kernel
theorem dX7_deal_79 : decode cX7_deal 79 = .ok (.iconst 2, 1) := by decide +kernel
theorem dX7_deal_80 : decode cX7_deal 80 = .ok (.iconst (-1), 1) := by decide +kernel
theorem dX7_deal_81 : decode cX7_deal 81 = .ok (.invokevirtual 113, 3) := by decide +kernel
theorem dX7_deal_84 : decode cX7_deal 84 = .ok (.iload 5, 2) := by decide +kernel
theorem dX7_deal_86 : decode cX7_deal 86 = .ok (.ifCond .eq 28, 3) := by decide +kernel
theorem dX7_deal_89 : decode cX7_deal 89 = .ok (.aload_n 0, 1) := by decide +kernel
theorem dX7_deal_90 : decode cX7_deal 90 = .ok (.iload 4, 2) := by decide +kernel
theorem dX7_deal_92 : decode cX7_deal 92 = .ok (.iconst 3, 1) := by decide +kernel
theorem dX7_deal_93 : decode cX7_deal 93 = .ok (.aload_n 0, 1) := by decide +kernel
theorem dX7_deal_94 : decode cX7_deal 94 = .ok (.getfield 29, 3) := by decide +kernel
theorem dX7_deal_97 : decode cX7_deal 97 = .ok (.iconst 0, 1) := by decide +kernel
theorem dX7_deal_98 : decode cX7_deal 98 = .ok (.iaload, 1) := by decide +kernel
theorem dX7_deal_99 : decode cX7_deal 99 = .ok (.invokevirtual 113, 3) := by decide +kernel
theorem dX7_deal_102 : decode cX7_deal 102 = .ok (.iinc 2 1, 3) := by decide +kernel
theorem dX7_deal_105 : decode cX7_deal 105 = .ok (.aload_n 0, 1) := by decide +kernel
theorem dX7_deal_106 : decode cX7_deal 106 = .ok (.iload_n 1, 1) := by decide +kernel
theorem dX7_deal_107 : decode cX7_deal 107 = .ok (.iconst 1, 1) := by decide +kernel
theorem dX7_deal_108 : decode cX7_deal 108 = .ok (.invokevirtual 122, 3) := by decide +kernel
theorem dX7_deal_111 : decode cX7_deal 111 = .ok (.goto 11, 3) := by decide +kernel
theorem dX7_deal_114 : decode cX7_deal 114 = .ok (.aload_n 0, 1) := by decide +kernel
theorem dX7_deal_115 : decode cX7_deal 115 = .ok (.iload 4, 2) := by decide +kernel
theorem dX7_deal_117 : decode cX7_deal 117 = .ok (.iconst 1, 1) := by decide +kernel
theorem dX7_deal_118 : decode cX7_deal 118 = .ok (.iload_n 3, 1) := by decide +kernel
theorem dX7_deal_119 : decode cX7_deal 119 = .ok (.invokevirtual 113, 3) := by decide +kernel
theorem dX7_deal_122 : decode cX7_deal 122 = .ok (.iinc 4 1, 3) := by decide +kernel
theorem dX7_deal_125 : decode cX7_deal 125 = .ok (.goto (-114), 3) := by decide +kernel
theorem dX7_deal_128 : decode cX7_deal 128 = .ok (.aload_n 0, 1) := by decide +kernel
theorem dX7_deal_129 : decode cX7_deal 129 = .ok (.iload_n 1, 1) := by decide +kernel
theorem dX7_deal_130 : decode cX7_deal 130 = .ok (.bipush 6, 2) := by decide +kernel
theorem dX7_deal_132 : decode cX7_deal 132 = .ok (.aload_n 0, 1) := by decide +kernel
theorem dX7_deal_133 : decode cX7_deal 133 = .ok (.iload_n 1, 1) := by decide +kernel
theorem dX7_deal_134 : decode cX7_deal 134 = .ok (.bipush 6, 2) := by decide +kernel
theorem dX7_deal_136 : decode cX7_deal 136 = .ok (.invokevirtual 94, 3) := by decide +kernel
theorem dX7_deal_139 : decode cX7_deal 139 = .ok (.iload_n 2, 1) := by decide +kernel
theorem dX7_deal_140 : decode cX7_deal 140 = .ok (.iadd, 1) := by decide +kernel
theorem dX7_deal_141 : decode cX7_deal 141 = .ok (.invokevirtual 103, 3) := by decide +kernel
theorem dX7_deal_144 : decode cX7_deal 144 = .ok (.iconst 0, 1) := by decide +kernel
theorem dX7_deal_145 : decode cX7_deal 145 = .ok (.istore 4, 2) := by decide +kernel
theorem dX7_deal_147 : decode cX7_deal 147 = .ok (.iload 4, 2) := by decide +kernel
theorem dX7_deal_149 : decode cX7_deal 149 = .ok (.aload_n 0, 1) := by decide +kernel
theorem dX7_deal_150 : decode cX7_deal 150 = .ok (.getfield 52, 3) := by decide +kernel
theorem dX7_deal_153 : decode cX7_deal 153 = .ok (.if_icmp .ge 87, 3) := by decide +kernel
theorem dX7_deal_156 : decode cX7_deal 156 = .ok (.aload_n 0, 1) := by decide +kernel
theorem dX7_deal_157 : decode cX7_deal 157 = .ok (.iload 4, 2) := by decide +kernel
theorem dX7_deal_159 : decode cX7_deal 159 = .ok (.iconst 1, 1) := by decide +kernel
theorem dX7_deal_160 : decode cX7_deal 160 = .ok (.invokevirtual 110, 3) := by decide +kernel
theorem dX7_deal_163 : decode cX7_deal 163 = .ok (.iload_n 3, 1) := by decide +kernel
theorem dX7_deal_164 : decode cX7_deal 164 = .ok (.if_icmp .ne 70, 3) := by decide +kernel
theorem dX7_deal_167 : decode cX7_deal 167 = .ok (.aload_n 0, 1) := by decide +kernel
theorem dX7_deal_168 : decode cX7_deal 168 = .ok (.iload_n 1, 1) := by decide +kernel
theorem dX7_deal_169 : decode cX7_deal 169 = .ok (.invokevirtual 119, 3) := by decide +kernel
theorem dX7_deal_172 : decode cX7_deal 172 = .ok (.iconst 3, 1) := by decide +kernel
theorem dX7_deal_173 : decode cX7_deal 173 = .ok (.if_icmp .ne 6, 3) := by decide +kernel
theorem dX7_deal_176 : decode cX7_deal 176 = .ok (.goto 58, 3) := by decide +kernel
theorem dX7_deal_179 : decode cX7_deal 179 = .ok (.aload_n 0, 1) := by decide +kernel
theorem dX7_deal_180 : decode cX7_deal 180 = .ok (.iload_n 1, 1) := by decide +kernel
theorem dX7_deal_181 : decode cX7_deal 181 = .ok (.aload_n 0, 1) := by decide +kernel
theorem dX7_deal_182 : decode cX7_deal 182 = .ok (.iload 4, 2) := by decide +kernel
theorem dX7_deal_184 : decode cX7_deal 184 = .ok (.iconst 0, 1) := by decide +kernel
theorem dX7_deal_185 : decode cX7_deal 185 = .ok (.invokevirtual 110, 3) := by decide +kernel
theorem dX7_deal_188 : decode cX7_deal 188 = .ok (.invokevirtual 132, 3) := by decide +kernel
theorem dX7_deal_191 : decode cX7_deal 191 = .ok (.istore 5, 2) := by decide +kernel
theorem dX7_deal_193 : decode cX7_deal 193 = .ok (.iload 5, 2) := by decide +kernel
theorem dX7_deal_195 : decode cX7_deal 195 = .ok (.iconst (-1), 1) := by decide +kernel
theorem dX7_deal_196 : decode cX7_deal 196 = .ok (.if_icmp .eq 38, 3) := by decide +kernel
theorem dX7_deal_199 : decode cX7_deal 199 = .ok (.aload_n 0, 1) := by decide +kernel
theorem dX7_deal_200 : decode cX7_deal 200 = .ok (.iload 5, 2) := by decide +kernel
theorem dX7_deal_202 : decode cX7_deal 202 = .ok (.aload_n 0, 1) := by decide +kernel
theorem dX7_deal_203 : decode cX7_deal 203 = .ok (.iload 4, 2) := by decide +kernel
theorem dX7_deal_205 : decode cX7_deal 205 = .ok (.iconst 0, 1) := by decide +kernel
theorem dX7_deal_206 : decode cX7_deal 206 = .ok (.invokevirtual 110, 3) := by decide +kernel
theorem dX7_deal_209 : decode cX7_deal 209 = .ok (.invokevirtual 84, 3) := by decide +kernel
theorem dX7_deal_212 : decode cX7_deal 212 = .ok (.aload_n 0, 1) := by decide +kernel
theorem dX7_deal_213 : decode cX7_deal 213 = .ok (.iload_n 3, 1) := by decide +kernel
theorem dX7_deal_214 : decode cX7_deal 214 = .ok (.aload_n 0, 1) := by decide +kernel
theorem dX7_deal_215 : decode cX7_deal 215 = .ok (.iload 4, 2) := by decide +kernel
theorem dX7_deal_217 : decode cX7_deal 217 = .ok (.iconst 0, 1) := by decide +kernel
theorem dX7_deal_218 : decode cX7_deal 218 = .ok (.invokevirtual 110, 3) := by decide +kernel
theorem dX7_deal_221 : decode cX7_deal 221 = .ok (.invokevirtual 84, 3) := by decide +kernel
theorem dX7_deal_224 : decode cX7_deal 224 = .ok (.if_icmp .ge 10, 3) := by decide +kernel
theorem dX7_deal_227 : decode cX7_deal 227 = .ok (.aload_n 0, 1) := by decide +kernel
theorem dX7_deal_228 : decode cX7_deal 228 = .ok (.iload_n 1, 1) := by decide +kernel
theorem dX7_deal_229 : decode cX7_deal 229 = .ok (.iload 4, 2) := by decide +kernel
theorem dX7_deal_231 : decode cX7_deal 231 = .ok (.invokevirtual 126, 3) := by decide +kernel
theorem dX7_deal_234 : decode cX7_deal 234 = .ok (.iinc 4 1, 3) := by decide +kernel
theorem dX7_deal_237 : decode cX7_deal 237 = .ok (.goto (-90), 3) := by decide +kernel
theorem dX7_deal_240 : decode cX7_deal 240 = .ok (.iload_n 2, 1) := by decide +kernel
theorem dX7_deal_241 : decode cX7_deal 241 = .ok (.ireturn, 1) := by decide +kernel
set_option maxRecDepth 20000 in
theorem ggX7_isOpen_X7_ro : GoodIn wsX7_isOpen wsX7_ro := goodIn_r _ [6, 7, 11, 12, 13, 14, 15, 16, 17, 18, 19, 20, 21, 22, 23] (by decide +kernel) (by decide +kernel)
set_option maxRecDepth 20000 in
theorem gX7_isOpen_X7_ro : GoodIn wsX7_isOpen (wsV RX7 66 RX7 yX7_ro wsX7_ro) := goodIn_app (goodIn_of _ (by decide +kernel)) ggX7_isOpen_X7_ro
set_option maxRecDepth 20000 in
theorem ggX7_isOpen_X7_isIn : GoodIn wsX7_isOpen wsX7_isIn := goodIn_r _ [10] (by decide +kernel) (by decide +kernel)
set_option maxRecDepth 20000 in
theorem gX7_isOpen_X7_isIn : GoodIn wsX7_isOpen (va_wsS RX7 42 yX7_isIn wsX7_isIn) := goodIn_app (goodIn_of _ (by decide +kernel)) ggX7_isOpen_X7_isIn
theorem dX7_isOpen_0 : decode cX7_isOpen 0 = .ok (.aload_n 0, 1) := by decide +kernel
theorem dX7_isOpen_1 : decode cX7_isOpen 1 = .ok (.getfield 29, 3) := by decide +kernel
theorem dX7_isOpen_4 : decode cX7_isOpen 4 = .ok (.iconst 0, 1) := by decide +kernel
theorem dX7_isOpen_5 : decode cX7_isOpen 5 = .ok (.iaload, 1) := by decide +kernel
theorem dX7_isOpen_6 : decode cX7_isOpen 6 = .ok (.bipush 24, 2) := by decide +kernel
theorem dX7_isOpen_8 : decode cX7_isOpen 8 = .ok (.irem, 1) := by decide +kernel
theorem dX7_isOpen_9 : decode cX7_isOpen 9 = .ok (.aload_n 0, 1) := by decide +kernel
theorem dX7_isOpen_10 : decode cX7_isOpen 10 = .ok (.iload_n 1, 1) := by decide +kernel
theorem dX7_isOpen_11 : decode cX7_isOpen 11 = .ok (.iconst 3, 1) := by decide +kernel
theorem dX7_isOpen_12 : decode cX7_isOpen 12 = .ok (.invokevirtual 66, 3) := by decide +kernel
theorem dX7_isOpen_15 : decode cX7_isOpen 15 = .ok (.aload_n 0, 1) := by decide +kernel
theorem dX7_isOpen_16 : decode cX7_isOpen 16 = .ok (.iload_n 1, 1) := by decide +kernel
theorem dX7_isOpen_17 : decode cX7_isOpen 17 = .ok (.iconst 4, 1) := by decide +kernel
theorem dX7_isOpen_18 : decode cX7_isOpen 18 = .ok (.invokevirtual 66, 3) := by decide +kernel
theorem dX7_isOpen_21 : decode cX7_isOpen 21 = .ok (.iconst 1, 1) := by decide +kernel
theorem dX7_isOpen_22 : decode cX7_isOpen 22 = .ok (.isub, 1) := by decide +kernel
theorem dX7_isOpen_23 : decode cX7_isOpen 23 = .ok (.invokestatic 42, 3) := by decide +kernel
theorem dX7_isOpen_26 : decode cX7_isOpen 26 = .ok (.ireturn, 1) := by decide +kernel
set_option maxRecDepth 20000 in
theorem ggX7_strengthen_X7_be : GoodIn wsX7_strengthen wsX7_be := goodIn_r _ [9, 10, 15, 16, 17, 18, 19, 20, 21, 22, 23, 24, 25, 26, 27] (by decide +kernel) (by decide +kernel)
set_option maxRecDepth 20000 in
theorem gX7_strengthen_X7_be : GoodIn wsX7_strengthen (wsV RX7 94 RX7 yX7_be wsX7_be) := goodIn_app (goodIn_of _ (by decide +kernel)) ggX7_strengthen_X7_be
set_option maxRecDepth 20000 in
theorem ggX7_strengthen_X7_setBe : GoodIn wsX7_strengthen wsX7_setBe := goodIn_r _ [14, 10, 15, 16, 17, 18, 19, 20, 21, 22, 23, 24, 25, 26, 27] (by decide +kernel) (by decide +kernel)
set_option maxRecDepth 20000 in
theorem gX7_strengthen_X7_setBe : GoodIn wsX7_strengthen (wsV RX7 103 RX7 yX7_setBe wsX7_setBe) := goodIn_app (goodIn_of _ (by decide +kernel)) ggX7_strengthen_X7_setBe
theorem dX7_strengthen_0 : decode cX7_strengthen 0 = .ok (.aload_n 0, 1) := by decide +kernel
theorem dX7_strengthen_1 : decode cX7_strengthen 1 = .ok (.iload_n 1, 1) := by decide +kernel
theorem dX7_strengthen_2 : decode cX7_strengthen 2 = .ok (.iconst 2, 1) := by decide +kernel
theorem dX7_strengthen_3 : decode cX7_strengthen 3 = .ok (.bipush 30, 2) := by decide +kernel
theorem dX7_strengthen_5 : decode cX7_strengthen 5 = .ok (.aload_n 0, 1) := by decide +kernel
theorem dX7_strengthen_6 : decode cX7_strengthen 6 = .ok (.iload_n 1, 1) := by decide +kernel
theorem dX7_strengthen_7 : decode cX7_strengthen 7 = .ok (.iconst 2, 1) := by decide +kernel
theorem dX7_strengthen_8 : decode cX7_strengthen 8 = .ok (.invokevirtual 94, 3) := by decide +kernel
theorem dX7_strengthen_11 : decode cX7_strengthen 11 = .ok (.iload_n 2, 1) := by decide +kernel
theorem dX7_strengthen_12 : decode cX7_strengthen 12 = .ok (.iadd, 1) := by decide +kernel
theorem dX7_strengthen_13 : decode cX7_strengthen 13 = .ok (.invokestatic 70, 3) := by decide +kernel
theorem dX7_strengthen_16 : decode cX7_strengthen 16 = .ok (.invokevirtual 103, 3) := by decide +kernel
theorem dX7_strengthen_19 : decode cX7_strengthen 19 = .ok (.return_, 1) := by decide +kernel
set_option maxRecDepth 20000 in
theorem ggX7_fly_X7_be : GoodIn wsX7_fly wsX7_be := goodIn_r _ [7, 8, 43, 44, 45, 46, 47, 48, 49, 50, 51, 52, 53, 54, 55] (by decide +kernel) (by decide +kernel)
set_option maxRecDepth 20000 in
theorem gX7_fly_X7_be : GoodIn wsX7_fly (wsV RX7 94 RX7 yX7_be wsX7_be) := goodIn_app (goodIn_of _ (by decide +kernel)) ggX7_fly_X7_be
set_option maxRecDepth 20000 in
theorem ggX7_fly_X7_strengthen : GoodIn wsX7_fly wsX7_strengthen := goodIn_r _ [12, 13, 14, 15, 16, 3, 4, 5, 6, 7, 8, 17, 18, 19, 20, 43, 44, 45, 46, 47, 48, 49, 50, 51, 52, 53, 54, 55] (by decide +kernel) (by decide +kernel)
set_option maxRecDepth 20000 in
theorem gX7_fly_X7_strengthen : GoodIn wsX7_fly (wsV RX7 135 RX7 yX7_strengthen wsX7_strengthen) := goodIn_app (goodIn_of _ (by decide +kernel)) ggX7_fly_X7_strengthen
set_option maxRecDepth 20000 in
theorem ggX7_fly_X7_setBe : GoodIn wsX7_fly wsX7_setBe := goodIn_r _ [20, 8, 43, 44, 45, 46, 47, 48, 49, 50, 51, 52, 53, 54, 55] (by decide +kernel) (by decide +kernel)
set_option maxRecDepth 20000 in
theorem gX7_fly_X7_setBe : GoodIn wsX7_fly (wsV RX7 103 RX7 yX7_setBe wsX7_setBe) := goodIn_app (goodIn_of _ (by decide +kernel)) ggX7_fly_X7_setBe
set_option maxRecDepth 20000 in
theorem ggX7_fly_X7_house : GoodIn wsX7_fly wsX7_house := goodIn_r _ [24, 2, 3, 4, 5, 6, 7, 8, 43, 44, 45, 46, 47, 48, 49, 50, 51, 52, 53, 54, 55] (by decide +kernel) (by decide +kernel)
set_option maxRecDepth 20000 in
theorem gX7_fly_X7_house : GoodIn wsX7_fly (wsV RX7 100 RX7 yX7_house wsX7_house) := goodIn_app (goodIn_of _ (by decide +kernel)) ggX7_fly_X7_house
set_option maxRecDepth 20000 in
theorem ggX7_fly_X7_lane : GoodIn wsX7_fly wsX7_lane := goodIn_r _ [28, 29, 30, 31, 32, 6, 33, 34, 43, 44, 45, 46, 47, 48, 49, 50, 51, 52, 53, 54, 55] (by decide +kernel) (by decide +kernel)
set_option maxRecDepth 20000 in
theorem gX7_fly_X7_lane : GoodIn wsX7_fly (wsV RX7 88 RX7 yX7_lane wsX7_lane) := goodIn_app (goodIn_of _ (by decide +kernel)) ggX7_fly_X7_lane
set_option maxRecDepth 20000 in
theorem ggX7_fly_X7_isOpen : GoodIn wsX7_fly wsX7_isOpen := goodIn_r _ [38, 39, 30, 31, 32, 6, 33, 34, 40, 41, 42, 43, 44, 45, 46, 47, 48, 49, 50, 51, 52, 53, 54, 55] (by decide +kernel) (by decide +kernel)
set_option maxRecDepth 20000 in
theorem gX7_fly_X7_isOpen : GoodIn wsX7_fly (wsV RX7 138 RX7 yX7_isOpen wsX7_isOpen) := goodIn_app (goodIn_of _ (by decide +kernel)) ggX7_fly_X7_isOpen
set_option maxRecDepth 20000 in
theorem ggX7_fly_X7_ro : GoodIn wsX7_fly wsX7_ro := goodIn_r _ [33, 34, 43, 44, 45, 46, 47, 48, 49, 50, 51, 52, 53, 54, 55] (by decide +kernel) (by decide +kernel)
set_option maxRecDepth 20000 in
theorem gX7_fly_X7_ro : GoodIn wsX7_fly (wsV RX7 66 RX7 yX7_ro wsX7_ro) := goodIn_app (goodIn_of _ (by decide +kernel)) ggX7_fly_X7_ro
theorem dX7_fly_0 : decode cX7_fly 0 = .ok (.aload_n 0, 1) := by decide +kernel
theorem dX7_fly_1 : decode cX7_fly 1 = .ok (.iload_n 1, 1) := by decide +kernel
theorem dX7_fly_2 : decode cX7_fly 2 = .ok (.iconst 4, 1) := by decide +kernel
theorem dX7_fly_3 : decode cX7_fly 3 = .ok (.invokevirtual 94, 3) := by decide +kernel
theorem dX7_fly_6 : decode cX7_fly 6 = .ok (.iconst 1, 1) := by decide +kernel
theorem dX7_fly_7 : decode cX7_fly 7 = .ok (.if_icmp .ne 28, 3) := by decide +kernel
theorem dX7_fly_10 : decode cX7_fly 10 = .ok (.aload_n 0, 1) := by decide +kernel
theorem dX7_fly_11 : decode cX7_fly 11 = .ok (.iload_n 1, 1) := by decide +kernel
theorem dX7_fly_12 : decode cX7_fly 12 = .ok (.iconst 3, 1) := by decide +kernel
theorem dX7_fly_13 : decode cX7_fly 13 = .ok (.invokevirtual 135, 3) := by decide +kernel
theorem dX7_fly_16 : decode cX7_fly 16 = .ok (.aload_n 0, 1) := by decide +kernel
theorem dX7_fly_17 : decode cX7_fly 17 = .ok (.iload_n 1, 1) := by decide +kernel
theorem dX7_fly_18 : decode cX7_fly 18 = .ok (.iconst 2, 1) := by decide +kernel
theorem dX7_fly_19 : decode cX7_fly 19 = .ok (.invokevirtual 94, 3) := by decide +kernel
theorem dX7_fly_22 : decode cX7_fly 22 = .ok (.bipush 20, 2) := by decide +kernel
theorem dX7_fly_24 : decode cX7_fly 24 = .ok (.if_icmp .lt 10, 3) := by decide +kernel
theorem dX7_fly_27 : decode cX7_fly 27 = .ok (.aload_n 0, 1) := by decide +kernel
theorem dX7_fly_28 : decode cX7_fly 28 = .ok (.iload_n 1, 1) := by decide +kernel
theorem dX7_fly_29 : decode cX7_fly 29 = .ok (.iconst 4, 1) := by decide +kernel
theorem dX7_fly_30 : decode cX7_fly 30 = .ok (.iconst 0, 1) := by decide +kernel
theorem dX7_fly_31 : decode cX7_fly 31 = .ok (.invokevirtual 103, 3) := by decide +kernel
theorem dX7_fly_34 : decode cX7_fly 34 = .ok (.return_, 1) := by decide +kernel
theorem dX7_fly_35 : decode cX7_fly 35 = .ok (.aload_n 0, 1) := by decide +kernel
theorem dX7_fly_36 : decode cX7_fly 36 = .ok (.getfield 9, 3) := by decide +kernel
theorem dX7_fly_39 : decode cX7_fly 39 = .ok (.aload_n 0, 1) := by decide +kernel
theorem dX7_fly_40 : decode cX7_fly 40 = .ok (.iload_n 1, 1) := by decide +kernel
theorem dX7_fly_41 : decode cX7_fly 41 = .ok (.invokevirtual 100, 3) := by decide +kernel
theorem dX7_fly_44 : decode cX7_fly 44 = .ok (.baload, 1) := by decide +kernel
theorem dX7_fly_45 : decode cX7_fly 45 = .ok (.ifCond .eq 22, 3) := by decide +kernel
theorem dX7_fly_48 : decode cX7_fly 48 = .ok (.aload_n 0, 1) := by decide +kernel
theorem dX7_fly_49 : decode cX7_fly 49 = .ok (.iload_n 1, 1) := by decide +kernel
theorem dX7_fly_50 : decode cX7_fly 50 = .ok (.iconst 2, 1) := by decide +kernel
theorem dX7_fly_51 : decode cX7_fly 51 = .ok (.invokevirtual 94, 3) := by decide +kernel
theorem dX7_fly_54 : decode cX7_fly 54 = .ok (.bipush 10, 2) := by decide +kernel
theorem dX7_fly_56 : decode cX7_fly 56 = .ok (.if_icmp .ge 11, 3) := by decide +kernel
theorem dX7_fly_59 : decode cX7_fly 59 = .ok (.aload_n 0, 1) := by decide +kernel
theorem dX7_fly_60 : decode cX7_fly 60 = .ok (.iload_n 1, 1) := by decide +kernel
theorem dX7_fly_61 : decode cX7_fly 61 = .ok (.iconst 4, 1) := by decide +kernel
theorem dX7_fly_62 : decode cX7_fly 62 = .ok (.iconst 1, 1) := by decide +kernel
theorem dX7_fly_63 : decode cX7_fly 63 = .ok (.invokevirtual 103, 3) := by decide +kernel
theorem dX7_fly_66 : decode cX7_fly 66 = .ok (.return_, 1) := by decide +kernel
theorem dX7_fly_67 : decode cX7_fly 67 = .ok (.aload_n 0, 1) := by decide +kernel
theorem dX7_fly_68 : decode cX7_fly 68 = .ok (.iload_n 1, 1) := by decide +kernel
theorem dX7_fly_69 : decode cX7_fly 69 = .ok (.iconst 5, 1) := by decide +kernel
theorem dX7_fly_70 : decode cX7_fly 70 = .ok (.invokevirtual 94, 3) := by decide +kernel
theorem dX7_fly_73 : decode cX7_fly 73 = .ok (.iconst 1, 1) := by decide +kernel
theorem dX7_fly_74 : decode cX7_fly 74 = .ok (.if_icmp .ne 4, 3) := by decide +kernel
theorem dX7_fly_77 : decode cX7_fly 77 = .ok (.return_, 1) := by decide +kernel
theorem dX7_fly_78 : decode cX7_fly 78 = .ok (.aload_n 0, 1) := by decide +kernel
theorem dX7_fly_79 : decode cX7_fly 79 = .ok (.iload_n 1, 1) := by decide +kernel
theorem dX7_fly_80 : decode cX7_fly 80 = .ok (.iconst 0, 1) := by decide +kernel
theorem dX7_fly_81 : decode cX7_fly 81 = .ok (.invokevirtual 94, 3) := by decide +kernel
theorem dX7_fly_84 : decode cX7_fly 84 = .ok (.aload_n 0, 1) := by decide +kernel
theorem dX7_fly_85 : decode cX7_fly 85 = .ok (.iload_n 1, 1) := by decide +kernel
theorem dX7_fly_86 : decode cX7_fly 86 = .ok (.bipush 7, 2) := by decide +kernel
theorem dX7_fly_88 : decode cX7_fly 88 = .ok (.invokevirtual 94, 3) := by decide +kernel
theorem dX7_fly_91 : decode cX7_fly 91 = .ok (.iconst 1, 1) := by decide +kernel
theorem dX7_fly_92 : decode cX7_fly 92 = .ok (.if_icmp .ne 14, 3) := by decide +kernel
theorem dX7_fly_95 : decode cX7_fly 95 = .ok (.aload_n 0, 1) := by decide +kernel
theorem dX7_fly_96 : decode cX7_fly 96 = .ok (.iload_n 1, 1) := by decide +kernel
theorem dX7_fly_97 : decode cX7_fly 97 = .ok (.iconst 5, 1) := by decide +kernel
theorem dX7_fly_98 : decode cX7_fly 98 = .ok (.invokevirtual 94, 3) := by decide +kernel
theorem dX7_fly_101 : decode cX7_fly 101 = .ok (.iconst 1, 1) := by decide +kernel
theorem dX7_fly_102 : decode cX7_fly 102 = .ok (.isub, 1) := by decide +kernel
theorem dX7_fly_103 : decode cX7_fly 103 = .ok (.goto 4, 3) := by decide +kernel
theorem dX7_fly_106 : decode cX7_fly 106 = .ok (.iconst 0, 1) := by decide +kernel
theorem dX7_fly_107 : decode cX7_fly 107 = .ok (.if_icmp .ne 19, 3) := by decide +kernel
theorem dX7_fly_110 : decode cX7_fly 110 = .ok (.aload_n 0, 1) := by decide +kernel
theorem dX7_fly_111 : decode cX7_fly 111 = .ok (.iload_n 1, 1) := by decide +kernel
theorem dX7_fly_112 : decode cX7_fly 112 = .ok (.bipush 7, 2) := by decide +kernel
theorem dX7_fly_114 : decode cX7_fly 114 = .ok (.iconst 1, 1) := by decide +kernel
theorem dX7_fly_115 : decode cX7_fly 115 = .ok (.aload_n 0, 1) := by decide +kernel
theorem dX7_fly_116 : decode cX7_fly 116 = .ok (.iload_n 1, 1) := by decide +kernel
theorem dX7_fly_117 : decode cX7_fly 117 = .ok (.bipush 7, 2) := by decide +kernel
theorem dX7_fly_119 : decode cX7_fly 119 = .ok (.invokevirtual 94, 3) := by decide +kernel
theorem dX7_fly_122 : decode cX7_fly 122 = .ok (.isub, 1) := by decide +kernel
theorem dX7_fly_123 : decode cX7_fly 123 = .ok (.invokevirtual 103, 3) := by decide +kernel
theorem dX7_fly_126 : decode cX7_fly 126 = .ok (.aload_n 0, 1) := by decide +kernel
theorem dX7_fly_127 : decode cX7_fly 127 = .ok (.iload_n 1, 1) := by decide +kernel
theorem dX7_fly_128 : decode cX7_fly 128 = .ok (.iconst 0, 1) := by decide +kernel
theorem dX7_fly_129 : decode cX7_fly 129 = .ok (.invokevirtual 94, 3) := by decide +kernel
theorem dX7_fly_132 : decode cX7_fly 132 = .ok (.aload_n 0, 1) := by decide +kernel
theorem dX7_fly_133 : decode cX7_fly 133 = .ok (.iload_n 1, 1) := by decide +kernel
theorem dX7_fly_134 : decode cX7_fly 134 = .ok (.bipush 7, 2) := by decide +kernel
theorem dX7_fly_136 : decode cX7_fly 136 = .ok (.invokevirtual 94, 3) := by decide +kernel
theorem dX7_fly_139 : decode cX7_fly 139 = .ok (.iconst 1, 1) := by decide +kernel
theorem dX7_fly_140 : decode cX7_fly 140 = .ok (.if_icmp .ne 7, 3) := by decide +kernel
theorem dX7_fly_143 : decode cX7_fly 143 = .ok (.iconst 1, 1) := by decide +kernel
theorem dX7_fly_144 : decode cX7_fly 144 = .ok (.goto 4, 3) := by decide +kernel
theorem dX7_fly_147 : decode cX7_fly 147 = .ok (.iconst (-1), 1) := by decide +kernel
theorem dX7_fly_148 : decode cX7_fly 148 = .ok (.iadd, 1) := by decide +kernel
theorem dX7_fly_149 : decode cX7_fly 149 = .ok (.istore_n 2, 1) := by decide +kernel
theorem dX7_fly_150 : decode cX7_fly 150 = .ok (.aload_n 0, 1) := by decide +kernel
theorem dX7_fly_151 : decode cX7_fly 151 = .ok (.aload_n 0, 1) := by decide +kernel
theorem dX7_fly_152 : decode cX7_fly 152 = .ok (.iload_n 1, 1) := by decide +kernel
theorem dX7_fly_153 : decode cX7_fly 153 = .ok (.invokevirtual 100, 3) := by decide +kernel
theorem dX7_fly_156 : decode cX7_fly 156 = .ok (.aload_n 0, 1) := by decide +kernel
theorem dX7_fly_157 : decode cX7_fly 157 = .ok (.getfield 23, 3) := by decide +kernel
theorem dX7_fly_160 : decode cX7_fly 160 = .ok (.bipush 7, 2) := by decide +kernel
theorem dX7_fly_162 : decode cX7_fly 162 = .ok (.iload_n 1, 1) := by decide +kernel
theorem dX7_fly_163 : decode cX7_fly 163 = .ok (.imul, 1) := by decide +kernel
theorem dX7_fly_164 : decode cX7_fly 164 = .ok (.iload_n 2, 1) := by decide +kernel
theorem dX7_fly_165 : decode cX7_fly 165 = .ok (.iadd, 1) := by decide +kernel
theorem dX7_fly_166 : decode cX7_fly 166 = .ok (.iaload, 1) := by decide +kernel
theorem dX7_fly_167 : decode cX7_fly 167 = .ok (.invokevirtual 88, 3) := by decide +kernel
theorem dX7_fly_170 : decode cX7_fly 170 = .ok (.istore_n 3, 1) := by decide +kernel
theorem dX7_fly_171 : decode cX7_fly 171 = .ok (.aload_n 0, 1) := by decide +kernel
theorem dX7_fly_172 : decode cX7_fly 172 = .ok (.iload_n 3, 1) := by decide +kernel
theorem dX7_fly_173 : decode cX7_fly 173 = .ok (.invokevirtual 138, 3) := by decide +kernel
theorem dX7_fly_176 : decode cX7_fly 176 = .ok (.ifCond .eq 18, 3) := by decide +kernel
theorem dX7_fly_179 : decode cX7_fly 179 = .ok (.aload_n 0, 1) := by decide +kernel
theorem dX7_fly_180 : decode cX7_fly 180 = .ok (.iload_n 1, 1) := by decide +kernel
theorem dX7_fly_181 : decode cX7_fly 181 = .ok (.iconst 2, 1) := by decide +kernel
theorem dX7_fly_182 : decode cX7_fly 182 = .ok (.invokevirtual 94, 3) := by decide +kernel
theorem dX7_fly_185 : decode cX7_fly 185 = .ok (.aload_n 0, 1) := by decide +kernel
theorem dX7_fly_186 : decode cX7_fly 186 = .ok (.iload_n 3, 1) := by decide +kernel
theorem dX7_fly_187 : decode cX7_fly 187 = .ok (.iconst 2, 1) := by decide +kernel
theorem dX7_fly_188 : decode cX7_fly 188 = .ok (.invokevirtual 66, 3) := by decide +kernel
theorem dX7_fly_191 : decode cX7_fly 191 = .ok (.if_icmp .ge 10, 3) := by decide +kernel
theorem dX7_fly_194 : decode cX7_fly 194 = .ok (.aload_n 0, 1) := by decide +kernel
theorem dX7_fly_195 : decode cX7_fly 195 = .ok (.iload_n 1, 1) := by decide +kernel
theorem dX7_fly_196 : decode cX7_fly 196 = .ok (.iconst 1, 1) := by decide +kernel
theorem dX7_fly_197 : decode cX7_fly 197 = .ok (.invokevirtual 135, 3) := by decide +kernel
theorem dX7_fly_200 : decode cX7_fly 200 = .ok (.return_, 1) := by decide +kernel
theorem dX7_fly_201 : decode cX7_fly 201 = .ok (.aload_n 0, 1) := by decide +kernel
theorem dX7_fly_202 : decode cX7_fly 202 = .ok (.iload_n 1, 1) := by decide +kernel
theorem dX7_fly_203 : decode cX7_fly 203 = .ok (.iconst 0, 1) := by decide +kernel
theorem dX7_fly_204 : decode cX7_fly 204 = .ok (.iload_n 2, 1) := by decide +kernel
theorem dX7_fly_205 : decode cX7_fly 205 = .ok (.invokevirtual 103, 3) := by decide +kernel
theorem dX7_fly_208 : decode cX7_fly 208 = .ok (.aload_n 0, 1) := by decide +kernel
theorem dX7_fly_209 : decode cX7_fly 209 = .ok (.iload_n 1, 1) := by decide +kernel
theorem dX7_fly_210 : decode cX7_fly 210 = .ok (.iconst 1, 1) := by decide +kernel
theorem dX7_fly_211 : decode cX7_fly 211 = .ok (.aload_n 0, 1) := by decide +kernel
theorem dX7_fly_212 : decode cX7_fly 212 = .ok (.iload_n 3, 1) := by decide +kernel
theorem dX7_fly_213 : decode cX7_fly 213 = .ok (.iconst 2, 1) := by decide +kernel
theorem dX7_fly_214 : decode cX7_fly 214 = .ok (.invokevirtual 66, 3) := by decide +kernel
theorem dX7_fly_217 : decode cX7_fly 217 = .ok (.invokevirtual 103, 3) := by decide +kernel
theorem dX7_fly_220 : decode cX7_fly 220 = .ok (.aload_n 0, 1) := by decide +kernel
theorem dX7_fly_221 : decode cX7_fly 221 = .ok (.iload_n 1, 1) := by decide +kernel
theorem dX7_fly_222 : decode cX7_fly 222 = .ok (.aload_n 0, 1) := by decide +kernel
theorem dX7_fly_223 : decode cX7_fly 223 = .ok (.iload_n 3, 1) := by decide +kernel
theorem dX7_fly_224 : decode cX7_fly 224 = .ok (.iconst 2, 1) := by decide +kernel
theorem dX7_fly_225 : decode cX7_fly 225 = .ok (.invokevirtual 66, 3) := by decide +kernel
theorem dX7_fly_228 : decode cX7_fly 228 = .ok (.ineg, 1) := by decide +kernel
theorem dX7_fly_229 : decode cX7_fly 229 = .ok (.invokevirtual 135, 3) := by decide +kernel
theorem dX7_fly_232 : decode cX7_fly 232 = .ok (.return_, 1) := by decide +kernel
set_option maxRecDepth 20000 in
theorem ggX7_quarterOn_X7_be : GoodIn wsX7_quarterOn wsX7_be := goodIn_r _ [7, 8, 86, 87, 88, 89, 90, 91, 92, 93, 94, 95, 96, 97, 98] (by decide +kernel) (by decide +kernel)
set_option maxRecDepth 20000 in
theorem gX7_quarterOn_X7_be : GoodIn wsX7_quarterOn (wsV RX7 94 RX7 yX7_be wsX7_be) := goodIn_app (goodIn_of _ (by decide +kernel)) ggX7_quarterOn_X7_be
set_option maxRecDepth 20000 in
theorem ggX7_quarterOn_X7_setBe : GoodIn wsX7_quarterOn wsX7_setBe := goodIn_r _ [12, 8, 86, 87, 88, 89, 90, 91, 92, 93, 94, 95, 96, 97, 98] (by decide +kernel) (by decide +kernel)
