theorem dX7_isIn_6 : decode cX7_isIn 6 = .ok (.iload_n 2, 1) := by decide +kernel
theorem dX7_isIn_7 : decode cX7_isIn 7 = .ok (.if_icmp .gt 7, 3) := by decide +kernel
theorem dX7_isIn_10 : decode cX7_isIn 10 = .ok (.iconst 1, 1) := by decide +kernel
theorem dX7_isIn_11 : decode cX7_isIn 11 = .ok (.goto 4, 3) := by decide +kernel
theorem dX7_isIn_14 : decode cX7_isIn 14 = .ok (.iconst 0, 1) := by decide +kernel
theorem dX7_isIn_15 : decode cX7_isIn 15 = .ok (.ireturn, 1) := by decide +kernel
set_option maxRecDepth 20000 in
theorem ggX7_isHouse_X7_isIn : GoodIn wsX7_isHouse wsX7_isIn := goodIn_r _ [5] (by decide +kernel) (by decide +kernel)
set_option maxRecDepth 20000 in
theorem gX7_isHouse_X7_isIn : GoodIn wsX7_isHouse (va_wsS RX7 42 yX7_isIn wsX7_isIn) := goodIn_app (goodIn_of _ (by decide +kernel)) ggX7_isHouse_X7_isIn
theorem dX7_isHouse_0 : decode cX7_isHouse 0 = .ok (.iload_n 1, 1) := by decide +kernel
theorem dX7_isHouse_1 : decode cX7_isHouse 1 = .ok (.iconst 0, 1) := by decide +kernel
theorem dX7_isHouse_2 : decode cX7_isHouse 2 = .ok (.aload_n 0, 1) := by decide +kernel
theorem dX7_isHouse_3 : decode cX7_isHouse 3 = .ok (.getfield 39, 3) := by decide +kernel
theorem dX7_isHouse_6 : decode cX7_isHouse 6 = .ok (.iconst 1, 1) := by decide +kernel
theorem dX7_isHouse_7 : decode cX7_isHouse 7 = .ok (.isub, 1) := by decide +kernel
theorem dX7_isHouse_8 : decode cX7_isHouse 8 = .ok (.invokestatic 42, 3) := by decide +kernel
theorem dX7_isHouse_11 : decode cX7_isHouse 11 = .ok (.ireturn, 1) := by decide +kernel
set_option maxRecDepth 20000 in
theorem ggX7_isLane_X7_isIn : GoodIn wsX7_isLane wsX7_isIn := goodIn_r _ [5] (by decide +kernel) (by decide +kernel)
set_option maxRecDepth 20000 in
theorem gX7_isLane_X7_isIn : GoodIn wsX7_isLane (va_wsS RX7 42 yX7_isIn wsX7_isIn) := goodIn_app (goodIn_of _ (by decide +kernel)) ggX7_isLane_X7_isIn
theorem dX7_isLane_0 : decode cX7_isLane 0 = .ok (.iload_n 1, 1) := by decide +kernel
theorem dX7_isLane_1 : decode cX7_isLane 1 = .ok (.iconst 0, 1) := by decide +kernel
theorem dX7_isLane_2 : decode cX7_isLane 2 = .ok (.aload_n 0, 1) := by decide +kernel
theorem dX7_isLane_3 : decode cX7_isLane 3 = .ok (.getfield 46, 3) := by decide +kernel
theorem dX7_isLane_6 : decode cX7_isLane 6 = .ok (.iconst 1, 1) := by decide +kernel
theorem dX7_isLane_7 : decode cX7_isLane 7 = .ok (.isub, 1) := by decide +kernel
theorem dX7_isLane_8 : decode cX7_isLane 8 = .ok (.invokestatic 42, 3) := by decide +kernel
theorem dX7_isLane_11 : decode cX7_isLane 11 = .ok (.ireturn, 1) := by decide +kernel
set_option maxRecDepth 20000 in
theorem ggX7_isBee_X7_isIn : GoodIn wsX7_isBee wsX7_isIn := goodIn_r _ [5] (by decide +kernel) (by decide +kernel)
set_option maxRecDepth 20000 in
theorem gX7_isBee_X7_isIn : GoodIn wsX7_isBee (va_wsS RX7 42 yX7_isIn wsX7_isIn) := goodIn_app (goodIn_of _ (by decide +kernel)) ggX7_isBee_X7_isIn
theorem dX7_isBee_0 : decode cX7_isBee 0 = .ok (.iload_n 1, 1) := by decide +kernel
theorem dX7_isBee_1 : decode cX7_isBee 1 = .ok (.iconst 0, 1) := by decide +kernel
theorem dX7_isBee_2 : decode cX7_isBee 2 = .ok (.aload_n 0, 1) := by decide +kernel
theorem dX7_isBee_3 : decode cX7_isBee 3 = .ok (.getfield 49, 3) := by decide +kernel
theorem dX7_isBee_6 : decode cX7_isBee 6 = .ok (.iconst 1, 1) := by decide +kernel
theorem dX7_isBee_7 : decode cX7_isBee 7 = .ok (.isub, 1) := by decide +kernel
theorem dX7_isBee_8 : decode cX7_isBee 8 = .ok (.invokestatic 42, 3) := by decide +kernel
theorem dX7_isBee_11 : decode cX7_isBee 11 = .ok (.ireturn, 1) := by decide +kernel
set_option maxRecDepth 20000 in
theorem ggX7_isLetter_X7_isIn : GoodIn wsX7_isLetter wsX7_isIn := goodIn_r _ [5] (by decide +kernel) (by decide +kernel)
set_option maxRecDepth 20000 in
theorem gX7_isLetter_X7_isIn : GoodIn wsX7_isLetter (va_wsS RX7 42 yX7_isIn wsX7_isIn) := goodIn_app (goodIn_of _ (by decide +kernel)) ggX7_isLetter_X7_isIn
theorem dX7_isLetter_0 : decode cX7_isLetter 0 = .ok (.iload_n 1, 1) := by decide +kernel
theorem dX7_isLetter_1 : decode cX7_isLetter 1 = .ok (.iconst 0, 1) := by decide +kernel
theorem dX7_isLetter_2 : decode cX7_isLetter 2 = .ok (.aload_n 0, 1) := by decide +kernel
theorem dX7_isLetter_3 : decode cX7_isLetter 3 = .ok (.getfield 52, 3) := by decide +kernel
theorem dX7_isLetter_6 : decode cX7_isLetter 6 = .ok (.iconst 1, 1) := by decide +kernel
theorem dX7_isLetter_7 : decode cX7_isLetter 7 = .ok (.isub, 1) := by decide +kernel
theorem dX7_isLetter_8 : decode cX7_isLetter 8 = .ok (.invokestatic 42, 3) := by decide +kernel
theorem dX7_isLetter_11 : decode cX7_isLetter 11 = .ok (.ireturn, 1) := by decide +kernel
theorem dX7_ro_0 : decode cX7_ro 0 = .ok (.aload_n 0, 1) := by decide +kernel
theorem dX7_ro_1 : decode cX7_ro 1 = .ok (.getfield 13, 3) := by decide +kernel
theorem dX7_ro_4 : decode cX7_ro 4 = .ok (.iconst 5, 1) := by decide +kernel
theorem dX7_ro_5 : decode cX7_ro 5 = .ok (.iload_n 1, 1) := by decide +kernel
theorem dX7_ro_6 : decode cX7_ro 6 = .ok (.imul, 1) := by decide +kernel
theorem dX7_ro_7 : decode cX7_ro 7 = .ok (.iload_n 2, 1) := by decide +kernel
theorem dX7_ro_8 : decode cX7_ro 8 = .ok (.iadd, 1) := by decide +kernel
theorem dX7_ro_9 : decode cX7_ro 9 = .ok (.iaload, 1) := by decide +kernel
theorem dX7_ro_10 : decode cX7_ro 10 = .ok (.ireturn, 1) := by decide +kernel
theorem dX7_be_0 : decode cX7_be 0 = .ok (.aload_n 0, 1) := by decide +kernel
theorem dX7_be_1 : decode cX7_be 1 = .ok (.getfield 20, 3) := by decide +kernel
theorem dX7_be_4 : decode cX7_be 4 = .ok (.bipush 8, 2) := by decide +kernel
theorem dX7_be_6 : decode cX7_be 6 = .ok (.iload_n 1, 1) := by decide +kernel
theorem dX7_be_7 : decode cX7_be 7 = .ok (.imul, 1) := by decide +kernel
theorem dX7_be_8 : decode cX7_be 8 = .ok (.iload_n 2, 1) := by decide +kernel
theorem dX7_be_9 : decode cX7_be 9 = .ok (.iadd, 1) := by decide +kernel
theorem dX7_be_10 : decode cX7_be 10 = .ok (.iaload, 1) := by decide +kernel
theorem dX7_be_11 : decode cX7_be 11 = .ok (.ireturn, 1) := by decide +kernel
theorem dX7_setBe_0 : decode cX7_setBe 0 = .ok (.aload_n 0, 1) := by decide +kernel
theorem dX7_setBe_1 : decode cX7_setBe 1 = .ok (.getfield 20, 3) := by decide +kernel
theorem dX7_setBe_4 : decode cX7_setBe 4 = .ok (.bipush 8, 2) := by decide +kernel
theorem dX7_setBe_6 : decode cX7_setBe 6 = .ok (.iload_n 1, 1) := by decide +kernel
theorem dX7_setBe_7 : decode cX7_setBe 7 = .ok (.imul, 1) := by decide +kernel
theorem dX7_setBe_8 : decode cX7_setBe 8 = .ok (.iload_n 2, 1) := by decide +kernel
theorem dX7_setBe_9 : decode cX7_setBe 9 = .ok (.iadd, 1) := by decide +kernel
theorem dX7_setBe_10 : decode cX7_setBe 10 = .ok (.iload_n 3, 1) := by decide +kernel
theorem dX7_setBe_11 : decode cX7_setBe 11 = .ok (.iastore, 1) := by decide +kernel
theorem dX7_setBe_12 : decode cX7_setBe 12 = .ok (.return_, 1) := by decide +kernel
theorem dX7_le_0 : decode cX7_le 0 = .ok (.aload_n 0, 1) := by decide +kernel
theorem dX7_le_1 : decode cX7_le 1 = .ok (.getfield 26, 3) := by decide +kernel
theorem dX7_le_4 : decode cX7_le 4 = .ok (.iconst 5, 1) := by decide +kernel
theorem dX7_le_5 : decode cX7_le 5 = .ok (.iload_n 1, 1) := by decide +kernel
theorem dX7_le_6 : decode cX7_le 6 = .ok (.imul, 1) := by decide +kernel
theorem dX7_le_7 : decode cX7_le 7 = .ok (.iload_n 2, 1) := by decide +kernel
theorem dX7_le_8 : decode cX7_le 8 = .ok (.iadd, 1) := by decide +kernel
theorem dX7_le_9 : decode cX7_le 9 = .ok (.iaload, 1) := by decide +kernel
theorem dX7_le_10 : decode cX7_le 10 = .ok (.ireturn, 1) := by decide +kernel
theorem dX7_setLe_0 : decode cX7_setLe 0 = .ok (.aload_n 0, 1) := by decide +kernel
theorem dX7_setLe_1 : decode cX7_setLe 1 = .ok (.getfield 26, 3) := by decide +kernel
theorem dX7_setLe_4 : decode cX7_setLe 4 = .ok (.iconst 5, 1) := by decide +kernel
theorem dX7_setLe_5 : decode cX7_setLe 5 = .ok (.iload_n 1, 1) := by decide +kernel
theorem dX7_setLe_6 : decode cX7_setLe 6 = .ok (.imul, 1) := by decide +kernel
theorem dX7_setLe_7 : decode cX7_setLe 7 = .ok (.iload_n 2, 1) := by decide +kernel
theorem dX7_setLe_8 : decode cX7_setLe 8 = .ok (.iadd, 1) := by decide +kernel
theorem dX7_setLe_9 : decode cX7_setLe 9 = .ok (.iload_n 3, 1) := by decide +kernel
theorem dX7_setLe_10 : decode cX7_setLe 10 = .ok (.iastore, 1) := by decide +kernel
theorem dX7_setLe_11 : decode cX7_setLe 11 = .ok (.return_, 1) := by decide +kernel
set_option maxRecDepth 20000 in
theorem ggX7_addHouse_X7_fail : GoodIn wsX7_addHouse wsX7_fail := goodIn_r _ [7, 1, 23, 24, 25, 26, 27, 28, 29, 30, 31, 32, 33, 34, 35] (by decide +kernel) (by decide +kernel)
set_option maxRecDepth 20000 in
theorem gX7_addHouse_X7_fail : GoodIn wsX7_addHouse (wsV RX7 55 RX7 yX7_fail wsX7_fail) := goodIn_app (goodIn_of _ (by decide +kernel)) ggX7_addHouse_X7_fail
set_option maxRecDepth 20000 in
theorem ggX7_addHouse_X7_reckon : GoodIn wsX7_addHouse wsX7_reckon := goodIn_r _ [11, 2, 12, 13, 14, 15, 16, 17, 18, 19, 20, 6, 21, 22, 23, 24, 25, 26, 27, 28, 29, 30, 31, 32, 33, 34, 35] (by decide +kernel) (by decide +kernel)
set_option maxRecDepth 20000 in
theorem gX7_addHouse_X7_reckon : GoodIn wsX7_addHouse (wsV RX7 59 RX7 yX7_reckon wsX7_reckon) := goodIn_app (goodIn_of _ (by decide +kernel)) ggX7_addHouse_X7_reckon
theorem dX7_addHouse_0 : decode cX7_addHouse 0 = .ok (.aload_n 0, 1) := by decide +kernel
theorem dX7_addHouse_1 : decode cX7_addHouse 1 = .ok (.iconst 0, 1) := by decide +kernel
theorem dX7_addHouse_2 : decode cX7_addHouse 2 = .ok (.putfield 35, 3) := by decide +kernel
theorem dX7_addHouse_5 : decode cX7_addHouse 5 = .ok (.aload_n 0, 1) := by decide +kernel
theorem dX7_addHouse_6 : decode cX7_addHouse 6 = .ok (.getfield 39, 3) := by decide +kernel
theorem dX7_addHouse_9 : decode cX7_addHouse 9 = .ok (.bipush 14, 2) := by decide +kernel
theorem dX7_addHouse_11 : decode cX7_addHouse 11 = .ok (.if_icmp .ne 9, 3) := by decide +kernel
theorem dX7_addHouse_14 : decode cX7_addHouse 14 = .ok (.aload_n 0, 1) := by decide +kernel
theorem dX7_addHouse_15 : decode cX7_addHouse 15 = .ok (.iconst 1, 1) := by decide +kernel
theorem dX7_addHouse_16 : decode cX7_addHouse 16 = .ok (.invokevirtual 55, 3) := by decide +kernel
theorem dX7_addHouse_19 : decode cX7_addHouse 19 = .ok (.ireturn, 1) := by decide +kernel
theorem dX7_addHouse_20 : decode cX7_addHouse 20 = .ok (.aload_n 0, 1) := by decide +kernel
theorem dX7_addHouse_21 : decode cX7_addHouse 21 = .ok (.dup, 1) := by decide +kernel
theorem dX7_addHouse_22 : decode cX7_addHouse 22 = .ok (.getfield 39, 3) := by decide +kernel
theorem dX7_addHouse_25 : decode cX7_addHouse 25 = .ok (.iconst 1, 1) := by decide +kernel
theorem dX7_addHouse_26 : decode cX7_addHouse 26 = .ok (.iadd, 1) := by decide +kernel
theorem dX7_addHouse_27 : decode cX7_addHouse 27 = .ok (.putfield 39, 3) := by decide +kernel
theorem dX7_addHouse_30 : decode cX7_addHouse 30 = .ok (.aload_n 0, 1) := by decide +kernel
theorem dX7_addHouse_31 : decode cX7_addHouse 31 = .ok (.invokevirtual 59, 3) := by decide +kernel
theorem dX7_addHouse_34 : decode cX7_addHouse 34 = .ok (.aload_n 0, 1) := by decide +kernel
theorem dX7_addHouse_35 : decode cX7_addHouse 35 = .ok (.getfield 39, 3) := by decide +kernel
theorem dX7_addHouse_38 : decode cX7_addHouse 38 = .ok (.iconst 1, 1) := by decide +kernel
theorem dX7_addHouse_39 : decode cX7_addHouse 39 = .ok (.isub, 1) := by decide +kernel
theorem dX7_addHouse_40 : decode cX7_addHouse 40 = .ok (.ireturn, 1) := by decide +kernel
set_option maxRecDepth 20000 in
theorem ggX7_setHive_X7_isHouse : GoodIn wsX7_setHive wsX7_isHouse := goodIn_r _ [7, 8, 9, 10, 6, 11, 12, 13, 14, 15, 16, 17, 18, 19, 20, 21, 22, 23, 24] (by decide +kernel) (by decide +kernel)
set_option maxRecDepth 20000 in
theorem gX7_setHive_X7_isHouse : GoodIn wsX7_setHive (wsV RX7 62 RX7 yX7_isHouse wsX7_isHouse) := goodIn_app (goodIn_of _ (by decide +kernel)) ggX7_setHive_X7_isHouse
theorem dX7_setHive_0 : decode cX7_setHive 0 = .ok (.aload_n 0, 1) := by decide +kernel
theorem dX7_setHive_1 : decode cX7_setHive 1 = .ok (.aload_n 0, 1) := by decide +kernel
theorem dX7_setHive_2 : decode cX7_setHive 2 = .ok (.iload_n 1, 1) := by decide +kernel
theorem dX7_setHive_3 : decode cX7_setHive 3 = .ok (.invokevirtual 62, 3) := by decide +kernel
theorem dX7_setHive_6 : decode cX7_setHive 6 = .ok (.ifCond .eq 7, 3) := by decide +kernel
theorem dX7_setHive_9 : decode cX7_setHive 9 = .ok (.iconst 0, 1) := by decide +kernel
theorem dX7_setHive_10 : decode cX7_setHive 10 = .ok (.goto 4, 3) := by decide +kernel
theorem dX7_setHive_13 : decode cX7_setHive 13 = .ok (.iconst 1, 1) := by decide +kernel
theorem dX7_setHive_14 : decode cX7_setHive 14 = .ok (.putfield 35, 3) := by decide +kernel
theorem dX7_setHive_17 : decode cX7_setHive 17 = .ok (.aload_n 0, 1) := by decide +kernel
theorem dX7_setHive_18 : decode cX7_setHive 18 = .ok (.getfield 35, 3) := by decide +kernel
theorem dX7_setHive_21 : decode cX7_setHive 21 = .ok (.ifCond .eq 5, 3) := by decide +kernel
theorem dX7_setHive_24 : decode cX7_setHive 24 = .ok (.iconst 0, 1) := by decide +kernel
theorem dX7_setHive_25 : decode cX7_setHive 25 = .ok (.ireturn, 1) := by decide +kernel
theorem dX7_setHive_26 : decode cX7_setHive 26 = .ok (.aload_n 0, 1) := by decide +kernel
theorem dX7_setHive_27 : decode cX7_setHive 27 = .ok (.getfield 9, 3) := by decide +kernel
theorem dX7_setHive_30 : decode cX7_setHive 30 = .ok (.iload_n 1, 1) := by decide +kernel
theorem dX7_setHive_31 : decode cX7_setHive 31 = .ok (.baload, 1) := by decide +kernel
theorem dX7_setHive_32 : decode cX7_setHive 32 = .ok (.istore_n 3, 1) := by decide +kernel
theorem dX7_setHive_33 : decode cX7_setHive 33 = .ok (.aload_n 0, 1) := by decide +kernel
theorem dX7_setHive_34 : decode cX7_setHive 34 = .ok (.getfield 9, 3) := by decide +kernel
theorem dX7_setHive_37 : decode cX7_setHive 37 = .ok (.iload_n 1, 1) := by decide +kernel
theorem dX7_setHive_38 : decode cX7_setHive 38 = .ok (.iload_n 2, 1) := by decide +kernel
theorem dX7_setHive_39 : decode cX7_setHive 39 = .ok (.bastore, 1) := by decide +kernel
theorem dX7_setHive_40 : decode cX7_setHive 40 = .ok (.iload_n 3, 1) := by decide +kernel
theorem dX7_setHive_41 : decode cX7_setHive 41 = .ok (.ireturn, 1) := by decide +kernel
set_option maxRecDepth 20000 in
theorem ggX7_reckon_X7_ro : GoodIn wsX7_reckon wsX7_ro := goodIn_r _ [12, 13, 14, 15, 16, 17, 18, 19, 20, 21, 22, 23, 24, 25, 26] (by decide +kernel) (by decide +kernel)
set_option maxRecDepth 20000 in
theorem gX7_reckon_X7_ro : GoodIn wsX7_reckon (wsV RX7 66 RX7 yX7_ro wsX7_ro) := goodIn_app (goodIn_of _ (by decide +kernel)) ggX7_reckon_X7_ro
theorem dX7_reckon_0 : decode cX7_reckon 0 = .ok (.iconst 0, 1) := by decide +kernel
theorem dX7_reckon_1 : decode cX7_reckon 1 = .ok (.istore_n 1, 1) := by decide +kernel
theorem dX7_reckon_2 : decode cX7_reckon 2 = .ok (.iload_n 1, 1) := by decide +kernel
theorem dX7_reckon_3 : decode cX7_reckon 3 = .ok (.aload_n 0, 1) := by decide +kernel
theorem dX7_reckon_4 : decode cX7_reckon 4 = .ok (.getfield 39, 3) := by decide +kernel
theorem dX7_reckon_7 : decode cX7_reckon 7 = .ok (.if_icmp .ge 48, 3) := by decide +kernel
theorem dX7_reckon_10 : decode cX7_reckon 10 = .ok (.iconst 0, 1) := by decide +kernel
theorem dX7_reckon_11 : decode cX7_reckon 11 = .ok (.istore_n 2, 1) := by decide +kernel
theorem dX7_reckon_12 : decode cX7_reckon 12 = .ok (.iload_n 2, 1) := by decide +kernel
theorem dX7_reckon_13 : decode cX7_reckon 13 = .ok (.aload_n 0, 1) := by decide +kernel
theorem dX7_reckon_14 : decode cX7_reckon 14 = .ok (.getfield 39, 3) := by decide +kernel
theorem dX7_reckon_17 : decode cX7_reckon 17 = .ok (.if_icmp .ge 32, 3) := by decide +kernel
theorem dX7_reckon_20 : decode cX7_reckon 20 = .ok (.aload_n 0, 1) := by decide +kernel
theorem dX7_reckon_21 : decode cX7_reckon 21 = .ok (.getfield 17, 3) := by decide +kernel
theorem dX7_reckon_24 : decode cX7_reckon 24 = .ok (.bipush 14, 2) := by decide +kernel
theorem dX7_reckon_26 : decode cX7_reckon 26 = .ok (.iload_n 1, 1) := by decide +kernel
theorem dX7_reckon_27 : decode cX7_reckon 27 = .ok (.imul, 1) := by decide +kernel
theorem dX7_reckon_28 : decode cX7_reckon 28 = .ok (.iload_n 2, 1) := by decide +kernel
theorem dX7_reckon_29 : decode cX7_reckon 29 = .ok (.iadd, 1) := by decide +kernel
theorem dX7_reckon_30 : decode cX7_reckon 30 = .ok (.iload_n 1, 1) := by decide +kernel
theorem dX7_reckon_31 : decode cX7_reckon 31 = .ok (.iload_n 2, 1) := by decide +kernel
theorem dX7_reckon_32 : decode cX7_reckon 32 = .ok (.if_icmp .ne 7, 3) := by decide +kernel
theorem dX7_reckon_35 : decode cX7_reckon 35 = .ok (.iconst 0, 1) := by decide +kernel
theorem dX7_reckon_36 : decode cX7_reckon 36 = .ok (.goto 6, 3) := by decide +kernel
theorem dX7_reckon_39 : decode cX7_reckon 39 = .ok (.sipush 9999, 3) := by decide +kernel
theorem dX7_reckon_42 : decode cX7_reckon 42 = .ok (.iastore, 1) := by decide +kernel
theorem dX7_reckon_43 : decode cX7_reckon 43 = .ok (.iinc 2 1, 3) := by decide +kernel
theorem dX7_reckon_46 : decode cX7_reckon 46 = .ok (.goto (-34), 3) := by decide +kernel
theorem dX7_reckon_49 : decode cX7_reckon 49 = .ok (.iinc 1 1, 3) := by decide +kernel
theorem dX7_reckon_52 : decode cX7_reckon 52 = .ok (.goto (-50), 3) := by decide +kernel
theorem dX7_reckon_55 : decode cX7_reckon 55 = .ok (.iconst 0, 1) := by decide +kernel
theorem dX7_reckon_56 : decode cX7_reckon 56 = .ok (.istore_n 1, 1) := by decide +kernel
theorem dX7_reckon_57 : decode cX7_reckon 57 = .ok (.iload_n 1, 1) := by decide +kernel
theorem dX7_reckon_58 : decode cX7_reckon 58 = .ok (.aload_n 0, 1) := by decide +kernel
theorem dX7_reckon_59 : decode cX7_reckon 59 = .ok (.getfield 46, 3) := by decide +kernel
theorem dX7_reckon_62 : decode cX7_reckon 62 = .ok (.if_icmp .ge 84, 3) := by decide +kernel
theorem dX7_reckon_65 : decode cX7_reckon 65 = .ok (.aload_n 0, 1) := by decide +kernel
theorem dX7_reckon_66 : decode cX7_reckon 66 = .ok (.iload_n 1, 1) := by decide +kernel
theorem dX7_reckon_67 : decode cX7_reckon 67 = .ok (.iconst 2, 1) := by decide +kernel
theorem dX7_reckon_68 : decode cX7_reckon 68 = .ok (.invokevirtual 66, 3) := by decide +kernel
theorem dX7_reckon_71 : decode cX7_reckon 71 = .ok (.aload_n 0, 1) := by decide +kernel
theorem dX7_reckon_72 : decode cX7_reckon 72 = .ok (.getfield 17, 3) := by decide +kernel
theorem dX7_reckon_75 : decode cX7_reckon 75 = .ok (.bipush 14, 2) := by decide +kernel
theorem dX7_reckon_77 : decode cX7_reckon 77 = .ok (.aload_n 0, 1) := by decide +kernel
theorem dX7_reckon_78 : decode cX7_reckon 78 = .ok (.iload_n 1, 1) := by decide +kernel
theorem dX7_reckon_79 : decode cX7_reckon 79 = .ok (.iconst 0, 1) := by decide +kernel
theorem dX7_reckon_80 : decode cX7_reckon 80 = .ok (.invokevirtual 66, 3) := by decide +kernel
theorem dX7_reckon_83 : decode cX7_reckon 83 = .ok (.imul, 1) := by decide +kernel
theorem dX7_reckon_84 : decode cX7_reckon 84 = .ok (.aload_n 0, 1) := by decide +kernel
theorem dX7_reckon_85 : decode cX7_reckon 85 = .ok (.iload_n 1, 1) := by decide +kernel
theorem dX7_reckon_86 : decode cX7_reckon 86 = .ok (.iconst 1, 1) := by decide +kernel
theorem dX7_reckon_87 : decode cX7_reckon 87 = .ok (.invokevirtual 66, 3) := by decide +kernel
theorem dX7_reckon_90 : decode cX7_reckon 90 = .ok (.iadd, 1) := by decide +kernel
theorem dX7_reckon_91 : decode cX7_reckon 91 = .ok (.iaload, 1) := by decide +kernel
theorem dX7_reckon_92 : decode cX7_reckon 92 = .ok (.invokestatic 70, 3) := by decide +kernel
theorem dX7_reckon_95 : decode cX7_reckon 95 = .ok (.istore_n 2, 1) := by decide +kernel
theorem dX7_reckon_96 : decode cX7_reckon 96 = .ok (.aload_n 0, 1) := by decide +kernel
theorem dX7_reckon_97 : decode cX7_reckon 97 = .ok (.getfield 17, 3) := by decide +kernel
theorem dX7_reckon_100 : decode cX7_reckon 100 = .ok (.bipush 14, 2) := by decide +kernel
theorem dX7_reckon_102 : decode cX7_reckon 102 = .ok (.aload_n 0, 1) := by decide +kernel
theorem dX7_reckon_103 : decode cX7_reckon 103 = .ok (.iload_n 1, 1) := by decide +kernel
theorem dX7_reckon_104 : decode cX7_reckon 104 = .ok (.iconst 0, 1) := by decide +kernel
theorem dX7_reckon_105 : decode cX7_reckon 105 = .ok (.invokevirtual 66, 3) := by decide +kernel
theorem dX7_reckon_108 : decode cX7_reckon 108 = .ok (.imul, 1) := by decide +kernel
theorem dX7_reckon_109 : decode cX7_reckon 109 = .ok (.aload_n 0, 1) := by decide +kernel
theorem dX7_reckon_110 : decode cX7_reckon 110 = .ok (.iload_n 1, 1) := by decide +kernel
theorem dX7_reckon_111 : decode cX7_reckon 111 = .ok (.iconst 1, 1) := by decide +kernel
theorem dX7_reckon_112 : decode cX7_reckon 112 = .ok (.invokevirtual 66, 3) := by decide +kernel
theorem dX7_reckon_115 : decode cX7_reckon 115 = .ok (.iadd, 1) := by decide +kernel
theorem dX7_reckon_116 : decode cX7_reckon 116 = .ok (.iload_n 2, 1) := by decide +kernel
theorem dX7_reckon_117 : decode cX7_reckon 117 = .ok (.iastore, 1) := by decide +kernel
theorem dX7_reckon_118 : decode cX7_reckon 118 = .ok (.aload_n 0, 1) := by decide +kernel
theorem dX7_reckon_119 : decode cX7_reckon 119 = .ok (.getfield 17, 3) := by decide +kernel
theorem dX7_reckon_122 : decode cX7_reckon 122 = .ok (.bipush 14, 2) := by decide +kernel
theorem dX7_reckon_124 : decode cX7_reckon 124 = .ok (.aload_n 0, 1) := by decide +kernel
theorem dX7_reckon_125 : decode cX7_reckon 125 = .ok (.iload_n 1, 1) := by decide +kernel
theorem dX7_reckon_126 : decode cX7_reckon 126 = .ok (.iconst 1, 1) := by decide +kernel
theorem dX7_reckon_127 : decode cX7_reckon 127 = .ok (.invokevirtual 66, 3) := by decide +kernel
theorem dX7_reckon_130 : decode cX7_reckon 130 = .ok (.imul, 1) := by decide +kernel
theorem dX7_reckon_131 : decode cX7_reckon 131 = .ok (.aload_n 0, 1) := by decide +kernel
theorem dX7_reckon_132 : decode cX7_reckon 132 = .ok (.iload_n 1, 1) := by decide +kernel
theorem dX7_reckon_133 : decode cX7_reckon 133 = .ok (.iconst 0, 1) := by decide +kernel
theorem dX7_reckon_134 : decode cX7_reckon 134 = .ok (.invokevirtual 66, 3) := by decide +kernel
theorem dX7_reckon_137 : decode cX7_reckon 137 = .ok (.iadd, 1) := by decide +kernel
theorem dX7_reckon_138 : decode cX7_reckon 138 = .ok (.iload_n 2, 1) := by decide +kernel
theorem dX7_reckon_139 : decode cX7_reckon 139 = .ok (.iastore, 1) := by decide +kernel
theorem dX7_reckon_140 : decode cX7_reckon 140 = .ok (.iinc 1 1, 3) := by decide +kernel
theorem dX7_reckon_143 : decode cX7_reckon 143 = .ok (.goto (-86), 3) := by decide +kernel
theorem dX7_reckon_146 : decode cX7_reckon 146 = .ok (.iconst 0, 1) := by decide +kernel
theorem dX7_reckon_147 : decode cX7_reckon 147 = .ok (.istore_n 1, 1) := by decide +kernel
theorem dX7_reckon_148 : decode cX7_reckon 148 = .ok (.iload_n 1, 1) := by decide +kernel
theorem dX7_reckon_149 : decode cX7_reckon 149 = .ok (.aload_n 0, 1) := by decide +kernel
theorem dX7_reckon_150 : decode cX7_reckon 150 = .ok (.getfield 39, 3) := by decide +kernel
theorem dX7_reckon_153 : decode cX7_reckon 153 = .ok (.if_icmp .ge 89, 3) := by decide +kernel
theorem dX7_reckon_156 : decode cX7_reckon 156 = .ok (.iconst 0, 1) := by decide +kernel
theorem dX7_reckon_157 : decode cX7_reckon 157 = .ok (.istore_n 2, 1) := by decide +kernel
theorem dX7_reckon_158 : decode cX7_reckon 158 = .ok (.iload_n 2, 1) := by decide +kernel
theorem dX7_reckon_159 : decode cX7_reckon 159 = .ok (.aload_n 0, 1) := by decide +kernel
theorem dX7_reckon_160 : decode cX7_reckon 160 = .ok (.getfield 39, 3) := by decide +kernel
theorem dX7_reckon_163 : decode cX7_reckon 163 = .ok (.if_icmp .ge 73, 3) := by decide +kernel
theorem dX7_reckon_166 : decode cX7_reckon 166 = .ok (.iconst 0, 1) := by decide +kernel
theorem dX7_reckon_167 : decode cX7_reckon 167 = .ok (.istore_n 3, 1) := by decide +kernel
theorem dX7_reckon_168 : decode cX7_reckon 168 = .ok (.iload_n 3, 1) := by decide +kernel
theorem dX7_reckon_169 : decode cX7_reckon 169 = .ok (.aload_n 0, 1) := by decide +kernel
theorem dX7_reckon_170 : decode cX7_reckon 170 = .ok (.getfield 39, 3) := by decide +kernel
theorem dX7_reckon_173 : decode cX7_reckon 173 = .ok (.if_icmp .ge 57, 3) := by decide +kernel
theorem dX7_reckon_176 : decode cX7_reckon 176 = .ok (.aload_n 0, 1) := by decide +kernel
theorem dX7_reckon_177 : decode cX7_reckon 177 = .ok (.getfield 17, 3) := by decide +kernel
theorem dX7_reckon_180 : decode cX7_reckon 180 = .ok (.bipush 14, 2) := by decide +kernel
theorem dX7_reckon_182 : decode cX7_reckon 182 = .ok (.iload_n 2, 1) := by decide +kernel
theorem dX7_reckon_183 : decode cX7_reckon 183 = .ok (.imul, 1) := by decide +kernel
theorem dX7_reckon_184 : decode cX7_reckon 184 = .ok (.iload_n 3, 1) := by decide +kernel
theorem dX7_reckon_185 : decode cX7_reckon 185 = .ok (.iadd, 1) := by decide +kernel
theorem dX7_reckon_186 : decode cX7_reckon 186 = .ok (.aload_n 0, 1) := by decide +kernel
theorem dX7_reckon_187 : decode cX7_reckon 187 = .ok (.getfield 17, 3) := by decide +kernel
theorem dX7_reckon_190 : decode cX7_reckon 190 = .ok (.bipush 14, 2) := by decide +kernel
theorem dX7_reckon_192 : decode cX7_reckon 192 = .ok (.iload_n 2, 1) := by decide +kernel
theorem dX7_reckon_193 : decode cX7_reckon 193 = .ok (.imul, 1) := by decide +kernel
theorem dX7_reckon_194 : decode cX7_reckon 194 = .ok (.iload_n 3, 1) := by decide +kernel
theorem dX7_reckon_195 : decode cX7_reckon 195 = .ok (.iadd, 1) := by decide +kernel
theorem dX7_reckon_196 : decode cX7_reckon 196 = .ok (.iaload, 1) := by decide +kernel
theorem dX7_reckon_197 : decode cX7_reckon 197 = .ok (.aload_n 0, 1) := by decide +kernel
theorem dX7_reckon_198 : decode cX7_reckon 198 = .ok (.getfield 17, 3) := by decide +kernel
theorem dX7_reckon_201 : decode cX7_reckon 201 = .ok (.bipush 14, 2) := by decide +kernel
theorem dX7_reckon_203 : decode cX7_reckon 203 = .ok (.iload_n 2, 1) := by decide +kernel
theorem dX7_reckon_204 : decode cX7_reckon 204 = .ok (.imul, 1) := by decide +kernel
theorem dX7_reckon_205 : decode cX7_reckon 205 = .ok (.iload_n 1, 1) := by decide +kernel
theorem dX7_reckon_206 : decode cX7_reckon 206 = .ok (.iadd, 1) := by decide +kernel
theorem dX7_reckon_207 : decode cX7_reckon 207 = .ok (.iaload, 1) := by decide +kernel
theorem dX7_reckon_208 : decode cX7_reckon 208 = .ok (.aload_n 0, 1) := by decide +kernel
theorem dX7_reckon_209 : decode cX7_reckon 209 = .ok (.getfield 17, 3) := by decide +kernel
theorem dX7_reckon_212 : decode cX7_reckon 212 = .ok (.bipush 14, 2) := by decide +kernel
theorem dX7_reckon_214 : decode cX7_reckon 214 = .ok (.iload_n 1, 1) := by decide +kernel
theorem dX7_reckon_215 : decode cX7_reckon 215 = .ok (.imul, 1) := by decide +kernel
theorem dX7_reckon_216 : decode cX7_reckon 216 = .ok (.iload_n 3, 1) := by decide +kernel
theorem dX7_reckon_217 : decode cX7_reckon 217 = .ok (.iadd, 1) := by decide +kernel
theorem dX7_reckon_218 : decode cX7_reckon 218 = .ok (.iaload, 1) := by decide +kernel
theorem dX7_reckon_219 : decode cX7_reckon 219 = .ok (.iadd, 1) := by decide +kernel
theorem dX7_reckon_220 : decode cX7_reckon 220 = .ok (.invokestatic 70, 3) := by decide +kernel
theorem dX7_reckon_223 : decode cX7_reckon 223 = .ok (.iastore, 1) := by decide +kernel
theorem dX7_reckon_224 : decode cX7_reckon 224 = .ok (.iinc 3 1, 3) := by decide +kernel
theorem dX7_reckon_227 : decode cX7_reckon 227 = .ok (.goto (-59), 3) := by decide +kernel
theorem dX7_reckon_230 : decode cX7_reckon 230 = .ok (.iinc 2 1, 3) := by decide +kernel
theorem dX7_reckon_233 : decode cX7_reckon 233 = .ok (.goto (-75), 3) := by decide +kernel
theorem dX7_reckon_236 : decode cX7_reckon 236 = .ok (.iinc 1 1, 3) := by decide +kernel
theorem dX7_reckon_239 : decode cX7_reckon 239 = .ok (.goto (-91), 3) := by decide +kernel
theorem dX7_reckon_242 : decode cX7_reckon 242 = .ok (.return_, 1) := by decide +kernel
set_option maxRecDepth 20000 in
theorem ggX7_addLane_X7_isHouse : GoodIn wsX7_addLane wsX7_isHouse := goodIn_r _ [14, 15, 16, 17, 13, 18, 36, 37, 38, 39, 40, 41, 42, 43, 44, 45, 46, 47, 48] (by decide +kernel) (by decide +kernel)
set_option maxRecDepth 20000 in
theorem gX7_addLane_X7_isHouse : GoodIn wsX7_addLane (wsV RX7 62 RX7 yX7_isHouse wsX7_isHouse) := goodIn_app (goodIn_of _ (by decide +kernel)) ggX7_addLane_X7_isHouse
set_option maxRecDepth 20000 in
theorem ggX7_addLane_X7_fail : GoodIn wsX7_addLane wsX7_fail := goodIn_r _ [22, 1, 36, 37, 38, 39, 40, 41, 42, 43, 44, 45, 46, 47, 48] (by decide +kernel) (by decide +kernel)
set_option maxRecDepth 20000 in
theorem gX7_addLane_X7_fail : GoodIn wsX7_addLane (wsV RX7 55 RX7 yX7_fail wsX7_fail) := goodIn_app (goodIn_of _ (by decide +kernel)) ggX7_addLane_X7_fail
set_option maxRecDepth 20000 in
theorem ggX7_addLane_X7_isIn : GoodIn wsX7_addLane wsX7_isIn := goodIn_r _ [18] (by decide +kernel) (by decide +kernel)
set_option maxRecDepth 20000 in
theorem gX7_addLane_X7_isIn : GoodIn wsX7_addLane (va_wsS RX7 42 yX7_isIn wsX7_isIn) := goodIn_app (goodIn_of _ (by decide +kernel)) ggX7_addLane_X7_isIn
set_option maxRecDepth 20000 in
theorem ggX7_addLane_X7_reckon : GoodIn wsX7_addLane wsX7_reckon := goodIn_r _ [26, 15, 27, 2, 28, 29, 30, 31, 32, 33, 34, 13, 35, 5, 36, 37, 38, 39, 40, 41, 42, 43, 44, 45, 46, 47, 48] (by decide +kernel) (by decide +kernel)
set_option maxRecDepth 20000 in
theorem gX7_addLane_X7_reckon : GoodIn wsX7_addLane (wsV RX7 59 RX7 yX7_reckon wsX7_reckon) := goodIn_app (goodIn_of _ (by decide +kernel)) ggX7_addLane_X7_reckon
theorem dX7_addLane_0 : decode cX7_addLane 0 = .ok (.aload_n 0, 1) := by decide +kernel
theorem dX7_addLane_1 : decode cX7_addLane 1 = .ok (.iconst 0, 1) := by decide +kernel
theorem dX7_addLane_2 : decode cX7_addLane 2 = .ok (.putfield 35, 3) := by decide +kernel
theorem dX7_addLane_5 : decode cX7_addLane 5 = .ok (.aload_n 0, 1) := by decide +kernel
theorem dX7_addLane_6 : decode cX7_addLane 6 = .ok (.iload_n 1, 1) := by decide +kernel
theorem dX7_addLane_7 : decode cX7_addLane 7 = .ok (.invokevirtual 62, 3) := by decide +kernel
theorem dX7_addLane_10 : decode cX7_addLane 10 = .ok (.ifCond .eq 11, 3) := by decide +kernel
theorem dX7_addLane_13 : decode cX7_addLane 13 = .ok (.aload_n 0, 1) := by decide +kernel
theorem dX7_addLane_14 : decode cX7_addLane 14 = .ok (.iload_n 2, 1) := by decide +kernel
theorem dX7_addLane_15 : decode cX7_addLane 15 = .ok (.invokevirtual 62, 3) := by decide +kernel
theorem dX7_addLane_18 : decode cX7_addLane 18 = .ok (.ifCond .ne 9, 3) := by decide +kernel
theorem dX7_addLane_21 : decode cX7_addLane 21 = .ok (.aload_n 0, 1) := by decide +kernel
theorem dX7_addLane_22 : decode cX7_addLane 22 = .ok (.iconst 1, 1) := by decide +kernel
theorem dX7_addLane_23 : decode cX7_addLane 23 = .ok (.invokevirtual 55, 3) := by decide +kernel
theorem dX7_addLane_26 : decode cX7_addLane 26 = .ok (.ireturn, 1) := by decide +kernel
theorem dX7_addLane_27 : decode cX7_addLane 27 = .ok (.iload_n 1, 1) := by decide +kernel
theorem dX7_addLane_28 : decode cX7_addLane 28 = .ok (.iload_n 2, 1) := by decide +kernel
theorem dX7_addLane_29 : decode cX7_addLane 29 = .ok (.if_icmp .eq 13, 3) := by decide +kernel
theorem dX7_addLane_32 : decode cX7_addLane 32 = .ok (.iload_n 3, 1) := by decide +kernel
theorem dX7_addLane_33 : decode cX7_addLane 33 = .ok (.iconst 1, 1) := by decide +kernel
theorem dX7_addLane_34 : decode cX7_addLane 34 = .ok (.bipush 6, 2) := by decide +kernel
theorem dX7_addLane_36 : decode cX7_addLane 36 = .ok (.invokestatic 42, 3) := by decide +kernel
theorem dX7_addLane_39 : decode cX7_addLane 39 = .ok (.ifCond .ne 9, 3) := by decide +kernel
theorem dX7_addLane_42 : decode cX7_addLane 42 = .ok (.aload_n 0, 1) := by decide +kernel
theorem dX7_addLane_43 : decode cX7_addLane 43 = .ok (.iconst 2, 1) := by decide +kernel
theorem dX7_addLane_44 : decode cX7_addLane 44 = .ok (.invokevirtual 55, 3) := by decide +kernel
theorem dX7_addLane_47 : decode cX7_addLane 47 = .ok (.ireturn, 1) := by decide +kernel
theorem dX7_addLane_48 : decode cX7_addLane 48 = .ok (.aload_n 0, 1) := by decide +kernel
theorem dX7_addLane_49 : decode cX7_addLane 49 = .ok (.getfield 46, 3) := by decide +kernel
theorem dX7_addLane_52 : decode cX7_addLane 52 = .ok (.bipush 24, 2) := by decide +kernel
theorem dX7_addLane_54 : decode cX7_addLane 54 = .ok (.if_icmp .eq 10, 3) := by decide +kernel
theorem dX7_addLane_57 : decode cX7_addLane 57 = .ok (.aload_n 0, 1) := by decide +kernel
theorem dX7_addLane_58 : decode cX7_addLane 58 = .ok (.getfield 49, 3) := by decide +kernel
theorem dX7_addLane_61 : decode cX7_addLane 61 = .ok (.ifCond .le 9, 3) := by decide +kernel
theorem dX7_addLane_64 : decode cX7_addLane 64 = .ok (.aload_n 0, 1) := by decide +kernel
theorem dX7_addLane_65 : decode cX7_addLane 65 = .ok (.iconst 3, 1) := by decide +kernel
theorem dX7_addLane_66 : decode cX7_addLane 66 = .ok (.invokevirtual 55, 3) := by decide +kernel
theorem dX7_addLane_69 : decode cX7_addLane 69 = .ok (.ireturn, 1) := by decide +kernel
theorem dX7_addLane_70 : decode cX7_addLane 70 = .ok (.iconst 5, 1) := by decide +kernel
theorem dX7_addLane_71 : decode cX7_addLane 71 = .ok (.newarray .int, 2) := by decide +kernel
theorem dX7_addLane_73 : decode cX7_addLane 73 = .ok (.dup, 1) := by decide +kernel
theorem dX7_addLane_74 : decode cX7_addLane 74 = .ok (.iconst 0, 1) := by decide +kernel
theorem dX7_addLane_75 : decode cX7_addLane 75 = .ok (.iload_n 1, 1) := by decide +kernel
theorem dX7_addLane_76 : decode cX7_addLane 76 = .ok (.iastore, 1) := by decide +kernel
theorem dX7_addLane_77 : decode cX7_addLane 77 = .ok (.dup, 1) := by decide +kernel
theorem dX7_addLane_78 : decode cX7_addLane 78 = .ok (.iconst 1, 1) := by decide +kernel
theorem dX7_addLane_79 : decode cX7_addLane 79 = .ok (.iload_n 2, 1) := by decide +kernel
theorem dX7_addLane_80 : decode cX7_addLane 80 = .ok (.iastore, 1) := by decide +kernel
theorem dX7_addLane_81 : decode cX7_addLane 81 = .ok (.dup, 1) := by decide +kernel
theorem dX7_addLane_82 : decode cX7_addLane 82 = .ok (.iconst 2, 1) := by decide +kernel
theorem dX7_addLane_83 : decode cX7_addLane 83 = .ok (.iload_n 3, 1) := by decide +kernel
theorem dX7_addLane_84 : decode cX7_addLane 84 = .ok (.iastore, 1) := by decide +kernel
theorem dX7_addLane_85 : decode cX7_addLane 85 = .ok (.dup, 1) := by decide +kernel
theorem dX7_addLane_86 : decode cX7_addLane 86 = .ok (.iconst 3, 1) := by decide +kernel
theorem dX7_addLane_87 : decode cX7_addLane 87 = .ok (.iconst 0, 1) := by decide +kernel
theorem dX7_addLane_88 : decode cX7_addLane 88 = .ok (.iastore, 1) := by decide +kernel
theorem dX7_addLane_89 : decode cX7_addLane 89 = .ok (.dup, 1) := by decide +kernel
theorem dX7_addLane_90 : decode cX7_addLane 90 = .ok (.iconst 4, 1) := by decide +kernel
theorem dX7_addLane_91 : decode cX7_addLane 91 = .ok (.bipush 24, 2) := by decide +kernel
theorem dX7_addLane_93 : decode cX7_addLane 93 = .ok (.iastore, 1) := by decide +kernel
theorem dX7_addLane_94 : decode cX7_addLane 94 = .ok (.astore 4, 2) := by decide +kernel
theorem dX7_addLane_96 : decode cX7_addLane 96 = .ok (.aload 4, 2) := by decide +kernel
theorem dX7_addLane_98 : decode cX7_addLane 98 = .ok (.iconst 0, 1) := by decide +kernel
theorem dX7_addLane_99 : decode cX7_addLane 99 = .ok (.aload_n 0, 1) := by decide +kernel
theorem dX7_addLane_100 : decode cX7_addLane 100 = .ok (.getfield 13, 3) := by decide +kernel
theorem dX7_addLane_103 : decode cX7_addLane 103 = .ok (.iconst 5, 1) := by decide +kernel
theorem dX7_addLane_104 : decode cX7_addLane 104 = .ok (.aload_n 0, 1) := by decide +kernel
theorem dX7_addLane_105 : decode cX7_addLane 105 = .ok (.getfield 46, 3) := by decide +kernel
theorem dX7_addLane_108 : decode cX7_addLane 108 = .ok (.imul, 1) := by decide +kernel
theorem dX7_addLane_109 : decode cX7_addLane 109 = .ok (.iconst 5, 1) := by decide +kernel
theorem dX7_addLane_110 : decode cX7_addLane 110 = .ok (.invokestatic 75, 3) := by decide +kernel
theorem dX7_addLane_113 : decode cX7_addLane 113 = .ok (.aload_n 0, 1) := by decide +kernel
theorem dX7_addLane_114 : decode cX7_addLane 114 = .ok (.dup, 1) := by decide +kernel
theorem dX7_addLane_115 : decode cX7_addLane 115 = .ok (.getfield 46, 3) := by decide +kernel
theorem dX7_addLane_118 : decode cX7_addLane 118 = .ok (.iconst 1, 1) := by decide +kernel
theorem dX7_addLane_119 : decode cX7_addLane 119 = .ok (.iadd, 1) := by decide +kernel
theorem dX7_addLane_120 : decode cX7_addLane 120 = .ok (.putfield 46, 3) := by decide +kernel
theorem dX7_addLane_123 : decode cX7_addLane 123 = .ok (.aload_n 0, 1) := by decide +kernel
theorem dX7_addLane_124 : decode cX7_addLane 124 = .ok (.invokevirtual 59, 3) := by decide +kernel
theorem dX7_addLane_127 : decode cX7_addLane 127 = .ok (.aload_n 0, 1) := by decide +kernel
theorem dX7_addLane_128 : decode cX7_addLane 128 = .ok (.getfield 46, 3) := by decide +kernel
theorem dX7_addLane_131 : decode cX7_addLane 131 = .ok (.iconst 1, 1) := by decide +kernel
theorem dX7_addLane_132 : decode cX7_addLane 132 = .ok (.isub, 1) := by decide +kernel
theorem dX7_addLane_133 : decode cX7_addLane 133 = .ok (.ireturn, 1) := by decide +kernel
set_option maxRecDepth 20000 in
theorem ggX7_setGate_X7_isLane : GoodIn wsX7_setGate wsX7_isLane := goodIn_r _ [7, 8, 9, 10, 6, 11, 20, 21, 22, 23, 24, 25, 26, 27, 28, 29, 30, 31, 32] (by decide +kernel) (by decide +kernel)
set_option maxRecDepth 20000 in
theorem gX7_setGate_X7_isLane : GoodIn wsX7_setGate (wsV RX7 81 RX7 yX7_isLane wsX7_isLane) := goodIn_app (goodIn_of _ (by decide +kernel)) ggX7_setGate_X7_isLane
set_option maxRecDepth 20000 in
theorem ggX7_setGate_X7_fail : GoodIn wsX7_setGate wsX7_fail := goodIn_r _ [15, 1, 20, 21, 22, 23, 24, 25, 26, 27, 28, 29, 30, 31, 32] (by decide +kernel) (by decide +kernel)
set_option maxRecDepth 20000 in
theorem gX7_setGate_X7_fail : GoodIn wsX7_setGate (wsV RX7 55 RX7 yX7_fail wsX7_fail) := goodIn_app (goodIn_of _ (by decide +kernel)) ggX7_setGate_X7_fail
set_option maxRecDepth 20000 in
theorem ggX7_setGate_X7_isIn : GoodIn wsX7_setGate wsX7_isIn := goodIn_r _ [11] (by decide +kernel) (by decide +kernel)
set_option maxRecDepth 20000 in
theorem gX7_setGate_X7_isIn : GoodIn wsX7_setGate (va_wsS RX7 42 yX7_isIn wsX7_isIn) := goodIn_app (goodIn_of _ (by decide +kernel)) ggX7_setGate_X7_isIn
set_option maxRecDepth 20000 in
theorem ggX7_setGate_X7_ro : GoodIn wsX7_setGate wsX7_ro := goodIn_r _ [19, 2, 20, 21, 22, 23, 24, 25, 26, 27, 28, 29, 30, 31, 32] (by decide +kernel) (by decide +kernel)
set_option maxRecDepth 20000 in
theorem gX7_setGate_X7_ro : GoodIn wsX7_setGate (wsV RX7 66 RX7 yX7_ro wsX7_ro) := goodIn_app (goodIn_of _ (by decide +kernel)) ggX7_setGate_X7_ro
theorem dX7_setGate_0 : decode cX7_setGate 0 = .ok (.aload_n 0, 1) := by decide +kernel
theorem dX7_setGate_1 : decode cX7_setGate 1 = .ok (.iconst 0, 1) := by decide +kernel
theorem dX7_setGate_2 : decode cX7_setGate 2 = .ok (.putfield 35, 3) := by decide +kernel
theorem dX7_setGate_5 : decode cX7_setGate 5 = .ok (.aload_n 0, 1) := by decide +kernel
theorem dX7_setGate_6 : decode cX7_setGate 6 = .ok (.iload_n 1, 1) := by decide +kernel
theorem dX7_setGate_7 : decode cX7_setGate 7 = .ok (.invokevirtual 81, 3) := by decide +kernel
theorem dX7_setGate_10 : decode cX7_setGate 10 = .ok (.ifCond .ne 9, 3) := by decide +kernel
theorem dX7_setGate_13 : decode cX7_setGate 13 = .ok (.aload_n 0, 1) := by decide +kernel
theorem dX7_setGate_14 : decode cX7_setGate 14 = .ok (.iconst 1, 1) := by decide +kernel
theorem dX7_setGate_15 : decode cX7_setGate 15 = .ok (.invokevirtual 55, 3) := by decide +kernel
theorem dX7_setGate_18 : decode cX7_setGate 18 = .ok (.ireturn, 1) := by decide +kernel
theorem dX7_setGate_19 : decode cX7_setGate 19 = .ok (.iload_n 2, 1) := by decide +kernel
theorem dX7_setGate_20 : decode cX7_setGate 20 = .ok (.iconst 0, 1) := by decide +kernel
theorem dX7_setGate_21 : decode cX7_setGate 21 = .ok (.bipush 23, 2) := by decide +kernel
theorem dX7_setGate_23 : decode cX7_setGate 23 = .ok (.invokestatic 42, 3) := by decide +kernel
theorem dX7_setGate_26 : decode cX7_setGate 26 = .ok (.ifCond .eq 13, 3) := by decide +kernel
theorem dX7_setGate_29 : decode cX7_setGate 29 = .ok (.iload_n 3, 1) := by decide +kernel
theorem dX7_setGate_30 : decode cX7_setGate 30 = .ok (.iload_n 2, 1) := by decide +kernel
theorem dX7_setGate_31 : decode cX7_setGate 31 = .ok (.bipush 24, 2) := by decide +kernel
theorem dX7_setGate_33 : decode cX7_setGate 33 = .ok (.invokestatic 42, 3) := by decide +kernel
theorem dX7_setGate_36 : decode cX7_setGate 36 = .ok (.ifCond .ne 9, 3) := by decide +kernel
theorem dX7_setGate_39 : decode cX7_setGate 39 = .ok (.aload_n 0, 1) := by decide +kernel
theorem dX7_setGate_40 : decode cX7_setGate 40 = .ok (.iconst 2, 1) := by decide +kernel
theorem dX7_setGate_41 : decode cX7_setGate 41 = .ok (.invokevirtual 55, 3) := by decide +kernel
theorem dX7_setGate_44 : decode cX7_setGate 44 = .ok (.ireturn, 1) := by decide +kernel
theorem dX7_setGate_45 : decode cX7_setGate 45 = .ok (.bipush 100, 2) := by decide +kernel
theorem dX7_setGate_47 : decode cX7_setGate 47 = .ok (.aload_n 0, 1) := by decide +kernel
theorem dX7_setGate_48 : decode cX7_setGate 48 = .ok (.iload_n 1, 1) := by decide +kernel
theorem dX7_setGate_49 : decode cX7_setGate 49 = .ok (.iconst 3, 1) := by decide +kernel
theorem dX7_setGate_50 : decode cX7_setGate 50 = .ok (.invokevirtual 66, 3) := by decide +kernel
theorem dX7_setGate_53 : decode cX7_setGate 53 = .ok (.imul, 1) := by decide +kernel
theorem dX7_setGate_54 : decode cX7_setGate 54 = .ok (.aload_n 0, 1) := by decide +kernel
theorem dX7_setGate_55 : decode cX7_setGate 55 = .ok (.iload_n 1, 1) := by decide +kernel
theorem dX7_setGate_56 : decode cX7_setGate 56 = .ok (.iconst 4, 1) := by decide +kernel
theorem dX7_setGate_57 : decode cX7_setGate 57 = .ok (.invokevirtual 66, 3) := by decide +kernel
theorem dX7_setGate_60 : decode cX7_setGate 60 = .ok (.iadd, 1) := by decide +kernel
theorem dX7_setGate_61 : decode cX7_setGate 61 = .ok (.istore 4, 2) := by decide +kernel
theorem dX7_setGate_63 : decode cX7_setGate 63 = .ok (.aload_n 0, 1) := by decide +kernel
theorem dX7_setGate_64 : decode cX7_setGate 64 = .ok (.getfield 13, 3) := by decide +kernel
theorem dX7_setGate_67 : decode cX7_setGate 67 = .ok (.iconst 5, 1) := by decide +kernel
theorem dX7_setGate_68 : decode cX7_setGate 68 = .ok (.iload_n 1, 1) := by decide +kernel
theorem dX7_setGate_69 : decode cX7_setGate 69 = .ok (.imul, 1) := by decide +kernel
theorem dX7_setGate_70 : decode cX7_setGate 70 = .ok (.iconst 3, 1) := by decide +kernel
theorem dX7_setGate_71 : decode cX7_setGate 71 = .ok (.iadd, 1) := by decide +kernel
theorem dX7_setGate_72 : decode cX7_setGate 72 = .ok (.iload_n 2, 1) := by decide +kernel
theorem dX7_setGate_73 : decode cX7_setGate 73 = .ok (.iastore, 1) := by decide +kernel
theorem dX7_setGate_74 : decode cX7_setGate 74 = .ok (.aload_n 0, 1) := by decide +kernel
theorem dX7_setGate_75 : decode cX7_setGate 75 = .ok (.getfield 13, 3) := by decide +kernel
theorem dX7_setGate_78 : decode cX7_setGate 78 = .ok (.iconst 5, 1) := by decide +kernel
theorem dX7_setGate_79 : decode cX7_setGate 79 = .ok (.iload_n 1, 1) := by decide +kernel
theorem dX7_setGate_80 : decode cX7_setGate 80 = .ok (.imul, 1) := by decide +kernel
theorem dX7_setGate_81 : decode cX7_setGate 81 = .ok (.iconst 4, 1) := by decide +kernel
theorem dX7_setGate_82 : decode cX7_setGate 82 = .ok (.iadd, 1) := by decide +kernel
theorem dX7_setGate_83 : decode cX7_setGate 83 = .ok (.iload_n 3, 1) := by decide +kernel
theorem dX7_setGate_84 : decode cX7_setGate 84 = .ok (.iastore, 1) := by decide +kernel
theorem dX7_setGate_85 : decode cX7_setGate 85 = .ok (.iload 4, 2) := by decide +kernel
theorem dX7_setGate_87 : decode cX7_setGate 87 = .ok (.ireturn, 1) := by decide +kernel
theorem dX7_away_0 : decode cX7_away 0 = .ok (.sipush 9999, 3) := by decide +kernel
theorem dX7_away_3 : decode cX7_away 3 = .ok (.aload_n 0, 1) := by decide +kernel
theorem dX7_away_4 : decode cX7_away 4 = .ok (.getfield 17, 3) := by decide +kernel
theorem dX7_away_7 : decode cX7_away 7 = .ok (.bipush 14, 2) := by decide +kernel
theorem dX7_away_9 : decode cX7_away 9 = .ok (.iload_n 1, 1) := by decide +kernel
theorem dX7_away_10 : decode cX7_away 10 = .ok (.imul, 1) := by decide +kernel
theorem dX7_away_11 : decode cX7_away 11 = .ok (.iload_n 2, 1) := by decide +kernel
theorem dX7_away_12 : decode cX7_away 12 = .ok (.iadd, 1) := by decide +kernel
theorem dX7_away_13 : decode cX7_away 13 = .ok (.iaload, 1) := by decide +kernel
theorem dX7_away_14 : decode cX7_away 14 = .ok (.invokestatic 70, 3) := by decide +kernel
theorem dX7_away_17 : decode cX7_away 17 = .ok (.ireturn, 1) := by decide +kernel
set_option maxRecDepth 20000 in
theorem ggX7_way_X7_isHouse : GoodIn wsX7_way wsX7_isHouse := goodIn_r _ [6, 7, 8, 9, 5, 10, 24, 25, 26, 27, 28, 29, 30, 31, 32, 33, 34, 35, 36] (by decide +kernel) (by decide +kernel)
set_option maxRecDepth 20000 in
theorem gX7_way_X7_isHouse : GoodIn wsX7_way (wsV RX7 62 RX7 yX7_isHouse wsX7_isHouse) := goodIn_app (goodIn_of _ (by decide +kernel)) ggX7_way_X7_isHouse
set_option maxRecDepth 20000 in
theorem ggX7_way_X7_fail : GoodIn wsX7_way wsX7_fail := goodIn_r _ [14, 1, 24, 25, 26, 27, 28, 29, 30, 31, 32, 33, 34, 35, 36] (by decide +kernel) (by decide +kernel)
set_option maxRecDepth 20000 in
theorem gX7_way_X7_fail : GoodIn wsX7_way (wsV RX7 55 RX7 yX7_fail wsX7_fail) := goodIn_app (goodIn_of _ (by decide +kernel)) ggX7_way_X7_fail
set_option maxRecDepth 20000 in
theorem ggX7_way_X7_away : GoodIn wsX7_way wsX7_away := goodIn_r _ [18, 19, 20, 21, 22, 23, 24, 25, 26, 27, 28, 29, 30, 31, 32, 33, 34, 35, 36] (by decide +kernel) (by decide +kernel)
set_option maxRecDepth 20000 in
theorem gX7_way_X7_away : GoodIn wsX7_way (wsV RX7 84 RX7 yX7_away wsX7_away) := goodIn_app (goodIn_of _ (by decide +kernel)) ggX7_way_X7_away
theorem dX7_way_0 : decode cX7_way 0 = .ok (.aload_n 0, 1) := by decide +kernel
theorem dX7_way_1 : decode cX7_way 1 = .ok (.iconst 0, 1) := by decide +kernel
theorem dX7_way_2 : decode cX7_way 2 = .ok (.putfield 35, 3) := by decide +kernel
theorem dX7_way_5 : decode cX7_way 5 = .ok (.aload_n 0, 1) := by decide +kernel
theorem dX7_way_6 : decode cX7_way 6 = .ok (.iload_n 1, 1) := by decide +kernel
theorem dX7_way_7 : decode cX7_way 7 = .ok (.invokevirtual 62, 3) := by decide +kernel
theorem dX7_way_10 : decode cX7_way 10 = .ok (.ifCond .eq 11, 3) := by decide +kernel
theorem dX7_way_13 : decode cX7_way 13 = .ok (.aload_n 0, 1) := by decide +kernel
theorem dX7_way_14 : decode cX7_way 14 = .ok (.iload_n 2, 1) := by decide +kernel
theorem dX7_way_15 : decode cX7_way 15 = .ok (.invokevirtual 62, 3) := by decide +kernel
theorem dX7_way_18 : decode cX7_way 18 = .ok (.ifCond .ne 9, 3) := by decide +kernel
theorem dX7_way_21 : decode cX7_way 21 = .ok (.aload_n 0, 1) := by decide +kernel
theorem dX7_way_22 : decode cX7_way 22 = .ok (.iconst 1, 1) := by decide +kernel
theorem dX7_way_23 : decode cX7_way 23 = .ok (.invokevirtual 55, 3) := by decide +kernel
theorem dX7_way_26 : decode cX7_way 26 = .ok (.ireturn, 1) := by decide +kernel
theorem dX7_way_27 : decode cX7_way 27 = .ok (.aload_n 0, 1) := by decide +kernel
theorem dX7_way_28 : decode cX7_way 28 = .ok (.iload_n 1, 1) := by decide +kernel
theorem dX7_way_29 : decode cX7_way 29 = .ok (.iload_n 2, 1) := by decide +kernel
theorem dX7_way_30 : decode cX7_way 30 = .ok (.invokevirtual 84, 3) := by decide +kernel
theorem dX7_way_33 : decode cX7_way 33 = .ok (.sipush 9999, 3) := by decide +kernel
theorem dX7_way_36 : decode cX7_way 36 = .ok (.if_icmp .ne 7, 3) := by decide +kernel
theorem dX7_way_39 : decode cX7_way 39 = .ok (.iconst (-1), 1) := by decide +kernel
theorem dX7_way_40 : decode cX7_way 40 = .ok (.goto 9, 3) := by decide +kernel
theorem dX7_way_43 : decode cX7_way 43 = .ok (.aload_n 0, 1) := by decide +kernel
theorem dX7_way_44 : decode cX7_way 44 = .ok (.iload_n 1, 1) := by decide +kernel
theorem dX7_way_45 : decode cX7_way 45 = .ok (.iload_n 2, 1) := by decide +kernel
theorem dX7_way_46 : decode cX7_way 46 = .ok (.invokevirtual 84, 3) := by decide +kernel
theorem dX7_way_49 : decode cX7_way 49 = .ok (.ireturn, 1) := by decide +kernel
set_option maxRecDepth 20000 in
theorem ggX7_lane_X7_ro : GoodIn wsX7_lane wsX7_ro := goodIn_r _ [6, 7, 8, 9, 10, 11, 12, 13, 14, 15, 16, 17, 18, 19, 20] (by decide +kernel) (by decide +kernel)
set_option maxRecDepth 20000 in
theorem gX7_lane_X7_ro : GoodIn wsX7_lane (wsV RX7 66 RX7 yX7_ro wsX7_ro) := goodIn_app (goodIn_of _ (by decide +kernel)) ggX7_lane_X7_ro
theorem dX7_lane_0 : decode cX7_lane 0 = .ok (.iconst (-1), 1) := by decide +kernel
theorem dX7_lane_1 : decode cX7_lane 1 = .ok (.istore_n 3, 1) := by decide +kernel
theorem dX7_lane_2 : decode cX7_lane 2 = .ok (.iconst 0, 1) := by decide +kernel
theorem dX7_lane_3 : decode cX7_lane 3 = .ok (.istore 4, 2) := by decide +kernel
theorem dX7_lane_5 : decode cX7_lane 5 = .ok (.iload 4, 2) := by decide +kernel
theorem dX7_lane_7 : decode cX7_lane 7 = .ok (.aload_n 0, 1) := by decide +kernel
theorem dX7_lane_8 : decode cX7_lane 8 = .ok (.getfield 46, 3) := by decide +kernel
theorem dX7_lane_11 : decode cX7_lane 11 = .ok (.if_icmp .ge 89, 3) := by decide +kernel
theorem dX7_lane_14 : decode cX7_lane 14 = .ok (.aload_n 0, 1) := by decide +kernel
theorem dX7_lane_15 : decode cX7_lane 15 = .ok (.iload 4, 2) := by decide +kernel
theorem dX7_lane_17 : decode cX7_lane 17 = .ok (.iconst 0, 1) := by decide +kernel
theorem dX7_lane_18 : decode cX7_lane 18 = .ok (.invokevirtual 66, 3) := by decide +kernel
theorem dX7_lane_21 : decode cX7_lane 21 = .ok (.iload_n 1, 1) := by decide +kernel
theorem dX7_lane_22 : decode cX7_lane 22 = .ok (.if_icmp .ne 14, 3) := by decide +kernel
theorem dX7_lane_25 : decode cX7_lane 25 = .ok (.aload_n 0, 1) := by decide +kernel
theorem dX7_lane_26 : decode cX7_lane 26 = .ok (.iload 4, 2) := by decide +kernel
theorem dX7_lane_28 : decode cX7_lane 28 = .ok (.iconst 1, 1) := by decide +kernel
theorem dX7_lane_29 : decode cX7_lane 29 = .ok (.invokevirtual 66, 3) := by decide +kernel
theorem dX7_lane_32 : decode cX7_lane 32 = .ok (.iload_n 2, 1) := by decide +kernel
theorem dX7_lane_33 : decode cX7_lane 33 = .ok (.if_icmp .eq 25, 3) := by decide +kernel
theorem dX7_lane_36 : decode cX7_lane 36 = .ok (.aload_n 0, 1) := by decide +kernel
theorem dX7_lane_37 : decode cX7_lane 37 = .ok (.iload 4, 2) := by decide +kernel
theorem dX7_lane_39 : decode cX7_lane 39 = .ok (.iconst 0, 1) := by decide +kernel
theorem dX7_lane_40 : decode cX7_lane 40 = .ok (.invokevirtual 66, 3) := by decide +kernel
theorem dX7_lane_43 : decode cX7_lane 43 = .ok (.iload_n 2, 1) := by decide +kernel
theorem dX7_lane_44 : decode cX7_lane 44 = .ok (.if_icmp .ne 18, 3) := by decide +kernel
theorem dX7_lane_47 : decode cX7_lane 47 = .ok (.aload_n 0, 1) := by decide +kernel
theorem dX7_lane_48 : decode cX7_lane 48 = .ok (.iload 4, 2) := by decide +kernel
theorem dX7_lane_50 : decode cX7_lane 50 = .ok (.iconst 1, 1) := by decide +kernel
theorem dX7_lane_51 : decode cX7_lane 51 = .ok (.invokevirtual 66, 3) := by decide +kernel
theorem dX7_lane_54 : decode cX7_lane 54 = .ok (.iload_n 1, 1) := by decide +kernel
theorem dX7_lane_55 : decode cX7_lane 55 = .ok (.if_icmp .ne 7, 3) := by decide +kernel
theorem dX7_lane_58 : decode cX7_lane 58 = .ok (.iconst 1, 1) := by decide +kernel
theorem dX7_lane_59 : decode cX7_lane 59 = .ok (.goto 4, 3) := by decide +kernel
theorem dX7_lane_62 : decode cX7_lane 62 = .ok (.iconst 0, 1) := by decide +kernel
theorem dX7_lane_63 : decode cX7_lane 63 = .ok (.istore 5, 2) := by decide +kernel
theorem dX7_lane_65 : decode cX7_lane 65 = .ok (.iload 5, 2) := by decide +kernel
theorem dX7_lane_67 : decode cX7_lane 67 = .ok (.ifCond .eq 27, 3) := by decide +kernel
theorem dX7_lane_70 : decode cX7_lane 70 = .ok (.iload_n 3, 1) := by decide +kernel
theorem dX7_lane_71 : decode cX7_lane 71 = .ok (.iconst (-1), 1) := by decide +kernel
theorem dX7_lane_72 : decode cX7_lane 72 = .ok (.if_icmp .eq 19, 3) := by decide +kernel
theorem dX7_lane_75 : decode cX7_lane 75 = .ok (.aload_n 0, 1) := by decide +kernel
theorem dX7_lane_76 : decode cX7_lane 76 = .ok (.iload 4, 2) := by decide +kernel
theorem dX7_lane_78 : decode cX7_lane 78 = .ok (.iconst 2, 1) := by decide +kernel
theorem dX7_lane_79 : decode cX7_lane 79 = .ok (.invokevirtual 66, 3) := by decide +kernel
theorem dX7_lane_82 : decode cX7_lane 82 = .ok (.aload_n 0, 1) := by decide +kernel
theorem dX7_lane_83 : decode cX7_lane 83 = .ok (.iload_n 3, 1) := by decide +kernel
theorem dX7_lane_84 : decode cX7_lane 84 = .ok (.iconst 2, 1) := by decide +kernel
theorem dX7_lane_85 : decode cX7_lane 85 = .ok (.invokevirtual 66, 3) := by decide +kernel
theorem dX7_lane_88 : decode cX7_lane 88 = .ok (.if_icmp .ge 6, 3) := by decide +kernel
theorem dX7_lane_91 : decode cX7_lane 91 = .ok (.iload 4, 2) := by decide +kernel
theorem dX7_lane_93 : decode cX7_lane 93 = .ok (.istore_n 3, 1) := by decide +kernel
theorem dX7_lane_94 : decode cX7_lane 94 = .ok (.iinc 4 1, 3) := by decide +kernel
theorem dX7_lane_97 : decode cX7_lane 97 = .ok (.goto (-92), 3) := by decide +kernel
theorem dX7_lane_100 : decode cX7_lane 100 = .ok (.iload_n 3, 1) := by decide +kernel
theorem dX7_lane_101 : decode cX7_lane 101 = .ok (.ireturn, 1) := by decide +kernel
set_option maxRecDepth 20000 in
theorem ggX7_read_X7_isHouse : GoodIn wsX7_read wsX7_isHouse := goodIn_r _ [7, 8, 9, 10, 6, 11, 22, 23, 24, 25, 26, 27, 28, 29, 30, 31, 32, 33, 34] (by decide +kernel) (by decide +kernel)
set_option maxRecDepth 20000 in
theorem gX7_read_X7_isHouse : GoodIn wsX7_read (wsV RX7 62 RX7 yX7_isHouse wsX7_isHouse) := goodIn_app (goodIn_of _ (by decide +kernel)) ggX7_read_X7_isHouse
set_option maxRecDepth 20000 in
theorem ggX7_read_X7_lane : GoodIn wsX7_read wsX7_lane := goodIn_r _ [15, 16, 17, 18, 19, 6, 20, 21, 22, 23, 24, 25, 26, 27, 28, 29, 30, 31, 32, 33, 34] (by decide +kernel) (by decide +kernel)
set_option maxRecDepth 20000 in
theorem gX7_read_X7_lane : GoodIn wsX7_read (wsV RX7 88 RX7 yX7_lane wsX7_lane) := goodIn_app (goodIn_of _ (by decide +kernel)) ggX7_read_X7_lane
theorem dX7_read_0 : decode cX7_read 0 = .ok (.iconst 0, 1) := by decide +kernel
theorem dX7_read_1 : decode cX7_read 1 = .ok (.istore_n 2, 1) := by decide +kernel
theorem dX7_read_2 : decode cX7_read 2 = .ok (.iload_n 1, 1) := by decide +kernel
theorem dX7_read_3 : decode cX7_read 3 = .ok (.ifCond .le 9, 3) := by decide +kernel
theorem dX7_read_6 : decode cX7_read 6 = .ok (.iload_n 1, 1) := by decide +kernel
theorem dX7_read_7 : decode cX7_read 7 = .ok (.ldc 87, 2) := by decide +kernel
theorem dX7_read_9 : decode cX7_read 9 = .ok (.if_icmp .lt 5, 3) := by decide +kernel
theorem dX7_read_12 : decode cX7_read 12 = .ok (.iconst 0, 1) := by decide +kernel
theorem dX7_read_13 : decode cX7_read 13 = .ok (.ireturn, 1) := by decide +kernel
theorem dX7_read_14 : decode cX7_read 14 = .ok (.bipush 24, 2) := by decide +kernel
theorem dX7_read_16 : decode cX7_read 16 = .ok (.istore_n 3, 1) := by decide +kernel
theorem dX7_read_17 : decode cX7_read 17 = .ok (.iload_n 3, 1) := by decide +kernel
theorem dX7_read_18 : decode cX7_read 18 = .ok (.ifCond .lt 105, 3) := by decide +kernel
theorem dX7_read_21 : decode cX7_read 21 = .ok (.iload_n 1, 1) := by decide +kernel
theorem dX7_read_22 : decode cX7_read 22 = .ok (.iload_n 3, 1) := by decide +kernel
theorem dX7_read_23 : decode cX7_read 23 = .ok (.ishr, 1) := by decide +kernel
theorem dX7_read_24 : decode cX7_read 24 = .ok (.bipush 15, 2) := by decide +kernel
theorem dX7_read_26 : decode cX7_read 26 = .ok (.iand, 1) := by decide +kernel
theorem dX7_read_27 : decode cX7_read 27 = .ok (.iconst 1, 1) := by decide +kernel
theorem dX7_read_28 : decode cX7_read 28 = .ok (.isub, 1) := by decide +kernel
theorem dX7_read_29 : decode cX7_read 29 = .ok (.istore 4, 2) := by decide +kernel
theorem dX7_read_31 : decode cX7_read 31 = .ok (.iload_n 2, 1) := by decide +kernel
theorem dX7_read_32 : decode cX7_read 32 = .ok (.ifCond .ne 12, 3) := by decide +kernel
theorem dX7_read_35 : decode cX7_read 35 = .ok (.iload_n 1, 1) := by decide +kernel
theorem dX7_read_36 : decode cX7_read 36 = .ok (.iload_n 3, 1) := by decide +kernel
theorem dX7_read_37 : decode cX7_read 37 = .ok (.ishr, 1) := by decide +kernel
theorem dX7_read_38 : decode cX7_read 38 = .ok (.ifCond .ne 6, 3) := by decide +kernel
theorem dX7_read_41 : decode cX7_read 41 = .ok (.goto 76, 3) := by decide +kernel
theorem dX7_read_44 : decode cX7_read 44 = .ok (.aload_n 0, 1) := by decide +kernel
theorem dX7_read_45 : decode cX7_read 45 = .ok (.iload 4, 2) := by decide +kernel
theorem dX7_read_47 : decode cX7_read 47 = .ok (.invokevirtual 62, 3) := by decide +kernel
theorem dX7_read_50 : decode cX7_read 50 = .ok (.ifCond .eq 25, 3) := by decide +kernel
theorem dX7_read_53 : decode cX7_read 53 = .ok (.iload_n 2, 1) := by decide +kernel
theorem dX7_read_54 : decode cX7_read 54 = .ok (.ifCond .le 23, 3) := by decide +kernel
theorem dX7_read_57 : decode cX7_read 57 = .ok (.aload_n 0, 1) := by decide +kernel
theorem dX7_read_58 : decode cX7_read 58 = .ok (.aload_n 0, 1) := by decide +kernel
theorem dX7_read_59 : decode cX7_read 59 = .ok (.getfield 32, 3) := by decide +kernel
theorem dX7_read_62 : decode cX7_read 62 = .ok (.iload_n 2, 1) := by decide +kernel
theorem dX7_read_63 : decode cX7_read 63 = .ok (.iconst 1, 1) := by decide +kernel
theorem dX7_read_64 : decode cX7_read 64 = .ok (.isub, 1) := by decide +kernel
theorem dX7_read_65 : decode cX7_read 65 = .ok (.iaload, 1) := by decide +kernel
theorem dX7_read_66 : decode cX7_read 66 = .ok (.iload 4, 2) := by decide +kernel
theorem dX7_read_68 : decode cX7_read 68 = .ok (.invokevirtual 88, 3) := by decide +kernel
theorem dX7_read_71 : decode cX7_read 71 = .ok (.iconst (-1), 1) := by decide +kernel
theorem dX7_read_72 : decode cX7_read 72 = .ok (.if_icmp .ne 5, 3) := by decide +kernel
theorem dX7_read_75 : decode cX7_read 75 = .ok (.iconst 0, 1) := by decide +kernel
theorem dX7_read_76 : decode cX7_read 76 = .ok (.ireturn, 1) := by decide +kernel
theorem dX7_read_77 : decode cX7_read 77 = .ok (.iconst 0, 1) := by decide +kernel
theorem dX7_read_78 : decode cX7_read 78 = .ok (.istore 5, 2) := by decide +kernel
theorem dX7_read_80 : decode cX7_read 80 = .ok (.iload 5, 2) := by decide +kernel
theorem dX7_read_82 : decode cX7_read 82 = .ok (.iload_n 2, 1) := by decide +kernel
theorem dX7_read_83 : decode cX7_read 83 = .ok (.if_icmp .ge 23, 3) := by decide +kernel
theorem dX7_read_86 : decode cX7_read 86 = .ok (.aload_n 0, 1) := by decide +kernel
theorem dX7_read_87 : decode cX7_read 87 = .ok (.getfield 32, 3) := by decide +kernel
theorem dX7_read_90 : decode cX7_read 90 = .ok (.iload 5, 2) := by decide +kernel
theorem dX7_read_92 : decode cX7_read 92 = .ok (.iaload, 1) := by decide +kernel
theorem dX7_read_93 : decode cX7_read 93 = .ok (.iload 4, 2) := by decide +kernel
theorem dX7_read_95 : decode cX7_read 95 = .ok (.if_icmp .ne 5, 3) := by decide +kernel
theorem dX7_read_98 : decode cX7_read 98 = .ok (.iconst 0, 1) := by decide +kernel
theorem dX7_read_99 : decode cX7_read 99 = .ok (.ireturn, 1) := by decide +kernel
theorem dX7_read_100 : decode cX7_read 100 = .ok (.iinc 5 1, 3) := by decide +kernel
theorem dX7_read_103 : decode cX7_read 103 = .ok (.goto (-23), 3) := by decide +kernel
theorem dX7_read_106 : decode cX7_read 106 = .ok (.aload_n 0, 1) := by decide +kernel
theorem dX7_read_107 : decode cX7_read 107 = .ok (.getfield 32, 3) := by decide +kernel
theorem dX7_read_110 : decode cX7_read 110 = .ok (.iload_n 2, 1) := by decide +kernel
theorem dX7_read_111 : decode cX7_read 111 = .ok (.iload 4, 2) := by decide +kernel
theorem dX7_read_113 : decode cX7_read 113 = .ok (.iastore, 1) := by decide +kernel
theorem dX7_read_114 : decode cX7_read 114 = .ok (.iinc 2 1, 3) := by decide +kernel
theorem dX7_read_117 : decode cX7_read 117 = .ok (.iinc 3 (-4), 3) := by decide +kernel
theorem dX7_read_120 : decode cX7_read 120 = .ok (.goto (-103), 3) := by decide +kernel
theorem dX7_read_123 : decode cX7_read 123 = .ok (.iload_n 2, 1) := by decide +kernel
theorem dX7_read_124 : decode cX7_read 124 = .ok (.ireturn, 1) := by decide +kernel
set_option maxRecDepth 20000 in
theorem ggX7_addBee_X7_read : GoodIn wsX7_addBee wsX7_read := goodIn_r _ [15, 16, 9, 17, 18, 19, 14, 20, 21, 22, 23, 24, 25, 26, 27, 28, 29, 30, 31, 32, 33, 34, 39, 40, 41, 42, 43, 44, 45, 46, 47, 48, 49, 50, 51] (by decide +kernel) (by decide +kernel)
set_option maxRecDepth 20000 in
theorem gX7_addBee_X7_read : GoodIn wsX7_addBee (wsV RX7 91 RX7 yX7_read wsX7_read) := goodIn_app (goodIn_of _ (by decide +kernel)) ggX7_addBee_X7_read
set_option maxRecDepth 20000 in
theorem ggX7_addBee_X7_fail : GoodIn wsX7_addBee wsX7_fail := goodIn_r _ [38, 1, 39, 40, 41, 42, 43, 44, 45, 46, 47, 48, 49, 50, 51] (by decide +kernel) (by decide +kernel)
set_option maxRecDepth 20000 in
theorem gX7_addBee_X7_fail : GoodIn wsX7_addBee (wsV RX7 55 RX7 yX7_fail wsX7_fail) := goodIn_app (goodIn_of _ (by decide +kernel)) ggX7_addBee_X7_fail
theorem dX7_addBee_0 : decode cX7_addBee 0 = .ok (.aload_n 0, 1) := by decide +kernel
theorem dX7_addBee_1 : decode cX7_addBee 1 = .ok (.iconst 0, 1) := by decide +kernel
theorem dX7_addBee_2 : decode cX7_addBee 2 = .ok (.putfield 35, 3) := by decide +kernel
theorem dX7_addBee_5 : decode cX7_addBee 5 = .ok (.aload_n 0, 1) := by decide +kernel
theorem dX7_addBee_6 : decode cX7_addBee 6 = .ok (.iload_n 1, 1) := by decide +kernel
theorem dX7_addBee_7 : decode cX7_addBee 7 = .ok (.invokevirtual 91, 3) := by decide +kernel
theorem dX7_addBee_10 : decode cX7_addBee 10 = .ok (.istore_n 2, 1) := by decide +kernel
theorem dX7_addBee_11 : decode cX7_addBee 11 = .ok (.iload_n 2, 1) := by decide +kernel
theorem dX7_addBee_12 : decode cX7_addBee 12 = .ok (.ifCond .ne 9, 3) := by decide +kernel
theorem dX7_addBee_15 : decode cX7_addBee 15 = .ok (.aload_n 0, 1) := by decide +kernel
theorem dX7_addBee_16 : decode cX7_addBee 16 = .ok (.iconst 1, 1) := by decide +kernel
theorem dX7_addBee_17 : decode cX7_addBee 17 = .ok (.invokevirtual 55, 3) := by decide +kernel
theorem dX7_addBee_20 : decode cX7_addBee 20 = .ok (.ireturn, 1) := by decide +kernel
theorem dX7_addBee_21 : decode cX7_addBee 21 = .ok (.aload_n 0, 1) := by decide +kernel
theorem dX7_addBee_22 : decode cX7_addBee 22 = .ok (.getfield 49, 3) := by decide +kernel
theorem dX7_addBee_25 : decode cX7_addBee 25 = .ok (.bipush 6, 2) := by decide +kernel
theorem dX7_addBee_27 : decode cX7_addBee 27 = .ok (.if_icmp .ne 9, 3) := by decide +kernel
theorem dX7_addBee_30 : decode cX7_addBee 30 = .ok (.aload_n 0, 1) := by decide +kernel
theorem dX7_addBee_31 : decode cX7_addBee 31 = .ok (.iconst 2, 1) := by decide +kernel
theorem dX7_addBee_32 : decode cX7_addBee 32 = .ok (.invokevirtual 55, 3) := by decide +kernel
theorem dX7_addBee_35 : decode cX7_addBee 35 = .ok (.ireturn, 1) := by decide +kernel
theorem dX7_addBee_36 : decode cX7_addBee 36 = .ok (.bipush 8, 2) := by decide +kernel
theorem dX7_addBee_38 : decode cX7_addBee 38 = .ok (.newarray .int, 2) := by decide +kernel
theorem dX7_addBee_40 : decode cX7_addBee 40 = .ok (.dup, 1) := by decide +kernel
theorem dX7_addBee_41 : decode cX7_addBee 41 = .ok (.iconst 0, 1) := by decide +kernel
theorem dX7_addBee_42 : decode cX7_addBee 42 = .ok (.iconst 0, 1) := by decide +kernel
theorem dX7_addBee_43 : decode cX7_addBee 43 = .ok (.iastore, 1) := by decide +kernel
theorem dX7_addBee_44 : decode cX7_addBee 44 = .ok (.dup, 1) := by decide +kernel
theorem dX7_addBee_45 : decode cX7_addBee 45 = .ok (.iconst 1, 1) := by decide +kernel
theorem dX7_addBee_46 : decode cX7_addBee 46 = .ok (.iconst 0, 1) := by decide +kernel
theorem dX7_addBee_47 : decode cX7_addBee 47 = .ok (.iastore, 1) := by decide +kernel
theorem dX7_addBee_48 : decode cX7_addBee 48 = .ok (.dup, 1) := by decide +kernel
theorem dX7_addBee_49 : decode cX7_addBee 49 = .ok (.iconst 2, 1) := by decide +kernel
theorem dX7_addBee_50 : decode cX7_addBee 50 = .ok (.bipush 30, 2) := by decide +kernel
theorem dX7_addBee_52 : decode cX7_addBee 52 = .ok (.iastore, 1) := by decide +kernel
theorem dX7_addBee_53 : decode cX7_addBee 53 = .ok (.dup, 1) := by decide +kernel
theorem dX7_addBee_54 : decode cX7_addBee 54 = .ok (.iconst 3, 1) := by decide +kernel
theorem dX7_addBee_55 : decode cX7_addBee 55 = .ok (.bipush 10, 2) := by decide +kernel
theorem dX7_addBee_57 : decode cX7_addBee 57 = .ok (.iastore, 1) := by decide +kernel
theorem dX7_addBee_58 : decode cX7_addBee 58 = .ok (.dup, 1) := by decide +kernel
theorem dX7_addBee_59 : decode cX7_addBee 59 = .ok (.iconst 4, 1) := by decide +kernel
theorem dX7_addBee_60 : decode cX7_addBee 60 = .ok (.iconst 0, 1) := by decide +kernel
theorem dX7_addBee_61 : decode cX7_addBee 61 = .ok (.iastore, 1) := by decide +kernel
theorem dX7_addBee_62 : decode cX7_addBee 62 = .ok (.dup, 1) := by decide +kernel
theorem dX7_addBee_63 : decode cX7_addBee 63 = .ok (.iconst 5, 1) := by decide +kernel
theorem dX7_addBee_64 : decode cX7_addBee 64 = .ok (.iload_n 2, 1) := by decide +kernel
theorem dX7_addBee_65 : decode cX7_addBee 65 = .ok (.iastore, 1) := by decide +kernel
theorem dX7_addBee_66 : decode cX7_addBee 66 = .ok (.dup, 1) := by decide +kernel
theorem dX7_addBee_67 : decode cX7_addBee 67 = .ok (.bipush 6, 2) := by decide +kernel
theorem dX7_addBee_69 : decode cX7_addBee 69 = .ok (.iconst 0, 1) := by decide +kernel
theorem dX7_addBee_70 : decode cX7_addBee 70 = .ok (.iastore, 1) := by decide +kernel
theorem dX7_addBee_71 : decode cX7_addBee 71 = .ok (.dup, 1) := by decide +kernel
theorem dX7_addBee_72 : decode cX7_addBee 72 = .ok (.bipush 7, 2) := by decide +kernel
theorem dX7_addBee_74 : decode cX7_addBee 74 = .ok (.iconst 1, 1) := by decide +kernel
theorem dX7_addBee_75 : decode cX7_addBee 75 = .ok (.iastore, 1) := by decide +kernel
theorem dX7_addBee_76 : decode cX7_addBee 76 = .ok (.astore_n 3, 1) := by decide +kernel
theorem dX7_addBee_77 : decode cX7_addBee 77 = .ok (.aload_n 3, 1) := by decide +kernel
theorem dX7_addBee_78 : decode cX7_addBee 78 = .ok (.iconst 0, 1) := by decide +kernel
theorem dX7_addBee_79 : decode cX7_addBee 79 = .ok (.aload_n 0, 1) := by decide +kernel
theorem dX7_addBee_80 : decode cX7_addBee 80 = .ok (.getfield 20, 3) := by decide +kernel
theorem dX7_addBee_83 : decode cX7_addBee 83 = .ok (.bipush 8, 2) := by decide +kernel
theorem dX7_addBee_85 : decode cX7_addBee 85 = .ok (.aload_n 0, 1) := by decide +kernel
theorem dX7_addBee_86 : decode cX7_addBee 86 = .ok (.getfield 49, 3) := by decide +kernel
theorem dX7_addBee_89 : decode cX7_addBee 89 = .ok (.imul, 1) := by decide +kernel
theorem dX7_addBee_90 : decode cX7_addBee 90 = .ok (.bipush 8, 2) := by decide +kernel
theorem dX7_addBee_92 : decode cX7_addBee 92 = .ok (.invokestatic 75, 3) := by decide +kernel
theorem dX7_addBee_95 : decode cX7_addBee 95 = .ok (.aload_n 0, 1) := by decide +kernel
theorem dX7_addBee_96 : decode cX7_addBee 96 = .ok (.getfield 32, 3) := by decide +kernel
theorem dX7_addBee_99 : decode cX7_addBee 99 = .ok (.iconst 0, 1) := by decide +kernel
theorem dX7_addBee_100 : decode cX7_addBee 100 = .ok (.aload_n 0, 1) := by decide +kernel
theorem dX7_addBee_101 : decode cX7_addBee 101 = .ok (.getfield 23, 3) := by decide +kernel
theorem dX7_addBee_104 : decode cX7_addBee 104 = .ok (.bipush 7, 2) := by decide +kernel
theorem dX7_addBee_106 : decode cX7_addBee 106 = .ok (.aload_n 0, 1) := by decide +kernel
theorem dX7_addBee_107 : decode cX7_addBee 107 = .ok (.getfield 49, 3) := by decide +kernel
theorem dX7_addBee_110 : decode cX7_addBee 110 = .ok (.imul, 1) := by decide +kernel
theorem dX7_addBee_111 : decode cX7_addBee 111 = .ok (.iload_n 2, 1) := by decide +kernel
theorem dX7_addBee_112 : decode cX7_addBee 112 = .ok (.invokestatic 75, 3) := by decide +kernel
theorem dX7_addBee_115 : decode cX7_addBee 115 = .ok (.aload_n 0, 1) := by decide +kernel
theorem dX7_addBee_116 : decode cX7_addBee 116 = .ok (.dup, 1) := by decide +kernel
theorem dX7_addBee_117 : decode cX7_addBee 117 = .ok (.getfield 49, 3) := by decide +kernel
theorem dX7_addBee_120 : decode cX7_addBee 120 = .ok (.iconst 1, 1) := by decide +kernel
theorem dX7_addBee_121 : decode cX7_addBee 121 = .ok (.iadd, 1) := by decide +kernel
theorem dX7_addBee_122 : decode cX7_addBee 122 = .ok (.putfield 49, 3) := by decide +kernel
theorem dX7_addBee_125 : decode cX7_addBee 125 = .ok (.aload_n 0, 1) := by decide +kernel
theorem dX7_addBee_126 : decode cX7_addBee 126 = .ok (.getfield 49, 3) := by decide +kernel
theorem dX7_addBee_129 : decode cX7_addBee 129 = .ok (.iconst 1, 1) := by decide +kernel
theorem dX7_addBee_130 : decode cX7_addBee 130 = .ok (.isub, 1) := by decide +kernel
theorem dX7_addBee_131 : decode cX7_addBee 131 = .ok (.ireturn, 1) := by decide +kernel
set_option maxRecDepth 20000 in
theorem ggX7_house_X7_be : GoodIn wsX7_house wsX7_be := goodIn_r _ [6, 7, 8, 9, 10, 11, 12, 13, 14, 15, 16, 17, 18, 19, 20] (by decide +kernel) (by decide +kernel)
set_option maxRecDepth 20000 in
theorem gX7_house_X7_be : GoodIn wsX7_house (wsV RX7 94 RX7 yX7_be wsX7_be) := goodIn_app (goodIn_of _ (by decide +kernel)) ggX7_house_X7_be
theorem dX7_house_0 : decode cX7_house 0 = .ok (.aload_n 0, 1) := by decide +kernel
theorem dX7_house_1 : decode cX7_house 1 = .ok (.getfield 23, 3) := by decide +kernel
theorem dX7_house_4 : decode cX7_house 4 = .ok (.bipush 7, 2) := by decide +kernel
theorem dX7_house_6 : decode cX7_house 6 = .ok (.iload_n 1, 1) := by decide +kernel
theorem dX7_house_7 : decode cX7_house 7 = .ok (.imul, 1) := by decide +kernel
theorem dX7_house_8 : decode cX7_house 8 = .ok (.aload_n 0, 1) := by decide +kernel
theorem dX7_house_9 : decode cX7_house 9 = .ok (.iload_n 1, 1) := by decide +kernel
theorem dX7_house_10 : decode cX7_house 10 = .ok (.iconst 0, 1) := by decide +kernel
theorem dX7_house_11 : decode cX7_house 11 = .ok (.invokevirtual 94, 3) := by decide +kernel
theorem dX7_house_14 : decode cX7_house 14 = .ok (.iadd, 1) := by decide +kernel
theorem dX7_house_15 : decode cX7_house 15 = .ok (.iaload, 1) := by decide +kernel
theorem dX7_house_16 : decode cX7_house 16 = .ok (.ireturn, 1) := by decide +kernel
set_option maxRecDepth 20000 in
theorem ggX7_swear_X7_isBee : GoodIn wsX7_swear wsX7_isBee := goodIn_r _ [16, 17, 18, 19, 15, 20, 58, 59, 60, 61, 62, 63, 64, 65, 66, 67, 68, 69, 70] (by decide +kernel) (by decide +kernel)
set_option maxRecDepth 20000 in
theorem gX7_swear_X7_isBee : GoodIn wsX7_swear (wsV RX7 97 RX7 yX7_isBee wsX7_isBee) := goodIn_app (goodIn_of _ (by decide +kernel)) ggX7_swear_X7_isBee
set_option maxRecDepth 20000 in
theorem ggX7_swear_X7_fail : GoodIn wsX7_swear wsX7_fail := goodIn_r _ [24, 1, 58, 59, 60, 61, 62, 63, 64, 65, 66, 67, 68, 69, 70] (by decide +kernel) (by decide +kernel)
set_option maxRecDepth 20000 in
theorem gX7_swear_X7_fail : GoodIn wsX7_swear (wsV RX7 55 RX7 yX7_fail wsX7_fail) := goodIn_app (goodIn_of _ (by decide +kernel)) ggX7_swear_X7_fail
set_option maxRecDepth 20000 in
theorem ggX7_swear_X7_read : GoodIn wsX7_swear wsX7_read := goodIn_r _ [28, 29, 2, 30, 31, 32, 15, 33, 34, 18, 19, 20, 35, 36, 37, 38, 39, 40, 41, 42, 43, 44, 58, 59, 60, 61, 62, 63, 64, 65, 66, 67, 68, 69, 70] (by decide +kernel) (by decide +kernel)
set_option maxRecDepth 20000 in
theorem gX7_swear_X7_read : GoodIn wsX7_swear (wsV RX7 91 RX7 yX7_read wsX7_read) := goodIn_app (goodIn_of _ (by decide +kernel)) ggX7_swear_X7_read
set_option maxRecDepth 20000 in
theorem ggX7_swear_X7_house : GoodIn wsX7_swear wsX7_house := goodIn_r _ [48, 3, 49, 50, 51, 15, 52, 53, 58, 59, 60, 61, 62, 63, 64, 65, 66, 67, 68, 69, 70] (by decide +kernel) (by decide +kernel)
set_option maxRecDepth 20000 in
theorem gX7_swear_X7_house : GoodIn wsX7_swear (wsV RX7 100 RX7 yX7_house wsX7_house) := goodIn_app (goodIn_of _ (by decide +kernel)) ggX7_swear_X7_house
set_option maxRecDepth 20000 in
theorem ggX7_swear_X7_be : GoodIn wsX7_swear wsX7_be := goodIn_r _ [52, 53, 58, 59, 60, 61, 62, 63, 64, 65, 66, 67, 68, 69, 70] (by decide +kernel) (by decide +kernel)
set_option maxRecDepth 20000 in
theorem gX7_swear_X7_be : GoodIn wsX7_swear (wsV RX7 94 RX7 yX7_be wsX7_be) := goodIn_app (goodIn_of _ (by decide +kernel)) ggX7_swear_X7_be
set_option maxRecDepth 20000 in
theorem ggX7_swear_X7_setBe : GoodIn wsX7_swear wsX7_setBe := goodIn_r _ [57, 53, 58, 59, 60, 61, 62, 63, 64, 65, 66, 67, 68, 69, 70] (by decide +kernel) (by decide +kernel)
set_option maxRecDepth 20000 in
theorem gX7_swear_X7_setBe : GoodIn wsX7_swear (wsV RX7 103 RX7 yX7_setBe wsX7_setBe) := goodIn_app (goodIn_of _ (by decide +kernel)) ggX7_swear_X7_setBe
theorem dX7_swear_0 : decode cX7_swear 0 = .ok (.aload_n 0, 1) := by decide +kernel
theorem dX7_swear_1 : decode cX7_swear 1 = .ok (.iconst 0, 1) := by decide +kernel
theorem dX7_swear_2 : decode cX7_swear 2 = .ok (.putfield 35, 3) := by decide +kernel
theorem dX7_swear_5 : decode cX7_swear 5 = .ok (.aload_n 0, 1) := by decide +kernel
theorem dX7_swear_6 : decode cX7_swear 6 = .ok (.iload_n 1, 1) := by decide +kernel
theorem dX7_swear_7 : decode cX7_swear 7 = .ok (.invokevirtual 97, 3) := by decide +kernel
theorem dX7_swear_10 : decode cX7_swear 10 = .ok (.ifCond .ne 9, 3) := by decide +kernel
theorem dX7_swear_13 : decode cX7_swear 13 = .ok (.aload_n 0, 1) := by decide +kernel
theorem dX7_swear_14 : decode cX7_swear 14 = .ok (.iconst 1, 1) := by decide +kernel
theorem dX7_swear_15 : decode cX7_swear 15 = .ok (.invokevirtual 55, 3) := by decide +kernel
theorem dX7_swear_18 : decode cX7_swear 18 = .ok (.ireturn, 1) := by decide +kernel
theorem dX7_swear_19 : decode cX7_swear 19 = .ok (.aload_n 0, 1) := by decide +kernel
theorem dX7_swear_20 : decode cX7_swear 20 = .ok (.iload_n 2, 1) := by decide +kernel
theorem dX7_swear_21 : decode cX7_swear 21 = .ok (.invokevirtual 91, 3) := by decide +kernel
theorem dX7_swear_24 : decode cX7_swear 24 = .ok (.istore_n 3, 1) := by decide +kernel
theorem dX7_swear_25 : decode cX7_swear 25 = .ok (.iload_n 3, 1) := by decide +kernel
theorem dX7_swear_26 : decode cX7_swear 26 = .ok (.ifCond .ne 9, 3) := by decide +kernel
theorem dX7_swear_29 : decode cX7_swear 29 = .ok (.aload_n 0, 1) := by decide +kernel
theorem dX7_swear_30 : decode cX7_swear 30 = .ok (.iconst 2, 1) := by decide +kernel
theorem dX7_swear_31 : decode cX7_swear 31 = .ok (.invokevirtual 55, 3) := by decide +kernel
theorem dX7_swear_34 : decode cX7_swear 34 = .ok (.ireturn, 1) := by decide +kernel
theorem dX7_swear_35 : decode cX7_swear 35 = .ok (.iconst (-1), 1) := by decide +kernel
theorem dX7_swear_36 : decode cX7_swear 36 = .ok (.istore 4, 2) := by decide +kernel
theorem dX7_swear_38 : decode cX7_swear 38 = .ok (.iconst 0, 1) := by decide +kernel
theorem dX7_swear_39 : decode cX7_swear 39 = .ok (.istore 5, 2) := by decide +kernel
theorem dX7_swear_41 : decode cX7_swear 41 = .ok (.iload 5, 2) := by decide +kernel
theorem dX7_swear_43 : decode cX7_swear 43 = .ok (.iload_n 3, 1) := by decide +kernel
theorem dX7_swear_44 : decode cX7_swear 44 = .ok (.if_icmp .ge 28, 3) := by decide +kernel
theorem dX7_swear_47 : decode cX7_swear 47 = .ok (.aload_n 0, 1) := by decide +kernel
theorem dX7_swear_48 : decode cX7_swear 48 = .ok (.getfield 32, 3) := by decide +kernel
theorem dX7_swear_51 : decode cX7_swear 51 = .ok (.iload 5, 2) := by decide +kernel
theorem dX7_swear_53 : decode cX7_swear 53 = .ok (.iaload, 1) := by decide +kernel
theorem dX7_swear_54 : decode cX7_swear 54 = .ok (.aload_n 0, 1) := by decide +kernel
theorem dX7_swear_55 : decode cX7_swear 55 = .ok (.iload_n 1, 1) := by decide +kernel
theorem dX7_swear_56 : decode cX7_swear 56 = .ok (.invokevirtual 100, 3) := by decide +kernel
theorem dX7_swear_59 : decode cX7_swear 59 = .ok (.if_icmp .ne 7, 3) := by decide +kernel
theorem dX7_swear_62 : decode cX7_swear 62 = .ok (.iload 5, 2) := by decide +kernel
theorem dX7_swear_64 : decode cX7_swear 64 = .ok (.istore 4, 2) := by decide +kernel
theorem dX7_swear_66 : decode cX7_swear 66 = .ok (.iinc 5 1, 3) := by decide +kernel
theorem dX7_swear_69 : decode cX7_swear 69 = .ok (.goto (-28), 3) := by decide +kernel
theorem dX7_swear_72 : decode cX7_swear 72 = .ok (.aload_n 0, 1) := by decide +kernel
theorem dX7_swear_73 : decode cX7_swear 73 = .ok (.iload_n 1, 1) := by decide +kernel
theorem dX7_swear_74 : decode cX7_swear 74 = .ok (.iconst 1, 1) := by decide +kernel
theorem dX7_swear_75 : decode cX7_swear 75 = .ok (.invokevirtual 94, 3) := by decide +kernel
theorem dX7_swear_78 : decode cX7_swear 78 = .ok (.ifCond .gt 9, 3) := by decide +kernel
theorem dX7_swear_81 : decode cX7_swear 81 = .ok (.iload 4, 2) := by decide +kernel
theorem dX7_swear_83 : decode cX7_swear 83 = .ok (.iconst (-1), 1) := by decide +kernel
theorem dX7_swear_84 : decode cX7_swear 84 = .ok (.if_icmp .ne 9, 3) := by decide +kernel
theorem dX7_swear_87 : decode cX7_swear 87 = .ok (.aload_n 0, 1) := by decide +kernel
theorem dX7_swear_88 : decode cX7_swear 88 = .ok (.iconst 3, 1) := by decide +kernel
theorem dX7_swear_89 : decode cX7_swear 89 = .ok (.invokevirtual 55, 3) := by decide +kernel
theorem dX7_swear_92 : decode cX7_swear 92 = .ok (.ireturn, 1) := by decide +kernel
theorem dX7_swear_93 : decode cX7_swear 93 = .ok (.aload_n 0, 1) := by decide +kernel
theorem dX7_swear_94 : decode cX7_swear 94 = .ok (.getfield 32, 3) := by decide +kernel
theorem dX7_swear_97 : decode cX7_swear 97 = .ok (.iconst 0, 1) := by decide +kernel
theorem dX7_swear_98 : decode cX7_swear 98 = .ok (.aload_n 0, 1) := by decide +kernel
theorem dX7_swear_99 : decode cX7_swear 99 = .ok (.getfield 23, 3) := by decide +kernel
theorem dX7_swear_102 : decode cX7_swear 102 = .ok (.bipush 7, 2) := by decide +kernel
theorem dX7_swear_104 : decode cX7_swear 104 = .ok (.iload_n 1, 1) := by decide +kernel
theorem dX7_swear_105 : decode cX7_swear 105 = .ok (.imul, 1) := by decide +kernel
theorem dX7_swear_106 : decode cX7_swear 106 = .ok (.iload_n 3, 1) := by decide +kernel
theorem dX7_swear_107 : decode cX7_swear 107 = .ok (.invokestatic 75, 3) := by decide +kernel
theorem dX7_swear_110 : decode cX7_swear 110 = .ok (.aload_n 0, 1) := by decide +kernel
theorem dX7_swear_111 : decode cX7_swear 111 = .ok (.iload_n 1, 1) := by decide +kernel
theorem dX7_swear_112 : decode cX7_swear 112 = .ok (.iconst 0, 1) := by decide +kernel
theorem dX7_swear_113 : decode cX7_swear 113 = .ok (.iload 4, 2) := by decide +kernel
theorem dX7_swear_115 : decode cX7_swear 115 = .ok (.invokevirtual 103, 3) := by decide +kernel
theorem dX7_swear_118 : decode cX7_swear 118 = .ok (.aload_n 0, 1) := by decide +kernel
theorem dX7_swear_119 : decode cX7_swear 119 = .ok (.iload_n 1, 1) := by decide +kernel
theorem dX7_swear_120 : decode cX7_swear 120 = .ok (.iconst 5, 1) := by decide +kernel
theorem dX7_swear_121 : decode cX7_swear 121 = .ok (.iload_n 3, 1) := by decide +kernel
theorem dX7_swear_122 : decode cX7_swear 122 = .ok (.invokevirtual 103, 3) := by decide +kernel
theorem dX7_swear_125 : decode cX7_swear 125 = .ok (.aload_n 0, 1) := by decide +kernel
theorem dX7_swear_126 : decode cX7_swear 126 = .ok (.iload_n 1, 1) := by decide +kernel
theorem dX7_swear_127 : decode cX7_swear 127 = .ok (.bipush 7, 2) := by decide +kernel
theorem dX7_swear_129 : decode cX7_swear 129 = .ok (.iconst 1, 1) := by decide +kernel
theorem dX7_swear_130 : decode cX7_swear 130 = .ok (.invokevirtual 103, 3) := by decide +kernel
theorem dX7_swear_133 : decode cX7_swear 133 = .ok (.aload_n 0, 1) := by decide +kernel
theorem dX7_swear_134 : decode cX7_swear 134 = .ok (.iload_n 1, 1) := by decide +kernel
theorem dX7_swear_135 : decode cX7_swear 135 = .ok (.iconst 3, 1) := by decide +kernel
theorem dX7_swear_136 : decode cX7_swear 136 = .ok (.iconst 0, 1) := by decide +kernel
theorem dX7_swear_137 : decode cX7_swear 137 = .ok (.aload_n 0, 1) := by decide +kernel
theorem dX7_swear_138 : decode cX7_swear 138 = .ok (.iload_n 1, 1) := by decide +kernel
theorem dX7_swear_139 : decode cX7_swear 139 = .ok (.iconst 3, 1) := by decide +kernel
theorem dX7_swear_140 : decode cX7_swear 140 = .ok (.invokevirtual 94, 3) := by decide +kernel
theorem dX7_swear_143 : decode cX7_swear 143 = .ok (.iconst 3, 1) := by decide +kernel
