set_option maxRecDepth 20000 in
theorem ggX0_init_X4_init : GoodIn wsX0_init wsX4_init := goodIn_r _ [11, 12, 2, 3, 13, 14, 15, 16, 27, 28, 29, 30] (by decide +kernel) (by decide +kernel)
set_option maxRecDepth 20000 in
theorem gX0_init_X4_init : GoodIn wsX0_init (wsX4_init) := ggX0_init_X4_init
theorem dX0_init_0 : decode cX0_init 0 = .ok (.aload_n 0, 1) := by decide +kernel
theorem dX0_init_1 : decode cX0_init 1 = .ok (.invokespecial 3, 3) := by decide +kernel
theorem dX0_init_4 : decode cX0_init 4 = .ok (.aload_n 0, 1) := by decide +kernel
theorem dX0_init_5 : decode cX0_init 5 = .ok (.iload_n 1, 1) := by decide +kernel
theorem dX0_init_6 : decode cX0_init 6 = .ok (.putfield 9, 3) := by decide +kernel
theorem dX0_init_9 : decode cX0_init 9 = .ok (.aload_n 0, 1) := by decide +kernel
theorem dX0_init_10 : decode cX0_init 10 = .ok (.new 15, 3) := by decide +kernel
theorem dX0_init_13 : decode cX0_init 13 = .ok (.dup, 1) := by decide +kernel
theorem dX0_init_14 : decode cX0_init 14 = .ok (.invokespecial 17, 3) := by decide +kernel
theorem dX0_init_17 : decode cX0_init 17 = .ok (.putfield 18, 3) := by decide +kernel
theorem dX0_init_20 : decode cX0_init 20 = .ok (.return_, 1) := by decide +kernel
set_option maxRecDepth 20000 in
theorem ggX0_hatch_X0_follow : GoodIn wsX0_hatch wsX0_follow := goodIn_r _ [11, 12, 13, 14, 15, 16, 17, 18, 19, 20, 21, 22, 23, 24, 25, 26, 27, 28, 29, 30, 31, 32, 33, 34, 35, 36, 37, 38, 39, 40, 41] (by decide +kernel) (by decide +kernel)
set_option maxRecDepth 20000 in
theorem gX0_hatch_X0_follow : GoodIn wsX0_hatch (wsV RX0 41 RX0 yX0_follow wsX0_follow) := goodIn_app (goodIn_of _ (by decide +kernel)) ggX0_hatch_X0_follow
theorem dX0_hatch_0 : decode cX0_hatch 0 = .ok (.aload_n 0, 1) := by decide +kernel
theorem dX0_hatch_1 : decode cX0_hatch 1 = .ok (.iconst 0, 1) := by decide +kernel
theorem dX0_hatch_2 : decode cX0_hatch 2 = .ok (.putfield 22, 3) := by decide +kernel
theorem dX0_hatch_5 : decode cX0_hatch 5 = .ok (.aload_n 0, 1) := by decide +kernel
theorem dX0_hatch_6 : decode cX0_hatch 6 = .ok (.bipush 30, 2) := by decide +kernel
theorem dX0_hatch_8 : decode cX0_hatch 8 = .ok (.putfield 25, 3) := by decide +kernel
theorem dX0_hatch_11 : decode cX0_hatch 11 = .ok (.aload_n 0, 1) := by decide +kernel
theorem dX0_hatch_12 : decode cX0_hatch 12 = .ok (.bipush 10, 2) := by decide +kernel
theorem dX0_hatch_14 : decode cX0_hatch 14 = .ok (.putfield 28, 3) := by decide +kernel
theorem dX0_hatch_17 : decode cX0_hatch 17 = .ok (.aload_n 0, 1) := by decide +kernel
theorem dX0_hatch_18 : decode cX0_hatch 18 = .ok (.iconst 0, 1) := by decide +kernel
theorem dX0_hatch_19 : decode cX0_hatch 19 = .ok (.putfield 31, 3) := by decide +kernel
theorem dX0_hatch_22 : decode cX0_hatch 22 = .ok (.aload_n 0, 1) := by decide +kernel
theorem dX0_hatch_23 : decode cX0_hatch 23 = .ok (.iconst 0, 1) := by decide +kernel
theorem dX0_hatch_24 : decode cX0_hatch 24 = .ok (.putfield 34, 3) := by decide +kernel
theorem dX0_hatch_27 : decode cX0_hatch 27 = .ok (.aload_n 0, 1) := by decide +kernel
theorem dX0_hatch_28 : decode cX0_hatch 28 = .ok (.iconst 0, 1) := by decide +kernel
theorem dX0_hatch_29 : decode cX0_hatch 29 = .ok (.putfield 38, 3) := by decide +kernel
theorem dX0_hatch_32 : decode cX0_hatch 32 = .ok (.aload_n 0, 1) := by decide +kernel
theorem dX0_hatch_33 : decode cX0_hatch 33 = .ok (.aload_n 1, 1) := by decide +kernel
theorem dX0_hatch_34 : decode cX0_hatch 34 = .ok (.iconst 0, 1) := by decide +kernel
theorem dX0_hatch_35 : decode cX0_hatch 35 = .ok (.invokevirtual 41, 3) := by decide +kernel
theorem dX0_hatch_38 : decode cX0_hatch 38 = .ok (.return_, 1) := by decide +kernel
set_option maxRecDepth 20000 in
theorem ggX0_follow_X4_copyFrom : GoodIn wsX0_follow wsX4_copyFrom := goodIn_r _ [8, 9, 10, 11, 12, 13, 14, 15, 16, 27, 28, 29, 30] (by decide +kernel) (by decide +kernel)
set_option maxRecDepth 20000 in
theorem gX0_follow_X4_copyFrom : GoodIn wsX0_follow (wsV RX0 45 RX4 yX4_copyFrom wsX4_copyFrom) := goodIn_app (goodIn_of _ (by decide +kernel)) ggX0_follow_X4_copyFrom
theorem dX0_follow_0 : decode cX0_follow 0 = .ok (.aload_n 0, 1) := by decide +kernel
theorem dX0_follow_1 : decode cX0_follow 1 = .ok (.getfield 18, 3) := by decide +kernel
theorem dX0_follow_4 : decode cX0_follow 4 = .ok (.aload_n 1, 1) := by decide +kernel
theorem dX0_follow_5 : decode cX0_follow 5 = .ok (.invokevirtual 45, 3) := by decide +kernel
theorem dX0_follow_8 : decode cX0_follow 8 = .ok (.aload_n 0, 1) := by decide +kernel
theorem dX0_follow_9 : decode cX0_follow 9 = .ok (.iload_n 2, 1) := by decide +kernel
theorem dX0_follow_10 : decode cX0_follow 10 = .ok (.putfield 49, 3) := by decide +kernel
theorem dX0_follow_13 : decode cX0_follow 13 = .ok (.aload_n 0, 1) := by decide +kernel
theorem dX0_follow_14 : decode cX0_follow 14 = .ok (.iconst 1, 1) := by decide +kernel
theorem dX0_follow_15 : decode cX0_follow 15 = .ok (.putfield 52, 3) := by decide +kernel
theorem dX0_follow_18 : decode cX0_follow 18 = .ok (.return_, 1) := by decide +kernel
set_option maxRecDepth 20000 in
theorem ggX0_house_X4_houseAt : GoodIn wsX0_house wsX4_houseAt := goodIn_r _ [7, 8, 9, 20, 21, 22, 23] (by decide +kernel) (by decide +kernel)
set_option maxRecDepth 20000 in
theorem gX0_house_X4_houseAt : GoodIn wsX0_house (wsV RX0 55 RX4 yX4_houseAt wsX4_houseAt) := goodIn_app (goodIn_of _ (by decide +kernel)) ggX0_house_X4_houseAt
theorem dX0_house_0 : decode cX0_house 0 = .ok (.aload_n 0, 1) := by decide +kernel
theorem dX0_house_1 : decode cX0_house 1 = .ok (.getfield 18, 3) := by decide +kernel
theorem dX0_house_4 : decode cX0_house 4 = .ok (.aload_n 0, 1) := by decide +kernel
theorem dX0_house_5 : decode cX0_house 5 = .ok (.getfield 49, 3) := by decide +kernel
theorem dX0_house_8 : decode cX0_house 8 = .ok (.invokevirtual 55, 3) := by decide +kernel
theorem dX0_house_11 : decode cX0_house 11 = .ok (.ireturn, 1) := by decide +kernel
theorem dX0_addHonour_0 : decode cX0_addHonour 0 = .ok (.aload_n 0, 1) := by decide +kernel
theorem dX0_addHonour_1 : decode cX0_addHonour 1 = .ok (.iconst 0, 1) := by decide +kernel
theorem dX0_addHonour_2 : decode cX0_addHonour 2 = .ok (.bipush 20, 2) := by decide +kernel
theorem dX0_addHonour_4 : decode cX0_addHonour 4 = .ok (.aload_n 0, 1) := by decide +kernel
theorem dX0_addHonour_5 : decode cX0_addHonour 5 = .ok (.getfield 28, 3) := by decide +kernel
theorem dX0_addHonour_8 : decode cX0_addHonour 8 = .ok (.iload_n 1, 1) := by decide +kernel
theorem dX0_addHonour_9 : decode cX0_addHonour 9 = .ok (.iadd, 1) := by decide +kernel
theorem dX0_addHonour_10 : decode cX0_addHonour 10 = .ok (.invokestatic 59, 3) := by decide +kernel
theorem dX0_addHonour_13 : decode cX0_addHonour 13 = .ok (.invokestatic 65, 3) := by decide +kernel
theorem dX0_addHonour_16 : decode cX0_addHonour 16 = .ok (.putfield 28, 3) := by decide +kernel
theorem dX0_addHonour_19 : decode cX0_addHonour 19 = .ok (.return_, 1) := by decide +kernel
theorem dX0_addStrength_0 : decode cX0_addStrength 0 = .ok (.aload_n 0, 1) := by decide +kernel
theorem dX0_addStrength_1 : decode cX0_addStrength 1 = .ok (.bipush 30, 2) := by decide +kernel
theorem dX0_addStrength_3 : decode cX0_addStrength 3 = .ok (.aload_n 0, 1) := by decide +kernel
theorem dX0_addStrength_4 : decode cX0_addStrength 4 = .ok (.getfield 25, 3) := by decide +kernel
theorem dX0_addStrength_7 : decode cX0_addStrength 7 = .ok (.iload_n 1, 1) := by decide +kernel
theorem dX0_addStrength_8 : decode cX0_addStrength 8 = .ok (.iadd, 1) := by decide +kernel
theorem dX0_addStrength_9 : decode cX0_addStrength 9 = .ok (.invokestatic 59, 3) := by decide +kernel
theorem dX0_addStrength_12 : decode cX0_addStrength 12 = .ok (.putfield 25, 3) := by decide +kernel
theorem dX0_addStrength_15 : decode cX0_addStrength 15 = .ok (.return_, 1) := by decide +kernel
theorem dX0_take_0 : decode cX0_take 0 = .ok (.aload_n 1, 1) := by decide +kernel
theorem dX0_take_1 : decode cX0_take 1 = .ok (.iconst (-1), 1) := by decide +kernel
theorem dX0_take_2 : decode cX0_take 2 = .ok (.putfield 68, 3) := by decide +kernel
theorem dX0_take_5 : decode cX0_take 5 = .ok (.aload_n 1, 1) := by decide +kernel
theorem dX0_take_6 : decode cX0_take 6 = .ok (.aload_n 0, 1) := by decide +kernel
theorem dX0_take_7 : decode cX0_take 7 = .ok (.getfield 9, 3) := by decide +kernel
theorem dX0_take_10 : decode cX0_take 10 = .ok (.putfield 73, 3) := by decide +kernel
theorem dX0_take_13 : decode cX0_take 13 = .ok (.aload_n 1, 1) := by decide +kernel
theorem dX0_take_14 : decode cX0_take 14 = .ok (.dup, 1) := by decide +kernel
theorem dX0_take_15 : decode cX0_take 15 = .ok (.getfield 76, 3) := by decide +kernel
theorem dX0_take_18 : decode cX0_take 18 = .ok (.iconst 1, 1) := by decide +kernel
theorem dX0_take_19 : decode cX0_take 19 = .ok (.iadd, 1) := by decide +kernel
theorem dX0_take_20 : decode cX0_take 20 = .ok (.putfield 76, 3) := by decide +kernel
theorem dX0_take_23 : decode cX0_take 23 = .ok (.aload_n 0, 1) := by decide +kernel
theorem dX0_take_24 : decode cX0_take 24 = .ok (.dup, 1) := by decide +kernel
theorem dX0_take_25 : decode cX0_take 25 = .ok (.getfield 31, 3) := by decide +kernel
theorem dX0_take_28 : decode cX0_take 28 = .ok (.iconst 1, 1) := by decide +kernel
theorem dX0_take_29 : decode cX0_take 29 = .ok (.iadd, 1) := by decide +kernel
theorem dX0_take_30 : decode cX0_take 30 = .ok (.putfield 31, 3) := by decide +kernel
theorem dX0_take_33 : decode cX0_take 33 = .ok (.return_, 1) := by decide +kernel
set_option maxRecDepth 20000 in
theorem ggX0_layDown_X0_house : GoodIn wsX0_layDown wsX0_house := goodIn_r _ [8, 9, 10, 11, 12, 13, 14, 15, 16, 17, 23, 24, 25, 26, 27, 28, 29, 30, 31, 32, 33, 34, 35, 36] (by decide +kernel) (by decide +kernel)
set_option maxRecDepth 20000 in
theorem gX0_layDown_X0_house : GoodIn wsX0_layDown (wsV RX0 79 RX0 yX0_house wsX0_house) := goodIn_app (goodIn_of _ (by decide +kernel)) ggX0_layDown_X0_house
theorem dX0_layDown_0 : decode cX0_layDown 0 = .ok (.aload_n 1, 1) := by decide +kernel
theorem dX0_layDown_1 : decode cX0_layDown 1 = .ok (.iconst (-1), 1) := by decide +kernel
theorem dX0_layDown_2 : decode cX0_layDown 2 = .ok (.putfield 73, 3) := by decide +kernel
theorem dX0_layDown_5 : decode cX0_layDown 5 = .ok (.aload_n 1, 1) := by decide +kernel
theorem dX0_layDown_6 : decode cX0_layDown 6 = .ok (.aload_n 0, 1) := by decide +kernel
theorem dX0_layDown_7 : decode cX0_layDown 7 = .ok (.invokevirtual 79, 3) := by decide +kernel
theorem dX0_layDown_10 : decode cX0_layDown 10 = .ok (.putfield 68, 3) := by decide +kernel
theorem dX0_layDown_13 : decode cX0_layDown 13 = .ok (.aload_n 0, 1) := by decide +kernel
theorem dX0_layDown_14 : decode cX0_layDown 14 = .ok (.dup, 1) := by decide +kernel
theorem dX0_layDown_15 : decode cX0_layDown 15 = .ok (.getfield 31, 3) := by decide +kernel
theorem dX0_layDown_18 : decode cX0_layDown 18 = .ok (.iconst 1, 1) := by decide +kernel
theorem dX0_layDown_19 : decode cX0_layDown 19 = .ok (.isub, 1) := by decide +kernel
theorem dX0_layDown_20 : decode cX0_layDown 20 = .ok (.putfield 31, 3) := by decide +kernel
theorem dX0_layDown_23 : decode cX0_layDown 23 = .ok (.return_, 1) := by decide +kernel
set_option maxRecDepth 20000 in
theorem ggX0_deliver_X0_addHonour : GoodIn wsX0_deliver wsX0_addHonour := goodIn_r _ [9, 10, 11, 12, 13, 14, 15, 16, 17, 23, 24, 25, 26, 27, 28, 29, 30, 31, 32] (by decide +kernel) (by decide +kernel)
set_option maxRecDepth 20000 in
theorem gX0_deliver_X0_addHonour : GoodIn wsX0_deliver (wsV RX0 86 RX0 yX0_addHonour wsX0_addHonour) := goodIn_app (goodIn_of _ (by decide +kernel)) ggX0_deliver_X0_addHonour
theorem dX0_deliver_0 : decode cX0_deliver 0 = .ok (.aload_n 1, 1) := by decide +kernel
theorem dX0_deliver_1 : decode cX0_deliver 1 = .ok (.iconst (-1), 1) := by decide +kernel
theorem dX0_deliver_2 : decode cX0_deliver 2 = .ok (.putfield 73, 3) := by decide +kernel
theorem dX0_deliver_5 : decode cX0_deliver 5 = .ok (.aload_n 1, 1) := by decide +kernel
theorem dX0_deliver_6 : decode cX0_deliver 6 = .ok (.iload_n 2, 1) := by decide +kernel
theorem dX0_deliver_7 : decode cX0_deliver 7 = .ok (.putfield 83, 3) := by decide +kernel
theorem dX0_deliver_10 : decode cX0_deliver 10 = .ok (.aload_n 0, 1) := by decide +kernel
theorem dX0_deliver_11 : decode cX0_deliver 11 = .ok (.dup, 1) := by decide +kernel
theorem dX0_deliver_12 : decode cX0_deliver 12 = .ok (.getfield 31, 3) := by decide +kernel
theorem dX0_deliver_15 : decode cX0_deliver 15 = .ok (.iconst 1, 1) := by decide +kernel
theorem dX0_deliver_16 : decode cX0_deliver 16 = .ok (.isub, 1) := by decide +kernel
theorem dX0_deliver_17 : decode cX0_deliver 17 = .ok (.putfield 31, 3) := by decide +kernel
theorem dX0_deliver_20 : decode cX0_deliver 20 = .ok (.aload_n 0, 1) := by decide +kernel
theorem dX0_deliver_21 : decode cX0_deliver 21 = .ok (.dup, 1) := by decide +kernel
theorem dX0_deliver_22 : decode cX0_deliver 22 = .ok (.getfield 38, 3) := by decide +kernel
theorem dX0_deliver_25 : decode cX0_deliver 25 = .ok (.iconst 1, 1) := by decide +kernel
theorem dX0_deliver_26 : decode cX0_deliver 26 = .ok (.iadd, 1) := by decide +kernel
theorem dX0_deliver_27 : decode cX0_deliver 27 = .ok (.putfield 38, 3) := by decide +kernel
theorem dX0_deliver_30 : decode cX0_deliver 30 = .ok (.aload_n 0, 1) := by decide +kernel
theorem dX0_deliver_31 : decode cX0_deliver 31 = .ok (.iconst 1, 1) := by decide +kernel
theorem dX0_deliver_32 : decode cX0_deliver 32 = .ok (.invokevirtual 86, 3) := by decide +kernel
theorem dX0_deliver_35 : decode cX0_deliver 35 = .ok (.return_, 1) := by decide +kernel
set_option maxRecDepth 20000 in
theorem ggX0_restsNow_X0_addStrength : GoodIn wsX0_restsNow wsX0_addStrength := goodIn_r _ [7, 2, 8, 9, 10, 11, 12, 13, 14, 15, 16, 17, 18, 19, 20, 21] (by decide +kernel) (by decide +kernel)
set_option maxRecDepth 20000 in
theorem gX0_restsNow_X0_addStrength : GoodIn wsX0_restsNow (wsV RX0 90 RX0 yX0_addStrength wsX0_addStrength) := goodIn_app (goodIn_of _ (by decide +kernel)) ggX0_restsNow_X0_addStrength
theorem dX0_restsNow_0 : decode cX0_restsNow 0 = .ok (.aload_n 0, 1) := by decide +kernel
theorem dX0_restsNow_1 : decode cX0_restsNow 1 = .ok (.getfield 34, 3) := by decide +kernel
theorem dX0_restsNow_4 : decode cX0_restsNow 4 = .ok (.ifCond .eq 28, 3) := by decide +kernel
theorem dX0_restsNow_7 : decode cX0_restsNow 7 = .ok (.aload_n 0, 1) := by decide +kernel
theorem dX0_restsNow_8 : decode cX0_restsNow 8 = .ok (.iconst 3, 1) := by decide +kernel
theorem dX0_restsNow_9 : decode cX0_restsNow 9 = .ok (.invokevirtual 90, 3) := by decide +kernel
theorem dX0_restsNow_12 : decode cX0_restsNow 12 = .ok (.aload_n 0, 1) := by decide +kernel
theorem dX0_restsNow_13 : decode cX0_restsNow 13 = .ok (.aload_n 0, 1) := by decide +kernel
theorem dX0_restsNow_14 : decode cX0_restsNow 14 = .ok (.getfield 25, 3) := by decide +kernel
theorem dX0_restsNow_17 : decode cX0_restsNow 17 = .ok (.bipush 20, 2) := by decide +kernel
theorem dX0_restsNow_19 : decode cX0_restsNow 19 = .ok (.if_icmp .ge 7, 3) := by decide +kernel
theorem dX0_restsNow_22 : decode cX0_restsNow 22 = .ok (.iconst 1, 1) := by decide +kernel
theorem dX0_restsNow_23 : decode cX0_restsNow 23 = .ok (.goto 4, 3) := by decide +kernel
theorem dX0_restsNow_26 : decode cX0_restsNow 26 = .ok (.iconst 0, 1) := by decide +kernel
theorem dX0_restsNow_27 : decode cX0_restsNow 27 = .ok (.putfield 34, 3) := by decide +kernel
theorem dX0_restsNow_30 : decode cX0_restsNow 30 = .ok (.iconst 1, 1) := by decide +kernel
theorem dX0_restsNow_31 : decode cX0_restsNow 31 = .ok (.ireturn, 1) := by decide +kernel
theorem dX0_restsNow_32 : decode cX0_restsNow 32 = .ok (.aload_n 0, 1) := by decide +kernel
theorem dX0_restsNow_33 : decode cX0_restsNow 33 = .ok (.iload_n 1, 1) := by decide +kernel
theorem dX0_restsNow_34 : decode cX0_restsNow 34 = .ok (.ifCond .eq 16, 3) := by decide +kernel
theorem dX0_restsNow_37 : decode cX0_restsNow 37 = .ok (.aload_n 0, 1) := by decide +kernel
theorem dX0_restsNow_38 : decode cX0_restsNow 38 = .ok (.getfield 25, 3) := by decide +kernel
theorem dX0_restsNow_41 : decode cX0_restsNow 41 = .ok (.bipush 10, 2) := by decide +kernel
theorem dX0_restsNow_43 : decode cX0_restsNow 43 = .ok (.if_icmp .ge 7, 3) := by decide +kernel
theorem dX0_restsNow_46 : decode cX0_restsNow 46 = .ok (.iconst 1, 1) := by decide +kernel
theorem dX0_restsNow_47 : decode cX0_restsNow 47 = .ok (.goto 4, 3) := by decide +kernel
theorem dX0_restsNow_50 : decode cX0_restsNow 50 = .ok (.iconst 0, 1) := by decide +kernel
theorem dX0_restsNow_51 : decode cX0_restsNow 51 = .ok (.putfield 34, 3) := by decide +kernel
theorem dX0_restsNow_54 : decode cX0_restsNow 54 = .ok (.aload_n 0, 1) := by decide +kernel
theorem dX0_restsNow_55 : decode cX0_restsNow 55 = .ok (.getfield 34, 3) := by decide +kernel
theorem dX0_restsNow_58 : decode cX0_restsNow 58 = .ok (.ireturn, 1) := by decide +kernel
set_option maxRecDepth 20000 in
theorem ggX0_turnAtEnd_X4_length : GoodIn wsX0_turnAtEnd wsX4_length := goodIn_r _ [8, 9, 20, 21, 22, 23] (by decide +kernel) (by decide +kernel)
set_option maxRecDepth 20000 in
theorem gX0_turnAtEnd_X4_length : GoodIn wsX0_turnAtEnd (wsV RX0 93 RX4 yX4_length wsX4_length) := goodIn_app (goodIn_of _ (by decide +kernel)) ggX0_turnAtEnd_X4_length
theorem dX0_turnAtEnd_0 : decode cX0_turnAtEnd 0 = .ok (.aload_n 0, 1) := by decide +kernel
theorem dX0_turnAtEnd_1 : decode cX0_turnAtEnd 1 = .ok (.getfield 52, 3) := by decide +kernel
theorem dX0_turnAtEnd_4 : decode cX0_turnAtEnd 4 = .ok (.ifCond .eq 15, 3) := by decide +kernel
theorem dX0_turnAtEnd_7 : decode cX0_turnAtEnd 7 = .ok (.aload_n 0, 1) := by decide +kernel
theorem dX0_turnAtEnd_8 : decode cX0_turnAtEnd 8 = .ok (.getfield 18, 3) := by decide +kernel
theorem dX0_turnAtEnd_11 : decode cX0_turnAtEnd 11 = .ok (.invokevirtual 93, 3) := by decide +kernel
theorem dX0_turnAtEnd_14 : decode cX0_turnAtEnd 14 = .ok (.iconst 1, 1) := by decide +kernel
theorem dX0_turnAtEnd_15 : decode cX0_turnAtEnd 15 = .ok (.isub, 1) := by decide +kernel
theorem dX0_turnAtEnd_16 : decode cX0_turnAtEnd 16 = .ok (.goto 4, 3) := by decide +kernel
theorem dX0_turnAtEnd_19 : decode cX0_turnAtEnd 19 = .ok (.iconst 0, 1) := by decide +kernel
theorem dX0_turnAtEnd_20 : decode cX0_turnAtEnd 20 = .ok (.istore_n 1, 1) := by decide +kernel
theorem dX0_turnAtEnd_21 : decode cX0_turnAtEnd 21 = .ok (.aload_n 0, 1) := by decide +kernel
theorem dX0_turnAtEnd_22 : decode cX0_turnAtEnd 22 = .ok (.getfield 49, 3) := by decide +kernel
theorem dX0_turnAtEnd_25 : decode cX0_turnAtEnd 25 = .ok (.iload_n 1, 1) := by decide +kernel
theorem dX0_turnAtEnd_26 : decode cX0_turnAtEnd 26 = .ok (.if_icmp .ne 19, 3) := by decide +kernel
theorem dX0_turnAtEnd_29 : decode cX0_turnAtEnd 29 = .ok (.aload_n 0, 1) := by decide +kernel
theorem dX0_turnAtEnd_30 : decode cX0_turnAtEnd 30 = .ok (.aload_n 0, 1) := by decide +kernel
theorem dX0_turnAtEnd_31 : decode cX0_turnAtEnd 31 = .ok (.getfield 52, 3) := by decide +kernel
theorem dX0_turnAtEnd_34 : decode cX0_turnAtEnd 34 = .ok (.ifCond .ne 7, 3) := by decide +kernel
theorem dX0_turnAtEnd_37 : decode cX0_turnAtEnd 37 = .ok (.iconst 1, 1) := by decide +kernel
theorem dX0_turnAtEnd_38 : decode cX0_turnAtEnd 38 = .ok (.goto 4, 3) := by decide +kernel
theorem dX0_turnAtEnd_41 : decode cX0_turnAtEnd 41 = .ok (.iconst 0, 1) := by decide +kernel
theorem dX0_turnAtEnd_42 : decode cX0_turnAtEnd 42 = .ok (.putfield 52, 3) := by decide +kernel
theorem dX0_turnAtEnd_45 : decode cX0_turnAtEnd 45 = .ok (.return_, 1) := by decide +kernel
set_option maxRecDepth 20000 in
theorem ggX0_nextLane_X4_laneAt : GoodIn wsX0_nextLane wsX4_laneAt := goodIn_r _ [8, 9, 10, 21, 22, 23, 24] (by decide +kernel) (by decide +kernel)
set_option maxRecDepth 20000 in
theorem gX0_nextLane_X4_laneAt : GoodIn wsX0_nextLane (wsV RX0 96 RX4 yX4_laneAt wsX4_laneAt) := goodIn_app (goodIn_of _ (by decide +kernel)) ggX0_nextLane_X4_laneAt
theorem dX0_nextLane_0 : decode cX0_nextLane 0 = .ok (.aload_n 0, 1) := by decide +kernel
theorem dX0_nextLane_1 : decode cX0_nextLane 1 = .ok (.getfield 18, 3) := by decide +kernel
theorem dX0_nextLane_4 : decode cX0_nextLane 4 = .ok (.aload_n 0, 1) := by decide +kernel
theorem dX0_nextLane_5 : decode cX0_nextLane 5 = .ok (.getfield 52, 3) := by decide +kernel
theorem dX0_nextLane_8 : decode cX0_nextLane 8 = .ok (.ifCond .eq 10, 3) := by decide +kernel
theorem dX0_nextLane_11 : decode cX0_nextLane 11 = .ok (.aload_n 0, 1) := by decide +kernel
theorem dX0_nextLane_12 : decode cX0_nextLane 12 = .ok (.getfield 49, 3) := by decide +kernel
theorem dX0_nextLane_15 : decode cX0_nextLane 15 = .ok (.goto 9, 3) := by decide +kernel
theorem dX0_nextLane_18 : decode cX0_nextLane 18 = .ok (.aload_n 0, 1) := by decide +kernel
theorem dX0_nextLane_19 : decode cX0_nextLane 19 = .ok (.getfield 49, 3) := by decide +kernel
theorem dX0_nextLane_22 : decode cX0_nextLane 22 = .ok (.iconst 1, 1) := by decide +kernel
theorem dX0_nextLane_23 : decode cX0_nextLane 23 = .ok (.isub, 1) := by decide +kernel
theorem dX0_nextLane_24 : decode cX0_nextLane 24 = .ok (.invokevirtual 96, 3) := by decide +kernel
theorem dX0_nextLane_27 : decode cX0_nextLane 27 = .ok (.ireturn, 1) := by decide +kernel
set_option maxRecDepth 20000 in
theorem ggX0_flyOrStay_X0_addStrength : GoodIn wsX0_flyOrStay wsX0_addStrength := goodIn_r _ [9, 1, 10, 11, 12, 13, 14, 15, 16, 17, 18, 19, 20, 21, 22, 23] (by decide +kernel) (by decide +kernel)
set_option maxRecDepth 20000 in
theorem gX0_flyOrStay_X0_addStrength : GoodIn wsX0_flyOrStay (wsV RX0 90 RX0 yX0_addStrength wsX0_addStrength) := goodIn_app (goodIn_of _ (by decide +kernel)) ggX0_flyOrStay_X0_addStrength
theorem dX0_flyOrStay_0 : decode cX0_flyOrStay 0 = .ok (.iload_n 1, 1) := by decide +kernel
theorem dX0_flyOrStay_1 : decode cX0_flyOrStay 1 = .ok (.ifCond .eq 50, 3) := by decide +kernel
theorem dX0_flyOrStay_4 : decode cX0_flyOrStay 4 = .ok (.aload_n 0, 1) := by decide +kernel
theorem dX0_flyOrStay_5 : decode cX0_flyOrStay 5 = .ok (.getfield 25, 3) := by decide +kernel
theorem dX0_flyOrStay_8 : decode cX0_flyOrStay 8 = .ok (.iload_n 2, 1) := by decide +kernel
theorem dX0_flyOrStay_9 : decode cX0_flyOrStay 9 = .ok (.if_icmp .lt 42, 3) := by decide +kernel
theorem dX0_flyOrStay_12 : decode cX0_flyOrStay 12 = .ok (.aload_n 0, 1) := by decide +kernel
theorem dX0_flyOrStay_13 : decode cX0_flyOrStay 13 = .ok (.dup, 1) := by decide +kernel
theorem dX0_flyOrStay_14 : decode cX0_flyOrStay 14 = .ok (.getfield 25, 3) := by decide +kernel
theorem dX0_flyOrStay_17 : decode cX0_flyOrStay 17 = .ok (.iload_n 2, 1) := by decide +kernel
theorem dX0_flyOrStay_18 : decode cX0_flyOrStay 18 = .ok (.isub, 1) := by decide +kernel
theorem dX0_flyOrStay_19 : decode cX0_flyOrStay 19 = .ok (.putfield 25, 3) := by decide +kernel
theorem dX0_flyOrStay_22 : decode cX0_flyOrStay 22 = .ok (.aload_n 0, 1) := by decide +kernel
theorem dX0_flyOrStay_23 : decode cX0_flyOrStay 23 = .ok (.iload_n 2, 1) := by decide +kernel
theorem dX0_flyOrStay_24 : decode cX0_flyOrStay 24 = .ok (.putfield 22, 3) := by decide +kernel
theorem dX0_flyOrStay_27 : decode cX0_flyOrStay 27 = .ok (.aload_n 0, 1) := by decide +kernel
theorem dX0_flyOrStay_28 : decode cX0_flyOrStay 28 = .ok (.dup, 1) := by decide +kernel
theorem dX0_flyOrStay_29 : decode cX0_flyOrStay 29 = .ok (.getfield 49, 3) := by decide +kernel
theorem dX0_flyOrStay_32 : decode cX0_flyOrStay 32 = .ok (.aload_n 0, 1) := by decide +kernel
theorem dX0_flyOrStay_33 : decode cX0_flyOrStay 33 = .ok (.getfield 52, 3) := by decide +kernel
theorem dX0_flyOrStay_36 : decode cX0_flyOrStay 36 = .ok (.ifCond .eq 7, 3) := by decide +kernel
theorem dX0_flyOrStay_39 : decode cX0_flyOrStay 39 = .ok (.iconst 1, 1) := by decide +kernel
theorem dX0_flyOrStay_40 : decode cX0_flyOrStay 40 = .ok (.goto 4, 3) := by decide +kernel
theorem dX0_flyOrStay_43 : decode cX0_flyOrStay 43 = .ok (.iconst (-1), 1) := by decide +kernel
theorem dX0_flyOrStay_44 : decode cX0_flyOrStay 44 = .ok (.iadd, 1) := by decide +kernel
theorem dX0_flyOrStay_45 : decode cX0_flyOrStay 45 = .ok (.putfield 49, 3) := by decide +kernel
theorem dX0_flyOrStay_48 : decode cX0_flyOrStay 48 = .ok (.goto 8, 3) := by decide +kernel
theorem dX0_flyOrStay_51 : decode cX0_flyOrStay 51 = .ok (.aload_n 0, 1) := by decide +kernel
theorem dX0_flyOrStay_52 : decode cX0_flyOrStay 52 = .ok (.iconst 1, 1) := by decide +kernel
theorem dX0_flyOrStay_53 : decode cX0_flyOrStay 53 = .ok (.invokevirtual 90, 3) := by decide +kernel
theorem dX0_flyOrStay_56 : decode cX0_flyOrStay 56 = .ok (.return_, 1) := by decide +kernel
set_option maxRecDepth 20000 in
theorem ggX0_tell_X0_house : GoodIn wsX0_tell wsX0_house := goodIn_r _ [13, 6, 14, 15, 16, 17, 18, 19, 20, 21, 26, 27, 28, 29, 30, 31, 32, 33, 34, 35, 36, 37, 38, 39] (by decide +kernel) (by decide +kernel)
set_option maxRecDepth 20000 in
theorem gX0_tell_X0_house : GoodIn wsX0_tell (wsV RX0 79 RX0 yX0_house wsX0_house) := goodIn_app (goodIn_of _ (by decide +kernel)) ggX0_tell_X0_house
set_option maxRecDepth 20000 in
theorem ggX0_tell_X4_length : GoodIn wsX0_tell wsX4_length := goodIn_r _ [25, 20, 36, 37, 38, 39] (by decide +kernel) (by decide +kernel)
set_option maxRecDepth 20000 in
theorem gX0_tell_X4_length : GoodIn wsX0_tell (wsV RX0 93 RX4 yX4_length wsX4_length) := goodIn_app (goodIn_of _ (by decide +kernel)) ggX0_tell_X4_length
theorem dX0_tell_0 : decode cX0_tell 0 = .ok (.iload_n 1, 1) := by decide +kernel
theorem dX0_tell_1 : decode cX0_tell 1 = .ok (.tableswitch 98 0 7 #[47, 52, 57, 62, 67, 72, 85, 93], 47) := by decide +kernel
theorem dX0_tell_48 : decode cX0_tell 48 = .ok (.aload_n 0, 1) := by decide +kernel
theorem dX0_tell_49 : decode cX0_tell 49 = .ok (.invokevirtual 79, 3) := by decide +kernel
theorem dX0_tell_52 : decode cX0_tell 52 = .ok (.ireturn, 1) := by decide +kernel
theorem dX0_tell_53 : decode cX0_tell 53 = .ok (.aload_n 0, 1) := by decide +kernel
theorem dX0_tell_54 : decode cX0_tell 54 = .ok (.getfield 22, 3) := by decide +kernel
theorem dX0_tell_57 : decode cX0_tell 57 = .ok (.ireturn, 1) := by decide +kernel
theorem dX0_tell_58 : decode cX0_tell 58 = .ok (.aload_n 0, 1) := by decide +kernel
theorem dX0_tell_59 : decode cX0_tell 59 = .ok (.getfield 25, 3) := by decide +kernel
theorem dX0_tell_62 : decode cX0_tell 62 = .ok (.ireturn, 1) := by decide +kernel
theorem dX0_tell_63 : decode cX0_tell 63 = .ok (.aload_n 0, 1) := by decide +kernel
theorem dX0_tell_64 : decode cX0_tell 64 = .ok (.getfield 28, 3) := by decide +kernel
theorem dX0_tell_67 : decode cX0_tell 67 = .ok (.ireturn, 1) := by decide +kernel
theorem dX0_tell_68 : decode cX0_tell 68 = .ok (.aload_n 0, 1) := by decide +kernel
theorem dX0_tell_69 : decode cX0_tell 69 = .ok (.getfield 31, 3) := by decide +kernel
theorem dX0_tell_72 : decode cX0_tell 72 = .ok (.ireturn, 1) := by decide +kernel
theorem dX0_tell_73 : decode cX0_tell 73 = .ok (.aload_n 0, 1) := by decide +kernel
theorem dX0_tell_74 : decode cX0_tell 74 = .ok (.getfield 34, 3) := by decide +kernel
theorem dX0_tell_77 : decode cX0_tell 77 = .ok (.ifCond .eq 7, 3) := by decide +kernel
theorem dX0_tell_80 : decode cX0_tell 80 = .ok (.iconst 1, 1) := by decide +kernel
theorem dX0_tell_81 : decode cX0_tell 81 = .ok (.goto 4, 3) := by decide +kernel
theorem dX0_tell_84 : decode cX0_tell 84 = .ok (.iconst 0, 1) := by decide +kernel
theorem dX0_tell_85 : decode cX0_tell 85 = .ok (.ireturn, 1) := by decide +kernel
theorem dX0_tell_86 : decode cX0_tell 86 = .ok (.aload_n 0, 1) := by decide +kernel
theorem dX0_tell_87 : decode cX0_tell 87 = .ok (.getfield 18, 3) := by decide +kernel
theorem dX0_tell_90 : decode cX0_tell 90 = .ok (.invokevirtual 93, 3) := by decide +kernel
theorem dX0_tell_93 : decode cX0_tell 93 = .ok (.ireturn, 1) := by decide +kernel
theorem dX0_tell_94 : decode cX0_tell 94 = .ok (.aload_n 0, 1) := by decide +kernel
theorem dX0_tell_95 : decode cX0_tell 95 = .ok (.getfield 38, 3) := by decide +kernel
theorem dX0_tell_98 : decode cX0_tell 98 = .ok (.ireturn, 1) := by decide +kernel
theorem dX0_tell_99 : decode cX0_tell 99 = .ok (.aload_n 0, 1) := by decide +kernel
theorem dX0_tell_100 : decode cX0_tell 100 = .ok (.getfield 52, 3) := by decide +kernel
theorem dX0_tell_103 : decode cX0_tell 103 = .ok (.ifCond .eq 7, 3) := by decide +kernel
theorem dX0_tell_106 : decode cX0_tell 106 = .ok (.iconst 1, 1) := by decide +kernel
theorem dX0_tell_107 : decode cX0_tell 107 = .ok (.goto 4, 3) := by decide +kernel
theorem dX0_tell_110 : decode cX0_tell 110 = .ok (.iconst 0, 1) := by decide +kernel
theorem dX0_tell_111 : decode cX0_tell 111 = .ok (.ireturn, 1) := by decide +kernel
set_option maxRecDepth 20000 in
theorem ggX0_digestFrom_X0_tell : GoodIn wsX0_digestFrom wsX0_tell := goodIn_r _ [7, 8, 9, 10, 11, 12, 2, 13, 14, 15, 16, 17, 6, 18, 19, 20, 21, 22, 23, 24, 25, 26, 27, 28, 29, 30, 31, 32, 33, 34, 35, 36, 37, 38, 39, 40, 41, 42, 43, 44] (by decide +kernel) (by decide +kernel)
set_option maxRecDepth 20000 in
theorem gX0_digestFrom_X0_tell : GoodIn wsX0_digestFrom (wsV RX0 101 RX0 yX0_tell wsX0_tell) := goodIn_app (goodIn_of _ (by decide +kernel)) ggX0_digestFrom_X0_tell
set_option maxRecDepth 20000 in
theorem ggX0_digestFrom_X4_length : GoodIn wsX0_digestFrom wsX4_length := goodIn_r _ [30, 25, 41, 42, 43, 44] (by decide +kernel) (by decide +kernel)
set_option maxRecDepth 20000 in
theorem gX0_digestFrom_X4_length : GoodIn wsX0_digestFrom (wsV RX0 93 RX4 yX4_length wsX4_length) := goodIn_app (goodIn_of _ (by decide +kernel)) ggX0_digestFrom_X4_length
set_option maxRecDepth 20000 in
theorem ggX0_digestFrom_X4_houseAt : GoodIn wsX0_digestFrom wsX4_houseAt := goodIn_r _ [24, 25, 26, 41, 42, 43, 44] (by decide +kernel) (by decide +kernel)
set_option maxRecDepth 20000 in
theorem gX0_digestFrom_X4_houseAt : GoodIn wsX0_digestFrom (wsV RX0 55 RX4 yX4_houseAt wsX4_houseAt) := goodIn_app (goodIn_of _ (by decide +kernel)) ggX0_digestFrom_X4_houseAt
theorem dX0_digestFrom_0 : decode cX0_digestFrom 0 = .ok (.lload_n 1, 1) := by decide +kernel
theorem dX0_digestFrom_1 : decode cX0_digestFrom 1 = .ok (.lstore_n 3, 1) := by decide +kernel
theorem dX0_digestFrom_2 : decode cX0_digestFrom 2 = .ok (.iconst 0, 1) := by decide +kernel
theorem dX0_digestFrom_3 : decode cX0_digestFrom 3 = .ok (.istore 5, 2) := by decide +kernel
theorem dX0_digestFrom_5 : decode cX0_digestFrom 5 = .ok (.iload 5, 2) := by decide +kernel
theorem dX0_digestFrom_7 : decode cX0_digestFrom 7 = .ok (.bipush 9, 2) := by decide +kernel
theorem dX0_digestFrom_9 : decode cX0_digestFrom 9 = .ok (.if_icmp .ge 23, 3) := by decide +kernel
theorem dX0_digestFrom_12 : decode cX0_digestFrom 12 = .ok (.lload_n 3, 1) := by decide +kernel
theorem dX0_digestFrom_13 : decode cX0_digestFrom 13 = .ok (.ldc2_w 99, 3) := by decide +kernel
theorem dX0_digestFrom_16 : decode cX0_digestFrom 16 = .ok (.lmul, 1) := by decide +kernel
theorem dX0_digestFrom_17 : decode cX0_digestFrom 17 = .ok (.aload_n 0, 1) := by decide +kernel
theorem dX0_digestFrom_18 : decode cX0_digestFrom 18 = .ok (.iload 5, 2) := by decide +kernel
theorem dX0_digestFrom_20 : decode cX0_digestFrom 20 = .ok (.invokevirtual 101, 3) := by decide +kernel
theorem dX0_digestFrom_23 : decode cX0_digestFrom 23 = .ok (.i2l, 1) := by decide +kernel
theorem dX0_digestFrom_24 : decode cX0_digestFrom 24 = .ok (.ladd, 1) := by decide +kernel
theorem dX0_digestFrom_25 : decode cX0_digestFrom 25 = .ok (.lstore_n 3, 1) := by decide +kernel
theorem dX0_digestFrom_26 : decode cX0_digestFrom 26 = .ok (.iinc 5 1, 3) := by decide +kernel
theorem dX0_digestFrom_29 : decode cX0_digestFrom 29 = .ok (.goto (-24), 3) := by decide +kernel
theorem dX0_digestFrom_32 : decode cX0_digestFrom 32 = .ok (.iconst 0, 1) := by decide +kernel
theorem dX0_digestFrom_33 : decode cX0_digestFrom 33 = .ok (.istore 5, 2) := by decide +kernel
theorem dX0_digestFrom_35 : decode cX0_digestFrom 35 = .ok (.iload 5, 2) := by decide +kernel
theorem dX0_digestFrom_37 : decode cX0_digestFrom 37 = .ok (.aload_n 0, 1) := by decide +kernel
theorem dX0_digestFrom_38 : decode cX0_digestFrom 38 = .ok (.getfield 18, 3) := by decide +kernel
theorem dX0_digestFrom_41 : decode cX0_digestFrom 41 = .ok (.invokevirtual 93, 3) := by decide +kernel
theorem dX0_digestFrom_44 : decode cX0_digestFrom 44 = .ok (.if_icmp .ge 26, 3) := by decide +kernel
theorem dX0_digestFrom_47 : decode cX0_digestFrom 47 = .ok (.lload_n 3, 1) := by decide +kernel
theorem dX0_digestFrom_48 : decode cX0_digestFrom 48 = .ok (.ldc2_w 99, 3) := by decide +kernel
theorem dX0_digestFrom_51 : decode cX0_digestFrom 51 = .ok (.lmul, 1) := by decide +kernel
theorem dX0_digestFrom_52 : decode cX0_digestFrom 52 = .ok (.aload_n 0, 1) := by decide +kernel
theorem dX0_digestFrom_53 : decode cX0_digestFrom 53 = .ok (.getfield 18, 3) := by decide +kernel
theorem dX0_digestFrom_56 : decode cX0_digestFrom 56 = .ok (.iload 5, 2) := by decide +kernel
theorem dX0_digestFrom_58 : decode cX0_digestFrom 58 = .ok (.invokevirtual 55, 3) := by decide +kernel
theorem dX0_digestFrom_61 : decode cX0_digestFrom 61 = .ok (.i2l, 1) := by decide +kernel
theorem dX0_digestFrom_62 : decode cX0_digestFrom 62 = .ok (.ladd, 1) := by decide +kernel
theorem dX0_digestFrom_63 : decode cX0_digestFrom 63 = .ok (.lstore_n 3, 1) := by decide +kernel
theorem dX0_digestFrom_64 : decode cX0_digestFrom 64 = .ok (.iinc 5 1, 3) := by decide +kernel
theorem dX0_digestFrom_67 : decode cX0_digestFrom 67 = .ok (.goto (-32), 3) := by decide +kernel
theorem dX0_digestFrom_70 : decode cX0_digestFrom 70 = .ok (.lload_n 3, 1) := by decide +kernel
theorem dX0_digestFrom_71 : decode cX0_digestFrom 71 = .ok (.lreturn, 1) := by decide +kernel
theorem dX0_copyFrom_0 : decode cX0_copyFrom 0 = .ok (.aload_n 0, 1) := by decide +kernel
theorem dX0_copyFrom_1 : decode cX0_copyFrom 1 = .ok (.aload_n 1, 1) := by decide +kernel
theorem dX0_copyFrom_2 : decode cX0_copyFrom 2 = .ok (.getfield 18, 3) := by decide +kernel
theorem dX0_copyFrom_5 : decode cX0_copyFrom 5 = .ok (.putfield 18, 3) := by decide +kernel
theorem dX0_copyFrom_8 : decode cX0_copyFrom 8 = .ok (.aload_n 0, 1) := by decide +kernel
theorem dX0_copyFrom_9 : decode cX0_copyFrom 9 = .ok (.aload_n 1, 1) := by decide +kernel
theorem dX0_copyFrom_10 : decode cX0_copyFrom 10 = .ok (.getfield 49, 3) := by decide +kernel
theorem dX0_copyFrom_13 : decode cX0_copyFrom 13 = .ok (.putfield 49, 3) := by decide +kernel
theorem dX0_copyFrom_16 : decode cX0_copyFrom 16 = .ok (.aload_n 0, 1) := by decide +kernel
theorem dX0_copyFrom_17 : decode cX0_copyFrom 17 = .ok (.aload_n 1, 1) := by decide +kernel
theorem dX0_copyFrom_18 : decode cX0_copyFrom 18 = .ok (.getfield 22, 3) := by decide +kernel
theorem dX0_copyFrom_21 : decode cX0_copyFrom 21 = .ok (.putfield 22, 3) := by decide +kernel
theorem dX0_copyFrom_24 : decode cX0_copyFrom 24 = .ok (.aload_n 0, 1) := by decide +kernel
theorem dX0_copyFrom_25 : decode cX0_copyFrom 25 = .ok (.aload_n 1, 1) := by decide +kernel
theorem dX0_copyFrom_26 : decode cX0_copyFrom 26 = .ok (.getfield 25, 3) := by decide +kernel
theorem dX0_copyFrom_29 : decode cX0_copyFrom 29 = .ok (.putfield 25, 3) := by decide +kernel
theorem dX0_copyFrom_32 : decode cX0_copyFrom 32 = .ok (.aload_n 0, 1) := by decide +kernel
theorem dX0_copyFrom_33 : decode cX0_copyFrom 33 = .ok (.aload_n 1, 1) := by decide +kernel
theorem dX0_copyFrom_34 : decode cX0_copyFrom 34 = .ok (.getfield 28, 3) := by decide +kernel
theorem dX0_copyFrom_37 : decode cX0_copyFrom 37 = .ok (.putfield 28, 3) := by decide +kernel
theorem dX0_copyFrom_40 : decode cX0_copyFrom 40 = .ok (.aload_n 0, 1) := by decide +kernel
theorem dX0_copyFrom_41 : decode cX0_copyFrom 41 = .ok (.aload_n 1, 1) := by decide +kernel
theorem dX0_copyFrom_42 : decode cX0_copyFrom 42 = .ok (.getfield 31, 3) := by decide +kernel
theorem dX0_copyFrom_45 : decode cX0_copyFrom 45 = .ok (.putfield 31, 3) := by decide +kernel
theorem dX0_copyFrom_48 : decode cX0_copyFrom 48 = .ok (.aload_n 0, 1) := by decide +kernel
theorem dX0_copyFrom_49 : decode cX0_copyFrom 49 = .ok (.aload_n 1, 1) := by decide +kernel
theorem dX0_copyFrom_50 : decode cX0_copyFrom 50 = .ok (.getfield 34, 3) := by decide +kernel
theorem dX0_copyFrom_53 : decode cX0_copyFrom 53 = .ok (.putfield 34, 3) := by decide +kernel
theorem dX0_copyFrom_56 : decode cX0_copyFrom 56 = .ok (.aload_n 0, 1) := by decide +kernel
theorem dX0_copyFrom_57 : decode cX0_copyFrom 57 = .ok (.aload_n 1, 1) := by decide +kernel
theorem dX0_copyFrom_58 : decode cX0_copyFrom 58 = .ok (.getfield 38, 3) := by decide +kernel
theorem dX0_copyFrom_61 : decode cX0_copyFrom 61 = .ok (.putfield 38, 3) := by decide +kernel
theorem dX0_copyFrom_64 : decode cX0_copyFrom 64 = .ok (.aload_n 0, 1) := by decide +kernel
theorem dX0_copyFrom_65 : decode cX0_copyFrom 65 = .ok (.aload_n 1, 1) := by decide +kernel
theorem dX0_copyFrom_66 : decode cX0_copyFrom 66 = .ok (.getfield 52, 3) := by decide +kernel
theorem dX0_copyFrom_69 : decode cX0_copyFrom 69 = .ok (.putfield 52, 3) := by decide +kernel
theorem dX0_copyFrom_72 : decode cX0_copyFrom 72 = .ok (.return_, 1) := by decide +kernel
set_option maxRecDepth 20000 in
theorem ggX1_init_X0_init : GoodIn wsX1_init wsX0_init := goodIn_r _ [16, 17, 2, 3, 18, 19, 20, 21, 22, 23, 24, 25, 26, 27, 28, 29, 30, 42, 43, 44, 45, 46, 47, 48, 49, 50, 51, 57, 58, 59, 60] (by decide +kernel) (by decide +kernel)
set_option maxRecDepth 20000 in
theorem gX1_init_X0_init : GoodIn wsX1_init (wsX0_init) := ggX1_init_X0_init
set_option maxRecDepth 20000 in
theorem ggX1_init_X3_init : GoodIn wsX1_init wsX3_init := goodIn_r _ [32, 33, 2, 3] (by decide +kernel) (by decide +kernel)
set_option maxRecDepth 20000 in
theorem gX1_init_X3_init_n30 : GoodIn wsX1_init (wsX3_init) := ggX1_init_X3_init
theorem dX1_init_0 : decode cX1_init 0 = .ok (.aload_n 0, 1) := by decide +kernel
theorem dX1_init_1 : decode cX1_init 1 = .ok (.invokespecial 3, 3) := by decide +kernel
theorem dX1_init_4 : decode cX1_init 4 = .ok (.aload_n 0, 1) := by decide +kernel
theorem dX1_init_5 : decode cX1_init 5 = .ok (.aload_n 1, 1) := by decide +kernel
theorem dX1_init_6 : decode cX1_init 6 = .ok (.putfield 9, 3) := by decide +kernel
theorem dX1_init_9 : decode cX1_init 9 = .ok (.aload_n 0, 1) := by decide +kernel
theorem dX1_init_10 : decode cX1_init 10 = .ok (.bipush 6, 2) := by decide +kernel
theorem dX1_init_12 : decode cX1_init 12 = .ok (.anewarray 15, 3) := by decide +kernel
theorem dX1_init_15 : decode cX1_init 15 = .ok (.putfield 17, 3) := by decide +kernel
theorem dX1_init_18 : decode cX1_init 18 = .ok (.iconst 0, 1) := by decide +kernel
theorem dX1_init_19 : decode cX1_init 19 = .ok (.istore_n 2, 1) := by decide +kernel
theorem dX1_init_20 : decode cX1_init 20 = .ok (.iload_n 2, 1) := by decide +kernel
theorem dX1_init_21 : decode cX1_init 21 = .ok (.bipush 6, 2) := by decide +kernel
theorem dX1_init_23 : decode cX1_init 23 = .ok (.if_icmp .ge 23, 3) := by decide +kernel
theorem dX1_init_26 : decode cX1_init 26 = .ok (.aload_n 0, 1) := by decide +kernel
theorem dX1_init_27 : decode cX1_init 27 = .ok (.getfield 17, 3) := by decide +kernel
theorem dX1_init_30 : decode cX1_init 30 = .ok (.iload_n 2, 1) := by decide +kernel
theorem dX1_init_31 : decode cX1_init 31 = .ok (.new 15, 3) := by decide +kernel
theorem dX1_init_34 : decode cX1_init 34 = .ok (.dup, 1) := by decide +kernel
theorem dX1_init_35 : decode cX1_init 35 = .ok (.iload_n 2, 1) := by decide +kernel
theorem dX1_init_36 : decode cX1_init 36 = .ok (.invokespecial 21, 3) := by decide +kernel
theorem dX1_init_39 : decode cX1_init 39 = .ok (.aastore, 1) := by decide +kernel
theorem dX1_init_40 : decode cX1_init 40 = .ok (.iinc 2 1, 3) := by decide +kernel
theorem dX1_init_43 : decode cX1_init 43 = .ok (.goto (-23), 3) := by decide +kernel
theorem dX1_init_46 : decode cX1_init 46 = .ok (.aload_n 0, 1) := by decide +kernel
theorem dX1_init_47 : decode cX1_init 47 = .ok (.bipush 20, 2) := by decide +kernel
theorem dX1_init_49 : decode cX1_init 49 = .ok (.anewarray 24, 3) := by decide +kernel
theorem dX1_init_52 : decode cX1_init 52 = .ok (.putfield 26, 3) := by decide +kernel
theorem dX1_init_55 : decode cX1_init 55 = .ok (.iconst 0, 1) := by decide +kernel
theorem dX1_init_56 : decode cX1_init 56 = .ok (.istore_n 2, 1) := by decide +kernel
theorem dX1_init_57 : decode cX1_init 57 = .ok (.iload_n 2, 1) := by decide +kernel
theorem dX1_init_58 : decode cX1_init 58 = .ok (.bipush 20, 2) := by decide +kernel
theorem dX1_init_60 : decode cX1_init 60 = .ok (.if_icmp .ge 22, 3) := by decide +kernel
theorem dX1_init_63 : decode cX1_init 63 = .ok (.aload_n 0, 1) := by decide +kernel
theorem dX1_init_64 : decode cX1_init 64 = .ok (.getfield 26, 3) := by decide +kernel
theorem dX1_init_67 : decode cX1_init 67 = .ok (.iload_n 2, 1) := by decide +kernel
theorem dX1_init_68 : decode cX1_init 68 = .ok (.new 24, 3) := by decide +kernel
theorem dX1_init_71 : decode cX1_init 71 = .ok (.dup, 1) := by decide +kernel
theorem dX1_init_72 : decode cX1_init 72 = .ok (.invokespecial 30, 3) := by decide +kernel
theorem dX1_init_75 : decode cX1_init 75 = .ok (.aastore, 1) := by decide +kernel
theorem dX1_init_76 : decode cX1_init 76 = .ok (.iinc 2 1, 3) := by decide +kernel
theorem dX1_init_79 : decode cX1_init 79 = .ok (.goto (-22), 3) := by decide +kernel
theorem dX1_init_82 : decode cX1_init 82 = .ok (.aload_n 0, 1) := by decide +kernel
theorem dX1_init_83 : decode cX1_init 83 = .ok (.iconst (-1), 1) := by decide +kernel
theorem dX1_init_84 : decode cX1_init 84 = .ok (.putfield 31, 3) := by decide +kernel
theorem dX1_init_87 : decode cX1_init 87 = .ok (.return_, 1) := by decide +kernel
set_option maxRecDepth 20000 in
theorem ggX1_copyFrom_X0_copyFrom : GoodIn wsX1_copyFrom wsX0_copyFrom := goodIn_r _ [12, 13, 14, 15, 16, 17, 18, 19, 20, 21, 40, 41, 42, 43, 44, 45, 46, 47, 48, 49] (by decide +kernel) (by decide +kernel)
set_option maxRecDepth 20000 in
theorem gX1_copyFrom_X0_copyFrom : GoodIn wsX1_copyFrom (wsV RX1 38 RX0 yX0_copyFrom wsX0_copyFrom) := goodIn_app (goodIn_of _ (by decide +kernel)) ggX1_copyFrom_X0_copyFrom
set_option maxRecDepth 20000 in
theorem ggX1_copyFrom_X3_copyFrom : GoodIn wsX1_copyFrom wsX3_copyFrom := goodIn_r _ [26, 27, 28, 29, 30, 31, 50, 51, 52, 53, 54] (by decide +kernel) (by decide +kernel)
set_option maxRecDepth 20000 in
theorem gX1_copyFrom_X3_copyFrom : GoodIn wsX1_copyFrom (wsV RX1 45 RX3 yX3_copyFrom wsX3_copyFrom) := goodIn_app (goodIn_of _ (by decide +kernel)) ggX1_copyFrom_X3_copyFrom
theorem dX1_copyFrom_0 : decode cX1_copyFrom 0 = .ok (.aload_n 0, 1) := by decide +kernel
theorem dX1_copyFrom_1 : decode cX1_copyFrom 1 = .ok (.aload_n 1, 1) := by decide +kernel
theorem dX1_copyFrom_2 : decode cX1_copyFrom 2 = .ok (.getfield 35, 3) := by decide +kernel
theorem dX1_copyFrom_5 : decode cX1_copyFrom 5 = .ok (.putfield 35, 3) := by decide +kernel
theorem dX1_copyFrom_8 : decode cX1_copyFrom 8 = .ok (.iconst 0, 1) := by decide +kernel
theorem dX1_copyFrom_9 : decode cX1_copyFrom 9 = .ok (.istore_n 2, 1) := by decide +kernel
theorem dX1_copyFrom_10 : decode cX1_copyFrom 10 = .ok (.iload_n 2, 1) := by decide +kernel
theorem dX1_copyFrom_11 : decode cX1_copyFrom 11 = .ok (.aload_n 0, 1) := by decide +kernel
theorem dX1_copyFrom_12 : decode cX1_copyFrom 12 = .ok (.getfield 35, 3) := by decide +kernel
theorem dX1_copyFrom_15 : decode cX1_copyFrom 15 = .ok (.if_icmp .ge 24, 3) := by decide +kernel
theorem dX1_copyFrom_18 : decode cX1_copyFrom 18 = .ok (.aload_n 0, 1) := by decide +kernel
theorem dX1_copyFrom_19 : decode cX1_copyFrom 19 = .ok (.getfield 17, 3) := by decide +kernel
theorem dX1_copyFrom_22 : decode cX1_copyFrom 22 = .ok (.iload_n 2, 1) := by decide +kernel
theorem dX1_copyFrom_23 : decode cX1_copyFrom 23 = .ok (.aaload, 1) := by decide +kernel
theorem dX1_copyFrom_24 : decode cX1_copyFrom 24 = .ok (.aload_n 1, 1) := by decide +kernel
theorem dX1_copyFrom_25 : decode cX1_copyFrom 25 = .ok (.getfield 17, 3) := by decide +kernel
theorem dX1_copyFrom_28 : decode cX1_copyFrom 28 = .ok (.iload_n 2, 1) := by decide +kernel
theorem dX1_copyFrom_29 : decode cX1_copyFrom 29 = .ok (.aaload, 1) := by decide +kernel
theorem dX1_copyFrom_30 : decode cX1_copyFrom 30 = .ok (.invokevirtual 38, 3) := by decide +kernel
theorem dX1_copyFrom_33 : decode cX1_copyFrom 33 = .ok (.iinc 2 1, 3) := by decide +kernel
theorem dX1_copyFrom_36 : decode cX1_copyFrom 36 = .ok (.goto (-26), 3) := by decide +kernel
theorem dX1_copyFrom_39 : decode cX1_copyFrom 39 = .ok (.aload_n 0, 1) := by decide +kernel
theorem dX1_copyFrom_40 : decode cX1_copyFrom 40 = .ok (.aload_n 1, 1) := by decide +kernel
theorem dX1_copyFrom_41 : decode cX1_copyFrom 41 = .ok (.getfield 42, 3) := by decide +kernel
theorem dX1_copyFrom_44 : decode cX1_copyFrom 44 = .ok (.putfield 42, 3) := by decide +kernel
theorem dX1_copyFrom_47 : decode cX1_copyFrom 47 = .ok (.iconst 0, 1) := by decide +kernel
theorem dX1_copyFrom_48 : decode cX1_copyFrom 48 = .ok (.istore_n 2, 1) := by decide +kernel
theorem dX1_copyFrom_49 : decode cX1_copyFrom 49 = .ok (.iload_n 2, 1) := by decide +kernel
theorem dX1_copyFrom_50 : decode cX1_copyFrom 50 = .ok (.aload_n 0, 1) := by decide +kernel
theorem dX1_copyFrom_51 : decode cX1_copyFrom 51 = .ok (.getfield 42, 3) := by decide +kernel
theorem dX1_copyFrom_54 : decode cX1_copyFrom 54 = .ok (.if_icmp .ge 24, 3) := by decide +kernel
theorem dX1_copyFrom_57 : decode cX1_copyFrom 57 = .ok (.aload_n 0, 1) := by decide +kernel
theorem dX1_copyFrom_58 : decode cX1_copyFrom 58 = .ok (.getfield 26, 3) := by decide +kernel
theorem dX1_copyFrom_61 : decode cX1_copyFrom 61 = .ok (.iload_n 2, 1) := by decide +kernel
theorem dX1_copyFrom_62 : decode cX1_copyFrom 62 = .ok (.aaload, 1) := by decide +kernel
theorem dX1_copyFrom_63 : decode cX1_copyFrom 63 = .ok (.aload_n 1, 1) := by decide +kernel
theorem dX1_copyFrom_64 : decode cX1_copyFrom 64 = .ok (.getfield 26, 3) := by decide +kernel
theorem dX1_copyFrom_67 : decode cX1_copyFrom 67 = .ok (.iload_n 2, 1) := by decide +kernel
theorem dX1_copyFrom_68 : decode cX1_copyFrom 68 = .ok (.aaload, 1) := by decide +kernel
theorem dX1_copyFrom_69 : decode cX1_copyFrom 69 = .ok (.invokevirtual 45, 3) := by decide +kernel
theorem dX1_copyFrom_72 : decode cX1_copyFrom 72 = .ok (.iinc 2 1, 3) := by decide +kernel
theorem dX1_copyFrom_75 : decode cX1_copyFrom 75 = .ok (.goto (-26), 3) := by decide +kernel
theorem dX1_copyFrom_78 : decode cX1_copyFrom 78 = .ok (.aload_n 0, 1) := by decide +kernel
theorem dX1_copyFrom_79 : decode cX1_copyFrom 79 = .ok (.aload_n 1, 1) := by decide +kernel
theorem dX1_copyFrom_80 : decode cX1_copyFrom 80 = .ok (.getfield 48, 3) := by decide +kernel
theorem dX1_copyFrom_83 : decode cX1_copyFrom 83 = .ok (.putfield 48, 3) := by decide +kernel
theorem dX1_copyFrom_86 : decode cX1_copyFrom 86 = .ok (.aload_n 0, 1) := by decide +kernel
theorem dX1_copyFrom_87 : decode cX1_copyFrom 87 = .ok (.aload_n 1, 1) := by decide +kernel
theorem dX1_copyFrom_88 : decode cX1_copyFrom 88 = .ok (.getfield 51, 3) := by decide +kernel
theorem dX1_copyFrom_91 : decode cX1_copyFrom 91 = .ok (.putfield 51, 3) := by decide +kernel
theorem dX1_copyFrom_94 : decode cX1_copyFrom 94 = .ok (.aload_n 0, 1) := by decide +kernel
theorem dX1_copyFrom_95 : decode cX1_copyFrom 95 = .ok (.aload_n 1, 1) := by decide +kernel
theorem dX1_copyFrom_96 : decode cX1_copyFrom 96 = .ok (.getfield 31, 3) := by decide +kernel
theorem dX1_copyFrom_99 : decode cX1_copyFrom 99 = .ok (.putfield 31, 3) := by decide +kernel
theorem dX1_copyFrom_102 : decode cX1_copyFrom 102 = .ok (.return_, 1) := by decide +kernel
theorem dX1_carriedLetters_0 : decode cX1_carriedLetters 0 = .ok (.iconst 0, 1) := by decide +kernel
theorem dX1_carriedLetters_1 : decode cX1_carriedLetters 1 = .ok (.istore_n 1, 1) := by decide +kernel
theorem dX1_carriedLetters_2 : decode cX1_carriedLetters 2 = .ok (.iconst 0, 1) := by decide +kernel
theorem dX1_carriedLetters_3 : decode cX1_carriedLetters 3 = .ok (.istore_n 2, 1) := by decide +kernel
theorem dX1_carriedLetters_4 : decode cX1_carriedLetters 4 = .ok (.iload_n 2, 1) := by decide +kernel
theorem dX1_carriedLetters_5 : decode cX1_carriedLetters 5 = .ok (.aload_n 0, 1) := by decide +kernel
theorem dX1_carriedLetters_6 : decode cX1_carriedLetters 6 = .ok (.getfield 35, 3) := by decide +kernel
theorem dX1_carriedLetters_9 : decode cX1_carriedLetters 9 = .ok (.if_icmp .ge 21, 3) := by decide +kernel
theorem dX1_carriedLetters_12 : decode cX1_carriedLetters 12 = .ok (.iload_n 1, 1) := by decide +kernel
theorem dX1_carriedLetters_13 : decode cX1_carriedLetters 13 = .ok (.aload_n 0, 1) := by decide +kernel
theorem dX1_carriedLetters_14 : decode cX1_carriedLetters 14 = .ok (.getfield 17, 3) := by decide +kernel
theorem dX1_carriedLetters_17 : decode cX1_carriedLetters 17 = .ok (.iload_n 2, 1) := by decide +kernel
theorem dX1_carriedLetters_18 : decode cX1_carriedLetters 18 = .ok (.aaload, 1) := by decide +kernel
theorem dX1_carriedLetters_19 : decode cX1_carriedLetters 19 = .ok (.getfield 54, 3) := by decide +kernel
theorem dX1_carriedLetters_22 : decode cX1_carriedLetters 22 = .ok (.iadd, 1) := by decide +kernel
theorem dX1_carriedLetters_23 : decode cX1_carriedLetters 23 = .ok (.istore_n 1, 1) := by decide +kernel
theorem dX1_carriedLetters_24 : decode cX1_carriedLetters 24 = .ok (.iinc 2 1, 3) := by decide +kernel
theorem dX1_carriedLetters_27 : decode cX1_carriedLetters 27 = .ok (.goto (-23), 3) := by decide +kernel
theorem dX1_carriedLetters_30 : decode cX1_carriedLetters 30 = .ok (.iload_n 1, 1) := by decide +kernel
theorem dX1_carriedLetters_31 : decode cX1_carriedLetters 31 = .ok (.ireturn, 1) := by decide +kernel
theorem dX1_restingBees_0 : decode cX1_restingBees 0 = .ok (.iconst 0, 1) := by decide +kernel
theorem dX1_restingBees_1 : decode cX1_restingBees 1 = .ok (.istore_n 1, 1) := by decide +kernel
theorem dX1_restingBees_2 : decode cX1_restingBees 2 = .ok (.iconst 0, 1) := by decide +kernel
theorem dX1_restingBees_3 : decode cX1_restingBees 3 = .ok (.istore_n 2, 1) := by decide +kernel
theorem dX1_restingBees_4 : decode cX1_restingBees 4 = .ok (.iload_n 2, 1) := by decide +kernel
theorem dX1_restingBees_5 : decode cX1_restingBees 5 = .ok (.aload_n 0, 1) := by decide +kernel
theorem dX1_restingBees_6 : decode cX1_restingBees 6 = .ok (.getfield 35, 3) := by decide +kernel
theorem dX1_restingBees_9 : decode cX1_restingBees 9 = .ok (.if_icmp .ge 24, 3) := by decide +kernel
theorem dX1_restingBees_12 : decode cX1_restingBees 12 = .ok (.aload_n 0, 1) := by decide +kernel
theorem dX1_restingBees_13 : decode cX1_restingBees 13 = .ok (.getfield 17, 3) := by decide +kernel
theorem dX1_restingBees_16 : decode cX1_restingBees 16 = .ok (.iload_n 2, 1) := by decide +kernel
theorem dX1_restingBees_17 : decode cX1_restingBees 17 = .ok (.aaload, 1) := by decide +kernel
theorem dX1_restingBees_18 : decode cX1_restingBees 18 = .ok (.getfield 57, 3) := by decide +kernel
theorem dX1_restingBees_21 : decode cX1_restingBees 21 = .ok (.ifCond .eq 6, 3) := by decide +kernel
theorem dX1_restingBees_24 : decode cX1_restingBees 24 = .ok (.iinc 1 1, 3) := by decide +kernel
theorem dX1_restingBees_27 : decode cX1_restingBees 27 = .ok (.iinc 2 1, 3) := by decide +kernel
theorem dX1_restingBees_30 : decode cX1_restingBees 30 = .ok (.goto (-26), 3) := by decide +kernel
theorem dX1_restingBees_33 : decode cX1_restingBees 33 = .ok (.iload_n 1, 1) := by decide +kernel
theorem dX1_restingBees_34 : decode cX1_restingBees 34 = .ok (.ireturn, 1) := by decide +kernel
set_option maxRecDepth 20000 in
theorem ggX1_passQuarters_X1_passQuarter : GoodIn wsX1_passQuarters wsX1_passQuarter := goodIn_r _ [6, 7, 8, 9, 10, 11, 12, 13, 14, 15, 16, 17, 18, 19, 20, 21, 22, 23, 24, 25, 26, 27, 5, 28, 29, 30, 31, 32, 33, 34, 1, 35, 36, 37, 38, 39, 40, 41, 42, 43, 44, 45, 46, 47, 48, 49, 50, 51, 52, 53, 54, 55, 56, 57, 58, 59, 60, 61, 62, 63, 64, 65, 66, 67, 68, 69, 70, 71, 72, 73, 74, 75, 76, 77, 78, 79, 80, 81, 82, 83, 84, 85, 86, 87, 88, 89, 90, 91, 92, 93, 94, 95, 96, 97, 98, 99, 100, 101, 102, 103, 104, 105, 106, 107, 108, 109, 110, 111, 112, 113, 114, 115, 116, 117, 118, 119, 120, 121, 122, 123, 124, 125, 126, 127, 128, 129, 130, 131, 132, 133, 134, 135, 136, 137, 138, 139, 140, 141, 142, 143, 144, 145, 146, 147, 148, 149, 150, 151, 152, 153, 154, 155, 156, 157, 158, 159, 160, 161, 162, 163, 164, 165, 166, 167, 168, 169, 170, 171, 172, 173, 174, 175, 176, 177, 178, 179, 180, 181, 182, 183, 184, 185, 186, 187, 188, 189, 190, 191, 192] (by decide +kernel) (by decide +kernel)
set_option maxRecDepth 20000 in
theorem gX1_passQuarters_X1_passQuarter : GoodIn wsX1_passQuarters (wsV RX1 61 RX1 yX1_passQuarter wsX1_passQuarter) := goodIn_app (goodIn_of _ (by decide +kernel)) ggX1_passQuarters_X1_passQuarter
theorem dX1_passQuarters_0 : decode cX1_passQuarters 0 = .ok (.aload_n 0, 1) := by decide +kernel
theorem dX1_passQuarters_1 : decode cX1_passQuarters 1 = .ok (.getfield 51, 3) := by decide +kernel
theorem dX1_passQuarters_4 : decode cX1_passQuarters 4 = .ok (.istore_n 2, 1) := by decide +kernel
theorem dX1_passQuarters_5 : decode cX1_passQuarters 5 = .ok (.iconst 0, 1) := by decide +kernel
theorem dX1_passQuarters_6 : decode cX1_passQuarters 6 = .ok (.istore_n 3, 1) := by decide +kernel
theorem dX1_passQuarters_7 : decode cX1_passQuarters 7 = .ok (.iload_n 3, 1) := by decide +kernel
theorem dX1_passQuarters_8 : decode cX1_passQuarters 8 = .ok (.iload_n 1, 1) := by decide +kernel
theorem dX1_passQuarters_9 : decode cX1_passQuarters 9 = .ok (.if_icmp .ge 13, 3) := by decide +kernel
theorem dX1_passQuarters_12 : decode cX1_passQuarters 12 = .ok (.aload_n 0, 1) := by decide +kernel
theorem dX1_passQuarters_13 : decode cX1_passQuarters 13 = .ok (.invokevirtual 61, 3) := by decide +kernel
theorem dX1_passQuarters_16 : decode cX1_passQuarters 16 = .ok (.iinc 3 1, 3) := by decide +kernel
theorem dX1_passQuarters_19 : decode cX1_passQuarters 19 = .ok (.goto (-12), 3) := by decide +kernel
theorem dX1_passQuarters_22 : decode cX1_passQuarters 22 = .ok (.aload_n 0, 1) := by decide +kernel
theorem dX1_passQuarters_23 : decode cX1_passQuarters 23 = .ok (.getfield 51, 3) := by decide +kernel
theorem dX1_passQuarters_26 : decode cX1_passQuarters 26 = .ok (.iload_n 2, 1) := by decide +kernel
theorem dX1_passQuarters_27 : decode cX1_passQuarters 27 = .ok (.isub, 1) := by decide +kernel
theorem dX1_passQuarters_28 : decode cX1_passQuarters 28 = .ok (.ireturn, 1) := by decide +kernel
set_option maxRecDepth 20000 in
theorem ggX1_passQuarter_X0_house : GoodIn wsX1_passQuarter wsX0_house := goodIn_r _ [9, 10, 11, 12, 13, 14, 15, 16, 17, 18, 160, 161, 162, 163, 164, 165, 166, 167, 168, 169, 170, 171, 172, 173] (by decide +kernel) (by decide +kernel)
set_option maxRecDepth 20000 in
theorem gX1_passQuarter_X0_house : GoodIn wsX1_passQuarter (wsV RX1 67 RX0 yX0_house wsX0_house) := goodIn_app (goodIn_of _ (by decide +kernel)) ggX1_passQuarter_X0_house
set_option maxRecDepth 20000 in
theorem ggX1_passQuarter_X1_handOver : GoodIn wsX1_passQuarter wsX1_handOver := goodIn_r _ [23, 24, 25, 26, 27, 28, 29, 4, 30, 31, 32, 33, 34, 8, 35, 36, 37, 38, 39, 40, 41, 42, 43, 44, 45, 46, 47, 48, 49, 50, 51, 52, 53, 54, 15, 55, 56, 57, 58, 59, 60, 61, 62, 6, 7, 9, 10, 11, 12, 13, 14, 16, 17, 18, 152, 153, 154, 155, 156, 157, 158, 159, 160, 161, 162, 163, 164, 165, 166, 167, 168, 169, 174, 175, 176, 177, 178, 170, 171, 172, 173] (by decide +kernel) (by decide +kernel)
set_option maxRecDepth 20000 in
theorem gX1_passQuarter_X1_handOver : GoodIn wsX1_passQuarter (wsV RX1 71 RX1 yX1_handOver wsX1_handOver) := goodIn_app (goodIn_of _ (by decide +kernel)) ggX1_passQuarter_X1_handOver
set_option maxRecDepth 20000 in
theorem ggX1_passQuarter_X1_collect : GoodIn wsX1_passQuarter wsX1_collect := goodIn_r _ [66, 24, 25, 26, 67, 31, 29, 68, 52, 53, 54, 15, 55, 56, 69, 70, 71, 72, 73, 74, 75, 76, 77, 78, 79, 80, 81, 82, 8, 83, 61, 84, 36, 85, 38, 152, 153, 154, 155, 156, 157, 158, 159, 160, 161, 162, 163, 164, 165, 166, 167, 168, 169, 174, 175, 176, 177, 178, 170, 171, 172, 173, 179, 180, 181, 182, 183] (by decide +kernel) (by decide +kernel)
set_option maxRecDepth 20000 in
theorem gX1_passQuarter_X1_collect : GoodIn wsX1_passQuarter (wsV RX1 75 RX1 yX1_collect wsX1_collect) := goodIn_app (goodIn_of _ (by decide +kernel)) ggX1_passQuarter_X1_collect
set_option maxRecDepth 20000 in
theorem ggX1_passQuarter_X1_moveOn : GoodIn wsX1_passQuarter wsX1_moveOn := goodIn_r _ [89, 68, 31, 90, 4, 91, 92, 93, 72, 94, 95, 75, 76, 77, 78, 79, 96, 97, 98, 8, 99, 100, 101, 102, 103, 104, 105, 45, 46, 47, 48, 106, 107, 108, 15, 109, 17, 110, 111, 112, 113, 114, 10, 11, 115, 116, 117, 118, 119, 120, 121, 122, 123, 124, 125, 126, 127, 128, 129, 130, 131, 132, 133, 134, 135, 136, 137, 138, 139, 140, 141, 142, 143, 144, 145, 146, 147, 148, 149, 150, 151, 152, 153, 154, 155, 156, 157, 158, 159, 160, 161, 162, 163, 164, 165, 166, 167, 168, 169, 179, 180, 181, 182, 183, 170, 171, 172, 173, 184, 185, 186, 187, 188] (by decide +kernel) (by decide +kernel)
set_option maxRecDepth 20000 in
theorem gX1_passQuarter_X1_moveOn : GoodIn wsX1_passQuarter (wsV RX1 78 RX1 yX1_moveOn wsX1_moveOn) := goodIn_app (goodIn_of _ (by decide +kernel)) ggX1_passQuarter_X1_moveOn
theorem dX1_passQuarter_0 : decode cX1_passQuarter 0 = .ok (.iconst 0, 1) := by decide +kernel
theorem dX1_passQuarter_1 : decode cX1_passQuarter 1 = .ok (.istore_n 1, 1) := by decide +kernel
theorem dX1_passQuarter_2 : decode cX1_passQuarter 2 = .ok (.iload_n 1, 1) := by decide +kernel
theorem dX1_passQuarter_3 : decode cX1_passQuarter 3 = .ok (.aload_n 0, 1) := by decide +kernel
theorem dX1_passQuarter_4 : decode cX1_passQuarter 4 = .ok (.getfield 35, 3) := by decide +kernel
theorem dX1_passQuarter_7 : decode cX1_passQuarter 7 = .ok (.if_icmp .ge 63, 3) := by decide +kernel
theorem dX1_passQuarter_10 : decode cX1_passQuarter 10 = .ok (.aload_n 0, 1) := by decide +kernel
theorem dX1_passQuarter_11 : decode cX1_passQuarter 11 = .ok (.getfield 17, 3) := by decide +kernel
theorem dX1_passQuarter_14 : decode cX1_passQuarter 14 = .ok (.iload_n 1, 1) := by decide +kernel
theorem dX1_passQuarter_15 : decode cX1_passQuarter 15 = .ok (.aaload, 1) := by decide +kernel
theorem dX1_passQuarter_16 : decode cX1_passQuarter 16 = .ok (.astore_n 2, 1) := by decide +kernel
theorem dX1_passQuarter_17 : decode cX1_passQuarter 17 = .ok (.aload_n 2, 1) := by decide +kernel
theorem dX1_passQuarter_18 : decode cX1_passQuarter 18 = .ok (.getfield 64, 3) := by decide +kernel
theorem dX1_passQuarter_21 : decode cX1_passQuarter 21 = .ok (.ifCond .le 13, 3) := by decide +kernel
theorem dX1_passQuarter_24 : decode cX1_passQuarter 24 = .ok (.aload_n 2, 1) := by decide +kernel
theorem dX1_passQuarter_25 : decode cX1_passQuarter 25 = .ok (.dup, 1) := by decide +kernel
theorem dX1_passQuarter_26 : decode cX1_passQuarter 26 = .ok (.getfield 64, 3) := by decide +kernel
theorem dX1_passQuarter_29 : decode cX1_passQuarter 29 = .ok (.iconst 1, 1) := by decide +kernel
theorem dX1_passQuarter_30 : decode cX1_passQuarter 30 = .ok (.isub, 1) := by decide +kernel
theorem dX1_passQuarter_31 : decode cX1_passQuarter 31 = .ok (.putfield 64, 3) := by decide +kernel
theorem dX1_passQuarter_34 : decode cX1_passQuarter 34 = .ok (.aload_n 2, 1) := by decide +kernel
theorem dX1_passQuarter_35 : decode cX1_passQuarter 35 = .ok (.getfield 64, 3) := by decide +kernel
theorem dX1_passQuarter_38 : decode cX1_passQuarter 38 = .ok (.ifCond .ne 26, 3) := by decide +kernel
theorem dX1_passQuarter_41 : decode cX1_passQuarter 41 = .ok (.aload_n 2, 1) := by decide +kernel
theorem dX1_passQuarter_42 : decode cX1_passQuarter 42 = .ok (.invokevirtual 67, 3) := by decide +kernel
theorem dX1_passQuarter_45 : decode cX1_passQuarter 45 = .ok (.istore_n 3, 1) := by decide +kernel
theorem dX1_passQuarter_46 : decode cX1_passQuarter 46 = .ok (.aload_n 0, 1) := by decide +kernel
theorem dX1_passQuarter_47 : decode cX1_passQuarter 47 = .ok (.aload_n 2, 1) := by decide +kernel
theorem dX1_passQuarter_48 : decode cX1_passQuarter 48 = .ok (.iload_n 3, 1) := by decide +kernel
theorem dX1_passQuarter_49 : decode cX1_passQuarter 49 = .ok (.invokevirtual 71, 3) := by decide +kernel
theorem dX1_passQuarter_52 : decode cX1_passQuarter 52 = .ok (.aload_n 0, 1) := by decide +kernel
theorem dX1_passQuarter_53 : decode cX1_passQuarter 53 = .ok (.aload_n 2, 1) := by decide +kernel
theorem dX1_passQuarter_54 : decode cX1_passQuarter 54 = .ok (.iload_n 3, 1) := by decide +kernel
theorem dX1_passQuarter_55 : decode cX1_passQuarter 55 = .ok (.invokevirtual 75, 3) := by decide +kernel
theorem dX1_passQuarter_58 : decode cX1_passQuarter 58 = .ok (.aload_n 0, 1) := by decide +kernel
theorem dX1_passQuarter_59 : decode cX1_passQuarter 59 = .ok (.aload_n 2, 1) := by decide +kernel
theorem dX1_passQuarter_60 : decode cX1_passQuarter 60 = .ok (.iload_n 3, 1) := by decide +kernel
theorem dX1_passQuarter_61 : decode cX1_passQuarter 61 = .ok (.invokevirtual 78, 3) := by decide +kernel
theorem dX1_passQuarter_64 : decode cX1_passQuarter 64 = .ok (.iinc 1 1, 3) := by decide +kernel
theorem dX1_passQuarter_67 : decode cX1_passQuarter 67 = .ok (.goto (-65), 3) := by decide +kernel
theorem dX1_passQuarter_70 : decode cX1_passQuarter 70 = .ok (.aload_n 0, 1) := by decide +kernel
theorem dX1_passQuarter_71 : decode cX1_passQuarter 71 = .ok (.dup, 1) := by decide +kernel
theorem dX1_passQuarter_72 : decode cX1_passQuarter 72 = .ok (.getfield 48, 3) := by decide +kernel
theorem dX1_passQuarter_75 : decode cX1_passQuarter 75 = .ok (.iconst 1, 1) := by decide +kernel
theorem dX1_passQuarter_76 : decode cX1_passQuarter 76 = .ok (.iadd, 1) := by decide +kernel
theorem dX1_passQuarter_77 : decode cX1_passQuarter 77 = .ok (.putfield 48, 3) := by decide +kernel
theorem dX1_passQuarter_80 : decode cX1_passQuarter 80 = .ok (.return_, 1) := by decide +kernel
set_option maxRecDepth 20000 in
theorem ggX1_handOver_X0_deliver : GoodIn wsX1_handOver wsX0_deliver := goodIn_r _ [14, 15, 16, 17, 18, 19, 20, 21, 13, 22, 23, 24, 25, 26, 27, 28, 29, 30, 72, 73, 74, 75, 76, 62, 63, 64, 65, 66, 67, 68, 69, 70, 71] (by decide +kernel) (by decide +kernel)
set_option maxRecDepth 20000 in
theorem gX1_handOver_X0_deliver : GoodIn wsX1_handOver (wsV RX1 90 RX0 yX0_deliver wsX0_deliver) := goodIn_app (goodIn_of _ (by decide +kernel)) ggX1_handOver_X0_deliver
set_option maxRecDepth 20000 in
theorem ggX1_handOver_X4_targetFor : GoodIn wsX1_handOver wsX4_targetFor := goodIn_r _ [35, 36, 77, 78, 79, 80] (by decide +kernel) (by decide +kernel)
set_option maxRecDepth 20000 in
theorem gX1_handOver_X4_targetFor : GoodIn wsX1_handOver (wsV RX1 98 RX4 yX4_targetFor wsX4_targetFor) := goodIn_app (goodIn_of _ (by decide +kernel)) ggX1_handOver_X4_targetFor
set_option maxRecDepth 20000 in
theorem ggX1_handOver_X0_layDown : GoodIn wsX1_handOver wsX0_layDown := goodIn_r _ [40, 15, 41, 17, 42, 43, 44, 13, 45, 46, 47, 48, 49, 50, 34, 51, 52, 53, 72, 73, 74, 75, 76, 62, 63, 64, 65, 66, 67, 68, 69, 70, 71, 77, 78, 79, 80] (by decide +kernel) (by decide +kernel)
set_option maxRecDepth 20000 in
theorem gX1_handOver_X0_layDown : GoodIn wsX1_handOver (wsV RX1 104 RX0 yX0_layDown wsX0_layDown) := goodIn_app (goodIn_of _ (by decide +kernel)) ggX1_handOver_X0_layDown
theorem dX1_handOver_0 : decode cX1_handOver 0 = .ok (.iconst 0, 1) := by decide +kernel
theorem dX1_handOver_1 : decode cX1_handOver 1 = .ok (.istore_n 3, 1) := by decide +kernel
theorem dX1_handOver_2 : decode cX1_handOver 2 = .ok (.iload_n 3, 1) := by decide +kernel
theorem dX1_handOver_3 : decode cX1_handOver 3 = .ok (.aload_n 0, 1) := by decide +kernel
theorem dX1_handOver_4 : decode cX1_handOver 4 = .ok (.getfield 42, 3) := by decide +kernel
theorem dX1_handOver_7 : decode cX1_handOver 7 = .ok (.if_icmp .ge 90, 3) := by decide +kernel
theorem dX1_handOver_10 : decode cX1_handOver 10 = .ok (.aload_n 1, 1) := by decide +kernel
theorem dX1_handOver_11 : decode cX1_handOver 11 = .ok (.getfield 54, 3) := by decide +kernel
theorem dX1_handOver_14 : decode cX1_handOver 14 = .ok (.ifCond .le 83, 3) := by decide +kernel
theorem dX1_handOver_17 : decode cX1_handOver 17 = .ok (.aload_n 0, 1) := by decide +kernel
theorem dX1_handOver_18 : decode cX1_handOver 18 = .ok (.getfield 26, 3) := by decide +kernel
theorem dX1_handOver_21 : decode cX1_handOver 21 = .ok (.iload_n 3, 1) := by decide +kernel
theorem dX1_handOver_22 : decode cX1_handOver 22 = .ok (.aaload, 1) := by decide +kernel
theorem dX1_handOver_23 : decode cX1_handOver 23 = .ok (.astore 4, 2) := by decide +kernel
theorem dX1_handOver_25 : decode cX1_handOver 25 = .ok (.aload 4, 2) := by decide +kernel
theorem dX1_handOver_27 : decode cX1_handOver 27 = .ok (.getfield 81, 3) := by decide +kernel
theorem dX1_handOver_30 : decode cX1_handOver 30 = .ok (.aload_n 1, 1) := by decide +kernel
theorem dX1_handOver_31 : decode cX1_handOver 31 = .ok (.getfield 84, 3) := by decide +kernel
theorem dX1_handOver_34 : decode cX1_handOver 34 = .ok (.if_icmp .ne 57, 3) := by decide +kernel
theorem dX1_handOver_37 : decode cX1_handOver 37 = .ok (.aload 4, 2) := by decide +kernel
theorem dX1_handOver_39 : decode cX1_handOver 39 = .ok (.getfield 87, 3) := by decide +kernel
theorem dX1_handOver_42 : decode cX1_handOver 42 = .ok (.iload_n 2, 1) := by decide +kernel
theorem dX1_handOver_43 : decode cX1_handOver 43 = .ok (.if_icmp .ne 26, 3) := by decide +kernel
theorem dX1_handOver_46 : decode cX1_handOver 46 = .ok (.aload_n 1, 1) := by decide +kernel
theorem dX1_handOver_47 : decode cX1_handOver 47 = .ok (.aload 4, 2) := by decide +kernel
theorem dX1_handOver_49 : decode cX1_handOver 49 = .ok (.aload_n 0, 1) := by decide +kernel
theorem dX1_handOver_50 : decode cX1_handOver 50 = .ok (.getfield 48, 3) := by decide +kernel
theorem dX1_handOver_53 : decode cX1_handOver 53 = .ok (.invokevirtual 90, 3) := by decide +kernel
theorem dX1_handOver_56 : decode cX1_handOver 56 = .ok (.aload_n 0, 1) := by decide +kernel
theorem dX1_handOver_57 : decode cX1_handOver 57 = .ok (.dup, 1) := by decide +kernel
theorem dX1_handOver_58 : decode cX1_handOver 58 = .ok (.getfield 51, 3) := by decide +kernel
theorem dX1_handOver_61 : decode cX1_handOver 61 = .ok (.iconst 1, 1) := by decide +kernel
theorem dX1_handOver_62 : decode cX1_handOver 62 = .ok (.iadd, 1) := by decide +kernel
theorem dX1_handOver_63 : decode cX1_handOver 63 = .ok (.putfield 51, 3) := by decide +kernel
theorem dX1_handOver_66 : decode cX1_handOver 66 = .ok (.goto 25, 3) := by decide +kernel
theorem dX1_handOver_69 : decode cX1_handOver 69 = .ok (.aload_n 1, 1) := by decide +kernel
theorem dX1_handOver_70 : decode cX1_handOver 70 = .ok (.getfield 94, 3) := by decide +kernel
theorem dX1_handOver_73 : decode cX1_handOver 73 = .ok (.aload 4, 2) := by decide +kernel
theorem dX1_handOver_75 : decode cX1_handOver 75 = .ok (.getfield 87, 3) := by decide +kernel
theorem dX1_handOver_78 : decode cX1_handOver 78 = .ok (.invokevirtual 98, 3) := by decide +kernel
theorem dX1_handOver_81 : decode cX1_handOver 81 = .ok (.iload_n 2, 1) := by decide +kernel
theorem dX1_handOver_82 : decode cX1_handOver 82 = .ok (.if_icmp .ne 9, 3) := by decide +kernel
theorem dX1_handOver_85 : decode cX1_handOver 85 = .ok (.aload_n 1, 1) := by decide +kernel
theorem dX1_handOver_86 : decode cX1_handOver 86 = .ok (.aload 4, 2) := by decide +kernel
theorem dX1_handOver_88 : decode cX1_handOver 88 = .ok (.invokevirtual 104, 3) := by decide +kernel
theorem dX1_handOver_91 : decode cX1_handOver 91 = .ok (.iinc 3 1, 3) := by decide +kernel
theorem dX1_handOver_94 : decode cX1_handOver 94 = .ok (.goto (-92), 3) := by decide +kernel
theorem dX1_handOver_97 : decode cX1_handOver 97 = .ok (.return_, 1) := by decide +kernel
set_option maxRecDepth 20000 in
theorem ggX1_collect_X4_targetFor : GoodIn wsX1_collect wsX4_targetFor := goodIn_r _ [12, 13, 58, 59, 60, 61] (by decide +kernel) (by decide +kernel)
set_option maxRecDepth 20000 in
theorem gX1_collect_X4_targetFor : GoodIn wsX1_collect (wsV RX1 98 RX4 yX4_targetFor wsX4_targetFor) := goodIn_app (goodIn_of _ (by decide +kernel)) ggX1_collect_X4_targetFor
set_option maxRecDepth 20000 in
theorem ggX1_collect_X5_wayBetween : GoodIn wsX1_collect wsX5_wayBetween := goodIn_r _ [18, 19, 20, 21, 22, 17, 23, 24, 62, 63, 64, 65, 66] (by decide +kernel) (by decide +kernel)
set_option maxRecDepth 20000 in
theorem gX1_collect_X5_wayBetween : GoodIn wsX1_collect (wsV RX1 110 RX5 yX5_wayBetween wsX5_wayBetween) := goodIn_app (goodIn_of _ (by decide +kernel)) ggX1_collect_X5_wayBetween
set_option maxRecDepth 20000 in
theorem ggX1_collect_X0_take : GoodIn wsX1_collect wsX0_take := goodIn_r _ [29, 30, 31, 32, 33, 34, 53, 54, 55, 56, 57, 43, 44, 45, 46, 47, 48, 49, 50, 51, 52] (by decide +kernel) (by decide +kernel)
set_option maxRecDepth 20000 in
theorem gX1_collect_X0_take : GoodIn wsX1_collect (wsV RX1 116 RX0 yX0_take wsX0_take) := goodIn_app (goodIn_of _ (by decide +kernel)) ggX1_collect_X0_take
theorem dX1_collect_0 : decode cX1_collect 0 = .ok (.iconst 0, 1) := by decide +kernel
theorem dX1_collect_1 : decode cX1_collect 1 = .ok (.istore_n 3, 1) := by decide +kernel
theorem dX1_collect_2 : decode cX1_collect 2 = .ok (.iload_n 3, 1) := by decide +kernel
theorem dX1_collect_3 : decode cX1_collect 3 = .ok (.aload_n 0, 1) := by decide +kernel
theorem dX1_collect_4 : decode cX1_collect 4 = .ok (.getfield 42, 3) := by decide +kernel
theorem dX1_collect_7 : decode cX1_collect 7 = .ok (.if_icmp .ge 84, 3) := by decide +kernel
theorem dX1_collect_10 : decode cX1_collect 10 = .ok (.aload_n 1, 1) := by decide +kernel
theorem dX1_collect_11 : decode cX1_collect 11 = .ok (.getfield 54, 3) := by decide +kernel
theorem dX1_collect_14 : decode cX1_collect 14 = .ok (.iconst 3, 1) := by decide +kernel
theorem dX1_collect_15 : decode cX1_collect 15 = .ok (.if_icmp .ge 76, 3) := by decide +kernel
theorem dX1_collect_18 : decode cX1_collect 18 = .ok (.aload_n 0, 1) := by decide +kernel
theorem dX1_collect_19 : decode cX1_collect 19 = .ok (.getfield 26, 3) := by decide +kernel
theorem dX1_collect_22 : decode cX1_collect 22 = .ok (.iload_n 3, 1) := by decide +kernel
theorem dX1_collect_23 : decode cX1_collect 23 = .ok (.aaload, 1) := by decide +kernel
theorem dX1_collect_24 : decode cX1_collect 24 = .ok (.astore 4, 2) := by decide +kernel
theorem dX1_collect_26 : decode cX1_collect 26 = .ok (.aload 4, 2) := by decide +kernel
theorem dX1_collect_28 : decode cX1_collect 28 = .ok (.getfield 107, 3) := by decide +kernel
theorem dX1_collect_31 : decode cX1_collect 31 = .ok (.iload_n 2, 1) := by decide +kernel
theorem dX1_collect_32 : decode cX1_collect 32 = .ok (.if_icmp .ne 53, 3) := by decide +kernel
theorem dX1_collect_35 : decode cX1_collect 35 = .ok (.aload_n 1, 1) := by decide +kernel
theorem dX1_collect_36 : decode cX1_collect 36 = .ok (.getfield 94, 3) := by decide +kernel
theorem dX1_collect_39 : decode cX1_collect 39 = .ok (.aload 4, 2) := by decide +kernel
theorem dX1_collect_41 : decode cX1_collect 41 = .ok (.getfield 87, 3) := by decide +kernel
theorem dX1_collect_44 : decode cX1_collect 44 = .ok (.invokevirtual 98, 3) := by decide +kernel
theorem dX1_collect_47 : decode cX1_collect 47 = .ok (.istore 5, 2) := by decide +kernel
theorem dX1_collect_49 : decode cX1_collect 49 = .ok (.aload_n 0, 1) := by decide +kernel
theorem dX1_collect_50 : decode cX1_collect 50 = .ok (.getfield 9, 3) := by decide +kernel
theorem dX1_collect_53 : decode cX1_collect 53 = .ok (.iload 5, 2) := by decide +kernel
theorem dX1_collect_55 : decode cX1_collect 55 = .ok (.aload 4, 2) := by decide +kernel
theorem dX1_collect_57 : decode cX1_collect 57 = .ok (.getfield 87, 3) := by decide +kernel
theorem dX1_collect_60 : decode cX1_collect 60 = .ok (.invokevirtual 110, 3) := by decide +kernel
theorem dX1_collect_63 : decode cX1_collect 63 = .ok (.aload_n 0, 1) := by decide +kernel
theorem dX1_collect_64 : decode cX1_collect 64 = .ok (.getfield 9, 3) := by decide +kernel
theorem dX1_collect_67 : decode cX1_collect 67 = .ok (.iload_n 2, 1) := by decide +kernel
theorem dX1_collect_68 : decode cX1_collect 68 = .ok (.aload 4, 2) := by decide +kernel
theorem dX1_collect_70 : decode cX1_collect 70 = .ok (.getfield 87, 3) := by decide +kernel
theorem dX1_collect_73 : decode cX1_collect 73 = .ok (.invokevirtual 110, 3) := by decide +kernel
theorem dX1_collect_76 : decode cX1_collect 76 = .ok (.if_icmp .ge 9, 3) := by decide +kernel
theorem dX1_collect_79 : decode cX1_collect 79 = .ok (.aload_n 1, 1) := by decide +kernel
theorem dX1_collect_80 : decode cX1_collect 80 = .ok (.aload 4, 2) := by decide +kernel
theorem dX1_collect_82 : decode cX1_collect 82 = .ok (.invokevirtual 116, 3) := by decide +kernel
theorem dX1_collect_85 : decode cX1_collect 85 = .ok (.iinc 3 1, 3) := by decide +kernel
theorem dX1_collect_88 : decode cX1_collect 88 = .ok (.goto (-86), 3) := by decide +kernel
theorem dX1_collect_91 : decode cX1_collect 91 = .ok (.return_, 1) := by decide +kernel
set_option maxRecDepth 20000 in
theorem ggX1_moveOn_X5_hasHive : GoodIn wsX1_moveOn wsX5_hasHive := goodIn_r _ [9, 10, 11, 12, 13, 8, 14, 15, 99, 100, 101, 102, 103] (by decide +kernel) (by decide +kernel)
set_option maxRecDepth 20000 in
theorem gX1_moveOn_X5_hasHive : GoodIn wsX1_moveOn (wsV RX1 119 RX5 yX5_hasHive wsX5_hasHive) := goodIn_app (goodIn_of _ (by decide +kernel)) ggX1_moveOn_X5_hasHive
set_option maxRecDepth 20000 in
theorem ggX1_moveOn_X0_restsNow : GoodIn wsX1_moveOn wsX0_restsNow := goodIn_r _ [20, 21, 22, 23, 24, 25, 19, 26, 27, 28, 29, 30, 89, 90, 91, 92, 93, 94, 95, 96, 97, 98] (by decide +kernel) (by decide +kernel)
set_option maxRecDepth 20000 in
theorem gX1_moveOn_X0_restsNow : GoodIn wsX1_moveOn (wsV RX1 123 RX0 yX0_restsNow wsX0_restsNow) := goodIn_app (goodIn_of _ (by decide +kernel)) ggX1_moveOn_X0_restsNow
set_option maxRecDepth 20000 in
theorem ggX1_moveOn_X4_length : GoodIn wsX1_moveOn wsX4_length := goodIn_r _ [35, 36, 104, 105, 106, 107] (by decide +kernel) (by decide +kernel)
set_option maxRecDepth 20000 in
theorem gX1_moveOn_X4_length : GoodIn wsX1_moveOn (wsV RX1 127 RX4 yX4_length wsX4_length) := goodIn_app (goodIn_of _ (by decide +kernel)) ggX1_moveOn_X4_length
set_option maxRecDepth 20000 in
theorem ggX1_moveOn_X0_turnAtEnd : GoodIn wsX1_moveOn wsX0_turnAtEnd := goodIn_r _ [40, 41, 42, 43, 44, 32, 33, 34, 35, 36, 89, 90, 91, 92, 93, 94, 95, 96, 97, 98, 104, 105, 106, 107] (by decide +kernel) (by decide +kernel)
set_option maxRecDepth 20000 in
theorem gX1_moveOn_X0_turnAtEnd : GoodIn wsX1_moveOn (wsV RX1 130 RX0 yX0_turnAtEnd wsX0_turnAtEnd) := goodIn_app (goodIn_of _ (by decide +kernel)) ggX1_moveOn_X0_turnAtEnd
set_option maxRecDepth 20000 in
theorem ggX1_moveOn_X0_nextLane : GoodIn wsX1_moveOn wsX0_nextLane := goodIn_r _ [48, 42, 41, 43, 49, 50, 51, 34, 52, 36, 53, 89, 90, 91, 92, 93, 94, 95, 96, 97, 98, 104, 105, 106, 107] (by decide +kernel) (by decide +kernel)
set_option maxRecDepth 20000 in
theorem gX1_moveOn_X0_nextLane : GoodIn wsX1_moveOn (wsV RX1 133 RX0 yX0_nextLane wsX0_nextLane) := goodIn_app (goodIn_of _ (by decide +kernel)) ggX1_moveOn_X0_nextLane
set_option maxRecDepth 20000 in
theorem ggX1_moveOn_X5_isOpen : GoodIn wsX1_moveOn wsX5_isOpen := goodIn_r _ [57, 58, 59, 60, 61, 8, 62, 63, 64, 65, 66, 67, 68, 69, 70, 99, 100, 101, 102, 103, 108, 109, 110, 111, 112] (by decide +kernel) (by decide +kernel)
set_option maxRecDepth 20000 in
theorem gX1_moveOn_X5_isOpen : GoodIn wsX1_moveOn (wsV RX1 136 RX5 yX5_isOpen wsX5_isOpen) := goodIn_app (goodIn_of _ (by decide +kernel)) ggX1_moveOn_X5_isOpen
set_option maxRecDepth 20000 in
theorem ggX1_moveOn_X5_lengthOf : GoodIn wsX1_moveOn wsX5_lengthOf := goodIn_r _ [74, 58, 75, 59, 60, 61, 8, 62, 63, 99, 100, 101, 102, 103, 108, 109, 110, 111, 112] (by decide +kernel) (by decide +kernel)
set_option maxRecDepth 20000 in
theorem gX1_moveOn_X5_lengthOf : GoodIn wsX1_moveOn (wsV RX1 140 RX5 yX5_lengthOf wsX5_lengthOf) := goodIn_app (goodIn_of _ (by decide +kernel)) ggX1_moveOn_X5_lengthOf
set_option maxRecDepth 20000 in
theorem ggX1_moveOn_X0_flyOrStay : GoodIn wsX1_moveOn wsX0_flyOrStay := goodIn_r _ [79, 22, 80, 43, 41, 23, 24, 25, 19, 26, 27, 28, 29, 30, 89, 90, 91, 92, 93, 94, 95, 96, 97, 98] (by decide +kernel) (by decide +kernel)
set_option maxRecDepth 20000 in
theorem gX1_moveOn_X0_flyOrStay : GoodIn wsX1_moveOn (wsV RX1 143 RX0 yX0_flyOrStay wsX0_flyOrStay) := goodIn_app (goodIn_of _ (by decide +kernel)) ggX1_moveOn_X0_flyOrStay
theorem dX1_moveOn_0 : decode cX1_moveOn 0 = .ok (.aload_n 1, 1) := by decide +kernel
theorem dX1_moveOn_1 : decode cX1_moveOn 1 = .ok (.aload_n 0, 1) := by decide +kernel
theorem dX1_moveOn_2 : decode cX1_moveOn 2 = .ok (.getfield 9, 3) := by decide +kernel
theorem dX1_moveOn_5 : decode cX1_moveOn 5 = .ok (.iload_n 2, 1) := by decide +kernel
theorem dX1_moveOn_6 : decode cX1_moveOn 6 = .ok (.invokevirtual 119, 3) := by decide +kernel
theorem dX1_moveOn_9 : decode cX1_moveOn 9 = .ok (.invokevirtual 123, 3) := by decide +kernel
theorem dX1_moveOn_12 : decode cX1_moveOn 12 = .ok (.ifCond .ne 14, 3) := by decide +kernel
theorem dX1_moveOn_15 : decode cX1_moveOn 15 = .ok (.aload_n 1, 1) := by decide +kernel
theorem dX1_moveOn_16 : decode cX1_moveOn 16 = .ok (.getfield 94, 3) := by decide +kernel
theorem dX1_moveOn_19 : decode cX1_moveOn 19 = .ok (.invokevirtual 127, 3) := by decide +kernel
theorem dX1_moveOn_22 : decode cX1_moveOn 22 = .ok (.iconst 1, 1) := by decide +kernel
theorem dX1_moveOn_23 : decode cX1_moveOn 23 = .ok (.if_icmp .gt 4, 3) := by decide +kernel
theorem dX1_moveOn_26 : decode cX1_moveOn 26 = .ok (.return_, 1) := by decide +kernel
theorem dX1_moveOn_27 : decode cX1_moveOn 27 = .ok (.aload_n 1, 1) := by decide +kernel
theorem dX1_moveOn_28 : decode cX1_moveOn 28 = .ok (.invokevirtual 130, 3) := by decide +kernel
theorem dX1_moveOn_31 : decode cX1_moveOn 31 = .ok (.aload_n 1, 1) := by decide +kernel
theorem dX1_moveOn_32 : decode cX1_moveOn 32 = .ok (.invokevirtual 133, 3) := by decide +kernel
theorem dX1_moveOn_35 : decode cX1_moveOn 35 = .ok (.istore_n 3, 1) := by decide +kernel
theorem dX1_moveOn_36 : decode cX1_moveOn 36 = .ok (.aload_n 1, 1) := by decide +kernel
theorem dX1_moveOn_37 : decode cX1_moveOn 37 = .ok (.iload_n 3, 1) := by decide +kernel
theorem dX1_moveOn_38 : decode cX1_moveOn 38 = .ok (.aload_n 0, 1) := by decide +kernel
theorem dX1_moveOn_39 : decode cX1_moveOn 39 = .ok (.getfield 31, 3) := by decide +kernel
theorem dX1_moveOn_42 : decode cX1_moveOn 42 = .ok (.if_icmp .eq 18, 3) := by decide +kernel
theorem dX1_moveOn_45 : decode cX1_moveOn 45 = .ok (.aload_n 0, 1) := by decide +kernel
theorem dX1_moveOn_46 : decode cX1_moveOn 46 = .ok (.getfield 9, 3) := by decide +kernel
theorem dX1_moveOn_49 : decode cX1_moveOn 49 = .ok (.iload_n 3, 1) := by decide +kernel
theorem dX1_moveOn_50 : decode cX1_moveOn 50 = .ok (.aload_n 0, 1) := by decide +kernel
theorem dX1_moveOn_51 : decode cX1_moveOn 51 = .ok (.getfield 48, 3) := by decide +kernel
theorem dX1_moveOn_54 : decode cX1_moveOn 54 = .ok (.invokevirtual 136, 3) := by decide +kernel
theorem dX1_moveOn_57 : decode cX1_moveOn 57 = .ok (.ifCond .eq 7, 3) := by decide +kernel
theorem dX1_moveOn_60 : decode cX1_moveOn 60 = .ok (.iconst 1, 1) := by decide +kernel
theorem dX1_moveOn_61 : decode cX1_moveOn 61 = .ok (.goto 4, 3) := by decide +kernel
theorem dX1_moveOn_64 : decode cX1_moveOn 64 = .ok (.iconst 0, 1) := by decide +kernel
theorem dX1_moveOn_65 : decode cX1_moveOn 65 = .ok (.aload_n 0, 1) := by decide +kernel
theorem dX1_moveOn_66 : decode cX1_moveOn 66 = .ok (.getfield 9, 3) := by decide +kernel
theorem dX1_moveOn_69 : decode cX1_moveOn 69 = .ok (.iload_n 3, 1) := by decide +kernel
theorem dX1_moveOn_70 : decode cX1_moveOn 70 = .ok (.invokevirtual 140, 3) := by decide +kernel
theorem dX1_moveOn_73 : decode cX1_moveOn 73 = .ok (.invokevirtual 143, 3) := by decide +kernel
theorem dX1_moveOn_76 : decode cX1_moveOn 76 = .ok (.return_, 1) := by decide +kernel
theorem dX2_init_0 : decode cX2_init 0 = .ok (.aload_n 0, 1) := by decide +kernel
theorem dX2_init_1 : decode cX2_init 1 = .ok (.invokespecial 3, 3) := by decide +kernel
theorem dX2_init_4 : decode cX2_init 4 = .ok (.return_, 1) := by decide +kernel
theorem dX2_build_0 : decode cX2_build 0 = .ok (.aload_n 0, 1) := by decide +kernel
theorem dX2_build_1 : decode cX2_build 1 = .ok (.iload_n 1, 1) := by decide +kernel
theorem dX2_build_2 : decode cX2_build 2 = .ok (.putfield 9, 3) := by decide +kernel
theorem dX2_build_5 : decode cX2_build 5 = .ok (.aload_n 0, 1) := by decide +kernel
theorem dX2_build_6 : decode cX2_build 6 = .ok (.iload_n 2, 1) := by decide +kernel
theorem dX2_build_7 : decode cX2_build 7 = .ok (.putfield 15, 3) := by decide +kernel
theorem dX2_build_10 : decode cX2_build 10 = .ok (.aload_n 0, 1) := by decide +kernel
theorem dX2_build_11 : decode cX2_build 11 = .ok (.iload_n 3, 1) := by decide +kernel
theorem dX2_build_12 : decode cX2_build 12 = .ok (.putfield 18, 3) := by decide +kernel
theorem dX2_build_15 : decode cX2_build 15 = .ok (.aload_n 0, 1) := by decide +kernel
theorem dX2_build_16 : decode cX2_build 16 = .ok (.iconst 0, 1) := by decide +kernel
theorem dX2_build_17 : decode cX2_build 17 = .ok (.putfield 21, 3) := by decide +kernel
theorem dX2_build_20 : decode cX2_build 20 = .ok (.aload_n 0, 1) := by decide +kernel
theorem dX2_build_21 : decode cX2_build 21 = .ok (.bipush 24, 2) := by decide +kernel
theorem dX2_build_23 : decode cX2_build 23 = .ok (.putfield 24, 3) := by decide +kernel
theorem dX2_build_26 : decode cX2_build 26 = .ok (.return_, 1) := by decide +kernel
theorem dX2_joins_0 : decode cX2_joins 0 = .ok (.aload_n 0, 1) := by decide +kernel
theorem dX2_joins_1 : decode cX2_joins 1 = .ok (.getfield 9, 3) := by decide +kernel
theorem dX2_joins_4 : decode cX2_joins 4 = .ok (.iload_n 1, 1) := by decide +kernel
theorem dX2_joins_5 : decode cX2_joins 5 = .ok (.if_icmp .ne 11, 3) := by decide +kernel
theorem dX2_joins_8 : decode cX2_joins 8 = .ok (.aload_n 0, 1) := by decide +kernel
theorem dX2_joins_9 : decode cX2_joins 9 = .ok (.getfield 15, 3) := by decide +kernel
theorem dX2_joins_12 : decode cX2_joins 12 = .ok (.iload_n 2, 1) := by decide +kernel
theorem dX2_joins_13 : decode cX2_joins 13 = .ok (.if_icmp .eq 19, 3) := by decide +kernel
theorem dX2_joins_16 : decode cX2_joins 16 = .ok (.aload_n 0, 1) := by decide +kernel
theorem dX2_joins_17 : decode cX2_joins 17 = .ok (.getfield 9, 3) := by decide +kernel
theorem dX2_joins_20 : decode cX2_joins 20 = .ok (.iload_n 2, 1) := by decide +kernel
theorem dX2_joins_21 : decode cX2_joins 21 = .ok (.if_icmp .ne 15, 3) := by decide +kernel
theorem dX2_joins_24 : decode cX2_joins 24 = .ok (.aload_n 0, 1) := by decide +kernel
theorem dX2_joins_25 : decode cX2_joins 25 = .ok (.getfield 15, 3) := by decide +kernel
theorem dX2_joins_28 : decode cX2_joins 28 = .ok (.iload_n 1, 1) := by decide +kernel
theorem dX2_joins_29 : decode cX2_joins 29 = .ok (.if_icmp .ne 7, 3) := by decide +kernel
theorem dX2_joins_32 : decode cX2_joins 32 = .ok (.iconst 1, 1) := by decide +kernel
theorem dX2_joins_33 : decode cX2_joins 33 = .ok (.goto 4, 3) := by decide +kernel
theorem dX2_joins_36 : decode cX2_joins 36 = .ok (.iconst 0, 1) := by decide +kernel
theorem dX2_joins_37 : decode cX2_joins 37 = .ok (.ireturn, 1) := by decide +kernel
theorem dX2_isOpen_0 : decode cX2_isOpen 0 = .ok (.iload_n 1, 1) := by decide +kernel
theorem dX2_isOpen_1 : decode cX2_isOpen 1 = .ok (.bipush 24, 2) := by decide +kernel
theorem dX2_isOpen_3 : decode cX2_isOpen 3 = .ok (.irem, 1) := by decide +kernel
theorem dX2_isOpen_4 : decode cX2_isOpen 4 = .ok (.istore_n 2, 1) := by decide +kernel
theorem dX2_isOpen_5 : decode cX2_isOpen 5 = .ok (.aload_n 0, 1) := by decide +kernel
theorem dX2_isOpen_6 : decode cX2_isOpen 6 = .ok (.getfield 21, 3) := by decide +kernel
theorem dX2_isOpen_9 : decode cX2_isOpen 9 = .ok (.iload_n 2, 1) := by decide +kernel
theorem dX2_isOpen_10 : decode cX2_isOpen 10 = .ok (.if_icmp .gt 15, 3) := by decide +kernel
theorem dX2_isOpen_13 : decode cX2_isOpen 13 = .ok (.iload_n 2, 1) := by decide +kernel
theorem dX2_isOpen_14 : decode cX2_isOpen 14 = .ok (.aload_n 0, 1) := by decide +kernel
theorem dX2_isOpen_15 : decode cX2_isOpen 15 = .ok (.getfield 24, 3) := by decide +kernel
theorem dX2_isOpen_18 : decode cX2_isOpen 18 = .ok (.if_icmp .ge 7, 3) := by decide +kernel
theorem dX2_isOpen_21 : decode cX2_isOpen 21 = .ok (.iconst 1, 1) := by decide +kernel
theorem dX2_isOpen_22 : decode cX2_isOpen 22 = .ok (.goto 4, 3) := by decide +kernel
theorem dX2_isOpen_25 : decode cX2_isOpen 25 = .ok (.iconst 0, 1) := by decide +kernel
theorem dX2_isOpen_26 : decode cX2_isOpen 26 = .ok (.ireturn, 1) := by decide +kernel
theorem dX2_isOpenAlways_0 : decode cX2_isOpenAlways 0 = .ok (.aload_n 0, 1) := by decide +kernel
theorem dX2_isOpenAlways_1 : decode cX2_isOpenAlways 1 = .ok (.getfield 21, 3) := by decide +kernel
theorem dX2_isOpenAlways_4 : decode cX2_isOpenAlways 4 = .ok (.ifCond .ne 16, 3) := by decide +kernel
theorem dX2_isOpenAlways_7 : decode cX2_isOpenAlways 7 = .ok (.aload_n 0, 1) := by decide +kernel
theorem dX2_isOpenAlways_8 : decode cX2_isOpenAlways 8 = .ok (.getfield 24, 3) := by decide +kernel
theorem dX2_isOpenAlways_11 : decode cX2_isOpenAlways 11 = .ok (.bipush 24, 2) := by decide +kernel
theorem dX2_isOpenAlways_13 : decode cX2_isOpenAlways 13 = .ok (.if_icmp .ne 7, 3) := by decide +kernel
theorem dX2_isOpenAlways_16 : decode cX2_isOpenAlways 16 = .ok (.iconst 1, 1) := by decide +kernel
theorem dX2_isOpenAlways_17 : decode cX2_isOpenAlways 17 = .ok (.goto 4, 3) := by decide +kernel
theorem dX2_isOpenAlways_20 : decode cX2_isOpenAlways 20 = .ok (.iconst 0, 1) := by decide +kernel
theorem dX2_isOpenAlways_21 : decode cX2_isOpenAlways 21 = .ok (.ireturn, 1) := by decide +kernel
theorem dX3_init_0 : decode cX3_init 0 = .ok (.aload_n 0, 1) := by decide +kernel
theorem dX3_init_1 : decode cX3_init 1 = .ok (.invokespecial 3, 3) := by decide +kernel
theorem dX3_init_4 : decode cX3_init 4 = .ok (.return_, 1) := by decide +kernel
theorem dX3_begin_0 : decode cX3_begin 0 = .ok (.aload_n 0, 1) := by decide +kernel
theorem dX3_begin_1 : decode cX3_begin 1 = .ok (.iload_n 2, 1) := by decide +kernel
theorem dX3_begin_2 : decode cX3_begin 2 = .ok (.putfield 9, 3) := by decide +kernel
