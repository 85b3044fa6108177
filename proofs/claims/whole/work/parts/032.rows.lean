theorem dX6_setGate_22 : decode cX6_setGate 22 = .ok (.ifCond .lt 20, 3) := by decide +kernel
theorem dX6_setGate_25 : decode cX6_setGate 25 = .ok (.iload_n 2, 1) := by decide +kernel
theorem dX6_setGate_26 : decode cX6_setGate 26 = .ok (.bipush 24, 2) := by decide +kernel
theorem dX6_setGate_28 : decode cX6_setGate 28 = .ok (.if_icmp .ge 14, 3) := by decide +kernel
theorem dX6_setGate_31 : decode cX6_setGate 31 = .ok (.iload_n 3, 1) := by decide +kernel
theorem dX6_setGate_32 : decode cX6_setGate 32 = .ok (.iload_n 2, 1) := by decide +kernel
theorem dX6_setGate_33 : decode cX6_setGate 33 = .ok (.if_icmp .lt 9, 3) := by decide +kernel
theorem dX6_setGate_36 : decode cX6_setGate 36 = .ok (.iload_n 3, 1) := by decide +kernel
theorem dX6_setGate_37 : decode cX6_setGate 37 = .ok (.bipush 24, 2) := by decide +kernel
theorem dX6_setGate_39 : decode cX6_setGate 39 = .ok (.if_icmp .le 13, 3) := by decide +kernel
theorem dX6_setGate_42 : decode cX6_setGate 42 = .ok (.new 58, 3) := by decide +kernel
theorem dX6_setGate_45 : decode cX6_setGate 45 = .ok (.dup, 1) := by decide +kernel
theorem dX6_setGate_46 : decode cX6_setGate 46 = .ok (.ldc 83, 2) := by decide +kernel
theorem dX6_setGate_48 : decode cX6_setGate 48 = .ok (.invokespecial 62, 3) := by decide +kernel
theorem dX6_setGate_51 : decode cX6_setGate 51 = .ok (.athrow, 1) := by decide +kernel
theorem dX6_setGate_52 : decode cX6_setGate 52 = .ok (.aload_n 0, 1) := by decide +kernel
theorem dX6_setGate_53 : decode cX6_setGate 53 = .ok (.getfield 10, 3) := by decide +kernel
theorem dX6_setGate_56 : decode cX6_setGate 56 = .ok (.getfield 85, 3) := by decide +kernel
theorem dX6_setGate_59 : decode cX6_setGate 59 = .ok (.iload_n 1, 1) := by decide +kernel
theorem dX6_setGate_60 : decode cX6_setGate 60 = .ok (.aaload, 1) := by decide +kernel
theorem dX6_setGate_61 : decode cX6_setGate 61 = .ok (.astore 4, 2) := by decide +kernel
theorem dX6_setGate_63 : decode cX6_setGate 63 = .ok (.bipush 100, 2) := by decide +kernel
theorem dX6_setGate_65 : decode cX6_setGate 65 = .ok (.aload 4, 2) := by decide +kernel
theorem dX6_setGate_67 : decode cX6_setGate 67 = .ok (.getfield 89, 3) := by decide +kernel
theorem dX6_setGate_70 : decode cX6_setGate 70 = .ok (.imul, 1) := by decide +kernel
theorem dX6_setGate_71 : decode cX6_setGate 71 = .ok (.aload 4, 2) := by decide +kernel
theorem dX6_setGate_73 : decode cX6_setGate 73 = .ok (.getfield 94, 3) := by decide +kernel
theorem dX6_setGate_76 : decode cX6_setGate 76 = .ok (.iadd, 1) := by decide +kernel
theorem dX6_setGate_77 : decode cX6_setGate 77 = .ok (.istore 5, 2) := by decide +kernel
theorem dX6_setGate_79 : decode cX6_setGate 79 = .ok (.aload 4, 2) := by decide +kernel
theorem dX6_setGate_81 : decode cX6_setGate 81 = .ok (.iload_n 2, 1) := by decide +kernel
theorem dX6_setGate_82 : decode cX6_setGate 82 = .ok (.putfield 89, 3) := by decide +kernel
theorem dX6_setGate_85 : decode cX6_setGate 85 = .ok (.aload 4, 2) := by decide +kernel
theorem dX6_setGate_87 : decode cX6_setGate 87 = .ok (.iload_n 3, 1) := by decide +kernel
theorem dX6_setGate_88 : decode cX6_setGate 88 = .ok (.putfield 94, 3) := by decide +kernel
theorem dX6_setGate_91 : decode cX6_setGate 91 = .ok (.iload 5, 2) := by decide +kernel
theorem dX6_setGate_93 : decode cX6_setGate 93 = .ok (.ireturn, 1) := by decide +kernel
set_option maxRecDepth 20000 in
theorem ggX6_way_X6_checkHouse : GoodIn wsX6_way wsX6_checkHouse := goodIn_ca (goodIn_r _ [6, 7, 8, 1, 9, 10, 11, 12, 13, 14, 21, 22, 23, 24, 25, 26, 27, 28, 29] (by decide +kernel) (by decide +kernel)) (goodIn_sub (fun _ h => List.mem_cons_of_mem _ (List.mem_append_right _ h)) (by decide +kernel))
set_option maxRecDepth 20000 in
theorem gX6_way_X6_checkHouse : GoodIn wsX6_way (wsV RX6 46 RX6 yX6_checkHouse wsX6_checkHouse) := goodIn_app (goodIn_of _ (by decide +kernel)) ggX6_way_X6_checkHouse
set_option maxRecDepth 20000 in
theorem ggX6_way_X5_wayBetween : GoodIn wsX6_way wsX5_wayBetween := goodIn_r _ [18, 19, 20, 10, 11, 12, 13, 14, 25, 26, 27, 28, 29] (by decide +kernel) (by decide +kernel)
set_option maxRecDepth 20000 in
theorem gX6_way_X5_wayBetween : GoodIn wsX6_way (wsV RX6 97 RX5 yX5_wayBetween wsX5_wayBetween) := goodIn_app (goodIn_of _ (by decide +kernel)) ggX6_way_X5_wayBetween
theorem dX6_way_0 : decode cX6_way 0 = .ok (.aload_n 0, 1) := by decide +kernel
theorem dX6_way_1 : decode cX6_way 1 = .ok (.iload_n 1, 1) := by decide +kernel
theorem dX6_way_2 : decode cX6_way 2 = .ok (.invokevirtual 46, 3) := by decide +kernel
theorem dX6_way_5 : decode cX6_way 5 = .ok (.aload_n 0, 1) := by decide +kernel
theorem dX6_way_6 : decode cX6_way 6 = .ok (.iload_n 2, 1) := by decide +kernel
theorem dX6_way_7 : decode cX6_way 7 = .ok (.invokevirtual 46, 3) := by decide +kernel
theorem dX6_way_10 : decode cX6_way 10 = .ok (.aload_n 0, 1) := by decide +kernel
theorem dX6_way_11 : decode cX6_way 11 = .ok (.getfield 10, 3) := by decide +kernel
theorem dX6_way_14 : decode cX6_way 14 = .ok (.iload_n 1, 1) := by decide +kernel
theorem dX6_way_15 : decode cX6_way 15 = .ok (.iload_n 2, 1) := by decide +kernel
theorem dX6_way_16 : decode cX6_way 16 = .ok (.invokevirtual 97, 3) := by decide +kernel
theorem dX6_way_19 : decode cX6_way 19 = .ok (.istore_n 3, 1) := by decide +kernel
theorem dX6_way_20 : decode cX6_way 20 = .ok (.iload_n 3, 1) := by decide +kernel
theorem dX6_way_21 : decode cX6_way 21 = .ok (.sipush 1000, 3) := by decide +kernel
theorem dX6_way_24 : decode cX6_way 24 = .ok (.if_icmp .ge 7, 3) := by decide +kernel
theorem dX6_way_27 : decode cX6_way 27 = .ok (.iload_n 3, 1) := by decide +kernel
theorem dX6_way_28 : decode cX6_way 28 = .ok (.goto 4, 3) := by decide +kernel
theorem dX6_way_31 : decode cX6_way 31 = .ok (.iconst (-1), 1) := by decide +kernel
theorem dX6_way_32 : decode cX6_way 32 = .ok (.ireturn, 1) := by decide +kernel
set_option maxRecDepth 20000 in
theorem ggX6_addBee_X6_checkRoute : GoodIn wsX6_addBee wsX6_checkRoute := goodIn_ca (goodIn_r _ [11, 12, 13, 6, 14, 15, 16, 17, 18, 19, 20, 21, 22, 23, 24, 25, 26, 27, 28, 29, 30, 31, 32, 33, 34, 35, 36, 37, 38, 39, 40, 41, 42, 43, 44, 45, 46, 47, 48, 49, 50, 51, 52, 53, 54, 55, 56, 57, 58, 59, 60, 61, 62, 63, 64, 65, 66, 67, 68, 69, 70, 97, 98, 99, 100, 109, 110, 111, 112, 113, 114, 115, 116, 117, 118, 119, 120, 121, 122] (by decide +kernel) (by decide +kernel)) (goodIn_sub (fun _ h => List.mem_cons_of_mem _ (List.mem_append_right _ h)) (by decide +kernel))
set_option maxRecDepth 20000 in
theorem gX6_addBee_X6_checkRoute : GoodIn wsX6_addBee (wsV RX6 101 RX6 yX6_checkRoute wsX6_checkRoute) := goodIn_app (goodIn_of _ (by decide +kernel)) ggX6_addBee_X6_checkRoute
set_option maxRecDepth 20000 in
theorem ggX6_addBee_X0_hatch : GoodIn wsX6_addBee wsX0_hatch := goodIn_r _ [75, 76, 77, 78, 79, 80, 81, 82, 83, 84, 74, 85, 86, 87, 88, 89, 90, 91, 18, 92, 20, 26, 93, 94, 95, 96, 27, 64, 123, 124, 125, 126, 127, 128, 129, 130, 131, 132, 109, 110, 111, 112] (by decide +kernel) (by decide +kernel)
set_option maxRecDepth 20000 in
theorem gX6_addBee_X0_hatch : GoodIn wsX6_addBee (wsV RX6 110 RX0 yX0_hatch wsX0_hatch) := goodIn_app (goodIn_of _ (by decide +kernel)) ggX6_addBee_X0_hatch
theorem dX6_addBee_0 : decode cX6_addBee 0 = .ok (.aload_n 0, 1) := by decide +kernel
theorem dX6_addBee_1 : decode cX6_addBee 1 = .ok (.iload_n 1, 1) := by decide +kernel
theorem dX6_addBee_2 : decode cX6_addBee 2 = .ok (.invokevirtual 101, 3) := by decide +kernel
theorem dX6_addBee_5 : decode cX6_addBee 5 = .ok (.aload_n 0, 1) := by decide +kernel
theorem dX6_addBee_6 : decode cX6_addBee 6 = .ok (.getfield 21, 3) := by decide +kernel
theorem dX6_addBee_9 : decode cX6_addBee 9 = .ok (.getfield 66, 3) := by decide +kernel
theorem dX6_addBee_12 : decode cX6_addBee 12 = .ok (.bipush 6, 2) := by decide +kernel
theorem dX6_addBee_14 : decode cX6_addBee 14 = .ok (.if_icmp .lt 13, 3) := by decide +kernel
theorem dX6_addBee_17 : decode cX6_addBee 17 = .ok (.new 39, 3) := by decide +kernel
theorem dX6_addBee_20 : decode cX6_addBee 20 = .ok (.dup, 1) := by decide +kernel
theorem dX6_addBee_21 : decode cX6_addBee 21 = .ok (.ldc 104, 2) := by decide +kernel
theorem dX6_addBee_23 : decode cX6_addBee 23 = .ok (.invokespecial 43, 3) := by decide +kernel
theorem dX6_addBee_26 : decode cX6_addBee 26 = .ok (.athrow, 1) := by decide +kernel
theorem dX6_addBee_27 : decode cX6_addBee 27 = .ok (.aload_n 0, 1) := by decide +kernel
theorem dX6_addBee_28 : decode cX6_addBee 28 = .ok (.getfield 21, 3) := by decide +kernel
theorem dX6_addBee_31 : decode cX6_addBee 31 = .ok (.getfield 106, 3) := by decide +kernel
theorem dX6_addBee_34 : decode cX6_addBee 34 = .ok (.aload_n 0, 1) := by decide +kernel
theorem dX6_addBee_35 : decode cX6_addBee 35 = .ok (.getfield 21, 3) := by decide +kernel
theorem dX6_addBee_38 : decode cX6_addBee 38 = .ok (.getfield 66, 3) := by decide +kernel
theorem dX6_addBee_41 : decode cX6_addBee 41 = .ok (.aaload, 1) := by decide +kernel
theorem dX6_addBee_42 : decode cX6_addBee 42 = .ok (.aload_n 0, 1) := by decide +kernel
theorem dX6_addBee_43 : decode cX6_addBee 43 = .ok (.getfield 31, 3) := by decide +kernel
theorem dX6_addBee_46 : decode cX6_addBee 46 = .ok (.invokevirtual 110, 3) := by decide +kernel
theorem dX6_addBee_49 : decode cX6_addBee 49 = .ok (.aload_n 0, 1) := by decide +kernel
theorem dX6_addBee_50 : decode cX6_addBee 50 = .ok (.getfield 21, 3) := by decide +kernel
theorem dX6_addBee_53 : decode cX6_addBee 53 = .ok (.dup, 1) := by decide +kernel
theorem dX6_addBee_54 : decode cX6_addBee 54 = .ok (.getfield 66, 3) := by decide +kernel
theorem dX6_addBee_57 : decode cX6_addBee 57 = .ok (.dup_x1, 1) := by decide +kernel
theorem dX6_addBee_58 : decode cX6_addBee 58 = .ok (.iconst 1, 1) := by decide +kernel
theorem dX6_addBee_59 : decode cX6_addBee 59 = .ok (.iadd, 1) := by decide +kernel
theorem dX6_addBee_60 : decode cX6_addBee 60 = .ok (.putfield 66, 3) := by decide +kernel
theorem dX6_addBee_63 : decode cX6_addBee 63 = .ok (.ireturn, 1) := by decide +kernel
set_option maxRecDepth 20000 in
theorem ggX6_swear_X6_checkBee : GoodIn wsX6_swear wsX6_checkBee := goodIn_ca (goodIn_r _ [12, 13, 14, 3, 15, 116, 117, 118, 119, 120, 121, 122, 123, 124, 125, 126, 127] (by decide +kernel) (by decide +kernel)) (goodIn_sub (fun _ h => List.mem_cons_of_mem _ (List.mem_append_left _ (List.mem_append_right _ h))) (by decide +kernel))
set_option maxRecDepth 20000 in
theorem gX6_swear_X6_checkBee : GoodIn wsX6_swear (wsV RX6 116 RX6 yX6_checkBee wsX6_checkBee) := goodIn_app (goodIn_of _ (by decide +kernel)) ggX6_swear_X6_checkBee
set_option maxRecDepth 20000 in
theorem ggX6_swear_X6_checkRoute : GoodIn wsX6_swear wsX6_checkRoute := goodIn_ca (goodIn_r _ [19, 20, 21, 5, 22, 23, 24, 25, 26, 27, 28, 29, 30, 31, 32, 33, 34, 35, 36, 37, 38, 39, 40, 41, 42, 43, 44, 45, 46, 47, 48, 49, 50, 51, 52, 53, 54, 55, 56, 57, 58, 59, 60, 61, 62, 63, 64, 65, 66, 67, 68, 69, 70, 71, 72, 73, 74, 75, 76, 77, 78, 116, 117, 118, 119, 138, 139, 140, 141, 142, 143, 144, 145, 146, 147, 148, 149, 150, 151] (by decide +kernel) (by decide +kernel)) (goodIn_sub (fun _ h => List.mem_cons_of_mem _ (List.mem_append_right _ h)) (by decide +kernel))
set_option maxRecDepth 20000 in
theorem gX6_swear_X6_checkRoute : GoodIn wsX6_swear (wsV RX6 101 RX6 yX6_checkRoute wsX6_checkRoute) := goodIn_app (goodIn_of _ (by decide +kernel)) ggX6_swear_X6_checkRoute
set_option maxRecDepth 20000 in
theorem ggX6_swear_X0_house : GoodIn wsX6_swear wsX0_house := goodIn_r _ [83, 84, 85, 86, 87, 88, 26, 89, 28, 34, 128, 129, 130, 131, 132, 133, 134, 135, 136, 137, 138, 139, 140, 141] (by decide +kernel) (by decide +kernel)
set_option maxRecDepth 20000 in
theorem gX6_swear_X0_house : GoodIn wsX6_swear (wsV RX6 119 RX0 yX0_house wsX0_house) := goodIn_app (goodIn_of _ (by decide +kernel)) ggX6_swear_X0_house
set_option maxRecDepth 20000 in
theorem ggX6_swear_X4_placeOf : GoodIn wsX6_swear wsX4_placeOf := goodIn_r _ [45, 28, 34, 138, 139, 140, 141] (by decide +kernel) (by decide +kernel)
set_option maxRecDepth 20000 in
theorem gX6_swear_X4_placeOf : GoodIn wsX6_swear (wsV RX6 123 RX4 yX4_placeOf wsX4_placeOf) := goodIn_app (goodIn_of _ (by decide +kernel)) ggX6_swear_X4_placeOf
set_option maxRecDepth 20000 in
theorem ggX6_swear_X0_follow : GoodIn wsX6_swear wsX0_follow := goodIn_r _ [94, 84, 85, 95, 96, 97, 98, 26, 99, 28, 34, 100, 101, 102, 103, 35, 72, 128, 129, 130, 131, 132, 133, 134, 135, 136, 137, 138, 139, 140, 141] (by decide +kernel) (by decide +kernel)
set_option maxRecDepth 20000 in
theorem gX6_swear_X0_follow : GoodIn wsX6_swear (wsV RX6 132 RX0 yX0_follow wsX0_follow) := goodIn_app (goodIn_of _ (by decide +kernel)) ggX6_swear_X0_follow
set_option maxRecDepth 20000 in
theorem ggX6_swear_X0_addHonour : GoodIn wsX6_swear wsX0_addHonour := goodIn_r _ [107, 108, 109, 110, 111, 112, 113, 114, 115, 128, 129, 130, 131, 132, 133, 134, 135, 136, 137] (by decide +kernel) (by decide +kernel)
set_option maxRecDepth 20000 in
theorem gX6_swear_X0_addHonour : GoodIn wsX6_swear (wsV RX6 136 RX0 yX0_addHonour wsX0_addHonour) := goodIn_app (goodIn_of _ (by decide +kernel)) ggX6_swear_X0_addHonour
theorem dX6_swear_0 : decode cX6_swear 0 = .ok (.aload_n 0, 1) := by decide +kernel
theorem dX6_swear_1 : decode cX6_swear 1 = .ok (.iload_n 1, 1) := by decide +kernel
theorem dX6_swear_2 : decode cX6_swear 2 = .ok (.invokevirtual 116, 3) := by decide +kernel
theorem dX6_swear_5 : decode cX6_swear 5 = .ok (.aload_n 0, 1) := by decide +kernel
theorem dX6_swear_6 : decode cX6_swear 6 = .ok (.iload_n 2, 1) := by decide +kernel
theorem dX6_swear_7 : decode cX6_swear 7 = .ok (.invokevirtual 101, 3) := by decide +kernel
theorem dX6_swear_10 : decode cX6_swear 10 = .ok (.aload_n 0, 1) := by decide +kernel
theorem dX6_swear_11 : decode cX6_swear 11 = .ok (.getfield 21, 3) := by decide +kernel
theorem dX6_swear_14 : decode cX6_swear 14 = .ok (.getfield 106, 3) := by decide +kernel
theorem dX6_swear_17 : decode cX6_swear 17 = .ok (.iload_n 1, 1) := by decide +kernel
theorem dX6_swear_18 : decode cX6_swear 18 = .ok (.aaload, 1) := by decide +kernel
theorem dX6_swear_19 : decode cX6_swear 19 = .ok (.astore_n 3, 1) := by decide +kernel
theorem dX6_swear_20 : decode cX6_swear 20 = .ok (.aload_n 0, 1) := by decide +kernel
theorem dX6_swear_21 : decode cX6_swear 21 = .ok (.getfield 31, 3) := by decide +kernel
theorem dX6_swear_24 : decode cX6_swear 24 = .ok (.aload_n 3, 1) := by decide +kernel
theorem dX6_swear_25 : decode cX6_swear 25 = .ok (.invokevirtual 119, 3) := by decide +kernel
theorem dX6_swear_28 : decode cX6_swear 28 = .ok (.invokevirtual 123, 3) := by decide +kernel
theorem dX6_swear_31 : decode cX6_swear 31 = .ok (.istore 4, 2) := by decide +kernel
theorem dX6_swear_33 : decode cX6_swear 33 = .ok (.aload_n 3, 1) := by decide +kernel
theorem dX6_swear_34 : decode cX6_swear 34 = .ok (.getfield 127, 3) := by decide +kernel
theorem dX6_swear_37 : decode cX6_swear 37 = .ok (.ifCond .gt 9, 3) := by decide +kernel
theorem dX6_swear_40 : decode cX6_swear 40 = .ok (.iload 4, 2) := by decide +kernel
theorem dX6_swear_42 : decode cX6_swear 42 = .ok (.iconst (-1), 1) := by decide +kernel
theorem dX6_swear_43 : decode cX6_swear 43 = .ok (.if_icmp .ne 13, 3) := by decide +kernel
theorem dX6_swear_46 : decode cX6_swear 46 = .ok (.new 39, 3) := by decide +kernel
theorem dX6_swear_49 : decode cX6_swear 49 = .ok (.dup, 1) := by decide +kernel
theorem dX6_swear_50 : decode cX6_swear 50 = .ok (.ldc 130, 2) := by decide +kernel
theorem dX6_swear_52 : decode cX6_swear 52 = .ok (.invokespecial 43, 3) := by decide +kernel
theorem dX6_swear_55 : decode cX6_swear 55 = .ok (.athrow, 1) := by decide +kernel
theorem dX6_swear_56 : decode cX6_swear 56 = .ok (.aload_n 3, 1) := by decide +kernel
theorem dX6_swear_57 : decode cX6_swear 57 = .ok (.aload_n 0, 1) := by decide +kernel
theorem dX6_swear_58 : decode cX6_swear 58 = .ok (.getfield 31, 3) := by decide +kernel
theorem dX6_swear_61 : decode cX6_swear 61 = .ok (.iload 4, 2) := by decide +kernel
theorem dX6_swear_63 : decode cX6_swear 63 = .ok (.invokevirtual 132, 3) := by decide +kernel
theorem dX6_swear_66 : decode cX6_swear 66 = .ok (.aload_n 3, 1) := by decide +kernel
theorem dX6_swear_67 : decode cX6_swear 67 = .ok (.bipush (-3), 2) := by decide +kernel
theorem dX6_swear_69 : decode cX6_swear 69 = .ok (.invokevirtual 136, 3) := by decide +kernel
theorem dX6_swear_72 : decode cX6_swear 72 = .ok (.aload_n 3, 1) := by decide +kernel
theorem dX6_swear_73 : decode cX6_swear 73 = .ok (.getfield 139, 3) := by decide +kernel
theorem dX6_swear_76 : decode cX6_swear 76 = .ok (.ireturn, 1) := by decide +kernel
set_option maxRecDepth 20000 in
theorem ggX6_write_X6_checkHouse : GoodIn wsX6_write wsX6_checkHouse := goodIn_ca (goodIn_r _ [12, 13, 14, 15, 16, 17, 18, 19, 20, 21, 32, 33, 34, 35, 44, 45, 46, 47, 48] (by decide +kernel) (by decide +kernel)) (goodIn_sub (fun _ h => List.mem_cons_of_mem _ (List.mem_append_right _ h)) (by decide +kernel))
set_option maxRecDepth 20000 in
theorem gX6_write_X6_checkHouse : GoodIn wsX6_write (wsV RX6 46 RX6 yX6_checkHouse wsX6_checkHouse) := goodIn_app (goodIn_of _ (by decide +kernel)) ggX6_write_X6_checkHouse
set_option maxRecDepth 20000 in
theorem ggX6_write_X3_begin : GoodIn wsX6_write wsX3_begin := goodIn_r _ [26, 27, 28, 29, 30, 31, 49, 50, 51, 52, 53] (by decide +kernel) (by decide +kernel)
set_option maxRecDepth 20000 in
theorem gX6_write_X3_begin : GoodIn wsX6_write (wsV RX6 153 RX3 yX3_begin wsX3_begin) := goodIn_app (goodIn_of _ (by decide +kernel)) ggX6_write_X3_begin
theorem dX6_write_0 : decode cX6_write 0 = .ok (.aload_n 0, 1) := by decide +kernel
theorem dX6_write_1 : decode cX6_write 1 = .ok (.iload_n 1, 1) := by decide +kernel
theorem dX6_write_2 : decode cX6_write 2 = .ok (.invokevirtual 46, 3) := by decide +kernel
theorem dX6_write_5 : decode cX6_write 5 = .ok (.aload_n 0, 1) := by decide +kernel
theorem dX6_write_6 : decode cX6_write 6 = .ok (.iload_n 2, 1) := by decide +kernel
theorem dX6_write_7 : decode cX6_write 7 = .ok (.invokevirtual 46, 3) := by decide +kernel
theorem dX6_write_10 : decode cX6_write 10 = .ok (.iload_n 1, 1) := by decide +kernel
theorem dX6_write_11 : decode cX6_write 11 = .ok (.iload_n 2, 1) := by decide +kernel
theorem dX6_write_12 : decode cX6_write 12 = .ok (.if_icmp .ne 13, 3) := by decide +kernel
theorem dX6_write_15 : decode cX6_write 15 = .ok (.new 58, 3) := by decide +kernel
theorem dX6_write_18 : decode cX6_write 18 = .ok (.dup, 1) := by decide +kernel
theorem dX6_write_19 : decode cX6_write 19 = .ok (.ldc 142, 2) := by decide +kernel
theorem dX6_write_21 : decode cX6_write 21 = .ok (.invokespecial 62, 3) := by decide +kernel
theorem dX6_write_24 : decode cX6_write 24 = .ok (.athrow, 1) := by decide +kernel
theorem dX6_write_25 : decode cX6_write 25 = .ok (.aload_n 0, 1) := by decide +kernel
theorem dX6_write_26 : decode cX6_write 26 = .ok (.getfield 21, 3) := by decide +kernel
theorem dX6_write_29 : decode cX6_write 29 = .ok (.getfield 144, 3) := by decide +kernel
theorem dX6_write_32 : decode cX6_write 32 = .ok (.bipush 20, 2) := by decide +kernel
theorem dX6_write_34 : decode cX6_write 34 = .ok (.if_icmp .lt 13, 3) := by decide +kernel
theorem dX6_write_37 : decode cX6_write 37 = .ok (.new 39, 3) := by decide +kernel
theorem dX6_write_40 : decode cX6_write 40 = .ok (.dup, 1) := by decide +kernel
theorem dX6_write_41 : decode cX6_write 41 = .ok (.ldc 147, 2) := by decide +kernel
theorem dX6_write_43 : decode cX6_write 43 = .ok (.invokespecial 43, 3) := by decide +kernel
theorem dX6_write_46 : decode cX6_write 46 = .ok (.athrow, 1) := by decide +kernel
theorem dX6_write_47 : decode cX6_write 47 = .ok (.aload_n 0, 1) := by decide +kernel
theorem dX6_write_48 : decode cX6_write 48 = .ok (.getfield 21, 3) := by decide +kernel
theorem dX6_write_51 : decode cX6_write 51 = .ok (.getfield 149, 3) := by decide +kernel
theorem dX6_write_54 : decode cX6_write 54 = .ok (.aload_n 0, 1) := by decide +kernel
theorem dX6_write_55 : decode cX6_write 55 = .ok (.getfield 21, 3) := by decide +kernel
theorem dX6_write_58 : decode cX6_write 58 = .ok (.getfield 144, 3) := by decide +kernel
theorem dX6_write_61 : decode cX6_write 61 = .ok (.aaload, 1) := by decide +kernel
theorem dX6_write_62 : decode cX6_write 62 = .ok (.iload_n 1, 1) := by decide +kernel
theorem dX6_write_63 : decode cX6_write 63 = .ok (.iload_n 2, 1) := by decide +kernel
theorem dX6_write_64 : decode cX6_write 64 = .ok (.invokevirtual 153, 3) := by decide +kernel
theorem dX6_write_67 : decode cX6_write 67 = .ok (.aload_n 0, 1) := by decide +kernel
theorem dX6_write_68 : decode cX6_write 68 = .ok (.getfield 21, 3) := by decide +kernel
theorem dX6_write_71 : decode cX6_write 71 = .ok (.dup, 1) := by decide +kernel
theorem dX6_write_72 : decode cX6_write 72 = .ok (.getfield 144, 3) := by decide +kernel
theorem dX6_write_75 : decode cX6_write 75 = .ok (.dup_x1, 1) := by decide +kernel
theorem dX6_write_76 : decode cX6_write 76 = .ok (.iconst 1, 1) := by decide +kernel
theorem dX6_write_77 : decode cX6_write 77 = .ok (.iadd, 1) := by decide +kernel
theorem dX6_write_78 : decode cX6_write 78 = .ok (.putfield 144, 3) := by decide +kernel
theorem dX6_write_81 : decode cX6_write 81 = .ok (.ireturn, 1) := by decide +kernel
set_option maxRecDepth 20000 in
theorem ggX6_bribe_X6_checkBee : GoodIn wsX6_bribe wsX6_checkBee := goodIn_ca (goodIn_r _ [14, 15, 16, 3, 17, 58, 59, 60, 61, 62, 63, 64, 65, 66, 67, 68, 69] (by decide +kernel) (by decide +kernel)) (goodIn_sub (fun _ h => List.mem_cons_of_mem _ (List.mem_append_right _ h)) (by decide +kernel))
set_option maxRecDepth 20000 in
theorem gX6_bribe_X6_checkBee : GoodIn wsX6_bribe (wsV RX6 116 RX6 yX6_checkBee wsX6_checkBee) := goodIn_app (goodIn_of _ (by decide +kernel)) ggX6_bribe_X6_checkBee
set_option maxRecDepth 20000 in
theorem ggX6_bribe_X6_checkLetter : GoodIn wsX6_bribe wsX6_checkLetter := goodIn_ca (goodIn_r _ [21, 15, 16, 3, 22, 58, 59, 60, 61, 62, 63, 64, 65, 66, 67, 68, 69] (by decide +kernel) (by decide +kernel)) (goodIn_sub (fun _ h => List.mem_cons_of_mem _ (List.mem_append_right _ h)) (by decide +kernel))
set_option maxRecDepth 20000 in
theorem gX6_bribe_X6_checkLetter : GoodIn wsX6_bribe (wsV RX6 159 RX6 yX6_checkLetter wsX6_checkLetter) := goodIn_app (goodIn_of _ (by decide +kernel)) ggX6_bribe_X6_checkLetter
set_option maxRecDepth 20000 in
theorem ggX6_bribe_X0_house : GoodIn wsX6_bribe wsX0_house := goodIn_r _ [27, 28, 29, 30, 31, 32, 33, 34, 35, 36, 70, 71, 72, 73, 74, 75, 76, 77, 78, 79, 85, 86, 87, 88] (by decide +kernel) (by decide +kernel)
set_option maxRecDepth 20000 in
theorem gX6_bribe_X0_house : GoodIn wsX6_bribe (wsV RX6 119 RX0 yX0_house wsX0_house) := goodIn_app (goodIn_of _ (by decide +kernel)) ggX6_bribe_X0_house
set_option maxRecDepth 20000 in
theorem ggX6_bribe_X0_addHonour : GoodIn wsX6_bribe wsX0_addHonour := goodIn_r _ [40, 41, 42, 43, 44, 45, 46, 47, 48, 70, 71, 72, 73, 74, 75, 76, 77, 78, 79] (by decide +kernel) (by decide +kernel)
set_option maxRecDepth 20000 in
theorem gX6_bribe_X0_addHonour : GoodIn wsX6_bribe (wsV RX6 136 RX0 yX0_addHonour wsX0_addHonour) := goodIn_app (goodIn_of _ (by decide +kernel)) ggX6_bribe_X0_addHonour
set_option maxRecDepth 20000 in
theorem ggX6_bribe_X0_take : GoodIn wsX6_bribe wsX0_take := goodIn_r _ [52, 53, 54, 55, 56, 57, 80, 81, 82, 83, 84, 70, 71, 72, 73, 74, 75, 76, 77, 78, 79] (by decide +kernel) (by decide +kernel)
set_option maxRecDepth 20000 in
theorem gX6_bribe_X0_take : GoodIn wsX6_bribe (wsV RX6 170 RX0 yX0_take wsX0_take) := goodIn_app (goodIn_of _ (by decide +kernel)) ggX6_bribe_X0_take
theorem dX6_bribe_0 : decode cX6_bribe 0 = .ok (.aload_n 0, 1) := by decide +kernel
theorem dX6_bribe_1 : decode cX6_bribe 1 = .ok (.iload_n 1, 1) := by decide +kernel
theorem dX6_bribe_2 : decode cX6_bribe 2 = .ok (.invokevirtual 116, 3) := by decide +kernel
theorem dX6_bribe_5 : decode cX6_bribe 5 = .ok (.aload_n 0, 1) := by decide +kernel
theorem dX6_bribe_6 : decode cX6_bribe 6 = .ok (.iload_n 2, 1) := by decide +kernel
theorem dX6_bribe_7 : decode cX6_bribe 7 = .ok (.invokevirtual 159, 3) := by decide +kernel
theorem dX6_bribe_10 : decode cX6_bribe 10 = .ok (.aload_n 0, 1) := by decide +kernel
theorem dX6_bribe_11 : decode cX6_bribe 11 = .ok (.getfield 21, 3) := by decide +kernel
theorem dX6_bribe_14 : decode cX6_bribe 14 = .ok (.getfield 106, 3) := by decide +kernel
theorem dX6_bribe_17 : decode cX6_bribe 17 = .ok (.iload_n 1, 1) := by decide +kernel
theorem dX6_bribe_18 : decode cX6_bribe 18 = .ok (.aaload, 1) := by decide +kernel
theorem dX6_bribe_19 : decode cX6_bribe 19 = .ok (.astore_n 3, 1) := by decide +kernel
theorem dX6_bribe_20 : decode cX6_bribe 20 = .ok (.aload_n 0, 1) := by decide +kernel
theorem dX6_bribe_21 : decode cX6_bribe 21 = .ok (.getfield 21, 3) := by decide +kernel
theorem dX6_bribe_24 : decode cX6_bribe 24 = .ok (.getfield 149, 3) := by decide +kernel
theorem dX6_bribe_27 : decode cX6_bribe 27 = .ok (.iload_n 2, 1) := by decide +kernel
theorem dX6_bribe_28 : decode cX6_bribe 28 = .ok (.aaload, 1) := by decide +kernel
theorem dX6_bribe_29 : decode cX6_bribe 29 = .ok (.astore 4, 2) := by decide +kernel
theorem dX6_bribe_31 : decode cX6_bribe 31 = .ok (.aload_n 3, 1) := by decide +kernel
theorem dX6_bribe_32 : decode cX6_bribe 32 = .ok (.getfield 127, 3) := by decide +kernel
theorem dX6_bribe_35 : decode cX6_bribe 35 = .ok (.ifCond .gt 23, 3) := by decide +kernel
theorem dX6_bribe_38 : decode cX6_bribe 38 = .ok (.aload 4, 2) := by decide +kernel
theorem dX6_bribe_40 : decode cX6_bribe 40 = .ok (.getfield 162, 3) := by decide +kernel
theorem dX6_bribe_43 : decode cX6_bribe 43 = .ok (.aload_n 3, 1) := by decide +kernel
theorem dX6_bribe_44 : decode cX6_bribe 44 = .ok (.invokevirtual 119, 3) := by decide +kernel
theorem dX6_bribe_47 : decode cX6_bribe 47 = .ok (.if_icmp .ne 11, 3) := by decide +kernel
theorem dX6_bribe_50 : decode cX6_bribe 50 = .ok (.aload_n 3, 1) := by decide +kernel
theorem dX6_bribe_51 : decode cX6_bribe 51 = .ok (.getfield 165, 3) := by decide +kernel
theorem dX6_bribe_54 : decode cX6_bribe 54 = .ok (.iconst 3, 1) := by decide +kernel
theorem dX6_bribe_55 : decode cX6_bribe 55 = .ok (.if_icmp .lt 13, 3) := by decide +kernel
theorem dX6_bribe_58 : decode cX6_bribe 58 = .ok (.new 39, 3) := by decide +kernel
theorem dX6_bribe_61 : decode cX6_bribe 61 = .ok (.dup, 1) := by decide +kernel
theorem dX6_bribe_62 : decode cX6_bribe 62 = .ok (.ldc 168, 2) := by decide +kernel
theorem dX6_bribe_64 : decode cX6_bribe 64 = .ok (.invokespecial 43, 3) := by decide +kernel
theorem dX6_bribe_67 : decode cX6_bribe 67 = .ok (.athrow, 1) := by decide +kernel
theorem dX6_bribe_68 : decode cX6_bribe 68 = .ok (.aload_n 3, 1) := by decide +kernel
theorem dX6_bribe_69 : decode cX6_bribe 69 = .ok (.getfield 139, 3) := by decide +kernel
theorem dX6_bribe_72 : decode cX6_bribe 72 = .ok (.iconst 5, 1) := by decide +kernel
theorem dX6_bribe_73 : decode cX6_bribe 73 = .ok (.if_icmp .lt 7, 3) := by decide +kernel
theorem dX6_bribe_76 : decode cX6_bribe 76 = .ok (.iconst 1, 1) := by decide +kernel
theorem dX6_bribe_77 : decode cX6_bribe 77 = .ok (.goto 4, 3) := by decide +kernel
theorem dX6_bribe_80 : decode cX6_bribe 80 = .ok (.iconst 0, 1) := by decide +kernel
theorem dX6_bribe_81 : decode cX6_bribe 81 = .ok (.istore 5, 2) := by decide +kernel
theorem dX6_bribe_83 : decode cX6_bribe 83 = .ok (.iload 5, 2) := by decide +kernel
theorem dX6_bribe_85 : decode cX6_bribe 85 = .ok (.ifCond .eq 11, 3) := by decide +kernel
theorem dX6_bribe_88 : decode cX6_bribe 88 = .ok (.aload_n 3, 1) := by decide +kernel
theorem dX6_bribe_89 : decode cX6_bribe 89 = .ok (.iconst 1, 1) := by decide +kernel
theorem dX6_bribe_90 : decode cX6_bribe 90 = .ok (.invokevirtual 136, 3) := by decide +kernel
theorem dX6_bribe_93 : decode cX6_bribe 93 = .ok (.goto 14, 3) := by decide +kernel
theorem dX6_bribe_96 : decode cX6_bribe 96 = .ok (.aload_n 3, 1) := by decide +kernel
theorem dX6_bribe_97 : decode cX6_bribe 97 = .ok (.aload 4, 2) := by decide +kernel
theorem dX6_bribe_99 : decode cX6_bribe 99 = .ok (.invokevirtual 170, 3) := by decide +kernel
theorem dX6_bribe_102 : decode cX6_bribe 102 = .ok (.aload_n 3, 1) := by decide +kernel
theorem dX6_bribe_103 : decode cX6_bribe 103 = .ok (.iconst (-1), 1) := by decide +kernel
theorem dX6_bribe_104 : decode cX6_bribe 104 = .ok (.invokevirtual 136, 3) := by decide +kernel
theorem dX6_bribe_107 : decode cX6_bribe 107 = .ok (.iload 5, 2) := by decide +kernel
theorem dX6_bribe_109 : decode cX6_bribe 109 = .ok (.ifCond .ne 7, 3) := by decide +kernel
theorem dX6_bribe_112 : decode cX6_bribe 112 = .ok (.iconst 1, 1) := by decide +kernel
theorem dX6_bribe_113 : decode cX6_bribe 113 = .ok (.goto 4, 3) := by decide +kernel
theorem dX6_bribe_116 : decode cX6_bribe 116 = .ok (.iconst 0, 1) := by decide +kernel
theorem dX6_bribe_117 : decode cX6_bribe 117 = .ok (.ireturn, 1) := by decide +kernel
set_option maxRecDepth 20000 in
theorem ggX6_bee_X6_checkBee : GoodIn wsX6_bee wsX6_checkBee := goodIn_ca (goodIn_r _ [7, 8, 9, 1, 10, 43, 44, 45, 46, 47, 48, 49, 50, 51, 52, 53, 54] (by decide +kernel) (by decide +kernel)) (goodIn_sub (fun _ h => List.mem_cons_of_mem _ (List.mem_append_right _ h)) (by decide +kernel))
set_option maxRecDepth 20000 in
theorem gX6_bee_X6_checkBee : GoodIn wsX6_bee (wsV RX6 116 RX6 yX6_checkBee wsX6_checkBee) := goodIn_app (goodIn_of _ (by decide +kernel)) ggX6_bee_X6_checkBee
set_option maxRecDepth 20000 in
theorem ggX6_bee_X6_checkWhat : GoodIn wsX6_bee wsX6_checkWhat := goodIn_ca (goodIn_r _ [13, 8, 9] (by decide +kernel) (by decide +kernel)) (goodIn_sub (fun _ h => List.mem_cons_of_mem _ (List.mem_append_right _ h)) (by decide +kernel))
set_option maxRecDepth 20000 in
theorem gX6_bee_X6_checkWhat : GoodIn wsX6_bee (va_wsS RX6 174 yX6_checkWhat wsX6_checkWhat) := goodIn_app (goodIn_of _ (by decide +kernel)) ggX6_bee_X6_checkWhat
set_option maxRecDepth 20000 in
theorem ggX6_bee_X0_tell : GoodIn wsX6_bee wsX0_tell := goodIn_r _ [18, 19, 20, 21, 22, 23, 24, 25, 26, 27, 28, 29, 17, 30, 31, 32, 33, 34, 35, 36, 37, 38, 39, 40, 41, 42, 55, 56, 57, 58, 59, 60, 61, 62, 63, 64, 65, 66, 67, 68] (by decide +kernel) (by decide +kernel)
set_option maxRecDepth 20000 in
theorem gX6_bee_X0_tell : GoodIn wsX6_bee (wsV RX6 177 RX0 yX0_tell wsX0_tell) := goodIn_app (goodIn_of _ (by decide +kernel)) ggX6_bee_X0_tell
theorem dX6_bee_0 : decode cX6_bee 0 = .ok (.aload_n 0, 1) := by decide +kernel
theorem dX6_bee_1 : decode cX6_bee 1 = .ok (.iload_n 1, 1) := by decide +kernel
theorem dX6_bee_2 : decode cX6_bee 2 = .ok (.invokevirtual 116, 3) := by decide +kernel
theorem dX6_bee_5 : decode cX6_bee 5 = .ok (.iload_n 2, 1) := by decide +kernel
theorem dX6_bee_6 : decode cX6_bee 6 = .ok (.bipush 9, 2) := by decide +kernel
theorem dX6_bee_8 : decode cX6_bee 8 = .ok (.invokestatic 174, 3) := by decide +kernel
theorem dX6_bee_11 : decode cX6_bee 11 = .ok (.aload_n 0, 1) := by decide +kernel
theorem dX6_bee_12 : decode cX6_bee 12 = .ok (.getfield 21, 3) := by decide +kernel
theorem dX6_bee_15 : decode cX6_bee 15 = .ok (.getfield 106, 3) := by decide +kernel
theorem dX6_bee_18 : decode cX6_bee 18 = .ok (.iload_n 1, 1) := by decide +kernel
theorem dX6_bee_19 : decode cX6_bee 19 = .ok (.aaload, 1) := by decide +kernel
theorem dX6_bee_20 : decode cX6_bee 20 = .ok (.iload_n 2, 1) := by decide +kernel
theorem dX6_bee_21 : decode cX6_bee 21 = .ok (.invokevirtual 177, 3) := by decide +kernel
theorem dX6_bee_24 : decode cX6_bee 24 = .ok (.ireturn, 1) := by decide +kernel
set_option maxRecDepth 20000 in
theorem ggX6_letter_X6_checkLetter : GoodIn wsX6_letter wsX6_checkLetter := goodIn_ca (goodIn_r _ [7, 8, 9, 1, 10, 24, 25, 26, 27, 28, 29, 30, 31, 32, 33, 34, 35] (by decide +kernel) (by decide +kernel)) (goodIn_sub (fun _ h => List.mem_cons_of_mem _ (List.mem_append_right _ h)) (by decide +kernel))
set_option maxRecDepth 20000 in
theorem gX6_letter_X6_checkLetter : GoodIn wsX6_letter (wsV RX6 159 RX6 yX6_checkLetter wsX6_checkLetter) := goodIn_app (goodIn_of _ (by decide +kernel)) ggX6_letter_X6_checkLetter
set_option maxRecDepth 20000 in
theorem ggX6_letter_X6_checkWhat : GoodIn wsX6_letter wsX6_checkWhat := goodIn_ca (goodIn_r _ [13, 8, 9] (by decide +kernel) (by decide +kernel)) (goodIn_sub (fun _ h => List.mem_cons_of_mem _ (List.mem_append_right _ h)) (by decide +kernel))
set_option maxRecDepth 20000 in
theorem gX6_letter_X6_checkWhat : GoodIn wsX6_letter (va_wsS RX6 174 yX6_checkWhat wsX6_checkWhat) := goodIn_app (goodIn_of _ (by decide +kernel)) ggX6_letter_X6_checkWhat
set_option maxRecDepth 20000 in
theorem ggX6_letter_X3_tell : GoodIn wsX6_letter wsX3_tell := goodIn_r _ [18, 19, 20, 21, 22, 23, 36, 37, 38, 39, 40] (by decide +kernel) (by decide +kernel)
set_option maxRecDepth 20000 in
theorem gX6_letter_X3_tell : GoodIn wsX6_letter (wsV RX6 180 RX3 yX3_tell wsX3_tell) := goodIn_app (goodIn_of _ (by decide +kernel)) ggX6_letter_X3_tell
theorem dX6_letter_0 : decode cX6_letter 0 = .ok (.aload_n 0, 1) := by decide +kernel
theorem dX6_letter_1 : decode cX6_letter 1 = .ok (.iload_n 1, 1) := by decide +kernel
theorem dX6_letter_2 : decode cX6_letter 2 = .ok (.invokevirtual 159, 3) := by decide +kernel
theorem dX6_letter_5 : decode cX6_letter 5 = .ok (.iload_n 2, 1) := by decide +kernel
theorem dX6_letter_6 : decode cX6_letter 6 = .ok (.iconst 5, 1) := by decide +kernel
theorem dX6_letter_7 : decode cX6_letter 7 = .ok (.invokestatic 174, 3) := by decide +kernel
theorem dX6_letter_10 : decode cX6_letter 10 = .ok (.aload_n 0, 1) := by decide +kernel
theorem dX6_letter_11 : decode cX6_letter 11 = .ok (.getfield 21, 3) := by decide +kernel
theorem dX6_letter_14 : decode cX6_letter 14 = .ok (.getfield 149, 3) := by decide +kernel
theorem dX6_letter_17 : decode cX6_letter 17 = .ok (.iload_n 1, 1) := by decide +kernel
theorem dX6_letter_18 : decode cX6_letter 18 = .ok (.aaload, 1) := by decide +kernel
theorem dX6_letter_19 : decode cX6_letter 19 = .ok (.iload_n 2, 1) := by decide +kernel
theorem dX6_letter_20 : decode cX6_letter 20 = .ok (.invokevirtual 180, 3) := by decide +kernel
theorem dX6_letter_23 : decode cX6_letter 23 = .ok (.ireturn, 1) := by decide +kernel
set_option maxRecDepth 20000 in
theorem ggX6_target_X6_checkBee : GoodIn wsX6_target wsX6_checkBee := goodIn_ca (goodIn_r _ [8, 9, 10, 1, 11, 29, 30, 31, 32, 33, 34, 35, 36, 37, 38, 39, 40] (by decide +kernel) (by decide +kernel)) (goodIn_sub (fun _ h => List.mem_cons_of_mem _ (List.mem_append_right _ h)) (by decide +kernel))
set_option maxRecDepth 20000 in
theorem gX6_target_X6_checkBee : GoodIn wsX6_target (wsV RX6 116 RX6 yX6_checkBee wsX6_checkBee) := goodIn_app (goodIn_of _ (by decide +kernel)) ggX6_target_X6_checkBee
set_option maxRecDepth 20000 in
theorem ggX6_target_X6_checkHouse : GoodIn wsX6_target wsX6_checkHouse := goodIn_ca (goodIn_r _ [15, 9, 10, 16, 17, 18, 19, 20, 21, 22, 29, 30, 31, 32, 51, 52, 53, 54, 55] (by decide +kernel) (by decide +kernel)) (goodIn_sub (fun _ h => List.mem_cons_of_mem _ (List.mem_append_right _ h)) (by decide +kernel))
set_option maxRecDepth 20000 in
theorem gX6_target_X6_checkHouse : GoodIn wsX6_target (wsV RX6 46 RX6 yX6_checkHouse wsX6_checkHouse) := goodIn_app (goodIn_of _ (by decide +kernel)) ggX6_target_X6_checkHouse
set_option maxRecDepth 20000 in
theorem ggX6_target_X4_targetFor : GoodIn wsX6_target wsX4_targetFor := goodIn_r _ [27, 28, 56, 57, 58, 59] (by decide +kernel) (by decide +kernel)
set_option maxRecDepth 20000 in
theorem gX6_target_X4_targetFor : GoodIn wsX6_target (wsV RX6 184 RX4 yX4_targetFor wsX4_targetFor) := goodIn_app (goodIn_of _ (by decide +kernel)) ggX6_target_X4_targetFor
theorem dX6_target_0 : decode cX6_target 0 = .ok (.aload_n 0, 1) := by decide +kernel
theorem dX6_target_1 : decode cX6_target 1 = .ok (.iload_n 1, 1) := by decide +kernel
theorem dX6_target_2 : decode cX6_target 2 = .ok (.invokevirtual 116, 3) := by decide +kernel
theorem dX6_target_5 : decode cX6_target 5 = .ok (.aload_n 0, 1) := by decide +kernel
theorem dX6_target_6 : decode cX6_target 6 = .ok (.iload_n 2, 1) := by decide +kernel
theorem dX6_target_7 : decode cX6_target 7 = .ok (.invokevirtual 46, 3) := by decide +kernel
theorem dX6_target_10 : decode cX6_target 10 = .ok (.aload_n 0, 1) := by decide +kernel
theorem dX6_target_11 : decode cX6_target 11 = .ok (.getfield 21, 3) := by decide +kernel
theorem dX6_target_14 : decode cX6_target 14 = .ok (.getfield 106, 3) := by decide +kernel
theorem dX6_target_17 : decode cX6_target 17 = .ok (.iload_n 1, 1) := by decide +kernel
theorem dX6_target_18 : decode cX6_target 18 = .ok (.aaload, 1) := by decide +kernel
theorem dX6_target_19 : decode cX6_target 19 = .ok (.getfield 181, 3) := by decide +kernel
theorem dX6_target_22 : decode cX6_target 22 = .ok (.iload_n 2, 1) := by decide +kernel
theorem dX6_target_23 : decode cX6_target 23 = .ok (.invokevirtual 184, 3) := by decide +kernel
theorem dX6_target_26 : decode cX6_target 26 = .ok (.ireturn, 1) := by decide +kernel
set_option maxRecDepth 20000 in
theorem ggX6_pass_X1_passQuarters : GoodIn wsX6_pass wsX1_passQuarters := goodIn_r _ [8, 9, 10, 11, 12, 7, 13, 14, 15, 16, 17, 18, 19, 20, 21, 22, 23, 24, 25, 26, 27, 28, 29, 30, 31, 32, 33, 34, 35, 36, 37, 38, 39, 40, 41, 42, 43, 44, 45, 46, 47, 48, 49, 50, 51, 52, 53, 54, 55, 56, 57, 58, 59, 60, 61, 62, 63, 64, 65, 66, 67, 68, 69, 70, 71, 72, 73, 74, 75, 76, 77, 78, 79, 80, 81, 82, 83, 84, 85, 86, 87, 88, 89, 90, 91, 92, 93, 94, 95, 96, 97, 98, 99, 100, 101, 102, 103, 104, 105, 106, 107, 108, 109, 110, 111, 112, 113, 114, 115, 116, 117, 118, 119, 120, 121, 122, 123, 124, 125, 126, 127, 128, 129, 130, 131, 132, 133, 134, 135, 136, 137, 138, 139, 140, 141, 142, 143, 144, 145, 146, 147, 148, 149, 150, 151, 152, 153, 154, 155, 156, 157, 158, 159, 160, 161, 162, 167, 168, 169, 170, 171, 172, 173, 174, 175, 176, 177, 178, 179, 180, 181, 182, 183, 184, 185, 186, 187, 188, 189, 190, 191, 192, 193, 194, 195, 196, 197, 198, 199, 200, 201, 202, 203] (by decide +kernel) (by decide +kernel)
set_option maxRecDepth 20000 in
theorem gX6_pass_X1_passQuarters : GoodIn wsX6_pass (wsV RX6 189 RX1 yX1_passQuarters wsX1_passQuarters) := goodIn_app (goodIn_of _ (by decide +kernel)) ggX6_pass_X1_passQuarters
theorem dX6_pass_0 : decode cX6_pass 0 = .ok (.iload_n 1, 1) := by decide +kernel
theorem dX6_pass_1 : decode cX6_pass 1 = .ok (.iconst 1, 1) := by decide +kernel
theorem dX6_pass_2 : decode cX6_pass 2 = .ok (.if_icmp .lt 10, 3) := by decide +kernel
theorem dX6_pass_5 : decode cX6_pass 5 = .ok (.iload_n 1, 1) := by decide +kernel
theorem dX6_pass_6 : decode cX6_pass 6 = .ok (.sipush 240, 3) := by decide +kernel
theorem dX6_pass_9 : decode cX6_pass 9 = .ok (.if_icmp .le 13, 3) := by decide +kernel
theorem dX6_pass_12 : decode cX6_pass 12 = .ok (.new 58, 3) := by decide +kernel
theorem dX6_pass_15 : decode cX6_pass 15 = .ok (.dup, 1) := by decide +kernel
theorem dX6_pass_16 : decode cX6_pass 16 = .ok (.ldc 187, 2) := by decide +kernel
theorem dX6_pass_18 : decode cX6_pass 18 = .ok (.invokespecial 62, 3) := by decide +kernel
theorem dX6_pass_21 : decode cX6_pass 21 = .ok (.athrow, 1) := by decide +kernel
theorem dX6_pass_22 : decode cX6_pass 22 = .ok (.aload_n 0, 1) := by decide +kernel
theorem dX6_pass_23 : decode cX6_pass 23 = .ok (.getfield 21, 3) := by decide +kernel
theorem dX6_pass_26 : decode cX6_pass 26 = .ok (.iload_n 1, 1) := by decide +kernel
theorem dX6_pass_27 : decode cX6_pass 27 = .ok (.invokevirtual 189, 3) := by decide +kernel
theorem dX6_pass_30 : decode cX6_pass 30 = .ok (.ireturn, 1) := by decide +kernel
set_option maxRecDepth 20000 in
theorem ggX6_count_X6_checkWhat : GoodIn wsX6_count wsX6_checkWhat := goodIn_ca (goodIn_r _ [4, 5, 6] (by decide +kernel) (by decide +kernel)) (goodIn_sub (fun _ h => List.mem_cons_of_mem _ (List.mem_append_right _ h)) (by decide +kernel))
set_option maxRecDepth 20000 in
theorem gX6_count_X6_checkWhat : GoodIn wsX6_count (va_wsS RX6 174 yX6_checkWhat wsX6_checkWhat) := goodIn_app (goodIn_of _ (by decide +kernel)) ggX6_count_X6_checkWhat
set_option maxRecDepth 20000 in
theorem ggX6_count_X6_tellCount : GoodIn wsX6_count wsX6_tellCount := goodIn_r _ [10, 11, 12, 13, 14, 15, 16, 17, 18, 19, 20, 21, 22, 23, 24, 25, 26, 27, 28, 29, 30, 31, 32, 33, 34, 35, 36, 37, 38, 39, 40, 41, 42, 43, 44, 45, 46, 47, 48, 49, 50, 51, 52, 53, 54, 55, 56, 57, 58, 59, 60, 61, 62, 63, 64, 65, 66, 67, 68, 69, 70, 71, 72, 73, 74, 75, 76, 77] (by decide +kernel) (by decide +kernel)
set_option maxRecDepth 20000 in
theorem gX6_count_X6_tellCount : GoodIn wsX6_count (wsV RX6 192 RX6 yX6_tellCount wsX6_tellCount) := goodIn_app (goodIn_of _ (by decide +kernel)) ggX6_count_X6_tellCount
theorem dX6_count_0 : decode cX6_count 0 = .ok (.iload_n 1, 1) := by decide +kernel
theorem dX6_count_1 : decode cX6_count 1 = .ok (.bipush 9, 2) := by decide +kernel
theorem dX6_count_3 : decode cX6_count 3 = .ok (.invokestatic 174, 3) := by decide +kernel
theorem dX6_count_6 : decode cX6_count 6 = .ok (.aload_n 0, 1) := by decide +kernel
theorem dX6_count_7 : decode cX6_count 7 = .ok (.iload_n 1, 1) := by decide +kernel
theorem dX6_count_8 : decode cX6_count 8 = .ok (.invokevirtual 192, 3) := by decide +kernel
theorem dX6_count_11 : decode cX6_count 11 = .ok (.ireturn, 1) := by decide +kernel
set_option maxRecDepth 20000 in
theorem ggX6_comes_X6_checkLetter : GoodIn wsX6_comes wsX6_checkLetter := goodIn_ca (goodIn_r _ [8, 9, 10, 2, 11, 189, 190, 191, 192, 193, 194, 195, 196, 197, 198, 199, 200] (by decide +kernel) (by decide +kernel)) (goodIn_sub (fun _ h => List.mem_cons_of_mem _ (List.mem_append_right _ h)) (by decide +kernel))
set_option maxRecDepth 20000 in
theorem gX6_comes_X6_checkLetter : GoodIn wsX6_comes (wsV RX6 159 RX6 yX6_checkLetter wsX6_checkLetter) := goodIn_app (goodIn_of _ (by decide +kernel)) ggX6_comes_X6_checkLetter
set_option maxRecDepth 20000 in
theorem ggX6_comes_X1_copyFrom : GoodIn wsX6_comes wsX1_copyFrom := goodIn_r _ [16, 17, 18, 19, 20, 21, 22, 23, 24, 25, 26, 27, 28, 29, 30, 31, 32, 33, 34, 35, 36, 37, 38, 39, 40, 41, 42, 43, 44, 45, 46, 47, 193, 194, 195, 196, 197, 198, 199, 200, 201, 202, 203, 204, 205, 206, 207, 208, 209, 210, 211, 212, 213, 214, 215] (by decide +kernel) (by decide +kernel)
set_option maxRecDepth 20000 in
theorem gX6_comes_X1_copyFrom : GoodIn wsX6_comes (wsV RX6 195 RX1 yX1_copyFrom wsX1_copyFrom) := goodIn_app (goodIn_of _ (by decide +kernel)) ggX6_comes_X1_copyFrom
set_option maxRecDepth 20000 in
theorem ggX6_comes_X3_hasArrived : GoodIn wsX6_comes wsX3_hasArrived := goodIn_r _ [51, 46, 211, 212, 213, 214, 215] (by decide +kernel) (by decide +kernel)
set_option maxRecDepth 20000 in
theorem gX6_comes_X3_hasArrived : GoodIn wsX6_comes (wsV RX6 199 RX3 yX3_hasArrived wsX3_hasArrived) := goodIn_app (goodIn_of _ (by decide +kernel)) ggX6_comes_X3_hasArrived
set_option maxRecDepth 20000 in
theorem ggX6_comes_X1_passQuarter : GoodIn wsX6_comes wsX1_passQuarter := goodIn_r _ [55, 17, 18, 56, 21, 57, 58, 59, 27, 60, 29, 30, 61, 62, 63, 64, 65, 66, 67, 68, 69, 70, 15, 71, 19, 72, 20, 73, 74, 75, 22, 76, 77, 78, 79, 80, 81, 82, 34, 36, 83, 84, 85, 86, 33, 87, 88, 89, 90, 91, 92, 93, 94, 95, 96, 97, 98, 99, 100, 101, 102, 103, 104, 105, 106, 107, 108, 109, 110, 111, 112, 113, 114, 115, 116, 117, 118, 119, 120, 121, 122, 123, 124, 125, 126, 127, 128, 129, 130, 131, 23, 132, 133, 134, 135, 136, 137, 138, 139, 140, 35, 32, 141, 142, 143, 144, 145, 146, 147, 148, 149, 150, 151, 152, 37, 153, 154, 155, 156, 157, 158, 159, 160, 161, 162, 163, 164, 165, 166, 167, 168, 169, 170, 171, 172, 173, 174, 175, 176, 177, 178, 179, 180, 181, 182, 183, 184, 185, 186, 187, 188, 31, 193, 194, 195, 196, 197, 198, 199, 200, 201, 202, 203, 204, 205, 206, 207, 208, 209, 210, 216, 217, 218, 219, 211, 212, 213, 214, 215, 220, 221, 222, 223, 224, 225, 226, 227, 228, 229] (by decide +kernel) (by decide +kernel)
set_option maxRecDepth 20000 in
theorem gX6_comes_X1_passQuarter : GoodIn wsX6_comes (wsV RX6 203 RX1 yX1_passQuarter wsX1_passQuarter) := goodIn_app (goodIn_of _ (by decide +kernel)) ggX6_comes_X1_passQuarter
theorem dX6_comes_0 : decode cX6_comes 0 = .ok (.aload_n 0, 1) := by decide +kernel
theorem dX6_comes_1 : decode cX6_comes 1 = .ok (.iload_n 1, 1) := by decide +kernel
theorem dX6_comes_2 : decode cX6_comes 2 = .ok (.invokevirtual 159, 3) := by decide +kernel
theorem dX6_comes_5 : decode cX6_comes 5 = .ok (.aload_n 0, 1) := by decide +kernel
theorem dX6_comes_6 : decode cX6_comes 6 = .ok (.getfield 25, 3) := by decide +kernel
theorem dX6_comes_9 : decode cX6_comes 9 = .ok (.aload_n 0, 1) := by decide +kernel
theorem dX6_comes_10 : decode cX6_comes 10 = .ok (.getfield 21, 3) := by decide +kernel
theorem dX6_comes_13 : decode cX6_comes 13 = .ok (.invokevirtual 195, 3) := by decide +kernel
theorem dX6_comes_16 : decode cX6_comes 16 = .ok (.aload_n 0, 1) := by decide +kernel
theorem dX6_comes_17 : decode cX6_comes 17 = .ok (.getfield 25, 3) := by decide +kernel
theorem dX6_comes_20 : decode cX6_comes 20 = .ok (.getfield 149, 3) := by decide +kernel
theorem dX6_comes_23 : decode cX6_comes 23 = .ok (.iload_n 1, 1) := by decide +kernel
theorem dX6_comes_24 : decode cX6_comes 24 = .ok (.aaload, 1) := by decide +kernel
theorem dX6_comes_25 : decode cX6_comes 25 = .ok (.astore_n 2, 1) := by decide +kernel
theorem dX6_comes_26 : decode cX6_comes 26 = .ok (.iconst 0, 1) := by decide +kernel
theorem dX6_comes_27 : decode cX6_comes 27 = .ok (.istore_n 3, 1) := by decide +kernel
theorem dX6_comes_28 : decode cX6_comes 28 = .ok (.iload_n 3, 1) := by decide +kernel
theorem dX6_comes_29 : decode cX6_comes 29 = .ok (.sipush 240, 3) := by decide +kernel
theorem dX6_comes_32 : decode cX6_comes 32 = .ok (.if_icmp .gt 25, 3) := by decide +kernel
theorem dX6_comes_35 : decode cX6_comes 35 = .ok (.aload_n 2, 1) := by decide +kernel
theorem dX6_comes_36 : decode cX6_comes 36 = .ok (.invokevirtual 199, 3) := by decide +kernel
theorem dX6_comes_39 : decode cX6_comes 39 = .ok (.ifCond .eq 5, 3) := by decide +kernel
theorem dX6_comes_42 : decode cX6_comes 42 = .ok (.iload_n 3, 1) := by decide +kernel
theorem dX6_comes_43 : decode cX6_comes 43 = .ok (.ireturn, 1) := by decide +kernel
theorem dX6_comes_44 : decode cX6_comes 44 = .ok (.aload_n 0, 1) := by decide +kernel
theorem dX6_comes_45 : decode cX6_comes 45 = .ok (.getfield 25, 3) := by decide +kernel
theorem dX6_comes_48 : decode cX6_comes 48 = .ok (.invokevirtual 203, 3) := by decide +kernel
theorem dX6_comes_51 : decode cX6_comes 51 = .ok (.iinc 3 1, 3) := by decide +kernel
theorem dX6_comes_54 : decode cX6_comes 54 = .ok (.goto (-26), 3) := by decide +kernel
theorem dX6_comes_57 : decode cX6_comes 57 = .ok (.iconst (-1), 1) := by decide +kernel
theorem dX6_comes_58 : decode cX6_comes 58 = .ok (.ireturn, 1) := by decide +kernel
set_option maxRecDepth 20000 in
theorem ggX6_advise_X6_arrivalsAhead : GoodIn wsX6_advise wsX6_arrivalsAhead := goodIn_r _ [10, 11, 12, 13, 14, 15, 16, 17, 18, 19, 20, 21, 22, 23, 24, 25, 26, 27, 28, 29, 30, 31, 32, 33, 34, 35, 36, 37, 38, 39, 40, 41, 42, 43, 44, 45, 46, 47, 48, 49, 50, 51, 52, 53, 54, 55, 56, 57, 58, 59, 60, 61, 62, 63, 64, 65, 66, 67, 68, 69, 70, 71, 72, 73, 74, 75, 76, 77, 78, 79, 80, 81, 82, 83, 84, 85, 86, 87, 88, 89, 90, 91, 92, 93, 94, 95, 96, 97, 98, 99, 100, 101, 102, 103, 104, 105, 106, 107, 108, 109, 110, 111, 112, 113, 114, 115, 116, 117, 118, 119, 120, 121, 122, 123, 124, 125, 126, 127, 128, 129, 130, 131, 132, 133, 134, 135, 136, 137, 138, 139, 140, 141, 142, 143, 144, 145, 146, 147, 148, 149, 150, 151, 152, 153, 154, 155, 156, 157, 158, 159, 160, 161, 162, 163, 164, 165, 166, 167, 168, 169, 170, 171, 172, 173, 174, 175, 176, 177, 178, 179, 180, 181, 182, 183, 184, 185, 186, 187, 188, 189, 190, 195, 196, 197, 198, 204, 205, 206, 207, 208, 209, 210, 211, 212, 213, 214, 215, 216, 217, 218, 219, 220, 221, 222, 223, 224, 225, 226, 227, 228, 229, 230, 199, 200, 201, 202, 203, 231, 232, 233, 234, 235] (by decide +kernel) (by decide +kernel)
set_option maxRecDepth 20000 in
theorem gX6_advise_X6_arrivalsAhead : GoodIn wsX6_advise (wsV RX6 208 RX6 yX6_arrivalsAhead wsX6_arrivalsAhead) := goodIn_app (goodIn_of _ (by decide +kernel)) ggX6_advise_X6_arrivalsAhead
set_option maxRecDepth 20000 in
theorem ggX6_advise_X2_isOpenAlways : GoodIn wsX6_advise wsX2_isOpenAlways := goodIn_r _ [194, 180, 181, 231, 232, 233, 234, 235] (by decide +kernel) (by decide +kernel)
set_option maxRecDepth 20000 in
theorem gX6_advise_X2_isOpenAlways : GoodIn wsX6_advise (wsV RX6 211 RX2 yX2_isOpenAlways wsX2_isOpenAlways) := goodIn_app (goodIn_of _ (by decide +kernel)) ggX6_advise_X2_isOpenAlways
theorem dX6_advise_0 : decode cX6_advise 0 = .ok (.iload_n 1, 1) := by decide +kernel
theorem dX6_advise_1 : decode cX6_advise 1 = .ok (.iconst 1, 1) := by decide +kernel
theorem dX6_advise_2 : decode cX6_advise 2 = .ok (.if_icmp .lt 9, 3) := by decide +kernel
theorem dX6_advise_5 : decode cX6_advise 5 = .ok (.iload_n 1, 1) := by decide +kernel
theorem dX6_advise_6 : decode cX6_advise 6 = .ok (.bipush 120, 2) := by decide +kernel
theorem dX6_advise_8 : decode cX6_advise 8 = .ok (.if_icmp .le 13, 3) := by decide +kernel
theorem dX6_advise_11 : decode cX6_advise 11 = .ok (.new 58, 3) := by decide +kernel
theorem dX6_advise_14 : decode cX6_advise 14 = .ok (.dup, 1) := by decide +kernel
theorem dX6_advise_15 : decode cX6_advise 15 = .ok (.ldc 206, 2) := by decide +kernel
theorem dX6_advise_17 : decode cX6_advise 17 = .ok (.invokespecial 62, 3) := by decide +kernel
theorem dX6_advise_20 : decode cX6_advise 20 = .ok (.athrow, 1) := by decide +kernel
theorem dX6_advise_21 : decode cX6_advise 21 = .ok (.iconst (-1), 1) := by decide +kernel
theorem dX6_advise_22 : decode cX6_advise 22 = .ok (.istore_n 2, 1) := by decide +kernel
theorem dX6_advise_23 : decode cX6_advise 23 = .ok (.aload_n 0, 1) := by decide +kernel
theorem dX6_advise_24 : decode cX6_advise 24 = .ok (.iload_n 1, 1) := by decide +kernel
theorem dX6_advise_25 : decode cX6_advise 25 = .ok (.iconst (-1), 1) := by decide +kernel
theorem dX6_advise_26 : decode cX6_advise 26 = .ok (.invokevirtual 208, 3) := by decide +kernel
theorem dX6_advise_29 : decode cX6_advise 29 = .ok (.istore_n 3, 1) := by decide +kernel
theorem dX6_advise_30 : decode cX6_advise 30 = .ok (.iconst 0, 1) := by decide +kernel
theorem dX6_advise_31 : decode cX6_advise 31 = .ok (.istore 4, 2) := by decide +kernel
theorem dX6_advise_33 : decode cX6_advise 33 = .ok (.iload 4, 2) := by decide +kernel
theorem dX6_advise_35 : decode cX6_advise 35 = .ok (.aload_n 0, 1) := by decide +kernel
theorem dX6_advise_36 : decode cX6_advise 36 = .ok (.getfield 10, 3) := by decide +kernel
theorem dX6_advise_39 : decode cX6_advise 39 = .ok (.getfield 63, 3) := by decide +kernel
theorem dX6_advise_42 : decode cX6_advise 42 = .ok (.if_icmp .ge 46, 3) := by decide +kernel
theorem dX6_advise_45 : decode cX6_advise 45 = .ok (.aload_n 0, 1) := by decide +kernel
theorem dX6_advise_46 : decode cX6_advise 46 = .ok (.getfield 10, 3) := by decide +kernel
theorem dX6_advise_49 : decode cX6_advise 49 = .ok (.getfield 85, 3) := by decide +kernel
theorem dX6_advise_52 : decode cX6_advise 52 = .ok (.iload 4, 2) := by decide +kernel
theorem dX6_advise_54 : decode cX6_advise 54 = .ok (.aaload, 1) := by decide +kernel
theorem dX6_advise_55 : decode cX6_advise 55 = .ok (.invokevirtual 211, 3) := by decide +kernel
theorem dX6_advise_58 : decode cX6_advise 58 = .ok (.ifCond .ne 24, 3) := by decide +kernel
theorem dX6_advise_61 : decode cX6_advise 61 = .ok (.aload_n 0, 1) := by decide +kernel
theorem dX6_advise_62 : decode cX6_advise 62 = .ok (.iload_n 1, 1) := by decide +kernel
theorem dX6_advise_63 : decode cX6_advise 63 = .ok (.iload 4, 2) := by decide +kernel
theorem dX6_advise_65 : decode cX6_advise 65 = .ok (.invokevirtual 208, 3) := by decide +kernel
theorem dX6_advise_68 : decode cX6_advise 68 = .ok (.istore 5, 2) := by decide +kernel
theorem dX6_advise_70 : decode cX6_advise 70 = .ok (.iload 5, 2) := by decide +kernel
theorem dX6_advise_72 : decode cX6_advise 72 = .ok (.iload_n 3, 1) := by decide +kernel
theorem dX6_advise_73 : decode cX6_advise 73 = .ok (.if_icmp .le 9, 3) := by decide +kernel
theorem dX6_advise_76 : decode cX6_advise 76 = .ok (.iload 5, 2) := by decide +kernel
theorem dX6_advise_78 : decode cX6_advise 78 = .ok (.istore_n 3, 1) := by decide +kernel
theorem dX6_advise_79 : decode cX6_advise 79 = .ok (.iload 4, 2) := by decide +kernel
theorem dX6_advise_81 : decode cX6_advise 81 = .ok (.istore_n 2, 1) := by decide +kernel
theorem dX6_advise_82 : decode cX6_advise 82 = .ok (.iinc 4 1, 3) := by decide +kernel
theorem dX6_advise_85 : decode cX6_advise 85 = .ok (.goto (-52), 3) := by decide +kernel
theorem dX6_advise_88 : decode cX6_advise 88 = .ok (.iload_n 2, 1) := by decide +kernel
theorem dX6_advise_89 : decode cX6_advise 89 = .ok (.ireturn, 1) := by decide +kernel
set_option maxRecDepth 20000 in
theorem ggX6_trusted_X6_checkHouse : GoodIn wsX6_trusted wsX6_checkHouse := goodIn_ca (goodIn_r _ [11, 12, 13, 4, 14, 15, 16, 17, 18, 19, 32, 33, 34, 35, 54, 55, 56, 57, 58] (by decide +kernel) (by decide +kernel)) (goodIn_sub (fun _ h => List.mem_cons_of_mem _ (List.mem_append_right _ h)) (by decide +kernel))
set_option maxRecDepth 20000 in
theorem gX6_trusted_X6_checkHouse : GoodIn wsX6_trusted (wsV RX6 46 RX6 yX6_checkHouse wsX6_checkHouse) := goodIn_app (goodIn_of _ (by decide +kernel)) ggX6_trusted_X6_checkHouse
set_option maxRecDepth 20000 in
theorem ggX6_trusted_X4_targetFor : GoodIn wsX6_trusted wsX4_targetFor := goodIn_r _ [24, 25, 59, 60, 61, 62] (by decide +kernel) (by decide +kernel)
set_option maxRecDepth 20000 in
theorem gX6_trusted_X4_targetFor : GoodIn wsX6_trusted (wsV RX6 184 RX4 yX4_targetFor wsX4_targetFor) := goodIn_app (goodIn_of _ (by decide +kernel)) ggX6_trusted_X4_targetFor
set_option maxRecDepth 20000 in
theorem ggX6_trusted_X5_wayBetween : GoodIn wsX6_trusted wsX5_wayBetween := goodIn_r _ [29, 30, 31, 15, 16, 17, 18, 19, 54, 55, 56, 57, 58] (by decide +kernel) (by decide +kernel)
set_option maxRecDepth 20000 in
theorem gX6_trusted_X5_wayBetween : GoodIn wsX6_trusted (wsV RX6 97 RX5 yX5_wayBetween wsX5_wayBetween) := goodIn_app (goodIn_of _ (by decide +kernel)) ggX6_trusted_X5_wayBetween
theorem dX6_trusted_0 : decode cX6_trusted 0 = .ok (.aload_n 0, 1) := by decide +kernel
theorem dX6_trusted_1 : decode cX6_trusted 1 = .ok (.iload_n 1, 1) := by decide +kernel
theorem dX6_trusted_2 : decode cX6_trusted 2 = .ok (.invokevirtual 46, 3) := by decide +kernel
theorem dX6_trusted_5 : decode cX6_trusted 5 = .ok (.iconst (-1), 1) := by decide +kernel
theorem dX6_trusted_6 : decode cX6_trusted 6 = .ok (.istore_n 2, 1) := by decide +kernel
theorem dX6_trusted_7 : decode cX6_trusted 7 = .ok (.sipush 1000, 3) := by decide +kernel
theorem dX6_trusted_10 : decode cX6_trusted 10 = .ok (.istore_n 3, 1) := by decide +kernel
theorem dX6_trusted_11 : decode cX6_trusted 11 = .ok (.iconst 0, 1) := by decide +kernel
theorem dX6_trusted_12 : decode cX6_trusted 12 = .ok (.istore 4, 2) := by decide +kernel
theorem dX6_trusted_14 : decode cX6_trusted 14 = .ok (.iconst 0, 1) := by decide +kernel
theorem dX6_trusted_15 : decode cX6_trusted 15 = .ok (.istore 5, 2) := by decide +kernel
theorem dX6_trusted_17 : decode cX6_trusted 17 = .ok (.iload 5, 2) := by decide +kernel
theorem dX6_trusted_19 : decode cX6_trusted 19 = .ok (.aload_n 0, 1) := by decide +kernel
theorem dX6_trusted_20 : decode cX6_trusted 20 = .ok (.getfield 21, 3) := by decide +kernel
theorem dX6_trusted_23 : decode cX6_trusted 23 = .ok (.getfield 66, 3) := by decide +kernel
theorem dX6_trusted_26 : decode cX6_trusted 26 = .ok (.if_icmp .ge 80, 3) := by decide +kernel
theorem dX6_trusted_29 : decode cX6_trusted 29 = .ok (.aload_n 0, 1) := by decide +kernel
theorem dX6_trusted_30 : decode cX6_trusted 30 = .ok (.getfield 21, 3) := by decide +kernel
theorem dX6_trusted_33 : decode cX6_trusted 33 = .ok (.getfield 106, 3) := by decide +kernel
theorem dX6_trusted_36 : decode cX6_trusted 36 = .ok (.iload 5, 2) := by decide +kernel
theorem dX6_trusted_38 : decode cX6_trusted 38 = .ok (.aaload, 1) := by decide +kernel
theorem dX6_trusted_39 : decode cX6_trusted 39 = .ok (.astore 6, 2) := by decide +kernel
theorem dX6_trusted_41 : decode cX6_trusted 41 = .ok (.aload_n 0, 1) := by decide +kernel
theorem dX6_trusted_42 : decode cX6_trusted 42 = .ok (.getfield 10, 3) := by decide +kernel
theorem dX6_trusted_45 : decode cX6_trusted 45 = .ok (.aload 6, 2) := by decide +kernel
theorem dX6_trusted_47 : decode cX6_trusted 47 = .ok (.getfield 181, 3) := by decide +kernel
theorem dX6_trusted_50 : decode cX6_trusted 50 = .ok (.iload_n 1, 1) := by decide +kernel
theorem dX6_trusted_51 : decode cX6_trusted 51 = .ok (.invokevirtual 184, 3) := by decide +kernel
theorem dX6_trusted_54 : decode cX6_trusted 54 = .ok (.iload_n 1, 1) := by decide +kernel
theorem dX6_trusted_55 : decode cX6_trusted 55 = .ok (.invokevirtual 97, 3) := by decide +kernel
theorem dX6_trusted_58 : decode cX6_trusted 58 = .ok (.istore 7, 2) := by decide +kernel
theorem dX6_trusted_60 : decode cX6_trusted 60 = .ok (.iload 7, 2) := by decide +kernel
theorem dX6_trusted_62 : decode cX6_trusted 62 = .ok (.iload_n 3, 1) := by decide +kernel
theorem dX6_trusted_63 : decode cX6_trusted 63 = .ok (.if_icmp .lt 24, 3) := by decide +kernel
theorem dX6_trusted_66 : decode cX6_trusted 66 = .ok (.iload_n 2, 1) := by decide +kernel
theorem dX6_trusted_67 : decode cX6_trusted 67 = .ok (.iconst (-1), 1) := by decide +kernel
theorem dX6_trusted_68 : decode cX6_trusted 68 = .ok (.if_icmp .eq 32, 3) := by decide +kernel
theorem dX6_trusted_71 : decode cX6_trusted 71 = .ok (.iload 7, 2) := by decide +kernel
theorem dX6_trusted_73 : decode cX6_trusted 73 = .ok (.iload_n 3, 1) := by decide +kernel
theorem dX6_trusted_74 : decode cX6_trusted 74 = .ok (.if_icmp .ne 26, 3) := by decide +kernel
theorem dX6_trusted_77 : decode cX6_trusted 77 = .ok (.aload 6, 2) := by decide +kernel
theorem dX6_trusted_79 : decode cX6_trusted 79 = .ok (.getfield 139, 3) := by decide +kernel
theorem dX6_trusted_82 : decode cX6_trusted 82 = .ok (.iload 4, 2) := by decide +kernel
theorem dX6_trusted_84 : decode cX6_trusted 84 = .ok (.if_icmp .le 16, 3) := by decide +kernel
theorem dX6_trusted_87 : decode cX6_trusted 87 = .ok (.iload 5, 2) := by decide +kernel
theorem dX6_trusted_89 : decode cX6_trusted 89 = .ok (.istore_n 2, 1) := by decide +kernel
theorem dX6_trusted_90 : decode cX6_trusted 90 = .ok (.iload 7, 2) := by decide +kernel
theorem dX6_trusted_92 : decode cX6_trusted 92 = .ok (.istore_n 3, 1) := by decide +kernel
theorem dX6_trusted_93 : decode cX6_trusted 93 = .ok (.aload 6, 2) := by decide +kernel
theorem dX6_trusted_95 : decode cX6_trusted 95 = .ok (.getfield 139, 3) := by decide +kernel
theorem dX6_trusted_98 : decode cX6_trusted 98 = .ok (.istore 4, 2) := by decide +kernel
theorem dX6_trusted_100 : decode cX6_trusted 100 = .ok (.iinc 5 1, 3) := by decide +kernel
theorem dX6_trusted_103 : decode cX6_trusted 103 = .ok (.goto (-86), 3) := by decide +kernel
theorem dX6_trusted_106 : decode cX6_trusted 106 = .ok (.iload_n 2, 1) := by decide +kernel
theorem dX6_trusted_107 : decode cX6_trusted 107 = .ok (.ireturn, 1) := by decide +kernel
set_option maxRecDepth 20000 in
theorem ggX6_mean_X3_hasArrived : GoodIn wsX6_mean wsX3_hasArrived := goodIn_r _ [10, 11, 24, 25, 26, 27, 28] (by decide +kernel) (by decide +kernel)
set_option maxRecDepth 20000 in
theorem gX6_mean_X3_hasArrived : GoodIn wsX6_mean (wsV RX6 199 RX3 yX3_hasArrived wsX3_hasArrived) := goodIn_app (goodIn_of _ (by decide +kernel)) ggX6_mean_X3_hasArrived
theorem dX6_mean_0 : decode cX6_mean 0 = .ok (.aload_n 0, 1) := by decide +kernel
theorem dX6_mean_1 : decode cX6_mean 1 = .ok (.getfield 21, 3) := by decide +kernel
theorem dX6_mean_4 : decode cX6_mean 4 = .ok (.getfield 214, 3) := by decide +kernel
theorem dX6_mean_7 : decode cX6_mean 7 = .ok (.ifCond .ne 5, 3) := by decide +kernel
theorem dX6_mean_10 : decode cX6_mean 10 = .ok (.dconst 0, 1) := by decide +kernel
theorem dX6_mean_11 : decode cX6_mean 11 = .ok (.dreturn, 1) := by decide +kernel
theorem dX6_mean_12 : decode cX6_mean 12 = .ok (.lconst 0, 1) := by decide +kernel
theorem dX6_mean_13 : decode cX6_mean 13 = .ok (.lstore_n 1, 1) := by decide +kernel
theorem dX6_mean_14 : decode cX6_mean 14 = .ok (.iconst 0, 1) := by decide +kernel
theorem dX6_mean_15 : decode cX6_mean 15 = .ok (.istore_n 3, 1) := by decide +kernel
theorem dX6_mean_16 : decode cX6_mean 16 = .ok (.iload_n 3, 1) := by decide +kernel
theorem dX6_mean_17 : decode cX6_mean 17 = .ok (.aload_n 0, 1) := by decide +kernel
theorem dX6_mean_18 : decode cX6_mean 18 = .ok (.getfield 21, 3) := by decide +kernel
theorem dX6_mean_21 : decode cX6_mean 21 = .ok (.getfield 144, 3) := by decide +kernel
theorem dX6_mean_24 : decode cX6_mean 24 = .ok (.if_icmp .ge 40, 3) := by decide +kernel
theorem dX6_mean_27 : decode cX6_mean 27 = .ok (.aload_n 0, 1) := by decide +kernel
theorem dX6_mean_28 : decode cX6_mean 28 = .ok (.getfield 21, 3) := by decide +kernel
theorem dX6_mean_31 : decode cX6_mean 31 = .ok (.getfield 149, 3) := by decide +kernel
theorem dX6_mean_34 : decode cX6_mean 34 = .ok (.iload_n 3, 1) := by decide +kernel
theorem dX6_mean_35 : decode cX6_mean 35 = .ok (.aaload, 1) := by decide +kernel
theorem dX6_mean_36 : decode cX6_mean 36 = .ok (.invokevirtual 199, 3) := by decide +kernel
theorem dX6_mean_39 : decode cX6_mean 39 = .ok (.ifCond .eq 19, 3) := by decide +kernel
theorem dX6_mean_42 : decode cX6_mean 42 = .ok (.lload_n 1, 1) := by decide +kernel
theorem dX6_mean_43 : decode cX6_mean 43 = .ok (.aload_n 0, 1) := by decide +kernel
theorem dX6_mean_44 : decode cX6_mean 44 = .ok (.getfield 21, 3) := by decide +kernel
theorem dX6_mean_47 : decode cX6_mean 47 = .ok (.getfield 149, 3) := by decide +kernel
theorem dX6_mean_50 : decode cX6_mean 50 = .ok (.iload_n 3, 1) := by decide +kernel
theorem dX6_mean_51 : decode cX6_mean 51 = .ok (.aaload, 1) := by decide +kernel
theorem dX6_mean_52 : decode cX6_mean 52 = .ok (.getfield 217, 3) := by decide +kernel
theorem dX6_mean_55 : decode cX6_mean 55 = .ok (.i2l, 1) := by decide +kernel
theorem dX6_mean_56 : decode cX6_mean 56 = .ok (.ladd, 1) := by decide +kernel
theorem dX6_mean_57 : decode cX6_mean 57 = .ok (.lstore_n 1, 1) := by decide +kernel
theorem dX6_mean_58 : decode cX6_mean 58 = .ok (.iinc 3 1, 3) := by decide +kernel
theorem dX6_mean_61 : decode cX6_mean 61 = .ok (.goto (-45), 3) := by decide +kernel
theorem dX6_mean_64 : decode cX6_mean 64 = .ok (.lload_n 1, 1) := by decide +kernel
theorem dX6_mean_65 : decode cX6_mean 65 = .ok (.l2d, 1) := by decide +kernel
theorem dX6_mean_66 : decode cX6_mean 66 = .ok (.aload_n 0, 1) := by decide +kernel
theorem dX6_mean_67 : decode cX6_mean 67 = .ok (.getfield 21, 3) := by decide +kernel
theorem dX6_mean_70 : decode cX6_mean 70 = .ok (.getfield 214, 3) := by decide +kernel
theorem dX6_mean_73 : decode cX6_mean 73 = .ok (.i2d, 1) := by decide +kernel
theorem dX6_mean_74 : decode cX6_mean 74 = .ok (.ddiv, 1) := by decide +kernel
theorem dX6_mean_75 : decode cX6_mean 75 = .ok (.dreturn, 1) := by decide +kernel
set_option maxRecDepth 20000 in
theorem ggX6_digest_X6_tellCount : GoodIn wsX6_digest wsX6_tellCount := goodIn_r _ [13, 4, 14, 3, 15, 16, 5, 7, 17, 18, 19, 20, 21, 22, 23, 24, 25, 26, 27, 28, 29, 30, 31, 32, 33, 34, 35, 36, 37, 38, 39, 40, 41, 42, 43, 44, 106, 107, 108, 109, 110, 111, 112, 113, 114, 115, 116, 117, 118, 119, 120, 121, 122, 123, 124, 125, 126, 127, 128, 129, 130, 131, 132, 133, 134, 135, 136, 137] (by decide +kernel) (by decide +kernel)
set_option maxRecDepth 20000 in
theorem gX6_digest_X6_tellCount : GoodIn wsX6_digest (wsV RX6 192 RX6 yX6_tellCount wsX6_tellCount) := goodIn_app (goodIn_of _ (by decide +kernel)) ggX6_digest_X6_tellCount
set_option maxRecDepth 20000 in
theorem ggX6_digest_X5_digestFrom : GoodIn wsX6_digest wsX5_digestFrom := goodIn_r _ [48, 49, 50, 51, 36, 37, 52, 53, 54, 55, 56, 118, 119, 120, 121, 122, 133, 134, 135, 136, 137] (by decide +kernel) (by decide +kernel)
set_option maxRecDepth 20000 in
theorem gX6_digest_X5_digestFrom : GoodIn wsX6_digest (wsV RX6 224 RX5 yX5_digestFrom wsX5_digestFrom) := goodIn_app (goodIn_of _ (by decide +kernel)) ggX6_digest_X5_digestFrom
set_option maxRecDepth 20000 in
theorem ggX6_digest_X0_digestFrom : GoodIn wsX6_digest wsX0_digestFrom := goodIn_r _ [61, 62, 63, 64, 65, 66, 60, 67, 68, 69, 70, 71, 72, 73, 74, 75, 76, 77, 78, 79, 80, 81, 82, 83, 84, 85, 86, 87, 88, 89, 90, 123, 124, 125, 126, 127, 128, 129, 130, 131, 132, 138, 139, 140, 141] (by decide +kernel) (by decide +kernel)
set_option maxRecDepth 20000 in
theorem gX6_digest_X0_digestFrom : GoodIn wsX6_digest (wsV RX6 228 RX0 yX0_digestFrom wsX0_digestFrom) := goodIn_app (goodIn_of _ (by decide +kernel)) ggX6_digest_X0_digestFrom
set_option maxRecDepth 20000 in
theorem ggX6_digest_X3_digestFrom : GoodIn wsX6_digest wsX3_digestFrom := goodIn_r _ [95, 96, 97, 98, 99, 94, 100, 101, 102, 103, 104, 105, 142, 143, 144, 145, 146] (by decide +kernel) (by decide +kernel)
set_option maxRecDepth 20000 in
theorem gX6_digest_X3_digestFrom : GoodIn wsX6_digest (wsV RX6 229 RX3 yX3_digestFrom wsX3_digestFrom) := goodIn_app (goodIn_of _ (by decide +kernel)) ggX6_digest_X3_digestFrom
theorem dX6_digest_0 : decode cX6_digest 0 = .ok (.ldc2_w 220, 3) := by decide +kernel
theorem dX6_digest_3 : decode cX6_digest 3 = .ok (.lstore_n 1, 1) := by decide +kernel
theorem dX6_digest_4 : decode cX6_digest 4 = .ok (.iconst 0, 1) := by decide +kernel
theorem dX6_digest_5 : decode cX6_digest 5 = .ok (.istore_n 3, 1) := by decide +kernel
theorem dX6_digest_6 : decode cX6_digest 6 = .ok (.iload_n 3, 1) := by decide +kernel
theorem dX6_digest_7 : decode cX6_digest 7 = .ok (.bipush 9, 2) := by decide +kernel
theorem dX6_digest_9 : decode cX6_digest 9 = .ok (.if_icmp .ge 22, 3) := by decide +kernel
theorem dX6_digest_12 : decode cX6_digest 12 = .ok (.lload_n 1, 1) := by decide +kernel
theorem dX6_digest_13 : decode cX6_digest 13 = .ok (.ldc2_w 222, 3) := by decide +kernel
theorem dX6_digest_16 : decode cX6_digest 16 = .ok (.lmul, 1) := by decide +kernel
theorem dX6_digest_17 : decode cX6_digest 17 = .ok (.aload_n 0, 1) := by decide +kernel
theorem dX6_digest_18 : decode cX6_digest 18 = .ok (.iload_n 3, 1) := by decide +kernel
theorem dX6_digest_19 : decode cX6_digest 19 = .ok (.invokevirtual 192, 3) := by decide +kernel
theorem dX6_digest_22 : decode cX6_digest 22 = .ok (.i2l, 1) := by decide +kernel
theorem dX6_digest_23 : decode cX6_digest 23 = .ok (.ladd, 1) := by decide +kernel
theorem dX6_digest_24 : decode cX6_digest 24 = .ok (.lstore_n 1, 1) := by decide +kernel
theorem dX6_digest_25 : decode cX6_digest 25 = .ok (.iinc 3 1, 3) := by decide +kernel
theorem dX6_digest_28 : decode cX6_digest 28 = .ok (.goto (-22), 3) := by decide +kernel
theorem dX6_digest_31 : decode cX6_digest 31 = .ok (.aload_n 0, 1) := by decide +kernel
theorem dX6_digest_32 : decode cX6_digest 32 = .ok (.getfield 10, 3) := by decide +kernel
theorem dX6_digest_35 : decode cX6_digest 35 = .ok (.lload_n 1, 1) := by decide +kernel
theorem dX6_digest_36 : decode cX6_digest 36 = .ok (.invokevirtual 224, 3) := by decide +kernel
theorem dX6_digest_39 : decode cX6_digest 39 = .ok (.lstore_n 1, 1) := by decide +kernel
theorem dX6_digest_40 : decode cX6_digest 40 = .ok (.iconst 0, 1) := by decide +kernel
theorem dX6_digest_41 : decode cX6_digest 41 = .ok (.istore_n 3, 1) := by decide +kernel
theorem dX6_digest_42 : decode cX6_digest 42 = .ok (.iload_n 3, 1) := by decide +kernel
theorem dX6_digest_43 : decode cX6_digest 43 = .ok (.aload_n 0, 1) := by decide +kernel
theorem dX6_digest_44 : decode cX6_digest 44 = .ok (.getfield 21, 3) := by decide +kernel
theorem dX6_digest_47 : decode cX6_digest 47 = .ok (.getfield 66, 3) := by decide +kernel
theorem dX6_digest_50 : decode cX6_digest 50 = .ok (.if_icmp .ge 23, 3) := by decide +kernel
theorem dX6_digest_53 : decode cX6_digest 53 = .ok (.aload_n 0, 1) := by decide +kernel
theorem dX6_digest_54 : decode cX6_digest 54 = .ok (.getfield 21, 3) := by decide +kernel
theorem dX6_digest_57 : decode cX6_digest 57 = .ok (.getfield 106, 3) := by decide +kernel
theorem dX6_digest_60 : decode cX6_digest 60 = .ok (.iload_n 3, 1) := by decide +kernel
theorem dX6_digest_61 : decode cX6_digest 61 = .ok (.aaload, 1) := by decide +kernel
theorem dX6_digest_62 : decode cX6_digest 62 = .ok (.lload_n 1, 1) := by decide +kernel
theorem dX6_digest_63 : decode cX6_digest 63 = .ok (.invokevirtual 228, 3) := by decide +kernel
theorem dX6_digest_66 : decode cX6_digest 66 = .ok (.lstore_n 1, 1) := by decide +kernel
theorem dX6_digest_67 : decode cX6_digest 67 = .ok (.iinc 3 1, 3) := by decide +kernel
theorem dX6_digest_70 : decode cX6_digest 70 = .ok (.goto (-28), 3) := by decide +kernel
theorem dX6_digest_73 : decode cX6_digest 73 = .ok (.iconst 0, 1) := by decide +kernel
theorem dX6_digest_74 : decode cX6_digest 74 = .ok (.istore_n 3, 1) := by decide +kernel
theorem dX6_digest_75 : decode cX6_digest 75 = .ok (.iload_n 3, 1) := by decide +kernel
theorem dX6_digest_76 : decode cX6_digest 76 = .ok (.aload_n 0, 1) := by decide +kernel
theorem dX6_digest_77 : decode cX6_digest 77 = .ok (.getfield 21, 3) := by decide +kernel
theorem dX6_digest_80 : decode cX6_digest 80 = .ok (.getfield 144, 3) := by decide +kernel
theorem dX6_digest_83 : decode cX6_digest 83 = .ok (.if_icmp .ge 23, 3) := by decide +kernel
theorem dX6_digest_86 : decode cX6_digest 86 = .ok (.aload_n 0, 1) := by decide +kernel
theorem dX6_digest_87 : decode cX6_digest 87 = .ok (.getfield 21, 3) := by decide +kernel
theorem dX6_digest_90 : decode cX6_digest 90 = .ok (.getfield 149, 3) := by decide +kernel
theorem dX6_digest_93 : decode cX6_digest 93 = .ok (.iload_n 3, 1) := by decide +kernel
theorem dX6_digest_94 : decode cX6_digest 94 = .ok (.aaload, 1) := by decide +kernel
theorem dX6_digest_95 : decode cX6_digest 95 = .ok (.lload_n 1, 1) := by decide +kernel
theorem dX6_digest_96 : decode cX6_digest 96 = .ok (.invokevirtual 229, 3) := by decide +kernel
theorem dX6_digest_99 : decode cX6_digest 99 = .ok (.lstore_n 1, 1) := by decide +kernel
theorem dX6_digest_100 : decode cX6_digest 100 = .ok (.iinc 3 1, 3) := by decide +kernel
theorem dX6_digest_103 : decode cX6_digest 103 = .ok (.goto (-28), 3) := by decide +kernel
theorem dX6_digest_106 : decode cX6_digest 106 = .ok (.lload_n 1, 1) := by decide +kernel
theorem dX6_digest_107 : decode cX6_digest 107 = .ok (.lreturn, 1) := by decide +kernel
set_option maxRecDepth 20000 in
theorem ggX6_checkHouse_X5_hasHouse : GoodIn wsX6_checkHouse wsX5_hasHouse := goodIn_r _ [8, 9, 14, 15, 16, 17, 18] (by decide +kernel) (by decide +kernel)
set_option maxRecDepth 20000 in
theorem gX6_checkHouse_X5_hasHouse : GoodIn wsX6_checkHouse (wsV RX6 230 RX5 yX5_hasHouse wsX5_hasHouse) := goodIn_app (goodIn_of _ (by decide +kernel)) ggX6_checkHouse_X5_hasHouse
theorem dX6_checkHouse_0 : decode cX6_checkHouse 0 = .ok (.aload_n 0, 1) := by decide +kernel
theorem dX6_checkHouse_1 : decode cX6_checkHouse 1 = .ok (.getfield 10, 3) := by decide +kernel
theorem dX6_checkHouse_4 : decode cX6_checkHouse 4 = .ok (.iload_n 1, 1) := by decide +kernel
theorem dX6_checkHouse_5 : decode cX6_checkHouse 5 = .ok (.invokevirtual 230, 3) := by decide +kernel
theorem dX6_checkHouse_8 : decode cX6_checkHouse 8 = .ok (.ifCond .ne 13, 3) := by decide +kernel
theorem dX6_checkHouse_11 : decode cX6_checkHouse 11 = .ok (.new 78, 3) := by decide +kernel
theorem dX6_checkHouse_14 : decode cX6_checkHouse 14 = .ok (.dup, 1) := by decide +kernel
theorem dX6_checkHouse_15 : decode cX6_checkHouse 15 = .ok (.ldc 233, 2) := by decide +kernel
theorem dX6_checkHouse_17 : decode cX6_checkHouse 17 = .ok (.invokespecial 82, 3) := by decide +kernel
theorem dX6_checkHouse_20 : decode cX6_checkHouse 20 = .ok (.athrow, 1) := by decide +kernel
theorem dX6_checkHouse_21 : decode cX6_checkHouse 21 = .ok (.return_, 1) := by decide +kernel
theorem dX6_checkBee_0 : decode cX6_checkBee 0 = .ok (.iload_n 1, 1) := by decide +kernel
theorem dX6_checkBee_1 : decode cX6_checkBee 1 = .ok (.ifCond .lt 14, 3) := by decide +kernel
theorem dX6_checkBee_4 : decode cX6_checkBee 4 = .ok (.iload_n 1, 1) := by decide +kernel
theorem dX6_checkBee_5 : decode cX6_checkBee 5 = .ok (.aload_n 0, 1) := by decide +kernel
theorem dX6_checkBee_6 : decode cX6_checkBee 6 = .ok (.getfield 21, 3) := by decide +kernel
theorem dX6_checkBee_9 : decode cX6_checkBee 9 = .ok (.getfield 66, 3) := by decide +kernel
theorem dX6_checkBee_12 : decode cX6_checkBee 12 = .ok (.if_icmp .lt 13, 3) := by decide +kernel
theorem dX6_checkBee_15 : decode cX6_checkBee 15 = .ok (.new 78, 3) := by decide +kernel
theorem dX6_checkBee_18 : decode cX6_checkBee 18 = .ok (.dup, 1) := by decide +kernel
theorem dX6_checkBee_19 : decode cX6_checkBee 19 = .ok (.ldc 235, 2) := by decide +kernel
theorem dX6_checkBee_21 : decode cX6_checkBee 21 = .ok (.invokespecial 82, 3) := by decide +kernel
theorem dX6_checkBee_24 : decode cX6_checkBee 24 = .ok (.athrow, 1) := by decide +kernel
theorem dX6_checkBee_25 : decode cX6_checkBee 25 = .ok (.return_, 1) := by decide +kernel
theorem dX6_checkLetter_0 : decode cX6_checkLetter 0 = .ok (.iload_n 1, 1) := by decide +kernel
theorem dX6_checkLetter_1 : decode cX6_checkLetter 1 = .ok (.ifCond .lt 14, 3) := by decide +kernel
theorem dX6_checkLetter_4 : decode cX6_checkLetter 4 = .ok (.iload_n 1, 1) := by decide +kernel
theorem dX6_checkLetter_5 : decode cX6_checkLetter 5 = .ok (.aload_n 0, 1) := by decide +kernel
theorem dX6_checkLetter_6 : decode cX6_checkLetter 6 = .ok (.getfield 21, 3) := by decide +kernel
theorem dX6_checkLetter_9 : decode cX6_checkLetter 9 = .ok (.getfield 144, 3) := by decide +kernel
theorem dX6_checkLetter_12 : decode cX6_checkLetter 12 = .ok (.if_icmp .lt 13, 3) := by decide +kernel
theorem dX6_checkLetter_15 : decode cX6_checkLetter 15 = .ok (.new 78, 3) := by decide +kernel
theorem dX6_checkLetter_18 : decode cX6_checkLetter 18 = .ok (.dup, 1) := by decide +kernel
theorem dX6_checkLetter_19 : decode cX6_checkLetter 19 = .ok (.ldc 237, 2) := by decide +kernel
theorem dX6_checkLetter_21 : decode cX6_checkLetter 21 = .ok (.invokespecial 82, 3) := by decide +kernel
theorem dX6_checkLetter_24 : decode cX6_checkLetter 24 = .ok (.athrow, 1) := by decide +kernel
theorem dX6_checkLetter_25 : decode cX6_checkLetter 25 = .ok (.return_, 1) := by decide +kernel
theorem dX6_checkWhat_0 : decode cX6_checkWhat 0 = .ok (.iload_n 0, 1) := by decide +kernel
theorem dX6_checkWhat_1 : decode cX6_checkWhat 1 = .ok (.ifCond .lt 8, 3) := by decide +kernel
theorem dX6_checkWhat_4 : decode cX6_checkWhat 4 = .ok (.iload_n 0, 1) := by decide +kernel
theorem dX6_checkWhat_5 : decode cX6_checkWhat 5 = .ok (.iload_n 1, 1) := by decide +kernel
theorem dX6_checkWhat_6 : decode cX6_checkWhat 6 = .ok (.if_icmp .lt 13, 3) := by decide +kernel
theorem dX6_checkWhat_9 : decode cX6_checkWhat 9 = .ok (.new 78, 3) := by decide +kernel
theorem dX6_checkWhat_12 : decode cX6_checkWhat 12 = .ok (.dup, 1) := by decide +kernel
theorem dX6_checkWhat_13 : decode cX6_checkWhat 13 = .ok (.ldc 239, 2) := by decide +kernel
theorem dX6_checkWhat_15 : decode cX6_checkWhat 15 = .ok (.invokespecial 82, 3) := by decide +kernel
theorem dX6_checkWhat_18 : decode cX6_checkWhat 18 = .ok (.athrow, 1) := by decide +kernel
theorem dX6_checkWhat_19 : decode cX6_checkWhat 19 = .ok (.return_, 1) := by decide +kernel
set_option maxRecDepth 20000 in
theorem ggX6_checkRoute_X4_read : GoodIn wsX6_checkRoute wsX4_read := goodIn_r _ [9, 10, 11, 12, 13, 14, 8, 15, 16, 17, 18, 19, 20, 21, 22, 23, 24, 25, 26, 27, 28, 29, 30, 31, 32, 33, 34, 35, 36, 37, 38, 39, 40, 41, 42, 43, 44, 45, 46, 47, 48, 49, 50, 51, 52, 53, 54, 55, 56, 57, 58, 59, 60, 65, 66, 67, 68, 69, 70, 71, 72, 73, 74, 75, 76, 77, 78] (by decide +kernel) (by decide +kernel)
set_option maxRecDepth 20000 in
theorem gX6_checkRoute_X4_read : GoodIn wsX6_checkRoute (wsV RX6 241 RX4 yX4_read wsX4_read) := goodIn_app (goodIn_of _ (by decide +kernel)) ggX6_checkRoute_X4_read
theorem dX6_checkRoute_0 : decode cX6_checkRoute 0 = .ok (.aload_n 0, 1) := by decide +kernel
theorem dX6_checkRoute_1 : decode cX6_checkRoute 1 = .ok (.getfield 31, 3) := by decide +kernel
theorem dX6_checkRoute_4 : decode cX6_checkRoute 4 = .ok (.iload_n 1, 1) := by decide +kernel
theorem dX6_checkRoute_5 : decode cX6_checkRoute 5 = .ok (.aload_n 0, 1) := by decide +kernel
theorem dX6_checkRoute_6 : decode cX6_checkRoute 6 = .ok (.getfield 10, 3) := by decide +kernel
theorem dX6_checkRoute_9 : decode cX6_checkRoute 9 = .ok (.invokevirtual 241, 3) := by decide +kernel
theorem dX6_checkRoute_12 : decode cX6_checkRoute 12 = .ok (.ifCond .ne 13, 3) := by decide +kernel
theorem dX6_checkRoute_15 : decode cX6_checkRoute 15 = .ok (.new 58, 3) := by decide +kernel
theorem dX6_checkRoute_18 : decode cX6_checkRoute 18 = .ok (.dup, 1) := by decide +kernel
theorem dX6_checkRoute_19 : decode cX6_checkRoute 19 = .ok (.ldc 245, 2) := by decide +kernel
theorem dX6_checkRoute_21 : decode cX6_checkRoute 21 = .ok (.invokespecial 62, 3) := by decide +kernel
theorem dX6_checkRoute_24 : decode cX6_checkRoute 24 = .ok (.athrow, 1) := by decide +kernel
theorem dX6_checkRoute_25 : decode cX6_checkRoute 25 = .ok (.return_, 1) := by decide +kernel
set_option maxRecDepth 20000 in
theorem ggX6_tellCount_X1_carriedLetters : GoodIn wsX6_tellCount wsX1_carriedLetters := goodIn_r _ [13, 14, 15, 16, 40, 41, 42, 43, 44, 45, 46, 47, 53, 54, 55, 56, 57, 58, 59, 60, 61, 62] (by decide +kernel) (by decide +kernel)
set_option maxRecDepth 20000 in
theorem gX6_tellCount_X1_carriedLetters : GoodIn wsX6_tellCount (wsV RX6 250 RX1 yX1_carriedLetters wsX1_carriedLetters) := goodIn_app (goodIn_of _ (by decide +kernel)) ggX6_tellCount_X1_carriedLetters
set_option maxRecDepth 20000 in
theorem ggX6_tellCount_X1_restingBees : GoodIn wsX6_tellCount wsX1_restingBees := goodIn_r _ [20, 14, 15, 21, 40, 41, 42, 43, 44, 45, 46, 47, 53, 54, 55, 56, 57, 58, 59, 60, 61, 62] (by decide +kernel) (by decide +kernel)
set_option maxRecDepth 20000 in
theorem gX6_tellCount_X1_restingBees : GoodIn wsX6_tellCount (wsV RX6 253 RX1 yX1_restingBees wsX1_restingBees) := goodIn_app (goodIn_of _ (by decide +kernel)) ggX6_tellCount_X1_restingBees
set_option maxRecDepth 20000 in
theorem ggX6_tellCount_X5_openGates : GoodIn wsX6_tellCount wsX5_openGates := goodIn_r _ [26, 27, 28, 29, 30, 31, 32, 33, 34, 35, 48, 49, 50, 51, 52, 63, 64, 65, 66, 67] (by decide +kernel) (by decide +kernel)
set_option maxRecDepth 20000 in
theorem gX6_tellCount_X5_openGates : GoodIn wsX6_tellCount (wsV RX6 256 RX5 yX5_openGates wsX5_openGates) := goodIn_app (goodIn_of _ (by decide +kernel)) ggX6_tellCount_X5_openGates
theorem dX6_tellCount_0 : decode cX6_tellCount 0 = .ok (.iload_n 1, 1) := by decide +kernel
theorem dX6_tellCount_1 : decode cX6_tellCount 1 = .ok (.tableswitch 111 0 7 #[47, 55, 63, 71, 79, 87, 95, 103], 47) := by decide +kernel
theorem dX6_tellCount_48 : decode cX6_tellCount 48 = .ok (.aload_n 0, 1) := by decide +kernel
theorem dX6_tellCount_49 : decode cX6_tellCount 49 = .ok (.getfield 21, 3) := by decide +kernel
theorem dX6_tellCount_52 : decode cX6_tellCount 52 = .ok (.getfield 247, 3) := by decide +kernel
theorem dX6_tellCount_55 : decode cX6_tellCount 55 = .ok (.ireturn, 1) := by decide +kernel
theorem dX6_tellCount_56 : decode cX6_tellCount 56 = .ok (.aload_n 0, 1) := by decide +kernel
theorem dX6_tellCount_57 : decode cX6_tellCount 57 = .ok (.getfield 10, 3) := by decide +kernel
theorem dX6_tellCount_60 : decode cX6_tellCount 60 = .ok (.getfield 35, 3) := by decide +kernel
theorem dX6_tellCount_63 : decode cX6_tellCount 63 = .ok (.ireturn, 1) := by decide +kernel
theorem dX6_tellCount_64 : decode cX6_tellCount 64 = .ok (.aload_n 0, 1) := by decide +kernel
theorem dX6_tellCount_65 : decode cX6_tellCount 65 = .ok (.getfield 10, 3) := by decide +kernel
theorem dX6_tellCount_68 : decode cX6_tellCount 68 = .ok (.getfield 63, 3) := by decide +kernel
theorem dX6_tellCount_71 : decode cX6_tellCount 71 = .ok (.ireturn, 1) := by decide +kernel
theorem dX6_tellCount_72 : decode cX6_tellCount 72 = .ok (.aload_n 0, 1) := by decide +kernel
theorem dX6_tellCount_73 : decode cX6_tellCount 73 = .ok (.getfield 21, 3) := by decide +kernel
theorem dX6_tellCount_76 : decode cX6_tellCount 76 = .ok (.getfield 66, 3) := by decide +kernel
theorem dX6_tellCount_79 : decode cX6_tellCount 79 = .ok (.ireturn, 1) := by decide +kernel
theorem dX6_tellCount_80 : decode cX6_tellCount 80 = .ok (.aload_n 0, 1) := by decide +kernel
theorem dX6_tellCount_81 : decode cX6_tellCount 81 = .ok (.getfield 21, 3) := by decide +kernel
theorem dX6_tellCount_84 : decode cX6_tellCount 84 = .ok (.getfield 144, 3) := by decide +kernel
theorem dX6_tellCount_87 : decode cX6_tellCount 87 = .ok (.ireturn, 1) := by decide +kernel
theorem dX6_tellCount_88 : decode cX6_tellCount 88 = .ok (.aload_n 0, 1) := by decide +kernel
theorem dX6_tellCount_89 : decode cX6_tellCount 89 = .ok (.getfield 21, 3) := by decide +kernel
theorem dX6_tellCount_92 : decode cX6_tellCount 92 = .ok (.getfield 214, 3) := by decide +kernel
theorem dX6_tellCount_95 : decode cX6_tellCount 95 = .ok (.ireturn, 1) := by decide +kernel
theorem dX6_tellCount_96 : decode cX6_tellCount 96 = .ok (.aload_n 0, 1) := by decide +kernel
theorem dX6_tellCount_97 : decode cX6_tellCount 97 = .ok (.getfield 21, 3) := by decide +kernel
theorem dX6_tellCount_100 : decode cX6_tellCount 100 = .ok (.invokevirtual 250, 3) := by decide +kernel
theorem dX6_tellCount_103 : decode cX6_tellCount 103 = .ok (.ireturn, 1) := by decide +kernel
theorem dX6_tellCount_104 : decode cX6_tellCount 104 = .ok (.aload_n 0, 1) := by decide +kernel
theorem dX6_tellCount_105 : decode cX6_tellCount 105 = .ok (.getfield 21, 3) := by decide +kernel
theorem dX6_tellCount_108 : decode cX6_tellCount 108 = .ok (.invokevirtual 253, 3) := by decide +kernel
theorem dX6_tellCount_111 : decode cX6_tellCount 111 = .ok (.ireturn, 1) := by decide +kernel
theorem dX6_tellCount_112 : decode cX6_tellCount 112 = .ok (.aload_n 0, 1) := by decide +kernel
theorem dX6_tellCount_113 : decode cX6_tellCount 113 = .ok (.getfield 10, 3) := by decide +kernel
theorem dX6_tellCount_116 : decode cX6_tellCount 116 = .ok (.aload_n 0, 1) := by decide +kernel
theorem dX6_tellCount_117 : decode cX6_tellCount 117 = .ok (.getfield 21, 3) := by decide +kernel
theorem dX6_tellCount_120 : decode cX6_tellCount 120 = .ok (.getfield 247, 3) := by decide +kernel
theorem dX6_tellCount_123 : decode cX6_tellCount 123 = .ok (.invokevirtual 256, 3) := by decide +kernel
theorem dX6_tellCount_126 : decode cX6_tellCount 126 = .ok (.ireturn, 1) := by decide +kernel
set_option maxRecDepth 20000 in
theorem ggX6_arrivalsAhead_X1_copyFrom : GoodIn wsX6_arrivalsAhead wsX1_copyFrom := goodIn_r _ [8, 9, 10, 11, 12, 13, 14, 15, 16, 17, 18, 19, 20, 21, 22, 23, 24, 25, 26, 27, 28, 29, 30, 31, 32, 33, 34, 35, 36, 37, 38, 39, 185, 186, 187, 188, 189, 190, 191, 192, 193, 194, 195, 196, 197, 198, 199, 200, 201, 202, 203, 204, 205, 206, 207] (by decide +kernel) (by decide +kernel)
set_option maxRecDepth 20000 in
theorem gX6_arrivalsAhead_X1_copyFrom : GoodIn wsX6_arrivalsAhead (wsV RX6 195 RX1 yX1_copyFrom wsX1_copyFrom) := goodIn_app (goodIn_of _ (by decide +kernel)) ggX6_arrivalsAhead_X1_copyFrom
set_option maxRecDepth 20000 in
theorem ggX6_arrivalsAhead_X1_passQuarters : GoodIn wsX6_arrivalsAhead wsX1_passQuarters := goodIn_r _ [43, 14, 44, 45, 46, 7, 47, 9, 10, 48, 13, 49, 50, 51, 19, 52, 21, 22, 53, 54, 55, 56, 57, 58, 59, 60, 61, 62, 63, 11, 64, 12, 65, 66, 67, 68, 69, 70, 71, 72, 73, 74, 26, 28, 75, 76, 77, 78, 25, 79, 80, 81, 82, 83, 84, 85, 86, 87, 88, 89, 90, 91, 92, 93, 94, 95, 96, 97, 98, 99, 100, 101, 102, 103, 104, 105, 106, 107, 108, 109, 110, 111, 112, 113, 114, 115, 116, 117, 118, 119, 120, 121, 122, 123, 15, 124, 125, 126, 127, 128, 129, 130, 131, 132, 27, 24, 133, 134, 135, 136, 137, 138, 139, 140, 141, 142, 143, 144, 29, 145, 146, 147, 148, 149, 150, 151, 152, 153, 154, 155, 156, 157, 158, 159, 160, 161, 162, 163, 164, 165, 166, 167, 168, 169, 170, 171, 172, 173, 174, 175, 176, 177, 178, 179, 180, 23, 185, 186, 187, 188, 189, 190, 191, 192, 193, 194, 195, 196, 197, 198, 199, 200, 201, 202, 208, 209, 210, 211, 203, 204, 205, 206, 207, 212, 213, 214, 215, 216, 217, 218, 219, 220, 221] (by decide +kernel) (by decide +kernel)
set_option maxRecDepth 20000 in
theorem gX6_arrivalsAhead_X1_passQuarters : GoodIn wsX6_arrivalsAhead (wsV RX6 189 RX1 yX1_passQuarters wsX1_passQuarters) := goodIn_app (goodIn_of _ (by decide +kernel)) ggX6_arrivalsAhead_X1_passQuarters
theorem dX6_arrivalsAhead_0 : decode cX6_arrivalsAhead 0 = .ok (.aload_n 0, 1) := by decide +kernel
theorem dX6_arrivalsAhead_1 : decode cX6_arrivalsAhead 1 = .ok (.getfield 25, 3) := by decide +kernel
theorem dX6_arrivalsAhead_4 : decode cX6_arrivalsAhead 4 = .ok (.aload_n 0, 1) := by decide +kernel
theorem dX6_arrivalsAhead_5 : decode cX6_arrivalsAhead 5 = .ok (.getfield 21, 3) := by decide +kernel
theorem dX6_arrivalsAhead_8 : decode cX6_arrivalsAhead 8 = .ok (.invokevirtual 195, 3) := by decide +kernel
theorem dX6_arrivalsAhead_11 : decode cX6_arrivalsAhead 11 = .ok (.aload_n 0, 1) := by decide +kernel
theorem dX6_arrivalsAhead_12 : decode cX6_arrivalsAhead 12 = .ok (.getfield 25, 3) := by decide +kernel
theorem dX6_arrivalsAhead_15 : decode cX6_arrivalsAhead 15 = .ok (.iload_n 2, 1) := by decide +kernel
theorem dX6_arrivalsAhead_16 : decode cX6_arrivalsAhead 16 = .ok (.putfield 259, 3) := by decide +kernel
theorem dX6_arrivalsAhead_19 : decode cX6_arrivalsAhead 19 = .ok (.aload_n 0, 1) := by decide +kernel
theorem dX6_arrivalsAhead_20 : decode cX6_arrivalsAhead 20 = .ok (.getfield 25, 3) := by decide +kernel
theorem dX6_arrivalsAhead_23 : decode cX6_arrivalsAhead 23 = .ok (.iload_n 1, 1) := by decide +kernel
theorem dX6_arrivalsAhead_24 : decode cX6_arrivalsAhead 24 = .ok (.invokevirtual 189, 3) := by decide +kernel
theorem dX6_arrivalsAhead_27 : decode cX6_arrivalsAhead 27 = .ok (.ireturn, 1) := by decide +kernel
theorem dX7_init_0 : decode cX7_init 0 = .ok (.aload_n 0, 1) := by decide +kernel
theorem dX7_init_1 : decode cX7_init 1 = .ok (.invokespecial 1, 3) := by decide +kernel
theorem dX7_init_4 : decode cX7_init 4 = .ok (.aload_n 0, 1) := by decide +kernel
theorem dX7_init_5 : decode cX7_init 5 = .ok (.bipush 14, 2) := by decide +kernel
theorem dX7_init_7 : decode cX7_init 7 = .ok (.newarray .boolean, 2) := by decide +kernel
theorem dX7_init_9 : decode cX7_init 9 = .ok (.putfield 9, 3) := by decide +kernel
theorem dX7_init_12 : decode cX7_init 12 = .ok (.aload_n 0, 1) := by decide +kernel
theorem dX7_init_13 : decode cX7_init 13 = .ok (.bipush 120, 2) := by decide +kernel
theorem dX7_init_15 : decode cX7_init 15 = .ok (.newarray .int, 2) := by decide +kernel
theorem dX7_init_17 : decode cX7_init 17 = .ok (.putfield 13, 3) := by decide +kernel
theorem dX7_init_20 : decode cX7_init 20 = .ok (.aload_n 0, 1) := by decide +kernel
theorem dX7_init_21 : decode cX7_init 21 = .ok (.sipush 196, 3) := by decide +kernel
theorem dX7_init_24 : decode cX7_init 24 = .ok (.newarray .int, 2) := by decide +kernel
theorem dX7_init_26 : decode cX7_init 26 = .ok (.putfield 17, 3) := by decide +kernel
theorem dX7_init_29 : decode cX7_init 29 = .ok (.aload_n 0, 1) := by decide +kernel
theorem dX7_init_30 : decode cX7_init 30 = .ok (.bipush 48, 2) := by decide +kernel
theorem dX7_init_32 : decode cX7_init 32 = .ok (.newarray .int, 2) := by decide +kernel
theorem dX7_init_34 : decode cX7_init 34 = .ok (.putfield 20, 3) := by decide +kernel
theorem dX7_init_37 : decode cX7_init 37 = .ok (.aload_n 0, 1) := by decide +kernel
theorem dX7_init_38 : decode cX7_init 38 = .ok (.bipush 42, 2) := by decide +kernel
theorem dX7_init_40 : decode cX7_init 40 = .ok (.newarray .int, 2) := by decide +kernel
theorem dX7_init_42 : decode cX7_init 42 = .ok (.putfield 23, 3) := by decide +kernel
theorem dX7_init_45 : decode cX7_init 45 = .ok (.aload_n 0, 1) := by decide +kernel
theorem dX7_init_46 : decode cX7_init 46 = .ok (.bipush 100, 2) := by decide +kernel
theorem dX7_init_48 : decode cX7_init 48 = .ok (.newarray .int, 2) := by decide +kernel
theorem dX7_init_50 : decode cX7_init 50 = .ok (.putfield 26, 3) := by decide +kernel
theorem dX7_init_53 : decode cX7_init 53 = .ok (.aload_n 0, 1) := by decide +kernel
theorem dX7_init_54 : decode cX7_init 54 = .ok (.iconst 1, 1) := by decide +kernel
theorem dX7_init_55 : decode cX7_init 55 = .ok (.newarray .int, 2) := by decide +kernel
theorem dX7_init_57 : decode cX7_init 57 = .ok (.dup, 1) := by decide +kernel
theorem dX7_init_58 : decode cX7_init 58 = .ok (.iconst 0, 1) := by decide +kernel
theorem dX7_init_59 : decode cX7_init 59 = .ok (.iconst 0, 1) := by decide +kernel
theorem dX7_init_60 : decode cX7_init 60 = .ok (.iastore, 1) := by decide +kernel
theorem dX7_init_61 : decode cX7_init 61 = .ok (.putfield 29, 3) := by decide +kernel
theorem dX7_init_64 : decode cX7_init 64 = .ok (.aload_n 0, 1) := by decide +kernel
theorem dX7_init_65 : decode cX7_init 65 = .ok (.bipush 7, 2) := by decide +kernel
theorem dX7_init_67 : decode cX7_init 67 = .ok (.newarray .int, 2) := by decide +kernel
theorem dX7_init_69 : decode cX7_init 69 = .ok (.putfield 32, 3) := by decide +kernel
theorem dX7_init_72 : decode cX7_init 72 = .ok (.return_, 1) := by decide +kernel
theorem dX7_thrown_0 : decode cX7_thrown 0 = .ok (.aload_n 0, 1) := by decide +kernel
theorem dX7_thrown_1 : decode cX7_thrown 1 = .ok (.getfield 35, 3) := by decide +kernel
theorem dX7_thrown_4 : decode cX7_thrown 4 = .ok (.ireturn, 1) := by decide +kernel
theorem dX7_fail_0 : decode cX7_fail 0 = .ok (.aload_n 0, 1) := by decide +kernel
theorem dX7_fail_1 : decode cX7_fail 1 = .ok (.iload_n 1, 1) := by decide +kernel
theorem dX7_fail_2 : decode cX7_fail 2 = .ok (.putfield 35, 3) := by decide +kernel
theorem dX7_fail_5 : decode cX7_fail 5 = .ok (.iconst 0, 1) := by decide +kernel
theorem dX7_fail_6 : decode cX7_fail 6 = .ok (.ireturn, 1) := by decide +kernel
theorem dX7_isIn_0 : decode cX7_isIn 0 = .ok (.iload_n 0, 1) := by decide +kernel
theorem dX7_isIn_1 : decode cX7_isIn 1 = .ok (.iload_n 1, 1) := by decide +kernel
theorem dX7_isIn_2 : decode cX7_isIn 2 = .ok (.if_icmp .lt 12, 3) := by decide +kernel
theorem dX7_isIn_5 : decode cX7_isIn 5 = .ok (.iload_n 0, 1) := by decide +kernel
