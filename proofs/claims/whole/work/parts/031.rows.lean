theorem dX3_begin_5 : decode cX3_begin 5 = .ok (.aload_n 0, 1) := by decide +kernel
theorem dX3_begin_6 : decode cX3_begin 6 = .ok (.iload_n 1, 1) := by decide +kernel
theorem dX3_begin_7 : decode cX3_begin 7 = .ok (.putfield 15, 3) := by decide +kernel
theorem dX3_begin_10 : decode cX3_begin 10 = .ok (.aload_n 0, 1) := by decide +kernel
theorem dX3_begin_11 : decode cX3_begin 11 = .ok (.iconst (-1), 1) := by decide +kernel
theorem dX3_begin_12 : decode cX3_begin 12 = .ok (.putfield 18, 3) := by decide +kernel
theorem dX3_begin_15 : decode cX3_begin 15 = .ok (.aload_n 0, 1) := by decide +kernel
theorem dX3_begin_16 : decode cX3_begin 16 = .ok (.iconst (-1), 1) := by decide +kernel
theorem dX3_begin_17 : decode cX3_begin 17 = .ok (.putfield 21, 3) := by decide +kernel
theorem dX3_begin_20 : decode cX3_begin 20 = .ok (.aload_n 0, 1) := by decide +kernel
theorem dX3_begin_21 : decode cX3_begin 21 = .ok (.iconst 0, 1) := by decide +kernel
theorem dX3_begin_22 : decode cX3_begin 22 = .ok (.putfield 24, 3) := by decide +kernel
theorem dX3_begin_25 : decode cX3_begin 25 = .ok (.return_, 1) := by decide +kernel
theorem dX3_hasArrived_0 : decode cX3_hasArrived 0 = .ok (.aload_n 0, 1) := by decide +kernel
theorem dX3_hasArrived_1 : decode cX3_hasArrived 1 = .ok (.getfield 21, 3) := by decide +kernel
theorem dX3_hasArrived_4 : decode cX3_hasArrived 4 = .ok (.iconst (-1), 1) := by decide +kernel
theorem dX3_hasArrived_5 : decode cX3_hasArrived 5 = .ok (.if_icmp .eq 7, 3) := by decide +kernel
theorem dX3_hasArrived_8 : decode cX3_hasArrived 8 = .ok (.iconst 1, 1) := by decide +kernel
theorem dX3_hasArrived_9 : decode cX3_hasArrived 9 = .ok (.goto 4, 3) := by decide +kernel
theorem dX3_hasArrived_12 : decode cX3_hasArrived 12 = .ok (.iconst 0, 1) := by decide +kernel
theorem dX3_hasArrived_13 : decode cX3_hasArrived 13 = .ok (.ireturn, 1) := by decide +kernel
theorem dX3_tell_0 : decode cX3_tell 0 = .ok (.iload_n 1, 1) := by decide +kernel
theorem dX3_tell_1 : decode cX3_tell 1 = .ok (.tableswitch 51 0 3 #[31, 36, 41, 46], 31) := by decide +kernel
theorem dX3_tell_32 : decode cX3_tell 32 = .ok (.aload_n 0, 1) := by decide +kernel
theorem dX3_tell_33 : decode cX3_tell 33 = .ok (.getfield 9, 3) := by decide +kernel
theorem dX3_tell_36 : decode cX3_tell 36 = .ok (.ireturn, 1) := by decide +kernel
theorem dX3_tell_37 : decode cX3_tell 37 = .ok (.aload_n 0, 1) := by decide +kernel
theorem dX3_tell_38 : decode cX3_tell 38 = .ok (.getfield 15, 3) := by decide +kernel
theorem dX3_tell_41 : decode cX3_tell 41 = .ok (.ireturn, 1) := by decide +kernel
theorem dX3_tell_42 : decode cX3_tell 42 = .ok (.aload_n 0, 1) := by decide +kernel
theorem dX3_tell_43 : decode cX3_tell 43 = .ok (.getfield 18, 3) := by decide +kernel
theorem dX3_tell_46 : decode cX3_tell 46 = .ok (.ireturn, 1) := by decide +kernel
theorem dX3_tell_47 : decode cX3_tell 47 = .ok (.aload_n 0, 1) := by decide +kernel
theorem dX3_tell_48 : decode cX3_tell 48 = .ok (.getfield 21, 3) := by decide +kernel
theorem dX3_tell_51 : decode cX3_tell 51 = .ok (.ireturn, 1) := by decide +kernel
theorem dX3_tell_52 : decode cX3_tell 52 = .ok (.aload_n 0, 1) := by decide +kernel
theorem dX3_tell_53 : decode cX3_tell 53 = .ok (.getfield 24, 3) := by decide +kernel
theorem dX3_tell_56 : decode cX3_tell 56 = .ok (.ireturn, 1) := by decide +kernel
set_option maxRecDepth 20000 in
theorem ggX3_digestFrom_X3_tell : GoodIn wsX3_digestFrom wsX3_tell := goodIn_r _ [6, 7, 8, 9, 10, 11, 12, 13, 14, 15, 16] (by decide +kernel) (by decide +kernel)
set_option maxRecDepth 20000 in
theorem gX3_digestFrom_X3_tell : GoodIn wsX3_digestFrom (wsV RX3 29 RX3 yX3_tell wsX3_tell) := goodIn_app (goodIn_of _ (by decide +kernel)) ggX3_digestFrom_X3_tell
theorem dX3_digestFrom_0 : decode cX3_digestFrom 0 = .ok (.lload_n 1, 1) := by decide +kernel
theorem dX3_digestFrom_1 : decode cX3_digestFrom 1 = .ok (.lstore_n 3, 1) := by decide +kernel
theorem dX3_digestFrom_2 : decode cX3_digestFrom 2 = .ok (.iconst 0, 1) := by decide +kernel
theorem dX3_digestFrom_3 : decode cX3_digestFrom 3 = .ok (.istore 5, 2) := by decide +kernel
theorem dX3_digestFrom_5 : decode cX3_digestFrom 5 = .ok (.iload 5, 2) := by decide +kernel
theorem dX3_digestFrom_7 : decode cX3_digestFrom 7 = .ok (.iconst 5, 1) := by decide +kernel
theorem dX3_digestFrom_8 : decode cX3_digestFrom 8 = .ok (.if_icmp .ge 23, 3) := by decide +kernel
theorem dX3_digestFrom_11 : decode cX3_digestFrom 11 = .ok (.lload_n 3, 1) := by decide +kernel
theorem dX3_digestFrom_12 : decode cX3_digestFrom 12 = .ok (.ldc2_w 27, 3) := by decide +kernel
theorem dX3_digestFrom_15 : decode cX3_digestFrom 15 = .ok (.lmul, 1) := by decide +kernel
theorem dX3_digestFrom_16 : decode cX3_digestFrom 16 = .ok (.aload_n 0, 1) := by decide +kernel
theorem dX3_digestFrom_17 : decode cX3_digestFrom 17 = .ok (.iload 5, 2) := by decide +kernel
theorem dX3_digestFrom_19 : decode cX3_digestFrom 19 = .ok (.invokevirtual 29, 3) := by decide +kernel
theorem dX3_digestFrom_22 : decode cX3_digestFrom 22 = .ok (.i2l, 1) := by decide +kernel
theorem dX3_digestFrom_23 : decode cX3_digestFrom 23 = .ok (.ladd, 1) := by decide +kernel
theorem dX3_digestFrom_24 : decode cX3_digestFrom 24 = .ok (.lstore_n 3, 1) := by decide +kernel
theorem dX3_digestFrom_25 : decode cX3_digestFrom 25 = .ok (.iinc 5 1, 3) := by decide +kernel
theorem dX3_digestFrom_28 : decode cX3_digestFrom 28 = .ok (.goto (-23), 3) := by decide +kernel
theorem dX3_digestFrom_31 : decode cX3_digestFrom 31 = .ok (.lload_n 3, 1) := by decide +kernel
theorem dX3_digestFrom_32 : decode cX3_digestFrom 32 = .ok (.lreturn, 1) := by decide +kernel
theorem dX3_copyFrom_0 : decode cX3_copyFrom 0 = .ok (.aload_n 0, 1) := by decide +kernel
theorem dX3_copyFrom_1 : decode cX3_copyFrom 1 = .ok (.aload_n 1, 1) := by decide +kernel
theorem dX3_copyFrom_2 : decode cX3_copyFrom 2 = .ok (.getfield 9, 3) := by decide +kernel
theorem dX3_copyFrom_5 : decode cX3_copyFrom 5 = .ok (.putfield 9, 3) := by decide +kernel
theorem dX3_copyFrom_8 : decode cX3_copyFrom 8 = .ok (.aload_n 0, 1) := by decide +kernel
theorem dX3_copyFrom_9 : decode cX3_copyFrom 9 = .ok (.aload_n 1, 1) := by decide +kernel
theorem dX3_copyFrom_10 : decode cX3_copyFrom 10 = .ok (.getfield 15, 3) := by decide +kernel
theorem dX3_copyFrom_13 : decode cX3_copyFrom 13 = .ok (.putfield 15, 3) := by decide +kernel
theorem dX3_copyFrom_16 : decode cX3_copyFrom 16 = .ok (.aload_n 0, 1) := by decide +kernel
theorem dX3_copyFrom_17 : decode cX3_copyFrom 17 = .ok (.aload_n 1, 1) := by decide +kernel
theorem dX3_copyFrom_18 : decode cX3_copyFrom 18 = .ok (.getfield 18, 3) := by decide +kernel
theorem dX3_copyFrom_21 : decode cX3_copyFrom 21 = .ok (.putfield 18, 3) := by decide +kernel
theorem dX3_copyFrom_24 : decode cX3_copyFrom 24 = .ok (.aload_n 0, 1) := by decide +kernel
theorem dX3_copyFrom_25 : decode cX3_copyFrom 25 = .ok (.aload_n 1, 1) := by decide +kernel
theorem dX3_copyFrom_26 : decode cX3_copyFrom 26 = .ok (.getfield 21, 3) := by decide +kernel
theorem dX3_copyFrom_29 : decode cX3_copyFrom 29 = .ok (.putfield 21, 3) := by decide +kernel
theorem dX3_copyFrom_32 : decode cX3_copyFrom 32 = .ok (.aload_n 0, 1) := by decide +kernel
theorem dX3_copyFrom_33 : decode cX3_copyFrom 33 = .ok (.aload_n 1, 1) := by decide +kernel
theorem dX3_copyFrom_34 : decode cX3_copyFrom 34 = .ok (.getfield 24, 3) := by decide +kernel
theorem dX3_copyFrom_37 : decode cX3_copyFrom 37 = .ok (.putfield 24, 3) := by decide +kernel
theorem dX3_copyFrom_40 : decode cX3_copyFrom 40 = .ok (.return_, 1) := by decide +kernel
theorem dX4_init_0 : decode cX4_init 0 = .ok (.aload_n 0, 1) := by decide +kernel
theorem dX4_init_1 : decode cX4_init 1 = .ok (.invokespecial 3, 3) := by decide +kernel
theorem dX4_init_4 : decode cX4_init 4 = .ok (.aload_n 0, 1) := by decide +kernel
theorem dX4_init_5 : decode cX4_init 5 = .ok (.bipush 7, 2) := by decide +kernel
theorem dX4_init_7 : decode cX4_init 7 = .ok (.newarray .int, 2) := by decide +kernel
theorem dX4_init_9 : decode cX4_init 9 = .ok (.putfield 9, 3) := by decide +kernel
theorem dX4_init_12 : decode cX4_init 12 = .ok (.aload_n 0, 1) := by decide +kernel
theorem dX4_init_13 : decode cX4_init 13 = .ok (.bipush 7, 2) := by decide +kernel
theorem dX4_init_15 : decode cX4_init 15 = .ok (.newarray .int, 2) := by decide +kernel
theorem dX4_init_17 : decode cX4_init 17 = .ok (.putfield 15, 3) := by decide +kernel
theorem dX4_init_20 : decode cX4_init 20 = .ok (.aload_n 0, 1) := by decide +kernel
theorem dX4_init_21 : decode cX4_init 21 = .ok (.bipush 14, 2) := by decide +kernel
theorem dX4_init_23 : decode cX4_init 23 = .ok (.newarray .int, 2) := by decide +kernel
theorem dX4_init_25 : decode cX4_init 25 = .ok (.putfield 18, 3) := by decide +kernel
theorem dX4_init_28 : decode cX4_init 28 = .ok (.return_, 1) := by decide +kernel
theorem dX4_length_0 : decode cX4_length 0 = .ok (.aload_n 0, 1) := by decide +kernel
theorem dX4_length_1 : decode cX4_length 1 = .ok (.getfield 21, 3) := by decide +kernel
theorem dX4_length_4 : decode cX4_length 4 = .ok (.ireturn, 1) := by decide +kernel
theorem dX4_houseAt_0 : decode cX4_houseAt 0 = .ok (.iload_n 1, 1) := by decide +kernel
theorem dX4_houseAt_1 : decode cX4_houseAt 1 = .ok (.ifCond .lt 20, 3) := by decide +kernel
theorem dX4_houseAt_4 : decode cX4_houseAt 4 = .ok (.iload_n 1, 1) := by decide +kernel
theorem dX4_houseAt_5 : decode cX4_houseAt 5 = .ok (.aload_n 0, 1) := by decide +kernel
theorem dX4_houseAt_6 : decode cX4_houseAt 6 = .ok (.getfield 21, 3) := by decide +kernel
theorem dX4_houseAt_9 : decode cX4_houseAt 9 = .ok (.if_icmp .ge 12, 3) := by decide +kernel
theorem dX4_houseAt_12 : decode cX4_houseAt 12 = .ok (.aload_n 0, 1) := by decide +kernel
theorem dX4_houseAt_13 : decode cX4_houseAt 13 = .ok (.getfield 9, 3) := by decide +kernel
theorem dX4_houseAt_16 : decode cX4_houseAt 16 = .ok (.iload_n 1, 1) := by decide +kernel
theorem dX4_houseAt_17 : decode cX4_houseAt 17 = .ok (.iaload, 1) := by decide +kernel
theorem dX4_houseAt_18 : decode cX4_houseAt 18 = .ok (.goto 4, 3) := by decide +kernel
theorem dX4_houseAt_21 : decode cX4_houseAt 21 = .ok (.iconst (-1), 1) := by decide +kernel
theorem dX4_houseAt_22 : decode cX4_houseAt 22 = .ok (.ireturn, 1) := by decide +kernel
theorem dX4_laneAt_0 : decode cX4_laneAt 0 = .ok (.iload_n 1, 1) := by decide +kernel
theorem dX4_laneAt_1 : decode cX4_laneAt 1 = .ok (.ifCond .lt 20, 3) := by decide +kernel
theorem dX4_laneAt_4 : decode cX4_laneAt 4 = .ok (.iload_n 1, 1) := by decide +kernel
theorem dX4_laneAt_5 : decode cX4_laneAt 5 = .ok (.aload_n 0, 1) := by decide +kernel
theorem dX4_laneAt_6 : decode cX4_laneAt 6 = .ok (.getfield 21, 3) := by decide +kernel
theorem dX4_laneAt_9 : decode cX4_laneAt 9 = .ok (.if_icmp .ge 12, 3) := by decide +kernel
theorem dX4_laneAt_12 : decode cX4_laneAt 12 = .ok (.aload_n 0, 1) := by decide +kernel
theorem dX4_laneAt_13 : decode cX4_laneAt 13 = .ok (.getfield 15, 3) := by decide +kernel
theorem dX4_laneAt_16 : decode cX4_laneAt 16 = .ok (.iload_n 1, 1) := by decide +kernel
theorem dX4_laneAt_17 : decode cX4_laneAt 17 = .ok (.iaload, 1) := by decide +kernel
theorem dX4_laneAt_18 : decode cX4_laneAt 18 = .ok (.goto 4, 3) := by decide +kernel
theorem dX4_laneAt_21 : decode cX4_laneAt 21 = .ok (.iconst (-1), 1) := by decide +kernel
theorem dX4_laneAt_22 : decode cX4_laneAt 22 = .ok (.ireturn, 1) := by decide +kernel
theorem dX4_placeOf_0 : decode cX4_placeOf 0 = .ok (.iconst 0, 1) := by decide +kernel
theorem dX4_placeOf_1 : decode cX4_placeOf 1 = .ok (.istore_n 2, 1) := by decide +kernel
theorem dX4_placeOf_2 : decode cX4_placeOf 2 = .ok (.iload_n 2, 1) := by decide +kernel
theorem dX4_placeOf_3 : decode cX4_placeOf 3 = .ok (.aload_n 0, 1) := by decide +kernel
theorem dX4_placeOf_4 : decode cX4_placeOf 4 = .ok (.getfield 21, 3) := by decide +kernel
theorem dX4_placeOf_7 : decode cX4_placeOf 7 = .ok (.if_icmp .ge 21, 3) := by decide +kernel
theorem dX4_placeOf_10 : decode cX4_placeOf 10 = .ok (.aload_n 0, 1) := by decide +kernel
theorem dX4_placeOf_11 : decode cX4_placeOf 11 = .ok (.getfield 9, 3) := by decide +kernel
theorem dX4_placeOf_14 : decode cX4_placeOf 14 = .ok (.iload_n 2, 1) := by decide +kernel
theorem dX4_placeOf_15 : decode cX4_placeOf 15 = .ok (.iaload, 1) := by decide +kernel
theorem dX4_placeOf_16 : decode cX4_placeOf 16 = .ok (.iload_n 1, 1) := by decide +kernel
theorem dX4_placeOf_17 : decode cX4_placeOf 17 = .ok (.if_icmp .ne 5, 3) := by decide +kernel
theorem dX4_placeOf_20 : decode cX4_placeOf 20 = .ok (.iload_n 2, 1) := by decide +kernel
theorem dX4_placeOf_21 : decode cX4_placeOf 21 = .ok (.ireturn, 1) := by decide +kernel
theorem dX4_placeOf_22 : decode cX4_placeOf 22 = .ok (.iinc 2 1, 3) := by decide +kernel
theorem dX4_placeOf_25 : decode cX4_placeOf 25 = .ok (.goto (-23), 3) := by decide +kernel
theorem dX4_placeOf_28 : decode cX4_placeOf 28 = .ok (.iconst (-1), 1) := by decide +kernel
theorem dX4_placeOf_29 : decode cX4_placeOf 29 = .ok (.ireturn, 1) := by decide +kernel
theorem dX4_targetFor_0 : decode cX4_targetFor 0 = .ok (.iload_n 1, 1) := by decide +kernel
theorem dX4_targetFor_1 : decode cX4_targetFor 1 = .ok (.ifCond .lt 18, 3) := by decide +kernel
theorem dX4_targetFor_4 : decode cX4_targetFor 4 = .ok (.iload_n 1, 1) := by decide +kernel
theorem dX4_targetFor_5 : decode cX4_targetFor 5 = .ok (.bipush 14, 2) := by decide +kernel
theorem dX4_targetFor_7 : decode cX4_targetFor 7 = .ok (.if_icmp .ge 12, 3) := by decide +kernel
theorem dX4_targetFor_10 : decode cX4_targetFor 10 = .ok (.aload_n 0, 1) := by decide +kernel
theorem dX4_targetFor_11 : decode cX4_targetFor 11 = .ok (.getfield 18, 3) := by decide +kernel
theorem dX4_targetFor_14 : decode cX4_targetFor 14 = .ok (.iload_n 1, 1) := by decide +kernel
theorem dX4_targetFor_15 : decode cX4_targetFor 15 = .ok (.iaload, 1) := by decide +kernel
theorem dX4_targetFor_16 : decode cX4_targetFor 16 = .ok (.goto 4, 3) := by decide +kernel
theorem dX4_targetFor_19 : decode cX4_targetFor 19 = .ok (.iconst (-1), 1) := by decide +kernel
theorem dX4_targetFor_20 : decode cX4_targetFor 20 = .ok (.ireturn, 1) := by decide +kernel
set_option maxRecDepth 20000 in
theorem ggX4_read_X4_append : GoodIn wsX4_read wsX4_append := goodIn_r _ [7, 1, 8, 9, 10, 11, 12, 13, 14, 15, 16, 17, 18, 6, 19, 20, 21, 22, 23, 24, 25, 26, 27, 28, 29, 30, 31, 32, 33, 34, 35, 36, 37, 38, 39, 40, 41, 53, 54, 55, 56, 57, 58, 59, 60, 61, 62, 63, 64, 65, 66] (by decide +kernel) (by decide +kernel)
set_option maxRecDepth 20000 in
theorem gX4_read_X4_append : GoodIn wsX4_read (wsV RX4 26 RX4 yX4_append wsX4_append) := goodIn_app (goodIn_of _ (by decide +kernel)) ggX4_read_X4_append
set_option maxRecDepth 20000 in
theorem ggX4_read_X4_findTargets : GoodIn wsX4_read wsX4_findTargets := goodIn_r _ [45, 46, 1, 8, 47, 48, 49, 13, 50, 51, 52, 11, 12, 14, 15, 53, 54, 55, 56, 57, 58, 59, 60, 61] (by decide +kernel) (by decide +kernel)
set_option maxRecDepth 20000 in
theorem gX4_read_X4_findTargets : GoodIn wsX4_read (wsV RX4 30 RX4 yX4_findTargets wsX4_findTargets) := goodIn_app (goodIn_of _ (by decide +kernel)) ggX4_read_X4_findTargets
theorem dX4_read_0 : decode cX4_read 0 = .ok (.aload_n 0, 1) := by decide +kernel
theorem dX4_read_1 : decode cX4_read 1 = .ok (.iconst 0, 1) := by decide +kernel
theorem dX4_read_2 : decode cX4_read 2 = .ok (.putfield 21, 3) := by decide +kernel
theorem dX4_read_5 : decode cX4_read 5 = .ok (.iload_n 1, 1) := by decide +kernel
theorem dX4_read_6 : decode cX4_read 6 = .ok (.iconst 1, 1) := by decide +kernel
theorem dX4_read_7 : decode cX4_read 7 = .ok (.if_icmp .lt 9, 3) := by decide +kernel
theorem dX4_read_10 : decode cX4_read 10 = .ok (.iload_n 1, 1) := by decide +kernel
theorem dX4_read_11 : decode cX4_read 11 = .ok (.ldc 25, 2) := by decide +kernel
theorem dX4_read_13 : decode cX4_read 13 = .ok (.if_icmp .lt 5, 3) := by decide +kernel
theorem dX4_read_16 : decode cX4_read 16 = .ok (.iconst 0, 1) := by decide +kernel
theorem dX4_read_17 : decode cX4_read 17 = .ok (.ireturn, 1) := by decide +kernel
theorem dX4_read_18 : decode cX4_read 18 = .ok (.bipush 6, 2) := by decide +kernel
theorem dX4_read_20 : decode cX4_read 20 = .ok (.istore_n 3, 1) := by decide +kernel
theorem dX4_read_21 : decode cX4_read 21 = .ok (.iload_n 3, 1) := by decide +kernel
theorem dX4_read_22 : decode cX4_read 22 = .ok (.ifCond .lt 38, 3) := by decide +kernel
theorem dX4_read_25 : decode cX4_read 25 = .ok (.iload_n 1, 1) := by decide +kernel
theorem dX4_read_26 : decode cX4_read 26 = .ok (.iconst 4, 1) := by decide +kernel
theorem dX4_read_27 : decode cX4_read 27 = .ok (.iload_n 3, 1) := by decide +kernel
theorem dX4_read_28 : decode cX4_read 28 = .ok (.imul, 1) := by decide +kernel
theorem dX4_read_29 : decode cX4_read 29 = .ok (.ishr, 1) := by decide +kernel
theorem dX4_read_30 : decode cX4_read 30 = .ok (.istore 4, 2) := by decide +kernel
theorem dX4_read_32 : decode cX4_read 32 = .ok (.iload 4, 2) := by decide +kernel
theorem dX4_read_34 : decode cX4_read 34 = .ok (.ifCond .le 20, 3) := by decide +kernel
theorem dX4_read_37 : decode cX4_read 37 = .ok (.aload_n 0, 1) := by decide +kernel
theorem dX4_read_38 : decode cX4_read 38 = .ok (.iload 4, 2) := by decide +kernel
theorem dX4_read_40 : decode cX4_read 40 = .ok (.bipush 15, 2) := by decide +kernel
theorem dX4_read_42 : decode cX4_read 42 = .ok (.iand, 1) := by decide +kernel
theorem dX4_read_43 : decode cX4_read 43 = .ok (.iconst 1, 1) := by decide +kernel
theorem dX4_read_44 : decode cX4_read 44 = .ok (.isub, 1) := by decide +kernel
theorem dX4_read_45 : decode cX4_read 45 = .ok (.aload_n 2, 1) := by decide +kernel
theorem dX4_read_46 : decode cX4_read 46 = .ok (.invokevirtual 26, 3) := by decide +kernel
theorem dX4_read_49 : decode cX4_read 49 = .ok (.ifCond .ne 5, 3) := by decide +kernel
theorem dX4_read_52 : decode cX4_read 52 = .ok (.iconst 0, 1) := by decide +kernel
theorem dX4_read_53 : decode cX4_read 53 = .ok (.ireturn, 1) := by decide +kernel
theorem dX4_read_54 : decode cX4_read 54 = .ok (.iinc 3 (-1), 3) := by decide +kernel
theorem dX4_read_57 : decode cX4_read 57 = .ok (.goto (-36), 3) := by decide +kernel
theorem dX4_read_60 : decode cX4_read 60 = .ok (.aload_n 0, 1) := by decide +kernel
theorem dX4_read_61 : decode cX4_read 61 = .ok (.aload_n 2, 1) := by decide +kernel
theorem dX4_read_62 : decode cX4_read 62 = .ok (.invokevirtual 30, 3) := by decide +kernel
theorem dX4_read_65 : decode cX4_read 65 = .ok (.iconst 1, 1) := by decide +kernel
theorem dX4_read_66 : decode cX4_read 66 = .ok (.ireturn, 1) := by decide +kernel
set_option maxRecDepth 20000 in
theorem ggX4_append_X5_hasHouse : GoodIn wsX4_append wsX5_hasHouse := goodIn_r _ [8, 9, 41, 42, 43, 44, 45] (by decide +kernel) (by decide +kernel)
set_option maxRecDepth 20000 in
theorem gX4_append_X5_hasHouse : GoodIn wsX4_append (wsV RX4 34 RX5 yX5_hasHouse wsX5_hasHouse) := goodIn_app (goodIn_of _ (by decide +kernel)) ggX4_append_X5_hasHouse
set_option maxRecDepth 20000 in
theorem ggX4_append_X4_placeOf : GoodIn wsX4_append wsX4_placeOf := goodIn_r _ [14, 1, 2, 37, 38, 39, 40] (by decide +kernel) (by decide +kernel)
set_option maxRecDepth 20000 in
theorem gX4_append_X4_placeOf : GoodIn wsX4_append (wsV RX4 40 RX4 yX4_placeOf wsX4_placeOf) := goodIn_app (goodIn_of _ (by decide +kernel)) ggX4_append_X4_placeOf
set_option maxRecDepth 20000 in
theorem ggX4_append_X5_shortestLane : GoodIn wsX4_append wsX5_shortestLane := goodIn_r _ [18, 19, 20, 21, 22, 23, 24, 25, 26, 27, 28, 29, 30, 31, 7, 32, 33, 34, 35, 36, 41, 42, 43, 44, 45, 46, 47, 48, 49, 50] (by decide +kernel) (by decide +kernel)
set_option maxRecDepth 20000 in
theorem gX4_append_X5_shortestLane : GoodIn wsX4_append (wsV RX4 44 RX5 yX5_shortestLane wsX5_shortestLane) := goodIn_app (goodIn_of _ (by decide +kernel)) ggX4_append_X5_shortestLane
theorem dX4_append_0 : decode cX4_append 0 = .ok (.aload_n 2, 1) := by decide +kernel
theorem dX4_append_1 : decode cX4_append 1 = .ok (.iload_n 1, 1) := by decide +kernel
theorem dX4_append_2 : decode cX4_append 2 = .ok (.invokevirtual 34, 3) := by decide +kernel
theorem dX4_append_5 : decode cX4_append 5 = .ok (.ifCond .eq 21, 3) := by decide +kernel
theorem dX4_append_8 : decode cX4_append 8 = .ok (.aload_n 0, 1) := by decide +kernel
theorem dX4_append_9 : decode cX4_append 9 = .ok (.iload_n 1, 1) := by decide +kernel
theorem dX4_append_10 : decode cX4_append 10 = .ok (.invokevirtual 40, 3) := by decide +kernel
theorem dX4_append_13 : decode cX4_append 13 = .ok (.iconst (-1), 1) := by decide +kernel
theorem dX4_append_14 : decode cX4_append 14 = .ok (.if_icmp .ne 12, 3) := by decide +kernel
theorem dX4_append_17 : decode cX4_append 17 = .ok (.aload_n 0, 1) := by decide +kernel
theorem dX4_append_18 : decode cX4_append 18 = .ok (.getfield 21, 3) := by decide +kernel
theorem dX4_append_21 : decode cX4_append 21 = .ok (.bipush 7, 2) := by decide +kernel
theorem dX4_append_23 : decode cX4_append 23 = .ok (.if_icmp .lt 5, 3) := by decide +kernel
theorem dX4_append_26 : decode cX4_append 26 = .ok (.iconst 0, 1) := by decide +kernel
theorem dX4_append_27 : decode cX4_append 27 = .ok (.ireturn, 1) := by decide +kernel
theorem dX4_append_28 : decode cX4_append 28 = .ok (.aload_n 0, 1) := by decide +kernel
theorem dX4_append_29 : decode cX4_append 29 = .ok (.getfield 21, 3) := by decide +kernel
theorem dX4_append_32 : decode cX4_append 32 = .ok (.ifCond .le 39, 3) := by decide +kernel
theorem dX4_append_35 : decode cX4_append 35 = .ok (.aload_n 2, 1) := by decide +kernel
theorem dX4_append_36 : decode cX4_append 36 = .ok (.aload_n 0, 1) := by decide +kernel
theorem dX4_append_37 : decode cX4_append 37 = .ok (.getfield 9, 3) := by decide +kernel
theorem dX4_append_40 : decode cX4_append 40 = .ok (.aload_n 0, 1) := by decide +kernel
theorem dX4_append_41 : decode cX4_append 41 = .ok (.getfield 21, 3) := by decide +kernel
theorem dX4_append_44 : decode cX4_append 44 = .ok (.iconst 1, 1) := by decide +kernel
theorem dX4_append_45 : decode cX4_append 45 = .ok (.isub, 1) := by decide +kernel
theorem dX4_append_46 : decode cX4_append 46 = .ok (.iaload, 1) := by decide +kernel
theorem dX4_append_47 : decode cX4_append 47 = .ok (.iload_n 1, 1) := by decide +kernel
theorem dX4_append_48 : decode cX4_append 48 = .ok (.invokevirtual 44, 3) := by decide +kernel
theorem dX4_append_51 : decode cX4_append 51 = .ok (.istore_n 3, 1) := by decide +kernel
theorem dX4_append_52 : decode cX4_append 52 = .ok (.iload_n 3, 1) := by decide +kernel
theorem dX4_append_53 : decode cX4_append 53 = .ok (.iconst (-1), 1) := by decide +kernel
theorem dX4_append_54 : decode cX4_append 54 = .ok (.if_icmp .ne 5, 3) := by decide +kernel
theorem dX4_append_57 : decode cX4_append 57 = .ok (.iconst 0, 1) := by decide +kernel
theorem dX4_append_58 : decode cX4_append 58 = .ok (.ireturn, 1) := by decide +kernel
theorem dX4_append_59 : decode cX4_append 59 = .ok (.aload_n 0, 1) := by decide +kernel
theorem dX4_append_60 : decode cX4_append 60 = .ok (.getfield 15, 3) := by decide +kernel
theorem dX4_append_63 : decode cX4_append 63 = .ok (.aload_n 0, 1) := by decide +kernel
theorem dX4_append_64 : decode cX4_append 64 = .ok (.getfield 21, 3) := by decide +kernel
theorem dX4_append_67 : decode cX4_append 67 = .ok (.iconst 1, 1) := by decide +kernel
theorem dX4_append_68 : decode cX4_append 68 = .ok (.isub, 1) := by decide +kernel
theorem dX4_append_69 : decode cX4_append 69 = .ok (.iload_n 3, 1) := by decide +kernel
theorem dX4_append_70 : decode cX4_append 70 = .ok (.iastore, 1) := by decide +kernel
theorem dX4_append_71 : decode cX4_append 71 = .ok (.aload_n 0, 1) := by decide +kernel
theorem dX4_append_72 : decode cX4_append 72 = .ok (.getfield 15, 3) := by decide +kernel
theorem dX4_append_75 : decode cX4_append 75 = .ok (.aload_n 0, 1) := by decide +kernel
theorem dX4_append_76 : decode cX4_append 76 = .ok (.getfield 21, 3) := by decide +kernel
theorem dX4_append_79 : decode cX4_append 79 = .ok (.iconst (-1), 1) := by decide +kernel
theorem dX4_append_80 : decode cX4_append 80 = .ok (.iastore, 1) := by decide +kernel
theorem dX4_append_81 : decode cX4_append 81 = .ok (.aload_n 0, 1) := by decide +kernel
theorem dX4_append_82 : decode cX4_append 82 = .ok (.getfield 9, 3) := by decide +kernel
theorem dX4_append_85 : decode cX4_append 85 = .ok (.aload_n 0, 1) := by decide +kernel
theorem dX4_append_86 : decode cX4_append 86 = .ok (.getfield 21, 3) := by decide +kernel
theorem dX4_append_89 : decode cX4_append 89 = .ok (.iload_n 1, 1) := by decide +kernel
theorem dX4_append_90 : decode cX4_append 90 = .ok (.iastore, 1) := by decide +kernel
theorem dX4_append_91 : decode cX4_append 91 = .ok (.aload_n 0, 1) := by decide +kernel
theorem dX4_append_92 : decode cX4_append 92 = .ok (.dup, 1) := by decide +kernel
theorem dX4_append_93 : decode cX4_append 93 = .ok (.getfield 21, 3) := by decide +kernel
theorem dX4_append_96 : decode cX4_append 96 = .ok (.iconst 1, 1) := by decide +kernel
theorem dX4_append_97 : decode cX4_append 97 = .ok (.iadd, 1) := by decide +kernel
theorem dX4_append_98 : decode cX4_append 98 = .ok (.putfield 21, 3) := by decide +kernel
theorem dX4_append_101 : decode cX4_append 101 = .ok (.iconst 1, 1) := by decide +kernel
theorem dX4_append_102 : decode cX4_append 102 = .ok (.ireturn, 1) := by decide +kernel
set_option maxRecDepth 20000 in
theorem ggX4_findTargets_X5_wayBetween : GoodIn wsX4_findTargets wsX5_wayBetween := goodIn_r _ [8, 9, 10, 11, 12, 7, 13, 14, 19, 20, 21, 22, 23] (by decide +kernel) (by decide +kernel)
set_option maxRecDepth 20000 in
theorem gX4_findTargets_X5_wayBetween : GoodIn wsX4_findTargets (wsV RX4 48 RX5 yX5_wayBetween wsX5_wayBetween) := goodIn_app (goodIn_of _ (by decide +kernel)) ggX4_findTargets_X5_wayBetween
theorem dX4_findTargets_0 : decode cX4_findTargets 0 = .ok (.iconst 0, 1) := by decide +kernel
theorem dX4_findTargets_1 : decode cX4_findTargets 1 = .ok (.istore_n 2, 1) := by decide +kernel
theorem dX4_findTargets_2 : decode cX4_findTargets 2 = .ok (.iload_n 2, 1) := by decide +kernel
theorem dX4_findTargets_3 : decode cX4_findTargets 3 = .ok (.bipush 14, 2) := by decide +kernel
theorem dX4_findTargets_5 : decode cX4_findTargets 5 = .ok (.if_icmp .ge 74, 3) := by decide +kernel
theorem dX4_findTargets_8 : decode cX4_findTargets 8 = .ok (.sipush 1000, 3) := by decide +kernel
theorem dX4_findTargets_11 : decode cX4_findTargets 11 = .ok (.istore_n 3, 1) := by decide +kernel
theorem dX4_findTargets_12 : decode cX4_findTargets 12 = .ok (.aload_n 0, 1) := by decide +kernel
theorem dX4_findTargets_13 : decode cX4_findTargets 13 = .ok (.getfield 18, 3) := by decide +kernel
theorem dX4_findTargets_16 : decode cX4_findTargets 16 = .ok (.iload_n 2, 1) := by decide +kernel
theorem dX4_findTargets_17 : decode cX4_findTargets 17 = .ok (.iconst (-1), 1) := by decide +kernel
theorem dX4_findTargets_18 : decode cX4_findTargets 18 = .ok (.iastore, 1) := by decide +kernel
theorem dX4_findTargets_19 : decode cX4_findTargets 19 = .ok (.iconst 0, 1) := by decide +kernel
theorem dX4_findTargets_20 : decode cX4_findTargets 20 = .ok (.istore 4, 2) := by decide +kernel
theorem dX4_findTargets_22 : decode cX4_findTargets 22 = .ok (.iload 4, 2) := by decide +kernel
theorem dX4_findTargets_24 : decode cX4_findTargets 24 = .ok (.aload_n 0, 1) := by decide +kernel
theorem dX4_findTargets_25 : decode cX4_findTargets 25 = .ok (.getfield 21, 3) := by decide +kernel
theorem dX4_findTargets_28 : decode cX4_findTargets 28 = .ok (.if_icmp .ge 45, 3) := by decide +kernel
theorem dX4_findTargets_31 : decode cX4_findTargets 31 = .ok (.aload_n 1, 1) := by decide +kernel
theorem dX4_findTargets_32 : decode cX4_findTargets 32 = .ok (.aload_n 0, 1) := by decide +kernel
theorem dX4_findTargets_33 : decode cX4_findTargets 33 = .ok (.getfield 9, 3) := by decide +kernel
theorem dX4_findTargets_36 : decode cX4_findTargets 36 = .ok (.iload 4, 2) := by decide +kernel
theorem dX4_findTargets_38 : decode cX4_findTargets 38 = .ok (.iaload, 1) := by decide +kernel
theorem dX4_findTargets_39 : decode cX4_findTargets 39 = .ok (.iload_n 2, 1) := by decide +kernel
theorem dX4_findTargets_40 : decode cX4_findTargets 40 = .ok (.invokevirtual 48, 3) := by decide +kernel
theorem dX4_findTargets_43 : decode cX4_findTargets 43 = .ok (.istore 5, 2) := by decide +kernel
theorem dX4_findTargets_45 : decode cX4_findTargets 45 = .ok (.iload 5, 2) := by decide +kernel
theorem dX4_findTargets_47 : decode cX4_findTargets 47 = .ok (.iload_n 3, 1) := by decide +kernel
theorem dX4_findTargets_48 : decode cX4_findTargets 48 = .ok (.if_icmp .ge 19, 3) := by decide +kernel
theorem dX4_findTargets_51 : decode cX4_findTargets 51 = .ok (.iload 5, 2) := by decide +kernel
theorem dX4_findTargets_53 : decode cX4_findTargets 53 = .ok (.istore_n 3, 1) := by decide +kernel
theorem dX4_findTargets_54 : decode cX4_findTargets 54 = .ok (.aload_n 0, 1) := by decide +kernel
theorem dX4_findTargets_55 : decode cX4_findTargets 55 = .ok (.getfield 18, 3) := by decide +kernel
theorem dX4_findTargets_58 : decode cX4_findTargets 58 = .ok (.iload_n 2, 1) := by decide +kernel
theorem dX4_findTargets_59 : decode cX4_findTargets 59 = .ok (.aload_n 0, 1) := by decide +kernel
theorem dX4_findTargets_60 : decode cX4_findTargets 60 = .ok (.getfield 9, 3) := by decide +kernel
theorem dX4_findTargets_63 : decode cX4_findTargets 63 = .ok (.iload 4, 2) := by decide +kernel
theorem dX4_findTargets_65 : decode cX4_findTargets 65 = .ok (.iaload, 1) := by decide +kernel
theorem dX4_findTargets_66 : decode cX4_findTargets 66 = .ok (.iastore, 1) := by decide +kernel
theorem dX4_findTargets_67 : decode cX4_findTargets 67 = .ok (.iinc 4 1, 3) := by decide +kernel
theorem dX4_findTargets_70 : decode cX4_findTargets 70 = .ok (.goto (-48), 3) := by decide +kernel
theorem dX4_findTargets_73 : decode cX4_findTargets 73 = .ok (.iinc 2 1, 3) := by decide +kernel
theorem dX4_findTargets_76 : decode cX4_findTargets 76 = .ok (.goto (-74), 3) := by decide +kernel
theorem dX4_findTargets_79 : decode cX4_findTargets 79 = .ok (.return_, 1) := by decide +kernel
theorem dX4_copyFrom_0 : decode cX4_copyFrom 0 = .ok (.aload_n 0, 1) := by decide +kernel
theorem dX4_copyFrom_1 : decode cX4_copyFrom 1 = .ok (.aload_n 1, 1) := by decide +kernel
theorem dX4_copyFrom_2 : decode cX4_copyFrom 2 = .ok (.getfield 21, 3) := by decide +kernel
theorem dX4_copyFrom_5 : decode cX4_copyFrom 5 = .ok (.putfield 21, 3) := by decide +kernel
theorem dX4_copyFrom_8 : decode cX4_copyFrom 8 = .ok (.aload_n 1, 1) := by decide +kernel
theorem dX4_copyFrom_9 : decode cX4_copyFrom 9 = .ok (.getfield 9, 3) := by decide +kernel
theorem dX4_copyFrom_12 : decode cX4_copyFrom 12 = .ok (.iconst 0, 1) := by decide +kernel
theorem dX4_copyFrom_13 : decode cX4_copyFrom 13 = .ok (.aload_n 0, 1) := by decide +kernel
theorem dX4_copyFrom_14 : decode cX4_copyFrom 14 = .ok (.getfield 9, 3) := by decide +kernel
theorem dX4_copyFrom_17 : decode cX4_copyFrom 17 = .ok (.iconst 0, 1) := by decide +kernel
theorem dX4_copyFrom_18 : decode cX4_copyFrom 18 = .ok (.bipush 7, 2) := by decide +kernel
theorem dX4_copyFrom_20 : decode cX4_copyFrom 20 = .ok (.invokestatic 51, 3) := by decide +kernel
theorem dX4_copyFrom_23 : decode cX4_copyFrom 23 = .ok (.aload_n 1, 1) := by decide +kernel
theorem dX4_copyFrom_24 : decode cX4_copyFrom 24 = .ok (.getfield 15, 3) := by decide +kernel
theorem dX4_copyFrom_27 : decode cX4_copyFrom 27 = .ok (.iconst 0, 1) := by decide +kernel
theorem dX4_copyFrom_28 : decode cX4_copyFrom 28 = .ok (.aload_n 0, 1) := by decide +kernel
theorem dX4_copyFrom_29 : decode cX4_copyFrom 29 = .ok (.getfield 15, 3) := by decide +kernel
theorem dX4_copyFrom_32 : decode cX4_copyFrom 32 = .ok (.iconst 0, 1) := by decide +kernel
theorem dX4_copyFrom_33 : decode cX4_copyFrom 33 = .ok (.bipush 7, 2) := by decide +kernel
theorem dX4_copyFrom_35 : decode cX4_copyFrom 35 = .ok (.invokestatic 51, 3) := by decide +kernel
theorem dX4_copyFrom_38 : decode cX4_copyFrom 38 = .ok (.aload_n 1, 1) := by decide +kernel
theorem dX4_copyFrom_39 : decode cX4_copyFrom 39 = .ok (.getfield 18, 3) := by decide +kernel
theorem dX4_copyFrom_42 : decode cX4_copyFrom 42 = .ok (.iconst 0, 1) := by decide +kernel
theorem dX4_copyFrom_43 : decode cX4_copyFrom 43 = .ok (.aload_n 0, 1) := by decide +kernel
theorem dX4_copyFrom_44 : decode cX4_copyFrom 44 = .ok (.getfield 18, 3) := by decide +kernel
theorem dX4_copyFrom_47 : decode cX4_copyFrom 47 = .ok (.iconst 0, 1) := by decide +kernel
theorem dX4_copyFrom_48 : decode cX4_copyFrom 48 = .ok (.bipush 14, 2) := by decide +kernel
theorem dX4_copyFrom_50 : decode cX4_copyFrom 50 = .ok (.invokestatic 51, 3) := by decide +kernel
theorem dX4_copyFrom_53 : decode cX4_copyFrom 53 = .ok (.return_, 1) := by decide +kernel
set_option maxRecDepth 20000 in
theorem ggX5_init_X2_init : GoodIn wsX5_init wsX2_init := goodIn_r _ [14, 15, 2, 3] (by decide +kernel) (by decide +kernel)
set_option maxRecDepth 20000 in
theorem gX5_init_X2_init_n21 : GoodIn wsX5_init (wsX2_init) := ggX5_init_X2_init
theorem dX5_init_0 : decode cX5_init 0 = .ok (.aload_n 0, 1) := by decide +kernel
theorem dX5_init_1 : decode cX5_init 1 = .ok (.invokespecial 3, 3) := by decide +kernel
theorem dX5_init_4 : decode cX5_init 4 = .ok (.aload_n 0, 1) := by decide +kernel
theorem dX5_init_5 : decode cX5_init 5 = .ok (.bipush 14, 2) := by decide +kernel
theorem dX5_init_7 : decode cX5_init 7 = .ok (.newarray .boolean, 2) := by decide +kernel
theorem dX5_init_9 : decode cX5_init 9 = .ok (.putfield 9, 3) := by decide +kernel
theorem dX5_init_12 : decode cX5_init 12 = .ok (.aload_n 0, 1) := by decide +kernel
theorem dX5_init_13 : decode cX5_init 13 = .ok (.bipush 24, 2) := by decide +kernel
theorem dX5_init_15 : decode cX5_init 15 = .ok (.anewarray 15, 3) := by decide +kernel
theorem dX5_init_18 : decode cX5_init 18 = .ok (.putfield 17, 3) := by decide +kernel
theorem dX5_init_21 : decode cX5_init 21 = .ok (.iconst 0, 1) := by decide +kernel
theorem dX5_init_22 : decode cX5_init 22 = .ok (.istore_n 1, 1) := by decide +kernel
theorem dX5_init_23 : decode cX5_init 23 = .ok (.iload_n 1, 1) := by decide +kernel
theorem dX5_init_24 : decode cX5_init 24 = .ok (.bipush 24, 2) := by decide +kernel
theorem dX5_init_26 : decode cX5_init 26 = .ok (.if_icmp .ge 22, 3) := by decide +kernel
theorem dX5_init_29 : decode cX5_init 29 = .ok (.aload_n 0, 1) := by decide +kernel
theorem dX5_init_30 : decode cX5_init 30 = .ok (.getfield 17, 3) := by decide +kernel
theorem dX5_init_33 : decode cX5_init 33 = .ok (.iload_n 1, 1) := by decide +kernel
theorem dX5_init_34 : decode cX5_init 34 = .ok (.new 15, 3) := by decide +kernel
theorem dX5_init_37 : decode cX5_init 37 = .ok (.dup, 1) := by decide +kernel
theorem dX5_init_38 : decode cX5_init 38 = .ok (.invokespecial 21, 3) := by decide +kernel
theorem dX5_init_41 : decode cX5_init 41 = .ok (.aastore, 1) := by decide +kernel
theorem dX5_init_42 : decode cX5_init 42 = .ok (.iinc 1 1, 3) := by decide +kernel
theorem dX5_init_45 : decode cX5_init 45 = .ok (.goto (-22), 3) := by decide +kernel
theorem dX5_init_48 : decode cX5_init 48 = .ok (.aload_n 0, 1) := by decide +kernel
theorem dX5_init_49 : decode cX5_init 49 = .ok (.bipush 14, 2) := by decide +kernel
theorem dX5_init_51 : decode cX5_init 51 = .ok (.bipush 14, 2) := by decide +kernel
theorem dX5_init_53 : decode cX5_init 53 = .ok (.multianewarray 22 2, 4) := by decide +kernel
theorem dX5_init_57 : decode cX5_init 57 = .ok (.putfield 24, 3) := by decide +kernel
theorem dX5_init_60 : decode cX5_init 60 = .ok (.iconst 0, 1) := by decide +kernel
theorem dX5_init_61 : decode cX5_init 61 = .ok (.istore_n 1, 1) := by decide +kernel
theorem dX5_init_62 : decode cX5_init 62 = .ok (.iload_n 1, 1) := by decide +kernel
theorem dX5_init_63 : decode cX5_init 63 = .ok (.bipush 14, 2) := by decide +kernel
theorem dX5_init_65 : decode cX5_init 65 = .ok (.if_icmp .ge 43, 3) := by decide +kernel
theorem dX5_init_68 : decode cX5_init 68 = .ok (.iconst 0, 1) := by decide +kernel
theorem dX5_init_69 : decode cX5_init 69 = .ok (.istore_n 2, 1) := by decide +kernel
theorem dX5_init_70 : decode cX5_init 70 = .ok (.iload_n 2, 1) := by decide +kernel
theorem dX5_init_71 : decode cX5_init 71 = .ok (.bipush 14, 2) := by decide +kernel
theorem dX5_init_73 : decode cX5_init 73 = .ok (.if_icmp .ge 29, 3) := by decide +kernel
theorem dX5_init_76 : decode cX5_init 76 = .ok (.aload_n 0, 1) := by decide +kernel
theorem dX5_init_77 : decode cX5_init 77 = .ok (.getfield 24, 3) := by decide +kernel
theorem dX5_init_80 : decode cX5_init 80 = .ok (.iload_n 1, 1) := by decide +kernel
theorem dX5_init_81 : decode cX5_init 81 = .ok (.aaload, 1) := by decide +kernel
theorem dX5_init_82 : decode cX5_init 82 = .ok (.iload_n 2, 1) := by decide +kernel
theorem dX5_init_83 : decode cX5_init 83 = .ok (.iload_n 1, 1) := by decide +kernel
theorem dX5_init_84 : decode cX5_init 84 = .ok (.iload_n 2, 1) := by decide +kernel
theorem dX5_init_85 : decode cX5_init 85 = .ok (.if_icmp .ne 7, 3) := by decide +kernel
theorem dX5_init_88 : decode cX5_init 88 = .ok (.iconst 0, 1) := by decide +kernel
theorem dX5_init_89 : decode cX5_init 89 = .ok (.goto 6, 3) := by decide +kernel
theorem dX5_init_92 : decode cX5_init 92 = .ok (.sipush 1000, 3) := by decide +kernel
theorem dX5_init_95 : decode cX5_init 95 = .ok (.iastore, 1) := by decide +kernel
theorem dX5_init_96 : decode cX5_init 96 = .ok (.iinc 2 1, 3) := by decide +kernel
theorem dX5_init_99 : decode cX5_init 99 = .ok (.goto (-29), 3) := by decide +kernel
theorem dX5_init_102 : decode cX5_init 102 = .ok (.iinc 1 1, 3) := by decide +kernel
theorem dX5_init_105 : decode cX5_init 105 = .ok (.goto (-43), 3) := by decide +kernel
theorem dX5_init_108 : decode cX5_init 108 = .ok (.return_, 1) := by decide +kernel
theorem dX5_hasHouse_0 : decode cX5_hasHouse 0 = .ok (.iload_n 1, 1) := by decide +kernel
theorem dX5_hasHouse_1 : decode cX5_hasHouse 1 = .ok (.ifCond .lt 15, 3) := by decide +kernel
theorem dX5_hasHouse_4 : decode cX5_hasHouse 4 = .ok (.iload_n 1, 1) := by decide +kernel
theorem dX5_hasHouse_5 : decode cX5_hasHouse 5 = .ok (.aload_n 0, 1) := by decide +kernel
theorem dX5_hasHouse_6 : decode cX5_hasHouse 6 = .ok (.getfield 27, 3) := by decide +kernel
theorem dX5_hasHouse_9 : decode cX5_hasHouse 9 = .ok (.if_icmp .ge 7, 3) := by decide +kernel
theorem dX5_hasHouse_12 : decode cX5_hasHouse 12 = .ok (.iconst 1, 1) := by decide +kernel
theorem dX5_hasHouse_13 : decode cX5_hasHouse 13 = .ok (.goto 4, 3) := by decide +kernel
theorem dX5_hasHouse_16 : decode cX5_hasHouse 16 = .ok (.iconst 0, 1) := by decide +kernel
theorem dX5_hasHouse_17 : decode cX5_hasHouse 17 = .ok (.ireturn, 1) := by decide +kernel
theorem dX5_hasLane_0 : decode cX5_hasLane 0 = .ok (.iload_n 1, 1) := by decide +kernel
theorem dX5_hasLane_1 : decode cX5_hasLane 1 = .ok (.ifCond .lt 15, 3) := by decide +kernel
theorem dX5_hasLane_4 : decode cX5_hasLane 4 = .ok (.iload_n 1, 1) := by decide +kernel
theorem dX5_hasLane_5 : decode cX5_hasLane 5 = .ok (.aload_n 0, 1) := by decide +kernel
theorem dX5_hasLane_6 : decode cX5_hasLane 6 = .ok (.getfield 31, 3) := by decide +kernel
theorem dX5_hasLane_9 : decode cX5_hasLane 9 = .ok (.if_icmp .ge 7, 3) := by decide +kernel
theorem dX5_hasLane_12 : decode cX5_hasLane 12 = .ok (.iconst 1, 1) := by decide +kernel
theorem dX5_hasLane_13 : decode cX5_hasLane 13 = .ok (.goto 4, 3) := by decide +kernel
theorem dX5_hasLane_16 : decode cX5_hasLane 16 = .ok (.iconst 0, 1) := by decide +kernel
theorem dX5_hasLane_17 : decode cX5_hasLane 17 = .ok (.ireturn, 1) := by decide +kernel
set_option maxRecDepth 20000 in
theorem ggX5_hasHive_X5_hasHouse : GoodIn wsX5_hasHive wsX5_hasHouse := goodIn_r _ [6, 7, 8, 9, 10, 11, 12] (by decide +kernel) (by decide +kernel)
set_option maxRecDepth 20000 in
theorem gX5_hasHive_X5_hasHouse : GoodIn wsX5_hasHive (wsV RX5 34 RX5 yX5_hasHouse wsX5_hasHouse) := goodIn_app (goodIn_of _ (by decide +kernel)) ggX5_hasHive_X5_hasHouse
theorem dX5_hasHive_0 : decode cX5_hasHive 0 = .ok (.aload_n 0, 1) := by decide +kernel
theorem dX5_hasHive_1 : decode cX5_hasHive 1 = .ok (.iload_n 1, 1) := by decide +kernel
theorem dX5_hasHive_2 : decode cX5_hasHive 2 = .ok (.invokevirtual 34, 3) := by decide +kernel
theorem dX5_hasHive_5 : decode cX5_hasHive 5 = .ok (.ifCond .eq 16, 3) := by decide +kernel
theorem dX5_hasHive_8 : decode cX5_hasHive 8 = .ok (.aload_n 0, 1) := by decide +kernel
theorem dX5_hasHive_9 : decode cX5_hasHive 9 = .ok (.getfield 9, 3) := by decide +kernel
theorem dX5_hasHive_12 : decode cX5_hasHive 12 = .ok (.iload_n 1, 1) := by decide +kernel
theorem dX5_hasHive_13 : decode cX5_hasHive 13 = .ok (.baload, 1) := by decide +kernel
theorem dX5_hasHive_14 : decode cX5_hasHive 14 = .ok (.ifCond .eq 7, 3) := by decide +kernel
theorem dX5_hasHive_17 : decode cX5_hasHive 17 = .ok (.iconst 1, 1) := by decide +kernel
theorem dX5_hasHive_18 : decode cX5_hasHive 18 = .ok (.goto 4, 3) := by decide +kernel
theorem dX5_hasHive_21 : decode cX5_hasHive 21 = .ok (.iconst 0, 1) := by decide +kernel
theorem dX5_hasHive_22 : decode cX5_hasHive 22 = .ok (.ireturn, 1) := by decide +kernel
set_option maxRecDepth 20000 in
theorem ggX5_isOpen_X5_hasLane : GoodIn wsX5_isOpen wsX5_hasLane := goodIn_r _ [6, 7, 15, 16, 17, 18, 19] (by decide +kernel) (by decide +kernel)
set_option maxRecDepth 20000 in
theorem gX5_isOpen_X5_hasLane : GoodIn wsX5_isOpen (wsV RX5 38 RX5 yX5_hasLane wsX5_hasLane) := goodIn_app (goodIn_of _ (by decide +kernel)) ggX5_isOpen_X5_hasLane
set_option maxRecDepth 20000 in
theorem ggX5_isOpen_X2_isOpen : GoodIn wsX5_isOpen wsX2_isOpen := goodIn_r _ [12, 13, 14, 20, 21, 22, 23, 24] (by decide +kernel) (by decide +kernel)
set_option maxRecDepth 20000 in
theorem gX5_isOpen_X2_isOpen : GoodIn wsX5_isOpen (wsV RX5 41 RX2 yX2_isOpen wsX2_isOpen) := goodIn_app (goodIn_of _ (by decide +kernel)) ggX5_isOpen_X2_isOpen
theorem dX5_isOpen_0 : decode cX5_isOpen 0 = .ok (.aload_n 0, 1) := by decide +kernel
theorem dX5_isOpen_1 : decode cX5_isOpen 1 = .ok (.iload_n 1, 1) := by decide +kernel
theorem dX5_isOpen_2 : decode cX5_isOpen 2 = .ok (.invokevirtual 38, 3) := by decide +kernel
theorem dX5_isOpen_5 : decode cX5_isOpen 5 = .ok (.ifCond .eq 20, 3) := by decide +kernel
theorem dX5_isOpen_8 : decode cX5_isOpen 8 = .ok (.aload_n 0, 1) := by decide +kernel
theorem dX5_isOpen_9 : decode cX5_isOpen 9 = .ok (.getfield 17, 3) := by decide +kernel
theorem dX5_isOpen_12 : decode cX5_isOpen 12 = .ok (.iload_n 1, 1) := by decide +kernel
theorem dX5_isOpen_13 : decode cX5_isOpen 13 = .ok (.aaload, 1) := by decide +kernel
theorem dX5_isOpen_14 : decode cX5_isOpen 14 = .ok (.iload_n 2, 1) := by decide +kernel
theorem dX5_isOpen_15 : decode cX5_isOpen 15 = .ok (.invokevirtual 41, 3) := by decide +kernel
theorem dX5_isOpen_18 : decode cX5_isOpen 18 = .ok (.ifCond .eq 7, 3) := by decide +kernel
theorem dX5_isOpen_21 : decode cX5_isOpen 21 = .ok (.iconst 1, 1) := by decide +kernel
theorem dX5_isOpen_22 : decode cX5_isOpen 22 = .ok (.goto 4, 3) := by decide +kernel
theorem dX5_isOpen_25 : decode cX5_isOpen 25 = .ok (.iconst 0, 1) := by decide +kernel
theorem dX5_isOpen_26 : decode cX5_isOpen 26 = .ok (.ireturn, 1) := by decide +kernel
set_option maxRecDepth 20000 in
theorem ggX5_lengthOf_X5_hasLane : GoodIn wsX5_lengthOf wsX5_hasLane := goodIn_r _ [7, 8, 9, 10, 11, 12, 13] (by decide +kernel) (by decide +kernel)
set_option maxRecDepth 20000 in
theorem gX5_lengthOf_X5_hasLane : GoodIn wsX5_lengthOf (wsV RX5 38 RX5 yX5_hasLane wsX5_hasLane) := goodIn_app (goodIn_of _ (by decide +kernel)) ggX5_lengthOf_X5_hasLane
theorem dX5_lengthOf_0 : decode cX5_lengthOf 0 = .ok (.aload_n 0, 1) := by decide +kernel
theorem dX5_lengthOf_1 : decode cX5_lengthOf 1 = .ok (.iload_n 1, 1) := by decide +kernel
theorem dX5_lengthOf_2 : decode cX5_lengthOf 2 = .ok (.invokevirtual 38, 3) := by decide +kernel
theorem dX5_lengthOf_5 : decode cX5_lengthOf 5 = .ok (.ifCond .eq 15, 3) := by decide +kernel
theorem dX5_lengthOf_8 : decode cX5_lengthOf 8 = .ok (.aload_n 0, 1) := by decide +kernel
theorem dX5_lengthOf_9 : decode cX5_lengthOf 9 = .ok (.getfield 17, 3) := by decide +kernel
theorem dX5_lengthOf_12 : decode cX5_lengthOf 12 = .ok (.iload_n 1, 1) := by decide +kernel
theorem dX5_lengthOf_13 : decode cX5_lengthOf 13 = .ok (.aaload, 1) := by decide +kernel
theorem dX5_lengthOf_14 : decode cX5_lengthOf 14 = .ok (.getfield 44, 3) := by decide +kernel
theorem dX5_lengthOf_17 : decode cX5_lengthOf 17 = .ok (.goto 6, 3) := by decide +kernel
theorem dX5_lengthOf_20 : decode cX5_lengthOf 20 = .ok (.sipush 1000, 3) := by decide +kernel
theorem dX5_lengthOf_23 : decode cX5_lengthOf 23 = .ok (.ireturn, 1) := by decide +kernel
set_option maxRecDepth 20000 in
theorem ggX5_wayBetween_X5_hasHouse : GoodIn wsX5_wayBetween wsX5_hasHouse := goodIn_r _ [6, 7, 8, 9, 10, 11, 12] (by decide +kernel) (by decide +kernel)
set_option maxRecDepth 20000 in
theorem gX5_wayBetween_X5_hasHouse : GoodIn wsX5_wayBetween (wsV RX5 34 RX5 yX5_hasHouse wsX5_hasHouse) := goodIn_app (goodIn_of _ (by decide +kernel)) ggX5_wayBetween_X5_hasHouse
theorem dX5_wayBetween_0 : decode cX5_wayBetween 0 = .ok (.aload_n 0, 1) := by decide +kernel
theorem dX5_wayBetween_1 : decode cX5_wayBetween 1 = .ok (.iload_n 1, 1) := by decide +kernel
theorem dX5_wayBetween_2 : decode cX5_wayBetween 2 = .ok (.invokevirtual 34, 3) := by decide +kernel
theorem dX5_wayBetween_5 : decode cX5_wayBetween 5 = .ok (.ifCond .eq 22, 3) := by decide +kernel
theorem dX5_wayBetween_8 : decode cX5_wayBetween 8 = .ok (.aload_n 0, 1) := by decide +kernel
theorem dX5_wayBetween_9 : decode cX5_wayBetween 9 = .ok (.iload_n 2, 1) := by decide +kernel
theorem dX5_wayBetween_10 : decode cX5_wayBetween 10 = .ok (.invokevirtual 34, 3) := by decide +kernel
theorem dX5_wayBetween_13 : decode cX5_wayBetween 13 = .ok (.ifCond .eq 14, 3) := by decide +kernel
theorem dX5_wayBetween_16 : decode cX5_wayBetween 16 = .ok (.aload_n 0, 1) := by decide +kernel
theorem dX5_wayBetween_17 : decode cX5_wayBetween 17 = .ok (.getfield 24, 3) := by decide +kernel
theorem dX5_wayBetween_20 : decode cX5_wayBetween 20 = .ok (.iload_n 1, 1) := by decide +kernel
theorem dX5_wayBetween_21 : decode cX5_wayBetween 21 = .ok (.aaload, 1) := by decide +kernel
theorem dX5_wayBetween_22 : decode cX5_wayBetween 22 = .ok (.iload_n 2, 1) := by decide +kernel
theorem dX5_wayBetween_23 : decode cX5_wayBetween 23 = .ok (.iaload, 1) := by decide +kernel
theorem dX5_wayBetween_24 : decode cX5_wayBetween 24 = .ok (.goto 6, 3) := by decide +kernel
theorem dX5_wayBetween_27 : decode cX5_wayBetween 27 = .ok (.sipush 1000, 3) := by decide +kernel
theorem dX5_wayBetween_30 : decode cX5_wayBetween 30 = .ok (.ireturn, 1) := by decide +kernel
set_option maxRecDepth 20000 in
theorem ggX5_join_X2_build : GoodIn wsX5_join wsX2_build := goodIn_r _ [13, 14, 15, 16, 17, 18, 24, 25, 26, 27, 28] (by decide +kernel) (by decide +kernel)
set_option maxRecDepth 20000 in
theorem gX5_join_X2_build : GoodIn wsX5_join (wsV RX5 47 RX2 yX2_build wsX2_build) := goodIn_app (goodIn_of _ (by decide +kernel)) ggX5_join_X2_build
theorem dX5_join_0 : decode cX5_join 0 = .ok (.aload_n 0, 1) := by decide +kernel
theorem dX5_join_1 : decode cX5_join 1 = .ok (.getfield 17, 3) := by decide +kernel
theorem dX5_join_4 : decode cX5_join 4 = .ok (.aload_n 0, 1) := by decide +kernel
theorem dX5_join_5 : decode cX5_join 5 = .ok (.getfield 31, 3) := by decide +kernel
theorem dX5_join_8 : decode cX5_join 8 = .ok (.aaload, 1) := by decide +kernel
theorem dX5_join_9 : decode cX5_join 9 = .ok (.iload_n 1, 1) := by decide +kernel
theorem dX5_join_10 : decode cX5_join 10 = .ok (.iload_n 2, 1) := by decide +kernel
theorem dX5_join_11 : decode cX5_join 11 = .ok (.iload_n 3, 1) := by decide +kernel
theorem dX5_join_12 : decode cX5_join 12 = .ok (.invokevirtual 47, 3) := by decide +kernel
theorem dX5_join_15 : decode cX5_join 15 = .ok (.iconst 0, 1) := by decide +kernel
theorem dX5_join_16 : decode cX5_join 16 = .ok (.istore 4, 2) := by decide +kernel
theorem dX5_join_18 : decode cX5_join 18 = .ok (.iload 4, 2) := by decide +kernel
theorem dX5_join_20 : decode cX5_join 20 = .ok (.aload_n 0, 1) := by decide +kernel
theorem dX5_join_21 : decode cX5_join 21 = .ok (.getfield 27, 3) := by decide +kernel
theorem dX5_join_24 : decode cX5_join 24 = .ok (.if_icmp .ge 103, 3) := by decide +kernel
theorem dX5_join_27 : decode cX5_join 27 = .ok (.iconst 0, 1) := by decide +kernel
theorem dX5_join_28 : decode cX5_join 28 = .ok (.istore 5, 2) := by decide +kernel
theorem dX5_join_30 : decode cX5_join 30 = .ok (.iload 5, 2) := by decide +kernel
theorem dX5_join_32 : decode cX5_join 32 = .ok (.aload_n 0, 1) := by decide +kernel
theorem dX5_join_33 : decode cX5_join 33 = .ok (.getfield 27, 3) := by decide +kernel
theorem dX5_join_36 : decode cX5_join 36 = .ok (.if_icmp .ge 85, 3) := by decide +kernel
theorem dX5_join_39 : decode cX5_join 39 = .ok (.aload_n 0, 1) := by decide +kernel
theorem dX5_join_40 : decode cX5_join 40 = .ok (.getfield 24, 3) := by decide +kernel
theorem dX5_join_43 : decode cX5_join 43 = .ok (.iload 4, 2) := by decide +kernel
theorem dX5_join_45 : decode cX5_join 45 = .ok (.aaload, 1) := by decide +kernel
theorem dX5_join_46 : decode cX5_join 46 = .ok (.iload_n 1, 1) := by decide +kernel
theorem dX5_join_47 : decode cX5_join 47 = .ok (.iaload, 1) := by decide +kernel
theorem dX5_join_48 : decode cX5_join 48 = .ok (.iload_n 3, 1) := by decide +kernel
theorem dX5_join_49 : decode cX5_join 49 = .ok (.iadd, 1) := by decide +kernel
theorem dX5_join_50 : decode cX5_join 50 = .ok (.aload_n 0, 1) := by decide +kernel
theorem dX5_join_51 : decode cX5_join 51 = .ok (.getfield 24, 3) := by decide +kernel
theorem dX5_join_54 : decode cX5_join 54 = .ok (.iload_n 2, 1) := by decide +kernel
theorem dX5_join_55 : decode cX5_join 55 = .ok (.aaload, 1) := by decide +kernel
theorem dX5_join_56 : decode cX5_join 56 = .ok (.iload 5, 2) := by decide +kernel
theorem dX5_join_58 : decode cX5_join 58 = .ok (.iaload, 1) := by decide +kernel
theorem dX5_join_59 : decode cX5_join 59 = .ok (.iadd, 1) := by decide +kernel
theorem dX5_join_60 : decode cX5_join 60 = .ok (.istore 6, 2) := by decide +kernel
theorem dX5_join_62 : decode cX5_join 62 = .ok (.aload_n 0, 1) := by decide +kernel
theorem dX5_join_63 : decode cX5_join 63 = .ok (.getfield 24, 3) := by decide +kernel
theorem dX5_join_66 : decode cX5_join 66 = .ok (.iload 4, 2) := by decide +kernel
theorem dX5_join_68 : decode cX5_join 68 = .ok (.aaload, 1) := by decide +kernel
theorem dX5_join_69 : decode cX5_join 69 = .ok (.iload_n 2, 1) := by decide +kernel
theorem dX5_join_70 : decode cX5_join 70 = .ok (.iaload, 1) := by decide +kernel
theorem dX5_join_71 : decode cX5_join 71 = .ok (.iload_n 3, 1) := by decide +kernel
theorem dX5_join_72 : decode cX5_join 72 = .ok (.iadd, 1) := by decide +kernel
theorem dX5_join_73 : decode cX5_join 73 = .ok (.aload_n 0, 1) := by decide +kernel
theorem dX5_join_74 : decode cX5_join 74 = .ok (.getfield 24, 3) := by decide +kernel
theorem dX5_join_77 : decode cX5_join 77 = .ok (.iload_n 1, 1) := by decide +kernel
theorem dX5_join_78 : decode cX5_join 78 = .ok (.aaload, 1) := by decide +kernel
theorem dX5_join_79 : decode cX5_join 79 = .ok (.iload 5, 2) := by decide +kernel
theorem dX5_join_81 : decode cX5_join 81 = .ok (.iaload, 1) := by decide +kernel
theorem dX5_join_82 : decode cX5_join 82 = .ok (.iadd, 1) := by decide +kernel
theorem dX5_join_83 : decode cX5_join 83 = .ok (.istore 7, 2) := by decide +kernel
theorem dX5_join_85 : decode cX5_join 85 = .ok (.aload_n 0, 1) := by decide +kernel
theorem dX5_join_86 : decode cX5_join 86 = .ok (.getfield 24, 3) := by decide +kernel
theorem dX5_join_89 : decode cX5_join 89 = .ok (.iload 4, 2) := by decide +kernel
theorem dX5_join_91 : decode cX5_join 91 = .ok (.aaload, 1) := by decide +kernel
theorem dX5_join_92 : decode cX5_join 92 = .ok (.iload 5, 2) := by decide +kernel
theorem dX5_join_94 : decode cX5_join 94 = .ok (.aload_n 0, 1) := by decide +kernel
theorem dX5_join_95 : decode cX5_join 95 = .ok (.getfield 24, 3) := by decide +kernel
theorem dX5_join_98 : decode cX5_join 98 = .ok (.iload 4, 2) := by decide +kernel
theorem dX5_join_100 : decode cX5_join 100 = .ok (.aaload, 1) := by decide +kernel
theorem dX5_join_101 : decode cX5_join 101 = .ok (.iload 5, 2) := by decide +kernel
theorem dX5_join_103 : decode cX5_join 103 = .ok (.iaload, 1) := by decide +kernel
theorem dX5_join_104 : decode cX5_join 104 = .ok (.iload 6, 2) := by decide +kernel
theorem dX5_join_106 : decode cX5_join 106 = .ok (.iload 7, 2) := by decide +kernel
theorem dX5_join_108 : decode cX5_join 108 = .ok (.invokestatic 51, 3) := by decide +kernel
theorem dX5_join_111 : decode cX5_join 111 = .ok (.invokestatic 51, 3) := by decide +kernel
theorem dX5_join_114 : decode cX5_join 114 = .ok (.iastore, 1) := by decide +kernel
theorem dX5_join_115 : decode cX5_join 115 = .ok (.iinc 5 1, 3) := by decide +kernel
theorem dX5_join_118 : decode cX5_join 118 = .ok (.goto (-88), 3) := by decide +kernel
theorem dX5_join_121 : decode cX5_join 121 = .ok (.iinc 4 1, 3) := by decide +kernel
theorem dX5_join_124 : decode cX5_join 124 = .ok (.goto (-106), 3) := by decide +kernel
theorem dX5_join_127 : decode cX5_join 127 = .ok (.aload_n 0, 1) := by decide +kernel
theorem dX5_join_128 : decode cX5_join 128 = .ok (.dup, 1) := by decide +kernel
theorem dX5_join_129 : decode cX5_join 129 = .ok (.getfield 31, 3) := by decide +kernel
theorem dX5_join_132 : decode cX5_join 132 = .ok (.dup_x1, 1) := by decide +kernel
theorem dX5_join_133 : decode cX5_join 133 = .ok (.iconst 1, 1) := by decide +kernel
theorem dX5_join_134 : decode cX5_join 134 = .ok (.iadd, 1) := by decide +kernel
theorem dX5_join_135 : decode cX5_join 135 = .ok (.putfield 31, 3) := by decide +kernel
theorem dX5_join_138 : decode cX5_join 138 = .ok (.ireturn, 1) := by decide +kernel
set_option maxRecDepth 20000 in
theorem ggX5_shortestLane_X2_joins : GoodIn wsX5_shortestLane wsX2_joins := goodIn_r _ [8, 9, 10, 25, 26, 27, 28, 29] (by decide +kernel) (by decide +kernel)
set_option maxRecDepth 20000 in
theorem gX5_shortestLane_X2_joins : GoodIn wsX5_shortestLane (wsV RX5 57 RX2 yX2_joins wsX2_joins) := goodIn_app (goodIn_of _ (by decide +kernel)) ggX5_shortestLane_X2_joins
set_option maxRecDepth 20000 in
theorem ggX5_shortestLane_X5_lengthOf : GoodIn wsX5_shortestLane wsX5_lengthOf := goodIn_r _ [15, 2, 3, 16, 17, 18, 14, 19, 1, 20, 21, 22, 23, 24, 25, 26, 27, 28, 29] (by decide +kernel) (by decide +kernel)
set_option maxRecDepth 20000 in
theorem gX5_shortestLane_X5_lengthOf : GoodIn wsX5_shortestLane (wsV RX5 61 RX5 yX5_lengthOf wsX5_lengthOf) := goodIn_app (goodIn_of _ (by decide +kernel)) ggX5_shortestLane_X5_lengthOf
theorem dX5_shortestLane_0 : decode cX5_shortestLane 0 = .ok (.iconst (-1), 1) := by decide +kernel
theorem dX5_shortestLane_1 : decode cX5_shortestLane 1 = .ok (.istore_n 3, 1) := by decide +kernel
theorem dX5_shortestLane_2 : decode cX5_shortestLane 2 = .ok (.iconst 0, 1) := by decide +kernel
theorem dX5_shortestLane_3 : decode cX5_shortestLane 3 = .ok (.istore 4, 2) := by decide +kernel
theorem dX5_shortestLane_5 : decode cX5_shortestLane 5 = .ok (.iload 4, 2) := by decide +kernel
theorem dX5_shortestLane_7 : decode cX5_shortestLane 7 = .ok (.aload_n 0, 1) := by decide +kernel
theorem dX5_shortestLane_8 : decode cX5_shortestLane 8 = .ok (.getfield 31, 3) := by decide +kernel
theorem dX5_shortestLane_11 : decode cX5_shortestLane 11 = .ok (.if_icmp .ge 50, 3) := by decide +kernel
theorem dX5_shortestLane_14 : decode cX5_shortestLane 14 = .ok (.aload_n 0, 1) := by decide +kernel
theorem dX5_shortestLane_15 : decode cX5_shortestLane 15 = .ok (.getfield 17, 3) := by decide +kernel
theorem dX5_shortestLane_18 : decode cX5_shortestLane 18 = .ok (.iload 4, 2) := by decide +kernel
theorem dX5_shortestLane_20 : decode cX5_shortestLane 20 = .ok (.aaload, 1) := by decide +kernel
theorem dX5_shortestLane_21 : decode cX5_shortestLane 21 = .ok (.iload_n 1, 1) := by decide +kernel
theorem dX5_shortestLane_22 : decode cX5_shortestLane 22 = .ok (.iload_n 2, 1) := by decide +kernel
theorem dX5_shortestLane_23 : decode cX5_shortestLane 23 = .ok (.invokevirtual 57, 3) := by decide +kernel
theorem dX5_shortestLane_26 : decode cX5_shortestLane 26 = .ok (.ifCond .eq 29, 3) := by decide +kernel
theorem dX5_shortestLane_29 : decode cX5_shortestLane 29 = .ok (.iload_n 3, 1) := by decide +kernel
theorem dX5_shortestLane_30 : decode cX5_shortestLane 30 = .ok (.iconst (-1), 1) := by decide +kernel
theorem dX5_shortestLane_31 : decode cX5_shortestLane 31 = .ok (.if_icmp .eq 21, 3) := by decide +kernel
theorem dX5_shortestLane_34 : decode cX5_shortestLane 34 = .ok (.aload_n 0, 1) := by decide +kernel
theorem dX5_shortestLane_35 : decode cX5_shortestLane 35 = .ok (.getfield 17, 3) := by decide +kernel
theorem dX5_shortestLane_38 : decode cX5_shortestLane 38 = .ok (.iload 4, 2) := by decide +kernel
theorem dX5_shortestLane_40 : decode cX5_shortestLane 40 = .ok (.aaload, 1) := by decide +kernel
theorem dX5_shortestLane_41 : decode cX5_shortestLane 41 = .ok (.getfield 44, 3) := by decide +kernel
theorem dX5_shortestLane_44 : decode cX5_shortestLane 44 = .ok (.aload_n 0, 1) := by decide +kernel
theorem dX5_shortestLane_45 : decode cX5_shortestLane 45 = .ok (.iload_n 3, 1) := by decide +kernel
theorem dX5_shortestLane_46 : decode cX5_shortestLane 46 = .ok (.invokevirtual 61, 3) := by decide +kernel
theorem dX5_shortestLane_49 : decode cX5_shortestLane 49 = .ok (.if_icmp .ge 6, 3) := by decide +kernel
theorem dX5_shortestLane_52 : decode cX5_shortestLane 52 = .ok (.iload 4, 2) := by decide +kernel
theorem dX5_shortestLane_54 : decode cX5_shortestLane 54 = .ok (.istore_n 3, 1) := by decide +kernel
theorem dX5_shortestLane_55 : decode cX5_shortestLane 55 = .ok (.iinc 4 1, 3) := by decide +kernel
theorem dX5_shortestLane_58 : decode cX5_shortestLane 58 = .ok (.goto (-53), 3) := by decide +kernel
theorem dX5_shortestLane_61 : decode cX5_shortestLane 61 = .ok (.iload_n 3, 1) := by decide +kernel
theorem dX5_shortestLane_62 : decode cX5_shortestLane 62 = .ok (.ireturn, 1) := by decide +kernel
set_option maxRecDepth 20000 in
theorem ggX5_openGates_X2_isOpen : GoodIn wsX5_openGates wsX2_isOpen := goodIn_r _ [7, 8, 9, 15, 16, 17, 18, 19] (by decide +kernel) (by decide +kernel)
set_option maxRecDepth 20000 in
theorem gX5_openGates_X2_isOpen : GoodIn wsX5_openGates (wsV RX5 41 RX2 yX2_isOpen wsX2_isOpen) := goodIn_app (goodIn_of _ (by decide +kernel)) ggX5_openGates_X2_isOpen
theorem dX5_openGates_0 : decode cX5_openGates 0 = .ok (.iconst 0, 1) := by decide +kernel
theorem dX5_openGates_1 : decode cX5_openGates 1 = .ok (.istore_n 2, 1) := by decide +kernel
theorem dX5_openGates_2 : decode cX5_openGates 2 = .ok (.iconst 0, 1) := by decide +kernel
theorem dX5_openGates_3 : decode cX5_openGates 3 = .ok (.istore_n 3, 1) := by decide +kernel
theorem dX5_openGates_4 : decode cX5_openGates 4 = .ok (.iload_n 3, 1) := by decide +kernel
theorem dX5_openGates_5 : decode cX5_openGates 5 = .ok (.aload_n 0, 1) := by decide +kernel
theorem dX5_openGates_6 : decode cX5_openGates 6 = .ok (.getfield 31, 3) := by decide +kernel
theorem dX5_openGates_9 : decode cX5_openGates 9 = .ok (.if_icmp .ge 25, 3) := by decide +kernel
theorem dX5_openGates_12 : decode cX5_openGates 12 = .ok (.aload_n 0, 1) := by decide +kernel
theorem dX5_openGates_13 : decode cX5_openGates 13 = .ok (.getfield 17, 3) := by decide +kernel
theorem dX5_openGates_16 : decode cX5_openGates 16 = .ok (.iload_n 3, 1) := by decide +kernel
theorem dX5_openGates_17 : decode cX5_openGates 17 = .ok (.aaload, 1) := by decide +kernel
theorem dX5_openGates_18 : decode cX5_openGates 18 = .ok (.iload_n 1, 1) := by decide +kernel
theorem dX5_openGates_19 : decode cX5_openGates 19 = .ok (.invokevirtual 41, 3) := by decide +kernel
theorem dX5_openGates_22 : decode cX5_openGates 22 = .ok (.ifCond .eq 6, 3) := by decide +kernel
theorem dX5_openGates_25 : decode cX5_openGates 25 = .ok (.iinc 2 1, 3) := by decide +kernel
theorem dX5_openGates_28 : decode cX5_openGates 28 = .ok (.iinc 3 1, 3) := by decide +kernel
theorem dX5_openGates_31 : decode cX5_openGates 31 = .ok (.goto (-27), 3) := by decide +kernel
theorem dX5_openGates_34 : decode cX5_openGates 34 = .ok (.iload_n 2, 1) := by decide +kernel
theorem dX5_openGates_35 : decode cX5_openGates 35 = .ok (.ireturn, 1) := by decide +kernel
theorem dX5_digestFrom_0 : decode cX5_digestFrom 0 = .ok (.lload_n 1, 1) := by decide +kernel
theorem dX5_digestFrom_1 : decode cX5_digestFrom 1 = .ok (.lstore_n 3, 1) := by decide +kernel
theorem dX5_digestFrom_2 : decode cX5_digestFrom 2 = .ok (.iconst 0, 1) := by decide +kernel
theorem dX5_digestFrom_3 : decode cX5_digestFrom 3 = .ok (.istore 5, 2) := by decide +kernel
theorem dX5_digestFrom_5 : decode cX5_digestFrom 5 = .ok (.iload 5, 2) := by decide +kernel
theorem dX5_digestFrom_7 : decode cX5_digestFrom 7 = .ok (.aload_n 0, 1) := by decide +kernel
theorem dX5_digestFrom_8 : decode cX5_digestFrom 8 = .ok (.getfield 27, 3) := by decide +kernel
theorem dX5_digestFrom_11 : decode cX5_digestFrom 11 = .ok (.if_icmp .ge 32, 3) := by decide +kernel
theorem dX5_digestFrom_14 : decode cX5_digestFrom 14 = .ok (.lload_n 3, 1) := by decide +kernel
theorem dX5_digestFrom_15 : decode cX5_digestFrom 15 = .ok (.ldc2_w 65, 3) := by decide +kernel
theorem dX5_digestFrom_18 : decode cX5_digestFrom 18 = .ok (.lmul, 1) := by decide +kernel
theorem dX5_digestFrom_19 : decode cX5_digestFrom 19 = .ok (.aload_n 0, 1) := by decide +kernel
theorem dX5_digestFrom_20 : decode cX5_digestFrom 20 = .ok (.getfield 9, 3) := by decide +kernel
theorem dX5_digestFrom_23 : decode cX5_digestFrom 23 = .ok (.iload 5, 2) := by decide +kernel
theorem dX5_digestFrom_25 : decode cX5_digestFrom 25 = .ok (.baload, 1) := by decide +kernel
theorem dX5_digestFrom_26 : decode cX5_digestFrom 26 = .ok (.ifCond .eq 7, 3) := by decide +kernel
theorem dX5_digestFrom_29 : decode cX5_digestFrom 29 = .ok (.iconst 1, 1) := by decide +kernel
theorem dX5_digestFrom_30 : decode cX5_digestFrom 30 = .ok (.goto 4, 3) := by decide +kernel
theorem dX5_digestFrom_33 : decode cX5_digestFrom 33 = .ok (.iconst 0, 1) := by decide +kernel
theorem dX5_digestFrom_34 : decode cX5_digestFrom 34 = .ok (.i2l, 1) := by decide +kernel
theorem dX5_digestFrom_35 : decode cX5_digestFrom 35 = .ok (.ladd, 1) := by decide +kernel
theorem dX5_digestFrom_36 : decode cX5_digestFrom 36 = .ok (.lstore_n 3, 1) := by decide +kernel
theorem dX5_digestFrom_37 : decode cX5_digestFrom 37 = .ok (.iinc 5 1, 3) := by decide +kernel
theorem dX5_digestFrom_40 : decode cX5_digestFrom 40 = .ok (.goto (-35), 3) := by decide +kernel
theorem dX5_digestFrom_43 : decode cX5_digestFrom 43 = .ok (.iconst 0, 1) := by decide +kernel
theorem dX5_digestFrom_44 : decode cX5_digestFrom 44 = .ok (.istore 5, 2) := by decide +kernel
theorem dX5_digestFrom_46 : decode cX5_digestFrom 46 = .ok (.iload 5, 2) := by decide +kernel
theorem dX5_digestFrom_48 : decode cX5_digestFrom 48 = .ok (.aload_n 0, 1) := by decide +kernel
theorem dX5_digestFrom_49 : decode cX5_digestFrom 49 = .ok (.getfield 31, 3) := by decide +kernel
theorem dX5_digestFrom_52 : decode cX5_digestFrom 52 = .ok (.if_icmp .ge 99, 3) := by decide +kernel
theorem dX5_digestFrom_55 : decode cX5_digestFrom 55 = .ok (.lload_n 3, 1) := by decide +kernel
theorem dX5_digestFrom_56 : decode cX5_digestFrom 56 = .ok (.ldc2_w 65, 3) := by decide +kernel
theorem dX5_digestFrom_59 : decode cX5_digestFrom 59 = .ok (.lmul, 1) := by decide +kernel
theorem dX5_digestFrom_60 : decode cX5_digestFrom 60 = .ok (.aload_n 0, 1) := by decide +kernel
theorem dX5_digestFrom_61 : decode cX5_digestFrom 61 = .ok (.getfield 17, 3) := by decide +kernel
theorem dX5_digestFrom_64 : decode cX5_digestFrom 64 = .ok (.iload 5, 2) := by decide +kernel
theorem dX5_digestFrom_66 : decode cX5_digestFrom 66 = .ok (.aaload, 1) := by decide +kernel
theorem dX5_digestFrom_67 : decode cX5_digestFrom 67 = .ok (.getfield 67, 3) := by decide +kernel
theorem dX5_digestFrom_70 : decode cX5_digestFrom 70 = .ok (.i2l, 1) := by decide +kernel
theorem dX5_digestFrom_71 : decode cX5_digestFrom 71 = .ok (.ladd, 1) := by decide +kernel
theorem dX5_digestFrom_72 : decode cX5_digestFrom 72 = .ok (.lstore_n 3, 1) := by decide +kernel
theorem dX5_digestFrom_73 : decode cX5_digestFrom 73 = .ok (.lload_n 3, 1) := by decide +kernel
theorem dX5_digestFrom_74 : decode cX5_digestFrom 74 = .ok (.ldc2_w 65, 3) := by decide +kernel
theorem dX5_digestFrom_77 : decode cX5_digestFrom 77 = .ok (.lmul, 1) := by decide +kernel
theorem dX5_digestFrom_78 : decode cX5_digestFrom 78 = .ok (.aload_n 0, 1) := by decide +kernel
theorem dX5_digestFrom_79 : decode cX5_digestFrom 79 = .ok (.getfield 17, 3) := by decide +kernel
theorem dX5_digestFrom_82 : decode cX5_digestFrom 82 = .ok (.iload 5, 2) := by decide +kernel
theorem dX5_digestFrom_84 : decode cX5_digestFrom 84 = .ok (.aaload, 1) := by decide +kernel
theorem dX5_digestFrom_85 : decode cX5_digestFrom 85 = .ok (.getfield 70, 3) := by decide +kernel
theorem dX5_digestFrom_88 : decode cX5_digestFrom 88 = .ok (.i2l, 1) := by decide +kernel
theorem dX5_digestFrom_89 : decode cX5_digestFrom 89 = .ok (.ladd, 1) := by decide +kernel
theorem dX5_digestFrom_90 : decode cX5_digestFrom 90 = .ok (.lstore_n 3, 1) := by decide +kernel
theorem dX5_digestFrom_91 : decode cX5_digestFrom 91 = .ok (.lload_n 3, 1) := by decide +kernel
theorem dX5_digestFrom_92 : decode cX5_digestFrom 92 = .ok (.ldc2_w 65, 3) := by decide +kernel
theorem dX5_digestFrom_95 : decode cX5_digestFrom 95 = .ok (.lmul, 1) := by decide +kernel
theorem dX5_digestFrom_96 : decode cX5_digestFrom 96 = .ok (.aload_n 0, 1) := by decide +kernel
theorem dX5_digestFrom_97 : decode cX5_digestFrom 97 = .ok (.getfield 17, 3) := by decide +kernel
theorem dX5_digestFrom_100 : decode cX5_digestFrom 100 = .ok (.iload 5, 2) := by decide +kernel
theorem dX5_digestFrom_102 : decode cX5_digestFrom 102 = .ok (.aaload, 1) := by decide +kernel
theorem dX5_digestFrom_103 : decode cX5_digestFrom 103 = .ok (.getfield 44, 3) := by decide +kernel
theorem dX5_digestFrom_106 : decode cX5_digestFrom 106 = .ok (.i2l, 1) := by decide +kernel
theorem dX5_digestFrom_107 : decode cX5_digestFrom 107 = .ok (.ladd, 1) := by decide +kernel
theorem dX5_digestFrom_108 : decode cX5_digestFrom 108 = .ok (.lstore_n 3, 1) := by decide +kernel
theorem dX5_digestFrom_109 : decode cX5_digestFrom 109 = .ok (.lload_n 3, 1) := by decide +kernel
theorem dX5_digestFrom_110 : decode cX5_digestFrom 110 = .ok (.ldc2_w 65, 3) := by decide +kernel
theorem dX5_digestFrom_113 : decode cX5_digestFrom 113 = .ok (.lmul, 1) := by decide +kernel
theorem dX5_digestFrom_114 : decode cX5_digestFrom 114 = .ok (.aload_n 0, 1) := by decide +kernel
theorem dX5_digestFrom_115 : decode cX5_digestFrom 115 = .ok (.getfield 17, 3) := by decide +kernel
theorem dX5_digestFrom_118 : decode cX5_digestFrom 118 = .ok (.iload 5, 2) := by decide +kernel
theorem dX5_digestFrom_120 : decode cX5_digestFrom 120 = .ok (.aaload, 1) := by decide +kernel
theorem dX5_digestFrom_121 : decode cX5_digestFrom 121 = .ok (.getfield 73, 3) := by decide +kernel
theorem dX5_digestFrom_124 : decode cX5_digestFrom 124 = .ok (.i2l, 1) := by decide +kernel
theorem dX5_digestFrom_125 : decode cX5_digestFrom 125 = .ok (.ladd, 1) := by decide +kernel
theorem dX5_digestFrom_126 : decode cX5_digestFrom 126 = .ok (.lstore_n 3, 1) := by decide +kernel
theorem dX5_digestFrom_127 : decode cX5_digestFrom 127 = .ok (.lload_n 3, 1) := by decide +kernel
theorem dX5_digestFrom_128 : decode cX5_digestFrom 128 = .ok (.ldc2_w 65, 3) := by decide +kernel
theorem dX5_digestFrom_131 : decode cX5_digestFrom 131 = .ok (.lmul, 1) := by decide +kernel
theorem dX5_digestFrom_132 : decode cX5_digestFrom 132 = .ok (.aload_n 0, 1) := by decide +kernel
theorem dX5_digestFrom_133 : decode cX5_digestFrom 133 = .ok (.getfield 17, 3) := by decide +kernel
theorem dX5_digestFrom_136 : decode cX5_digestFrom 136 = .ok (.iload 5, 2) := by decide +kernel
theorem dX5_digestFrom_138 : decode cX5_digestFrom 138 = .ok (.aaload, 1) := by decide +kernel
theorem dX5_digestFrom_139 : decode cX5_digestFrom 139 = .ok (.getfield 76, 3) := by decide +kernel
theorem dX5_digestFrom_142 : decode cX5_digestFrom 142 = .ok (.i2l, 1) := by decide +kernel
theorem dX5_digestFrom_143 : decode cX5_digestFrom 143 = .ok (.ladd, 1) := by decide +kernel
theorem dX5_digestFrom_144 : decode cX5_digestFrom 144 = .ok (.lstore_n 3, 1) := by decide +kernel
theorem dX5_digestFrom_145 : decode cX5_digestFrom 145 = .ok (.iinc 5 1, 3) := by decide +kernel
theorem dX5_digestFrom_148 : decode cX5_digestFrom 148 = .ok (.goto (-102), 3) := by decide +kernel
theorem dX5_digestFrom_151 : decode cX5_digestFrom 151 = .ok (.lload_n 3, 1) := by decide +kernel
theorem dX5_digestFrom_152 : decode cX5_digestFrom 152 = .ok (.lreturn, 1) := by decide +kernel
set_option maxRecDepth 20000 in
theorem ggX6_init_X5_init : GoodIn wsX6_init wsX5_init := goodIn_r _ [19, 20, 2, 3, 21, 22, 23, 24, 25, 26, 27, 28, 29, 30, 31, 32, 65, 66, 67, 68, 69, 86, 87, 88, 89, 90] (by decide +kernel) (by decide +kernel)
set_option maxRecDepth 20000 in
theorem gX6_init_X5_init : GoodIn wsX6_init (wsX5_init) := ggX6_init_X5_init
set_option maxRecDepth 20000 in
theorem ggX6_init_X1_init : GoodIn wsX6_init wsX1_init := goodIn_r _ [35, 36, 2, 3, 37, 38, 39, 40, 41, 42, 43, 44, 45, 46, 47, 48, 49, 50, 51, 52, 14, 15, 53, 54, 55, 56, 57, 28, 58, 59, 60, 61, 62, 63, 74, 75, 76, 77, 78, 79, 80, 81, 91, 92, 93, 94, 95, 96, 97, 98, 99, 100, 101, 102, 103, 104, 105, 82, 83, 84, 85] (by decide +kernel) (by decide +kernel)
set_option maxRecDepth 20000 in
theorem gX6_init_X1_init : GoodIn wsX6_init (wsX1_init) := ggX6_init_X1_init
set_option maxRecDepth 20000 in
theorem ggX6_init_X4_init : GoodIn wsX6_init wsX4_init := goodIn_r _ [56, 57, 2, 3, 28, 58, 59, 60, 82, 83, 84, 85] (by decide +kernel) (by decide +kernel)
set_option maxRecDepth 20000 in
theorem gX6_init_X4_init : GoodIn wsX6_init (wsX4_init) := ggX6_init_X4_init
theorem dX6_init_0 : decode cX6_init 0 = .ok (.aload_n 0, 1) := by decide +kernel
theorem dX6_init_1 : decode cX6_init 1 = .ok (.invokespecial 1, 3) := by decide +kernel
theorem dX6_init_4 : decode cX6_init 4 = .ok (.aload_n 0, 1) := by decide +kernel
theorem dX6_init_5 : decode cX6_init 5 = .ok (.new 7, 3) := by decide +kernel
theorem dX6_init_8 : decode cX6_init 8 = .ok (.dup, 1) := by decide +kernel
theorem dX6_init_9 : decode cX6_init 9 = .ok (.invokespecial 9, 3) := by decide +kernel
theorem dX6_init_12 : decode cX6_init 12 = .ok (.putfield 10, 3) := by decide +kernel
theorem dX6_init_15 : decode cX6_init 15 = .ok (.aload_n 0, 1) := by decide +kernel
theorem dX6_init_16 : decode cX6_init 16 = .ok (.new 16, 3) := by decide +kernel
theorem dX6_init_19 : decode cX6_init 19 = .ok (.dup, 1) := by decide +kernel
theorem dX6_init_20 : decode cX6_init 20 = .ok (.aload_n 0, 1) := by decide +kernel
theorem dX6_init_21 : decode cX6_init 21 = .ok (.getfield 10, 3) := by decide +kernel
theorem dX6_init_24 : decode cX6_init 24 = .ok (.invokespecial 18, 3) := by decide +kernel
theorem dX6_init_27 : decode cX6_init 27 = .ok (.putfield 21, 3) := by decide +kernel
theorem dX6_init_30 : decode cX6_init 30 = .ok (.aload_n 0, 1) := by decide +kernel
theorem dX6_init_31 : decode cX6_init 31 = .ok (.new 16, 3) := by decide +kernel
theorem dX6_init_34 : decode cX6_init 34 = .ok (.dup, 1) := by decide +kernel
theorem dX6_init_35 : decode cX6_init 35 = .ok (.aload_n 0, 1) := by decide +kernel
theorem dX6_init_36 : decode cX6_init 36 = .ok (.getfield 10, 3) := by decide +kernel
theorem dX6_init_39 : decode cX6_init 39 = .ok (.invokespecial 18, 3) := by decide +kernel
theorem dX6_init_42 : decode cX6_init 42 = .ok (.putfield 25, 3) := by decide +kernel
theorem dX6_init_45 : decode cX6_init 45 = .ok (.aload_n 0, 1) := by decide +kernel
theorem dX6_init_46 : decode cX6_init 46 = .ok (.new 28, 3) := by decide +kernel
theorem dX6_init_49 : decode cX6_init 49 = .ok (.dup, 1) := by decide +kernel
theorem dX6_init_50 : decode cX6_init 50 = .ok (.invokespecial 30, 3) := by decide +kernel
theorem dX6_init_53 : decode cX6_init 53 = .ok (.putfield 31, 3) := by decide +kernel
theorem dX6_init_56 : decode cX6_init 56 = .ok (.return_, 1) := by decide +kernel
theorem dX6_addHouse_0 : decode cX6_addHouse 0 = .ok (.aload_n 0, 1) := by decide +kernel
theorem dX6_addHouse_1 : decode cX6_addHouse 1 = .ok (.getfield 10, 3) := by decide +kernel
theorem dX6_addHouse_4 : decode cX6_addHouse 4 = .ok (.getfield 35, 3) := by decide +kernel
theorem dX6_addHouse_7 : decode cX6_addHouse 7 = .ok (.bipush 14, 2) := by decide +kernel
theorem dX6_addHouse_9 : decode cX6_addHouse 9 = .ok (.if_icmp .lt 13, 3) := by decide +kernel
theorem dX6_addHouse_12 : decode cX6_addHouse 12 = .ok (.new 39, 3) := by decide +kernel
theorem dX6_addHouse_15 : decode cX6_addHouse 15 = .ok (.dup, 1) := by decide +kernel
theorem dX6_addHouse_16 : decode cX6_addHouse 16 = .ok (.ldc 41, 2) := by decide +kernel
theorem dX6_addHouse_18 : decode cX6_addHouse 18 = .ok (.invokespecial 43, 3) := by decide +kernel
theorem dX6_addHouse_21 : decode cX6_addHouse 21 = .ok (.athrow, 1) := by decide +kernel
theorem dX6_addHouse_22 : decode cX6_addHouse 22 = .ok (.aload_n 0, 1) := by decide +kernel
theorem dX6_addHouse_23 : decode cX6_addHouse 23 = .ok (.getfield 10, 3) := by decide +kernel
theorem dX6_addHouse_26 : decode cX6_addHouse 26 = .ok (.dup, 1) := by decide +kernel
theorem dX6_addHouse_27 : decode cX6_addHouse 27 = .ok (.getfield 35, 3) := by decide +kernel
theorem dX6_addHouse_30 : decode cX6_addHouse 30 = .ok (.dup_x1, 1) := by decide +kernel
theorem dX6_addHouse_31 : decode cX6_addHouse 31 = .ok (.iconst 1, 1) := by decide +kernel
theorem dX6_addHouse_32 : decode cX6_addHouse 32 = .ok (.iadd, 1) := by decide +kernel
theorem dX6_addHouse_33 : decode cX6_addHouse 33 = .ok (.putfield 35, 3) := by decide +kernel
theorem dX6_addHouse_36 : decode cX6_addHouse 36 = .ok (.ireturn, 1) := by decide +kernel
set_option maxRecDepth 20000 in
theorem ggX6_setHive_X6_checkHouse : GoodIn wsX6_setHive wsX6_checkHouse := goodIn_ca (goodIn_r _ [7, 8, 9, 1, 10, 11, 12, 13, 14, 15, 22, 23, 24, 25, 26, 27, 28, 29, 30] (by decide +kernel) (by decide +kernel)) (goodIn_sub (fun _ h => List.mem_cons_of_mem _ (List.mem_append_right _ h)) (by decide +kernel))
set_option maxRecDepth 20000 in
theorem gX6_setHive_X6_checkHouse : GoodIn wsX6_setHive (wsV RX6 46 RX6 yX6_checkHouse wsX6_checkHouse) := goodIn_app (goodIn_of _ (by decide +kernel)) ggX6_setHive_X6_checkHouse
set_option maxRecDepth 20000 in
theorem ggX6_setHive_X5_hasHive : GoodIn wsX6_setHive wsX5_hasHive := goodIn_r _ [19, 20, 21, 11, 12, 13, 14, 15, 26, 27, 28, 29, 30] (by decide +kernel) (by decide +kernel)
set_option maxRecDepth 20000 in
theorem gX6_setHive_X5_hasHive : GoodIn wsX6_setHive (wsV RX6 50 RX5 yX5_hasHive wsX5_hasHive) := goodIn_app (goodIn_of _ (by decide +kernel)) ggX6_setHive_X5_hasHive
theorem dX6_setHive_0 : decode cX6_setHive 0 = .ok (.aload_n 0, 1) := by decide +kernel
theorem dX6_setHive_1 : decode cX6_setHive 1 = .ok (.iload_n 1, 1) := by decide +kernel
theorem dX6_setHive_2 : decode cX6_setHive 2 = .ok (.invokevirtual 46, 3) := by decide +kernel
theorem dX6_setHive_5 : decode cX6_setHive 5 = .ok (.aload_n 0, 1) := by decide +kernel
theorem dX6_setHive_6 : decode cX6_setHive 6 = .ok (.getfield 10, 3) := by decide +kernel
theorem dX6_setHive_9 : decode cX6_setHive 9 = .ok (.iload_n 1, 1) := by decide +kernel
theorem dX6_setHive_10 : decode cX6_setHive 10 = .ok (.invokevirtual 50, 3) := by decide +kernel
theorem dX6_setHive_13 : decode cX6_setHive 13 = .ok (.istore_n 3, 1) := by decide +kernel
theorem dX6_setHive_14 : decode cX6_setHive 14 = .ok (.aload_n 0, 1) := by decide +kernel
theorem dX6_setHive_15 : decode cX6_setHive 15 = .ok (.getfield 10, 3) := by decide +kernel
theorem dX6_setHive_18 : decode cX6_setHive 18 = .ok (.getfield 54, 3) := by decide +kernel
theorem dX6_setHive_21 : decode cX6_setHive 21 = .ok (.iload_n 1, 1) := by decide +kernel
theorem dX6_setHive_22 : decode cX6_setHive 22 = .ok (.iload_n 2, 1) := by decide +kernel
theorem dX6_setHive_23 : decode cX6_setHive 23 = .ok (.bastore, 1) := by decide +kernel
theorem dX6_setHive_24 : decode cX6_setHive 24 = .ok (.iload_n 3, 1) := by decide +kernel
theorem dX6_setHive_25 : decode cX6_setHive 25 = .ok (.ireturn, 1) := by decide +kernel
set_option maxRecDepth 20000 in
theorem ggX6_addLane_X6_checkHouse : GoodIn wsX6_addLane wsX6_checkHouse := goodIn_ca (goodIn_r _ [13, 14, 15, 5, 16, 17, 18, 19, 20, 21, 43, 44, 45, 46, 47, 48, 49, 50, 51] (by decide +kernel) (by decide +kernel)) (goodIn_sub (fun _ h => List.mem_cons_of_mem _ (List.mem_append_right _ h)) (by decide +kernel))
set_option maxRecDepth 20000 in
theorem gX6_addLane_X6_checkHouse : GoodIn wsX6_addLane (wsV RX6 46 RX6 yX6_checkHouse wsX6_checkHouse) := goodIn_app (goodIn_of _ (by decide +kernel)) ggX6_addLane_X6_checkHouse
set_option maxRecDepth 20000 in
theorem ggX6_addLane_X5_join : GoodIn wsX6_addLane wsX5_join := goodIn_r _ [25, 26, 27, 21, 28, 29, 30, 31, 32, 33, 34, 35, 36, 37, 38, 39, 40, 41, 42, 47, 48, 49, 50, 51, 60, 61, 62, 63, 64] (by decide +kernel) (by decide +kernel)
set_option maxRecDepth 20000 in
theorem gX6_addLane_X5_join : GoodIn wsX6_addLane (wsV RX6 71 RX5 yX5_join wsX5_join) := goodIn_app (goodIn_of _ (by decide +kernel)) ggX6_addLane_X5_join
theorem dX6_addLane_0 : decode cX6_addLane 0 = .ok (.aload_n 0, 1) := by decide +kernel
theorem dX6_addLane_1 : decode cX6_addLane 1 = .ok (.iload_n 1, 1) := by decide +kernel
theorem dX6_addLane_2 : decode cX6_addLane 2 = .ok (.invokevirtual 46, 3) := by decide +kernel
theorem dX6_addLane_5 : decode cX6_addLane 5 = .ok (.aload_n 0, 1) := by decide +kernel
theorem dX6_addLane_6 : decode cX6_addLane 6 = .ok (.iload_n 2, 1) := by decide +kernel
theorem dX6_addLane_7 : decode cX6_addLane 7 = .ok (.invokevirtual 46, 3) := by decide +kernel
theorem dX6_addLane_10 : decode cX6_addLane 10 = .ok (.iload_n 1, 1) := by decide +kernel
theorem dX6_addLane_11 : decode cX6_addLane 11 = .ok (.iload_n 2, 1) := by decide +kernel
theorem dX6_addLane_12 : decode cX6_addLane 12 = .ok (.if_icmp .eq 14, 3) := by decide +kernel
theorem dX6_addLane_15 : decode cX6_addLane 15 = .ok (.iload_n 3, 1) := by decide +kernel
theorem dX6_addLane_16 : decode cX6_addLane 16 = .ok (.iconst 1, 1) := by decide +kernel
theorem dX6_addLane_17 : decode cX6_addLane 17 = .ok (.if_icmp .lt 9, 3) := by decide +kernel
theorem dX6_addLane_20 : decode cX6_addLane 20 = .ok (.iload_n 3, 1) := by decide +kernel
theorem dX6_addLane_21 : decode cX6_addLane 21 = .ok (.bipush 6, 2) := by decide +kernel
theorem dX6_addLane_23 : decode cX6_addLane 23 = .ok (.if_icmp .le 13, 3) := by decide +kernel
theorem dX6_addLane_26 : decode cX6_addLane 26 = .ok (.new 58, 3) := by decide +kernel
theorem dX6_addLane_29 : decode cX6_addLane 29 = .ok (.dup, 1) := by decide +kernel
theorem dX6_addLane_30 : decode cX6_addLane 30 = .ok (.ldc 60, 2) := by decide +kernel
theorem dX6_addLane_32 : decode cX6_addLane 32 = .ok (.invokespecial 62, 3) := by decide +kernel
theorem dX6_addLane_35 : decode cX6_addLane 35 = .ok (.athrow, 1) := by decide +kernel
theorem dX6_addLane_36 : decode cX6_addLane 36 = .ok (.aload_n 0, 1) := by decide +kernel
theorem dX6_addLane_37 : decode cX6_addLane 37 = .ok (.getfield 10, 3) := by decide +kernel
theorem dX6_addLane_40 : decode cX6_addLane 40 = .ok (.getfield 63, 3) := by decide +kernel
theorem dX6_addLane_43 : decode cX6_addLane 43 = .ok (.bipush 24, 2) := by decide +kernel
theorem dX6_addLane_45 : decode cX6_addLane 45 = .ok (.if_icmp .ge 13, 3) := by decide +kernel
theorem dX6_addLane_48 : decode cX6_addLane 48 = .ok (.aload_n 0, 1) := by decide +kernel
theorem dX6_addLane_49 : decode cX6_addLane 49 = .ok (.getfield 21, 3) := by decide +kernel
theorem dX6_addLane_52 : decode cX6_addLane 52 = .ok (.getfield 66, 3) := by decide +kernel
theorem dX6_addLane_55 : decode cX6_addLane 55 = .ok (.ifCond .le 13, 3) := by decide +kernel
theorem dX6_addLane_58 : decode cX6_addLane 58 = .ok (.new 39, 3) := by decide +kernel
theorem dX6_addLane_61 : decode cX6_addLane 61 = .ok (.dup, 1) := by decide +kernel
theorem dX6_addLane_62 : decode cX6_addLane 62 = .ok (.ldc 69, 2) := by decide +kernel
theorem dX6_addLane_64 : decode cX6_addLane 64 = .ok (.invokespecial 43, 3) := by decide +kernel
theorem dX6_addLane_67 : decode cX6_addLane 67 = .ok (.athrow, 1) := by decide +kernel
theorem dX6_addLane_68 : decode cX6_addLane 68 = .ok (.aload_n 0, 1) := by decide +kernel
theorem dX6_addLane_69 : decode cX6_addLane 69 = .ok (.getfield 10, 3) := by decide +kernel
theorem dX6_addLane_72 : decode cX6_addLane 72 = .ok (.iload_n 1, 1) := by decide +kernel
theorem dX6_addLane_73 : decode cX6_addLane 73 = .ok (.iload_n 2, 1) := by decide +kernel
theorem dX6_addLane_74 : decode cX6_addLane 74 = .ok (.iload_n 3, 1) := by decide +kernel
theorem dX6_addLane_75 : decode cX6_addLane 75 = .ok (.invokevirtual 71, 3) := by decide +kernel
theorem dX6_addLane_78 : decode cX6_addLane 78 = .ok (.ireturn, 1) := by decide +kernel
set_option maxRecDepth 20000 in
theorem ggX6_setGate_X5_hasLane : GoodIn wsX6_setGate wsX5_hasLane := goodIn_r _ [13, 14, 19, 20, 21, 22, 23] (by decide +kernel) (by decide +kernel)
set_option maxRecDepth 20000 in
theorem gX6_setGate_X5_hasLane : GoodIn wsX6_setGate (wsV RX6 75 RX5 yX5_hasLane wsX5_hasLane) := goodIn_app (goodIn_of _ (by decide +kernel)) ggX6_setGate_X5_hasLane
theorem dX6_setGate_0 : decode cX6_setGate 0 = .ok (.aload_n 0, 1) := by decide +kernel
theorem dX6_setGate_1 : decode cX6_setGate 1 = .ok (.getfield 10, 3) := by decide +kernel
theorem dX6_setGate_4 : decode cX6_setGate 4 = .ok (.iload_n 1, 1) := by decide +kernel
theorem dX6_setGate_5 : decode cX6_setGate 5 = .ok (.invokevirtual 75, 3) := by decide +kernel
theorem dX6_setGate_8 : decode cX6_setGate 8 = .ok (.ifCond .ne 13, 3) := by decide +kernel
theorem dX6_setGate_11 : decode cX6_setGate 11 = .ok (.new 78, 3) := by decide +kernel
theorem dX6_setGate_14 : decode cX6_setGate 14 = .ok (.dup, 1) := by decide +kernel
theorem dX6_setGate_15 : decode cX6_setGate 15 = .ok (.ldc 80, 2) := by decide +kernel
theorem dX6_setGate_17 : decode cX6_setGate 17 = .ok (.invokespecial 82, 3) := by decide +kernel
theorem dX6_setGate_20 : decode cX6_setGate 20 = .ok (.athrow, 1) := by decide +kernel
theorem dX6_setGate_21 : decode cX6_setGate 21 = .ok (.iload_n 2, 1) := by decide +kernel
